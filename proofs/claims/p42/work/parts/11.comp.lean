def f_X10_isTable (n : Nat) (Z : Zt) (x0 : Int32) (g : Mem) : Option (Int32 × Mem) := if x0 < 0 then (some ((0 : Int32), g)) else (if (4 : Int32) ≤ x0 then (some ((0 : Int32), g)) else (some ((1 : Int32), g)))
theorem mq_X10_isTable : Mq yX10_isTable cX10_isTable 1 (some .boolean) 1 := ⟨tw_10, tw_5, ⟨by decide +kernel, by decide +kernel, by decide +kernel⟩, by decide⟩
theorem mi_X10_isTable : Cond.static yX10_isTable ∈ TB := tw_9
set_option maxHeartbeats 4000000 in
set_option maxRecDepth 100000 in
theorem vm_X10_isTable {n : Nat} {Z : Zt} {x0 : Int32} {g : Mem} {rr : Int32} {gg : Mem} (h : f_X10_isTable n Z x0 g = some (rr, gg)) : VM yX10_isTable cX10_isTable 1 (some .boolean) 0 [.int x0] Z g (some (.int rr)) gg := by
  unfold f_X10_isTable at h
  refine VM.of (by decide +kernel) (Nat.le_of_ble_eq_true rfl) (fun x hM => ?_)
  have hM : Cm x cX10_isTable RX10 1 (some .boolean) 0 Z (some (.int rr)) gg := hM
  show V x Z 0 0 0 [(0, .int x0)] [] g
  refine V_iload_n hM.c 0 dX10_isTable_0 rfl rfl ?_
  refine V_if_lt hM.c 13 dX10_isTable_1 (by decide) (fun c1 => ?_) (fun c1 => ?_)
  · replace h := ite_p h c1
    refine V_iconst (v := 0) hM.c dX10_isTable_13 (by decide) ?_
    exact V_zretE hM (isz_nar (by decide)) h dX10_isTable_14
  · replace h := ite_n h c1
    refine V_iload_n hM.c 0 dX10_isTable_4 rfl rfl ?_
    refine V_iconst (v := 4) hM.c dX10_isTable_5 (by decide) ?_
    refine V_icmp_ge hM.c 13 dX10_isTable_6 (by decide) (fun c2 => ?_) (fun c2 => ?_)
    · replace h := ite_p h c2
      refine V_iconst (v := 0) hM.c dX10_isTable_13 (by decide) ?_
      exact V_zretE hM (isz_nar (by decide)) h dX10_isTable_14
    · replace h := ite_n h c2
      refine V_iconst (v := 1) hM.c dX10_isTable_9 (by decide) ?_
      refine V_goto hM.c 14 dX10_isTable_10 (by decide) ?_
      exact V_zretE hM (isz_nar (by decide)) h dX10_isTable_14
def f_X8_hasTag (n : Nat) (Z : Zt) (a : Nat) (x1 : Int32) (g : Mem) : Option (Int32 × Mem) := grd (zk Z a = 7) (if x1 < 0 then (some ((0 : Int32), g)) else (if (16 : Int32) ≤ x1 then (some ((0 : Int32), g)) else (if (((gI g a 6) >>> (x1 &&& 31)) &&& (1 : Int32)) = 0 then (some ((0 : Int32), g)) else (some ((1 : Int32), g)))))
theorem mq_X8_hasTag : Mq yX8_hasTag cX8_hasTag 2 (some .boolean) 1 := ⟨tw_24, tw_14, ⟨by decide +kernel, by decide +kernel, by decide +kernel⟩, by decide⟩
theorem mi_X8_hasTag : Cond.instanceMethod yX8_hasTag ∈ TB ∧ Cond.selects yX8_hasTag.cls yX8_hasTag yX8_hasTag ∈ TB := ⟨tw_22, tw_23⟩
theorem zc_X8_hasTag {n : Nat} {Z : Zt} {a : Nat} {x1 : Int32} {g : Mem} {q : Int32 × Mem} (h : f_X8_hasTag n Z a x1 g = some q) : zk Z a = 7 := (grd_some h).1
set_option maxHeartbeats 4000000 in
set_option maxRecDepth 100000 in
theorem vm_X8_hasTag {n : Nat} {Z : Zt} {a : Nat} {x1 : Int32} {g : Mem} {rr : Int32} {gg : Mem} (h : f_X8_hasTag n Z a x1 g = some (rr, gg)) : VM yX8_hasTag cX8_hasTag 2 (some .boolean) 0 [.ref a, .int x1] Z g (some (.int rr)) gg := by
  unfold f_X8_hasTag at h
  replace h := grd_some h
  obtain ⟨hz0, h⟩ := h
  refine VM.of (by decide +kernel) (Nat.le_of_ble_eq_true rfl) (fun x hM => ?_)
  have hM : Cm x cX8_hasTag RX8 2 (some .boolean) 0 Z (some (.int rr)) gg := hM
  show V x Z 0 0 0 [(0, va_rf (some a)), (1, .int x1)] [] g
  refine V_iload_n hM.c 1 dX8_hasTag_0 rfl rfl ?_
  refine V_if_lt hM.c 25 dX8_hasTag_1 (by decide) (fun c1 => ?_) (fun c1 => ?_)
  · replace h := ite_p h c1
    refine V_iconst (v := 0) hM.c dX8_hasTag_25 (by decide) ?_
    exact V_zretE hM (isz_nar (by decide)) h dX8_hasTag_26
  · replace h := ite_n h c1
    refine V_iload_n hM.c 1 dX8_hasTag_4 rfl rfl ?_
    refine V_bipush (v := 16) hM.c dX8_hasTag_5 (by decide) ?_
    refine V_icmp_ge hM.c 25 dX8_hasTag_7 (by decide) (fun c2 => ?_) (fun c2 => ?_)
    · replace h := ite_p h c2
      refine V_iconst (v := 0) hM.c dX8_hasTag_25 (by decide) ?_
      exact V_zretE hM (isz_nar (by decide)) h dX8_hasTag_26
    · replace h := ite_n h c2
      refine V_aload_n hM.c 0 dX8_hasTag_10 rfl rfl ?_
      refine G6_6 hM.c tw_25 hz0 dX8_hasTag_11 ?_
      refine V_iload_n hM.c 1 dX8_hasTag_14 rfl rfl ?_
      refine V_ishr hM.c dX8_hasTag_15 ?_
      refine V_iconst (v := 1) hM.c dX8_hasTag_16 (by decide) ?_
      refine V_iand hM.c dX8_hasTag_17 ?_
      refine V_if_eq hM.c 25 dX8_hasTag_18 (by decide) (fun c3 => ?_) (fun c3 => ?_)
      · replace h := ite_p h c3
        refine V_iconst (v := 0) hM.c dX8_hasTag_25 (by decide) ?_
        exact V_zretE hM (isz_nar (by decide)) h dX8_hasTag_26
      · replace h := ite_n h c3
        refine V_iconst (v := 1) hM.c dX8_hasTag_21 (by decide) ?_
        refine V_goto hM.c 26 dX8_hasTag_22 (by decide) ?_
        exact V_zretE hM (isz_nar (by decide)) h dX8_hasTag_26
def f_X8_hasRowIn_l2 (n : Nat) (Z : Zt) (a : Nat) : Nat → Int32 → Int32 → Mem → Option (Int32 × Mem)
  | 0, _, _, _ => none
  | fu + 1, x1, x2, g => if (16 : Int32) ≤ x2 then (some ((0 : Int32), g)) else (bnd (f_X8_hasTag n Z a x2 g) (fun r2 g3 => if r2 = 0 then (f_X8_hasRowIn_l2 n Z a fu x1 (x2 + 1) g3) else (drf (zf Z a 1) (fun b6 => grd (zk Z b6 = 12) (grd (inr x2 (zl Z b6)) (if (gI g3 b6 x2.toNatClampNeg) = x1 then (some ((1 : Int32), g3)) else (f_X8_hasRowIn_l2 n Z a fu x1 (x2 + 1) g3)))))))
set_option maxHeartbeats 4000000 in
set_option maxRecDepth 100000 in
theorem vl_X8_hasRowIn_l2 {x : Cq} {n : Nat} {Z : Zt} {a : Nat} {rr : Int32} {gg : Mem} (hM : Cm x cX8_hasRowIn RX8 3 (some .boolean) 1 Z (some (.int rr)) gg) (hz0 : zk Z a = 7) : ∀ (fu : Nat) (x1 : Int32) (x2 : Int32) (g : Mem), f_X8_hasRowIn_l2 n Z a fu x1 x2 g = some (rr, gg) → V x Z 0 0 2 [(0, va_rf (some a)), (1, .int x1), (2, .int x2)] [] g := by
  intro fu
  induction fu with
  | zero => intro x1 x2 g h; cases h
  | succ fu ih =>
    intro x1 x2 g h
    unfold f_X8_hasRowIn_l2 at h
    refine V_iload_n hM.c 2 dX8_hasRowIn_2 rfl rfl ?_
    refine V_bipush (v := 16) hM.c dX8_hasRowIn_3 (by decide) ?_
    refine V_icmp_ge hM.c 34 dX8_hasRowIn_5 (by decide) (fun c1 => ?_) (fun c1 => ?_)
    · replace h := ite_p h c1
      refine V_iconst (v := 0) hM.c dX8_hasRowIn_34 (by decide) ?_
      exact V_zretE hM (isz_nar (by decide)) h dX8_hasRowIn_35
    · replace h := ite_n h c1
      refine V_aload_n hM.c 0 dX8_hasRowIn_8 rfl rfl ?_
      refine V_iload_n hM.c 2 dX8_hasRowIn_9 rfl rfl ?_
      replace h := bnd_some h
      obtain ⟨r2, g3, e4, h⟩ := h
      refine V_callV (As := [.int x2]) (c := 6) (T := TX8) (N := 8) hM.c hM.a mq_X8_hasTag mi_X8_hasTag tw_31 (hM.d (by decide)) hM.z rfl (by omega) (zc_X8_hasTag e4) (vm_X8_hasTag e4) rfl (Nat.le_of_ble_eq_true rfl) dX8_hasRowIn_10 ?_
      refine V_if_eq hM.c 28 dX8_hasRowIn_13 (by decide) (fun c5 => ?_) (fun c5 => ?_)
      · replace h := ite_p h c5
        refine V_iinc (v := (x2 + 1)) (L' := [(2, .int (x2 + 1)), (0, va_rf (some a)), (1, .int x1)]) hM.c 2 dX8_hasRowIn_28 rfl rfl (by decide) rfl ?_
        refine V_goto hM.c 2 dX8_hasRowIn_31 (by decide) ?_
        refine V_sub [1, 2, 0] rfl ?_
        exact ih _ _ _ h
      · replace h := ite_n h c5
        refine V_aload_n hM.c 0 dX8_hasRowIn_16 rfl rfl ?_
        replace h := drf_some h
        obtain ⟨b6, e7, h⟩ := h
        refine G6_1 hM.c tw_30 hz0 e7 dX8_hasRowIn_17 ?_
        refine V_iload_n hM.c 2 dX8_hasRowIn_20 rfl rfl ?_
        replace h := grd_some h
        obtain ⟨z8, h⟩ := h
        replace h := grd_some h
        obtain ⟨c9, h⟩ := h
        refine V_iald hM.c z8 c9 dX8_hasRowIn_21 ?_
        refine V_iload_n hM.c 1 dX8_hasRowIn_22 rfl rfl ?_
        refine V_icmp_ne hM.c 28 dX8_hasRowIn_23 (by decide) (fun c10 => ?_) (fun c10 => ?_)
        · replace h := ite_n h c10
          refine V_iinc (v := (x2 + 1)) (L' := [(2, .int (x2 + 1)), (0, va_rf (some a)), (1, .int x1)]) hM.c 2 dX8_hasRowIn_28 rfl rfl (by decide) rfl ?_
          refine V_goto hM.c 2 dX8_hasRowIn_31 (by decide) ?_
          refine V_sub [1, 2, 0] rfl ?_
          exact ih _ _ _ h
        · replace h := ite_p h c10
          refine V_iconst (v := 1) hM.c dX8_hasRowIn_26 (by decide) ?_
          exact V_zretE hM (isz_nar (by decide)) h dX8_hasRowIn_27
def f_X8_hasRowIn (n : Nat) (Z : Zt) (a : Nat) (x1 : Int32) (g : Mem) : Option (Int32 × Mem) := grd (zk Z a = 7) (f_X8_hasRowIn_l2 n Z a n x1 (0 : Int32) g)
theorem mq_X8_hasRowIn : Mq yX8_hasRowIn cX8_hasRowIn 3 (some .boolean) 1 := ⟨tw_1757, tw_14, ⟨by decide +kernel, by decide +kernel, by decide +kernel⟩, by decide⟩
theorem mi_X8_hasRowIn : Cond.instanceMethod yX8_hasRowIn ∈ TB ∧ Cond.selects yX8_hasRowIn.cls yX8_hasRowIn yX8_hasRowIn ∈ TB := ⟨tw_1755, tw_1756⟩
theorem zc_X8_hasRowIn {n : Nat} {Z : Zt} {a : Nat} {x1 : Int32} {g : Mem} {q : Int32 × Mem} (h : f_X8_hasRowIn n Z a x1 g = some q) : zk Z a = 7 := (grd_some h).1
set_option maxHeartbeats 4000000 in
set_option maxRecDepth 100000 in
theorem vm_X8_hasRowIn {n : Nat} {Z : Zt} {a : Nat} {x1 : Int32} {g : Mem} {rr : Int32} {gg : Mem} (h : f_X8_hasRowIn n Z a x1 g = some (rr, gg)) : VM yX8_hasRowIn cX8_hasRowIn 3 (some .boolean) 1 [.ref a, .int x1] Z g (some (.int rr)) gg := by
  unfold f_X8_hasRowIn at h
  replace h := grd_some h
  obtain ⟨hz0, h⟩ := h
  refine VM.of (by decide +kernel) (Nat.le_of_ble_eq_true rfl) (fun x hM => ?_)
  have hM : Cm x cX8_hasRowIn RX8 3 (some .boolean) 1 Z (some (.int rr)) gg := hM
  show V x Z 0 0 0 [(0, va_rf (some a)), (1, .int x1)] [] g
  refine V_iconst (v := 0) hM.c dX8_hasRowIn_0 (by decide) ?_
  refine V_istore_n (i := 2) (L' := [(2, .int (0 : Int32)), (0, va_rf (some a)), (1, .int x1)]) hM.c dX8_hasRowIn_1 rfl (by decide) rfl ?_
  refine V_sub [1, 2, 0] rfl ?_
  exact vl_X8_hasRowIn_l2 hM hz0  _ _ _ _ h
def f_X8_queryNames (n : Nat) (Z : Zt) (a : Nat) (x1 : Int32) (g : Mem) : Option (Int32 × Mem) := grd (zk Z a = 7) (drf (zf Z a 5) (fun b1 => bnd (f_X3_contains n Z b1 ((((65 : Int32) + x1).toUInt32 % 65536).toInt32) g) (fun r3 g4 => grd (isz r3) (some (r3, g4)))))
theorem mq_X8_queryNames : Mq yX8_queryNames cX8_queryNames 2 (some .boolean) 1 := ⟨tw_1761, tw_14, ⟨by decide +kernel, by decide +kernel, by decide +kernel⟩, by decide⟩
theorem mi_X8_queryNames : Cond.instanceMethod yX8_queryNames ∈ TB ∧ Cond.selects yX8_queryNames.cls yX8_queryNames yX8_queryNames ∈ TB := ⟨tw_1759, tw_1760⟩
theorem zc_X8_queryNames {n : Nat} {Z : Zt} {a : Nat} {x1 : Int32} {g : Mem} {q : Int32 × Mem} (h : f_X8_queryNames n Z a x1 g = some q) : zk Z a = 7 := (grd_some h).1
set_option maxHeartbeats 4000000 in
set_option maxRecDepth 100000 in
theorem vm_X8_queryNames {n : Nat} {Z : Zt} {a : Nat} {x1 : Int32} {g : Mem} {rr : Int32} {gg : Mem} (h : f_X8_queryNames n Z a x1 g = some (rr, gg)) : VM yX8_queryNames cX8_queryNames 2 (some .boolean) 2 [.ref a, .int x1] Z g (some (.int rr)) gg := by
  unfold f_X8_queryNames at h
  replace h := grd_some h
  obtain ⟨hz0, h⟩ := h
  refine VM.of (by decide +kernel) (Nat.le_of_ble_eq_true rfl) (fun x hM => ?_)
  have hM : Cm x cX8_queryNames RX8 2 (some .boolean) 2 Z (some (.int rr)) gg := hM
  show V x Z 0 0 0 [(0, va_rf (some a)), (1, .int x1)] [] g
  refine V_aload_n hM.c 0 dX8_queryNames_0 rfl rfl ?_
  replace h := drf_some h
  obtain ⟨b1, e2, h⟩ := h
  refine G6_5 hM.c tw_80 hz0 e2 dX8_queryNames_1 ?_
  refine V_bipush (v := 65) hM.c dX8_queryNames_4 (by decide) ?_
  refine V_iload_n hM.c 1 dX8_queryNames_6 rfl rfl ?_
  refine V_iadd hM.c dX8_queryNames_7 ?_
  refine V_i2c hM.c dX8_queryNames_8 ?_
  replace h := bnd_some h
  obtain ⟨r3, g4, e5, h⟩ := h
  refine V_callV (As := [.int ((((65 : Int32) + x1).toUInt32 % 65536).toInt32)]) (c := 2) (T := TX3) (N := 2) hM.c hM.a mq_X3_contains mi_X3_contains tw_1762 (hM.d (by decide)) hM.z rfl (by omega) (zc_X3_contains e5) (vm_X3_contains e5) rfl (Nat.le_of_ble_eq_true rfl) dX8_queryNames_9 ?_
  replace h := grd_some h
  obtain ⟨c6, h⟩ := h
  exact V_zretE hM (isz_nar c6) h dX8_queryNames_12
def f_X8_widthOf (n : Nat) (Z : Zt) (a : Nat) (x1 : Int32) (g : Mem) : Option (Int32 × Mem) := grd (zk Z a = 7) (bnd (f_X10_isTable n Z x1 g) (fun r1 g2 => if r1 = 0 then (some ((0 : Int32), g2)) else (drf (zf Z a 0) (fun b5 => grd (zk Z b5 = 12) (grd (inr x1 (zl Z b5)) (some ((gI g2 b5 x1.toNatClampNeg), g2)))))))
theorem mq_X8_widthOf : Mq yX8_widthOf cX8_widthOf 2 (some .int) 1 := ⟨tw_15, tw_14, ⟨by decide +kernel, by decide +kernel, by decide +kernel⟩, by decide⟩
theorem mi_X8_widthOf : Cond.instanceMethod yX8_widthOf ∈ TB ∧ Cond.selects yX8_widthOf.cls yX8_widthOf yX8_widthOf ∈ TB := ⟨tw_12, tw_13⟩
theorem zc_X8_widthOf {n : Nat} {Z : Zt} {a : Nat} {x1 : Int32} {g : Mem} {q : Int32 × Mem} (h : f_X8_widthOf n Z a x1 g = some q) : zk Z a = 7 := (grd_some h).1
set_option maxHeartbeats 4000000 in
set_option maxRecDepth 100000 in
theorem vm_X8_widthOf {n : Nat} {Z : Zt} {a : Nat} {x1 : Int32} {g : Mem} {rr : Int32} {gg : Mem} (h : f_X8_widthOf n Z a x1 g = some (rr, gg)) : VM yX8_widthOf cX8_widthOf 2 (some .int) 1 [.ref a, .int x1] Z g (some (.int rr)) gg := by
  unfold f_X8_widthOf at h
  replace h := grd_some h
  obtain ⟨hz0, h⟩ := h
  refine VM.of (by decide +kernel) (Nat.le_of_ble_eq_true rfl) (fun x hM => ?_)
  have hM : Cm x cX8_widthOf RX8 2 (some .int) 1 Z (some (.int rr)) gg := hM
  show V x Z 0 0 0 [(0, va_rf (some a)), (1, .int x1)] [] g
  refine V_iload_n hM.c 1 dX8_widthOf_0 rfl rfl ?_
  replace h := bnd_some h
  obtain ⟨r1, g2, e3, h⟩ := h
  refine V_callSN (As := [.int x1]) hM.c hM.a mq_X10_isTable mi_X10_isTable (by decide +kernel) (hM.d (by decide)) hM.z (vm_X10_isTable e3) rfl (Nat.le_of_ble_eq_true rfl) dX8_widthOf_1 ?_
  refine V_if_eq hM.c 16 dX8_widthOf_4 (by decide) (fun c4 => ?_) (fun c4 => ?_)
  · replace h := ite_p h c4
    refine V_iconst (v := 0) hM.c dX8_widthOf_16 (by decide) ?_
    exact V_iretE hM h dX8_widthOf_17
  · replace h := ite_n h c4
    refine V_aload_n hM.c 0 dX8_widthOf_7 rfl rfl ?_
    replace h := drf_some h
    obtain ⟨b5, e6, h⟩ := h
    refine G6_0 hM.c tw_16 hz0 e6 dX8_widthOf_8 ?_
    refine V_iload_n hM.c 1 dX8_widthOf_11 rfl rfl ?_
    replace h := grd_some h
    obtain ⟨z7, h⟩ := h
    replace h := grd_some h
    obtain ⟨c8, h⟩ := h
    refine V_iald hM.c z7 c8 dX8_widthOf_12 ?_
    refine V_goto hM.c 17 dX8_widthOf_13 (by decide) ?_
    exact V_iretE hM h dX8_widthOf_17
def f_X1_moveOldestToEnd_l9 (n : Nat) (Z : Zt) (a : Nat) : Nat → (Option Nat) → Int32 → Mem → Option (Unit × Mem)
  | 0, _, _, _ => none
  | fu + 1, x1, x2, g => if (4 : Int32) ≤ x2 then (drf (zf Z a 0) (fun b8 => drf x1 (fun b10 => grd (zk Z b8 = 17) (grd (zk Z b10 = 7) (grd (inr (3 : Int32) (zl Z b8)) (some ((), (sP g b8 (3 : Int32).toNatClampNeg (some b10))))))))) else (drf (zf Z a 0) (fun b15 => drf (zf Z a 0) (fun b17 => grd (zk Z b17 = 17) (grd (inr x2 (zl Z b17)) (nam (gP g b17 x2.toNatClampNeg) (fun q21 => drf q21 (fun b23 => grd (zk Z b15 = 17) (grd (zk Z b23 = 7) (grd (inr (x2 - (1 : Int32)) (zl Z b15)) (f_X1_moveOldestToEnd_l9 n Z a fu x1 (x2 + 1) (sP g b15 (x2 - (1 : Int32)).toNatClampNeg (some b23))))))))))))
set_option maxHeartbeats 4000000 in
set_option maxRecDepth 100000 in
theorem vl_X1_moveOldestToEnd_l9 {x : Cq} {n : Nat} {Z : Zt} {a : Nat} {rr : Unit} {gg : Mem} (hM : Cm x cX1_moveOldestToEnd RX1 3 none 0 Z none gg) (hz0 : zk Z a = 2) : ∀ (fu : Nat) (x1 : Option Nat) (x2 : Int32) (g : Mem), f_X1_moveOldestToEnd_l9 n Z a fu x1 x2 g = some (rr, gg) → V x Z 0 0 9 [(0, va_rf (some a)), (1, va_rf x1), (2, .int x2)] [] g := by
  intro fu
  induction fu with
  | zero => intro x1 x2 g h; cases h
  | succ fu ih =>
    intro x1 x2 g h
    unfold f_X1_moveOldestToEnd_l9 at h
    refine V_iload_n hM.c 2 dX1_moveOldestToEnd_9 rfl rfl ?_
    refine V_iconst (v := 4) hM.c dX1_moveOldestToEnd_10 (by decide) ?_
    refine V_icmp_ge hM.c 34 dX1_moveOldestToEnd_11 (by decide) (fun c7 => ?_) (fun c7 => ?_)
    · replace h := ite_p h c7
      refine V_aload_n hM.c 0 dX1_moveOldestToEnd_34 rfl rfl ?_
      replace h := drf_some h
      obtain ⟨b8, e9, h⟩ := h
      refine G1_0 hM.c tw_843 hz0 e9 dX1_moveOldestToEnd_35 ?_
      refine V_iconst (v := 3) hM.c dX1_moveOldestToEnd_38 (by decide) ?_
      refine V_aload_n hM.c 1 dX1_moveOldestToEnd_39 rfl rfl ?_
      replace h := drf_some h
      obtain ⟨b10, rfl, h⟩ := h
      replace h := grd_some h
      obtain ⟨z12, h⟩ := h
      replace h := grd_some h
      obtain ⟨z13, h⟩ := h
      replace h := grd_some h
      obtain ⟨c14, h⟩ := h
      refine V_qast (t := 6) (c := 6) (r := (RX8, TX8, 8)) hM.c z12 (by omega) (by omega) c14 z13 rfl (by omega) rfl hM.a dX1_moveOldestToEnd_40 ?_
      exact V_vretE hM h dX1_moveOldestToEnd_41
    · replace h := ite_n h c7
      refine V_aload_n hM.c 0 dX1_moveOldestToEnd_14 rfl rfl ?_
      replace h := drf_some h
      obtain ⟨b15, e16, h⟩ := h
      refine G1_0 hM.c tw_843 hz0 e16 dX1_moveOldestToEnd_15 ?_
      refine V_iload_n hM.c 2 dX1_moveOldestToEnd_18 rfl rfl ?_
      refine V_iconst (v := 1) hM.c dX1_moveOldestToEnd_19 (by decide) ?_
      refine V_isub hM.c dX1_moveOldestToEnd_20 ?_
      refine V_aload_n hM.c 0 dX1_moveOldestToEnd_21 rfl rfl ?_
      replace h := drf_some h
      obtain ⟨b17, e18, h⟩ := h
      refine G1_0 hM.c tw_843 hz0 e18 dX1_moveOldestToEnd_22 ?_
      refine V_iload_n hM.c 2 dX1_moveOldestToEnd_25 rfl rfl ?_
      replace h := grd_some h
      obtain ⟨z19, h⟩ := h
      replace h := grd_some h
      obtain ⟨c20, h⟩ := h
      refine V_qald6 hM.c z19 c20 dX1_moveOldestToEnd_26 ?_
      replace h := nam_some h
      obtain ⟨q21, e22, h⟩ := h
      rw [← e22]
      replace h := drf_some h
      obtain ⟨b23, rfl, h⟩ := h
      replace h := grd_some h
      obtain ⟨z25, h⟩ := h
      replace h := grd_some h
      obtain ⟨z26, h⟩ := h
      replace h := grd_some h
      obtain ⟨c27, h⟩ := h
      refine V_qast (t := 6) (c := 6) (r := (RX8, TX8, 8)) hM.c z25 (by omega) (by omega) c27 z26 rfl (by omega) rfl hM.a dX1_moveOldestToEnd_27 ?_
      refine V_iinc (v := (x2 + 1)) (L' := [(2, .int (x2 + 1)), (0, va_rf (some a)), (1, va_rf x1)]) hM.c 2 dX1_moveOldestToEnd_28 rfl rfl (by decide) (by simp [rf_cat, cat_i, cat_l]) ?_
      refine V_goto hM.c 9 dX1_moveOldestToEnd_31 (by decide) ?_
      refine V_sub [1, 2, 0] rfl ?_
      exact ih _ _ _ h
def f_X1_moveOldestToEnd (n : Nat) (Z : Zt) (a : Nat) (g : Mem) : Option (Unit × Mem) := grd (zk Z a = 2) (drf (zf Z a 0) (fun b1 => grd (zk Z b1 = 17) (grd (inr (0 : Int32) (zl Z b1)) (nam (gP g b1 (0 : Int32).toNatClampNeg) (fun q5 => f_X1_moveOldestToEnd_l9 n Z a n q5 (1 : Int32) g)))))
theorem mq_X1_moveOldestToEnd : Mq yX1_moveOldestToEnd cX1_moveOldestToEnd 3 none 0 := ⟨tw_847, tw_840, ⟨by decide +kernel, by decide +kernel, by decide +kernel⟩, by decide⟩
theorem mi_X1_moveOldestToEnd : Cond.instanceMethod yX1_moveOldestToEnd ∈ TB ∧ Cond.selects yX1_moveOldestToEnd.cls yX1_moveOldestToEnd yX1_moveOldestToEnd ∈ TB := ⟨tw_845, tw_846⟩
theorem zc_X1_moveOldestToEnd {n : Nat} {Z : Zt} {a : Nat} {g : Mem} {q : Unit × Mem} (h : f_X1_moveOldestToEnd n Z a g = some q) : zk Z a = 2 := (grd_some h).1
set_option maxHeartbeats 4000000 in
set_option maxRecDepth 100000 in
theorem vm_X1_moveOldestToEnd {n : Nat} {Z : Zt} {a : Nat} {g : Mem} {rr : Unit} {gg : Mem} (h : f_X1_moveOldestToEnd n Z a g = some (rr, gg)) : VM yX1_moveOldestToEnd cX1_moveOldestToEnd 3 none 0 [.ref a] Z g none gg := by
  unfold f_X1_moveOldestToEnd at h
  replace h := grd_some h
  obtain ⟨hz0, h⟩ := h
  refine VM.of (by decide +kernel) (Nat.le_of_ble_eq_true rfl) (fun x hM => ?_)
  have hM : Cm x cX1_moveOldestToEnd RX1 3 none 0 Z none gg := hM
  show V x Z 0 0 0 [(0, va_rf (some a))] [] g
  refine V_aload_n hM.c 0 dX1_moveOldestToEnd_0 rfl rfl ?_
  replace h := drf_some h
  obtain ⟨b1, e2, h⟩ := h
  refine G1_0 hM.c tw_843 hz0 e2 dX1_moveOldestToEnd_1 ?_
  refine V_iconst (v := 0) hM.c dX1_moveOldestToEnd_4 (by decide) ?_
  replace h := grd_some h
  obtain ⟨z3, h⟩ := h
  replace h := grd_some h
  obtain ⟨c4, h⟩ := h
  refine V_qald6 hM.c z3 c4 dX1_moveOldestToEnd_5 ?_
  replace h := nam_some h
  obtain ⟨q5, e6, h⟩ := h
  rw [← e6]
  refine V_astore_n (i := 1) (L' := [(1, va_rf q5), (0, va_rf (some a))]) hM.c dX1_moveOldestToEnd_6 rfl (by decide) rfl ?_
  refine V_iconst (v := 1) hM.c dX1_moveOldestToEnd_7 (by decide) ?_
  refine V_istore_n (i := 2) (L' := [(2, .int (1 : Int32)), (1, va_rf q5), (0, va_rf (some a))]) hM.c dX1_moveOldestToEnd_8 rfl (by decide) (by simp [rf_cat, cat_i, cat_l]) ?_
  refine V_sub [2, 1, 0] rfl ?_
  exact vl_X1_moveOldestToEnd_l9 hM hz0  _ _ _ _ h
def f_X8_copyNumbers_l2 (n : Nat) (Z : Zt) : Nat → Nat → Nat → Int32 → Mem → Option (Unit × Mem)
  | 0, _, _, _, _ => none
  | fu + 1, x0, x1, x2, g => grd (zk Z x0 = 12) (if (Int32.ofNat (zl Z x0)) ≤ x2 then (some ((), g)) else (grd (zk Z x1 = 12) (if (Int32.ofNat (zl Z x1)) ≤ x2 then (some ((), g)) else (grd (zk Z x0 = 12) (grd (inr x2 (zl Z x0)) (grd (zk Z x1 = 12) (grd (inr x2 (zl Z x1)) (f_X8_copyNumbers_l2 n Z fu x0 x1 (x2 + 1) (sI g x1 x2.toNatClampNeg (gI g x0 x2.toNatClampNeg))))))))))
set_option maxHeartbeats 4000000 in
set_option maxRecDepth 100000 in
theorem vl_X8_copyNumbers_l2 {x : Cq} {n : Nat} {Z : Zt} {rr : Unit} {gg : Mem} (hM : Cm x cX8_copyNumbers RX8 3 none 0 Z none gg) : ∀ (fu : Nat) (x0 : Nat) (x1 : Nat) (x2 : Int32) (g : Mem), f_X8_copyNumbers_l2 n Z fu x0 x1 x2 g = some (rr, gg) → V x Z 0 0 2 [(0, va_rf (some x0)), (1, va_rf (some x1)), (2, .int x2)] [] g := by
  intro fu
  induction fu with
  | zero => intro x0 x1 x2 g h; cases h
  | succ fu ih =>
    intro x0 x1 x2 g h
    unfold f_X8_copyNumbers_l2 at h
    refine V_iload_n hM.c 2 dX8_copyNumbers_2 rfl rfl ?_
    refine V_aload_n hM.c 0 dX8_copyNumbers_3 rfl rfl ?_
    replace h := grd_some h
    obtain ⟨z1, h⟩ := h
    refine V_alen (t := 1) hM.c z1 (by omega) rfl dX8_copyNumbers_4 ?_
    refine V_icmp_ge hM.c 26 dX8_copyNumbers_5 (by decide) (fun c2 => ?_) (fun c2 => ?_)
    · replace h := ite_p h c2
      exact V_vretE hM h dX8_copyNumbers_26
    · replace h := ite_n h c2
      refine V_iload_n hM.c 2 dX8_copyNumbers_8 rfl rfl ?_
      refine V_aload_n hM.c 1 dX8_copyNumbers_9 rfl rfl ?_
      replace h := grd_some h
      obtain ⟨z3, h⟩ := h
      refine V_alen (t := 1) hM.c z3 (by omega) rfl dX8_copyNumbers_10 ?_
      refine V_icmp_ge hM.c 26 dX8_copyNumbers_11 (by decide) (fun c4 => ?_) (fun c4 => ?_)
      · replace h := ite_p h c4
        exact V_vretE hM h dX8_copyNumbers_26
      · replace h := ite_n h c4
        refine V_aload_n hM.c 1 dX8_copyNumbers_14 rfl rfl ?_
        refine V_iload_n hM.c 2 dX8_copyNumbers_15 rfl rfl ?_
        refine V_aload_n hM.c 0 dX8_copyNumbers_16 rfl rfl ?_
        refine V_iload_n hM.c 2 dX8_copyNumbers_17 rfl rfl ?_
        replace h := grd_some h
        obtain ⟨z5, h⟩ := h
        replace h := grd_some h
        obtain ⟨c6, h⟩ := h
        refine V_iald hM.c z5 c6 dX8_copyNumbers_18 ?_
        replace h := grd_some h
        obtain ⟨z7, h⟩ := h
        replace h := grd_some h
        obtain ⟨c8, h⟩ := h
        refine V_iast hM.c z7 c8 hM.a dX8_copyNumbers_19 ?_
        refine V_iinc (v := (x2 + 1)) (L' := [(2, .int (x2 + 1)), (0, va_rf (some x0)), (1, va_rf (some x1))]) hM.c 2 dX8_copyNumbers_20 rfl rfl (by decide) rfl ?_
        refine V_goto hM.c 2 dX8_copyNumbers_23 (by decide) ?_
        refine V_sub [1, 2, 0] rfl ?_
        exact ih _ _ _ _ h
def f_X8_copyNumbers (n : Nat) (Z : Zt) (x0 : Nat) (x1 : Nat) (g : Mem) : Option (Unit × Mem) := f_X8_copyNumbers_l2 n Z n x0 x1 (0 : Int32) g
theorem mq_X8_copyNumbers : Mq yX8_copyNumbers cX8_copyNumbers 3 none 2 := ⟨tw_857, tw_14, ⟨by decide +kernel, by decide +kernel, by decide +kernel⟩, by decide⟩
theorem mi_X8_copyNumbers : Cond.static yX8_copyNumbers ∈ TB := tw_856
set_option maxHeartbeats 4000000 in
set_option maxRecDepth 100000 in
theorem vm_X8_copyNumbers {n : Nat} {Z : Zt} {x0 : Nat} {x1 : Nat} {g : Mem} {rr : Unit} {gg : Mem} (h : f_X8_copyNumbers n Z x0 x1 g = some (rr, gg)) : VM yX8_copyNumbers cX8_copyNumbers 3 none 0 [va_rf (some x0), va_rf (some x1)] Z g none gg := by
  unfold f_X8_copyNumbers at h
  refine VM.of (by decide +kernel) (Nat.le_of_ble_eq_true rfl) (fun x hM => ?_)
  have hM : Cm x cX8_copyNumbers RX8 3 none 0 Z none gg := hM
  show V x Z 0 0 0 [(0, va_rf (some x0)), (1, va_rf (some x1))] [] g
  refine V_iconst (v := 0) hM.c dX8_copyNumbers_0 (by decide) ?_
  refine V_istore_n (i := 2) (L' := [(2, .int (0 : Int32)), (0, va_rf (some x0)), (1, va_rf (some x1))]) hM.c dX8_copyNumbers_1 rfl (by decide) rfl ?_
  refine V_sub [1, 2, 0] rfl ?_
  exact vl_X8_copyNumbers_l2 hM  _ _ _ _ _ h
def f_X8_copy (n : Nat) (Z : Zt) (a : Nat) (x1 : Nat) (g : Mem) : Option (Unit × Mem) := grd (zk Z a = 7) (grd (zk Z x1 = 7) (drf (zf Z x1 0) (fun b2 => drf (zf Z a 0) (fun b4 => bnd (f_X8_copyNumbers n Z b2 b4 g) (fun r6 g7 => grd (zk Z x1 = 7) (drf (zf Z x1 1) (fun b10 => drf (zf Z a 1) (fun b12 => bnd (f_X8_copyNumbers n Z b10 b12 g7) (fun r14 g15 => grd (zk Z x1 = 7) (drf (zf Z x1 2) (fun b18 => drf (zf Z a 2) (fun b20 => bnd (f_X8_copyNumbers n Z b18 b20 g15) (fun r22 g23 => grd (zk Z x1 = 7) (drf (zf Z x1 3) (fun b26 => drf (zf Z a 3) (fun b28 => bnd (f_X8_copyNumbers n Z b26 b28 g23) (fun r30 g31 => grd (zk Z x1 = 7) (drf (zf Z x1 4) (fun b34 => drf (zf Z a 4) (fun b36 => bnd (f_X8_copyNumbers n Z b34 b36 g31) (fun r38 g39 => drf (zf Z a 5) (fun b41 => grd (zk Z x1 = 7) (drf (zf Z x1 5) (fun b44 => bnd (f_X3_copy n Z b41 b44 g39) (fun r46 g47 => grd (zk Z x1 = 7) (grd (zk Z x1 = 7) (some ((), (sI (sI g47 a 6 (gI g47 x1 6)) a 7 (gI (sI g47 a 6 (gI g47 x1 6)) x1 7))))))))))))))))))))))))))))))
theorem mq_X8_copy : Mq yX8_copy cX8_copy 2 none 1 := ⟨tw_851, tw_14, ⟨by decide +kernel, by decide +kernel, by decide +kernel⟩, by decide⟩
theorem mi_X8_copy : Cond.instanceMethod yX8_copy ∈ TB ∧ Cond.selects yX8_copy.cls yX8_copy yX8_copy ∈ TB := ⟨tw_849, tw_850⟩
theorem zc_X8_copy {n : Nat} {Z : Zt} {a : Nat} {x1 : Nat} {g : Mem} {q : Unit × Mem} (h : f_X8_copy n Z a x1 g = some q) : zk Z a = 7 := (grd_some h).1
set_option maxHeartbeats 4000000 in
set_option maxRecDepth 100000 in
theorem vm_X8_copy {n : Nat} {Z : Zt} {a : Nat} {x1 : Nat} {g : Mem} {rr : Unit} {gg : Mem} (h : f_X8_copy n Z a x1 g = some (rr, gg)) : VM yX8_copy cX8_copy 2 none 2 [.ref a, va_rf (some x1)] Z g none gg := by
  unfold f_X8_copy at h
  replace h := grd_some h
  obtain ⟨hz0, h⟩ := h
  refine VM.of (by decide +kernel) (Nat.le_of_ble_eq_true rfl) (fun x hM => ?_)
  have hM : Cm x cX8_copy RX8 2 none 2 Z none gg := hM
  show V x Z 0 0 0 [(0, va_rf (some a)), (1, va_rf (some x1))] [] g
  refine V_aload_n hM.c 1 dX8_copy_0 rfl rfl ?_
  replace h := grd_some h
  obtain ⟨z1, h⟩ := h
  replace h := drf_some h
  obtain ⟨b2, e3, h⟩ := h
  refine G6_0 hM.c tw_16 z1 e3 dX8_copy_1 ?_
  refine V_aload_n hM.c 0 dX8_copy_4 rfl rfl ?_
  replace h := drf_some h
  obtain ⟨b4, e5, h⟩ := h
  refine G6_0 hM.c tw_16 hz0 e5 dX8_copy_5 ?_
  replace h := bnd_some h
  obtain ⟨r6, g7, e8, h⟩ := h
  refine V_callS (As := [va_rf (some b2), va_rf (some b4)]) hM.c hM.a mq_X8_copyNumbers mi_X8_copyNumbers tw_855 (hM.d (by decide)) hM.z (vm_X8_copyNumbers e8) rfl (Nat.le_of_ble_eq_true rfl) dX8_copy_8 ?_
  refine V_aload_n hM.c 1 dX8_copy_11 rfl rfl ?_
  replace h := grd_some h
  obtain ⟨z9, h⟩ := h
  replace h := drf_some h
  obtain ⟨b10, e11, h⟩ := h
  refine G6_1 hM.c tw_30 z9 e11 dX8_copy_12 ?_
  refine V_aload_n hM.c 0 dX8_copy_15 rfl rfl ?_
  replace h := drf_some h
  obtain ⟨b12, e13, h⟩ := h
  refine G6_1 hM.c tw_30 hz0 e13 dX8_copy_16 ?_
  replace h := bnd_some h
  obtain ⟨r14, g15, e16, h⟩ := h
  refine V_callS (As := [va_rf (some b10), va_rf (some b12)]) hM.c hM.a mq_X8_copyNumbers mi_X8_copyNumbers tw_855 (hM.d (by decide)) hM.z (vm_X8_copyNumbers e16) rfl (Nat.le_of_ble_eq_true rfl) dX8_copy_19 ?_
  refine V_aload_n hM.c 1 dX8_copy_22 rfl rfl ?_
  replace h := grd_some h
  obtain ⟨z17, h⟩ := h
  replace h := drf_some h
  obtain ⟨b18, e19, h⟩ := h
  refine G6_2 hM.c tw_58 z17 e19 dX8_copy_23 ?_
  refine V_aload_n hM.c 0 dX8_copy_26 rfl rfl ?_
  replace h := drf_some h
  obtain ⟨b20, e21, h⟩ := h
  refine G6_2 hM.c tw_58 hz0 e21 dX8_copy_27 ?_
  replace h := bnd_some h
  obtain ⟨r22, g23, e24, h⟩ := h
  refine V_callS (As := [va_rf (some b18), va_rf (some b20)]) hM.c hM.a mq_X8_copyNumbers mi_X8_copyNumbers tw_855 (hM.d (by decide)) hM.z (vm_X8_copyNumbers e24) rfl (Nat.le_of_ble_eq_true rfl) dX8_copy_30 ?_
  refine V_aload_n hM.c 1 dX8_copy_33 rfl rfl ?_
  replace h := grd_some h
  obtain ⟨z25, h⟩ := h
  replace h := drf_some h
  obtain ⟨b26, e27, h⟩ := h
  refine G6_3 hM.c tw_40 z25 e27 dX8_copy_34 ?_
  refine V_aload_n hM.c 0 dX8_copy_37 rfl rfl ?_
  replace h := drf_some h
  obtain ⟨b28, e29, h⟩ := h
  refine G6_3 hM.c tw_40 hz0 e29 dX8_copy_38 ?_
  replace h := bnd_some h
  obtain ⟨r30, g31, e32, h⟩ := h
  refine V_callS (As := [va_rf (some b26), va_rf (some b28)]) hM.c hM.a mq_X8_copyNumbers mi_X8_copyNumbers tw_855 (hM.d (by decide)) hM.z (vm_X8_copyNumbers e32) rfl (Nat.le_of_ble_eq_true rfl) dX8_copy_41 ?_
  refine V_aload_n hM.c 1 dX8_copy_44 rfl rfl ?_
  replace h := grd_some h
  obtain ⟨z33, h⟩ := h
  replace h := drf_some h
  obtain ⟨b34, e35, h⟩ := h
  refine G6_4 hM.c tw_49 z33 e35 dX8_copy_45 ?_
  refine V_aload_n hM.c 0 dX8_copy_48 rfl rfl ?_
  replace h := drf_some h
  obtain ⟨b36, e37, h⟩ := h
  refine G6_4 hM.c tw_49 hz0 e37 dX8_copy_49 ?_
  replace h := bnd_some h
  obtain ⟨r38, g39, e40, h⟩ := h
  refine V_callS (As := [va_rf (some b34), va_rf (some b36)]) hM.c hM.a mq_X8_copyNumbers mi_X8_copyNumbers tw_855 (hM.d (by decide)) hM.z (vm_X8_copyNumbers e40) rfl (Nat.le_of_ble_eq_true rfl) dX8_copy_52 ?_
  refine V_aload_n hM.c 0 dX8_copy_55 rfl rfl ?_
  replace h := drf_some h
  obtain ⟨b41, e42, h⟩ := h
  refine G6_5 hM.c tw_80 hz0 e42 dX8_copy_56 ?_
  refine V_aload_n hM.c 1 dX8_copy_59 rfl rfl ?_
  replace h := grd_some h
  obtain ⟨z43, h⟩ := h
  replace h := drf_some h
  obtain ⟨b44, e45, h⟩ := h
  refine G6_5 hM.c tw_80 z43 e45 dX8_copy_60 ?_
  replace h := bnd_some h
  obtain ⟨r46, g47, e48, h⟩ := h
  refine V_callV (As := [va_rf (some b44)]) (c := 2) (T := TX3) (N := 2) hM.c hM.a mq_X3_copy mi_X3_copy tw_858 (hM.d (by decide)) hM.z rfl (by omega) (zc_X3_copy e48) (vm_X3_copy e48) rfl (Nat.le_of_ble_eq_true rfl) dX8_copy_63 ?_
  refine V_aload_n hM.c 0 dX8_copy_66 rfl rfl ?_
  refine V_aload_n hM.c 1 dX8_copy_67 rfl rfl ?_
  replace h := grd_some h
  obtain ⟨z49, h⟩ := h
  refine G6_6 hM.c tw_25 z49 dX8_copy_68 ?_
  refine P6_6 hM.c tw_25 hz0 hM.a dX8_copy_71 ?_
  refine V_aload_n hM.c 0 dX8_copy_74 rfl rfl ?_
  refine V_aload_n hM.c 1 dX8_copy_75 rfl rfl ?_
  replace h := grd_some h
  obtain ⟨z50, h⟩ := h
  refine G6_7 hM.c tw_71 z50 dX8_copy_76 ?_
  refine P6_7 hM.c tw_71 hz0 hM.a dX8_copy_79 ?_
  exact V_vretE hM h dX8_copy_82
def f_X1_record_l37 (n : Nat) (Z : Zt) (a : Nat) (x1 : Nat) (s0 : Option Nat) (g : Mem) : Option (Unit × Mem) := if s0 = none then (some ((), g)) else (drf s0 (fun b13 => bnd (f_X8_copy n Z b13 x1 g) (fun r15 g16 => some ((), (sI g16 a 1 ((gI g16 a 1) + (1 : Int32)))))))
set_option maxHeartbeats 4000000 in
set_option maxRecDepth 100000 in
theorem vl_X1_record_l37 {x : Cq} {n : Nat} {Z : Zt} {a : Nat} {x1 : Nat} {s0 : Option Nat} {g : Mem} {rr : Unit} {gg : Mem} (hM : Cm x cX1_record RX1 3 none 3 Z none gg) (hz0 : zk Z a = 2) (h : f_X1_record_l37 n Z a x1 s0 g = some (rr, gg)) : V x Z 0 0 37 [(0, va_rf (some a)), (1, va_rf (some x1))] [va_rf s0] g := by
  unfold f_X1_record_l37 at h
  refine V_astore_n (i := 2) (L' := [(2, va_rf s0), (0, va_rf (some a)), (1, va_rf (some x1))]) hM.c dX1_record_37 rfl (by decide) rfl ?_
  refine V_aload_n hM.c 0 dX1_record_38 rfl rfl ?_
  refine V_ifnull hM.c 57 dX1_record_39 (by decide) (fun c12 => ?_) (fun c12 => ?_)
  · replace h := ite_p h c12
    exact V_vretE hM h dX1_record_57
  · replace h := ite_n h c12
    refine V_aload_n hM.c 0 dX1_record_42 rfl rfl ?_
    refine V_aload_n hM.c 2 dX1_record_43 rfl rfl ?_
    replace h := drf_some h
    obtain ⟨b13, rfl, h⟩ := h
    replace h := bnd_some h
    obtain ⟨r15, g16, e17, h⟩ := h
    refine V_callV (As := [va_rf (some x1)]) (c := 6) (T := TX8) (N := 8) hM.c hM.a mq_X8_copy mi_X8_copy tw_848 (hM.d (by decide)) hM.z rfl (by omega) (zc_X8_copy e17) (vm_X8_copy e17) rfl (Nat.le_of_ble_eq_true rfl) dX1_record_44 ?_
    refine V_aload_n hM.c 1 dX1_record_47 rfl rfl ?_
    refine V_dup hM.c dX1_record_48 (rf_cat _) ?_
    refine G1_1 hM.c tw_842 hz0 dX1_record_49 ?_
    refine V_iconst (v := 1) hM.c dX1_record_52 (by decide) ?_
    refine V_iadd hM.c dX1_record_53 ?_
    refine P1_1 hM.c tw_842 hz0 hM.a dX1_record_54 ?_
    exact V_vretE hM h dX1_record_57
def f_X1_record_l17 (n : Nat) (Z : Zt) (a : Nat) (x1 : Nat) (g : Mem) : Option (Unit × Mem) := if (gI g a 1) < 0 then (f_X1_record_l37 n Z a x1 none g) else (drf (zf Z a 0) (fun b6 => grd (zk Z b6 = 17) (grd (inr (gI g a 1) (zl Z b6)) (nam (gP g b6 (gI g a 1).toNatClampNeg) (fun q10 => f_X1_record_l37 n Z a x1 q10 g)))))
set_option maxHeartbeats 4000000 in
set_option maxRecDepth 100000 in
theorem vl_X1_record_l17 {x : Cq} {n : Nat} {Z : Zt} {a : Nat} {x1 : Nat} {g : Mem} {rr : Unit} {gg : Mem} (hM : Cm x cX1_record RX1 3 none 3 Z none gg) (hz0 : zk Z a = 2) (h : f_X1_record_l17 n Z a x1 g = some (rr, gg)) : V x Z 0 0 17 [(0, va_rf (some a)), (1, va_rf (some x1))] [] g := by
  unfold f_X1_record_l17 at h
  refine V_aload_n hM.c 0 dX1_record_17 rfl rfl ?_
  refine G1_1 hM.c tw_842 hz0 dX1_record_18 ?_
  refine V_if_lt hM.c 36 dX1_record_21 (by decide) (fun c5 => ?_) (fun c5 => ?_)
  · replace h := ite_p h c5
    refine V_null hM.c dX1_record_36 ?_
    refine V_sub [0, 1] rfl ?_
    exact vl_X1_record_l37 hM hz0  h
  · replace h := ite_n h c5
    refine V_aload_n hM.c 0 dX1_record_24 rfl rfl ?_
    replace h := drf_some h
    obtain ⟨b6, e7, h⟩ := h
    refine G1_0 hM.c tw_843 hz0 e7 dX1_record_25 ?_
    refine V_aload_n hM.c 0 dX1_record_28 rfl rfl ?_
    refine G1_1 hM.c tw_842 hz0 dX1_record_29 ?_
    replace h := grd_some h
    obtain ⟨z8, h⟩ := h
    replace h := grd_some h
    obtain ⟨c9, h⟩ := h
    refine V_qald6 hM.c z8 c9 dX1_record_32 ?_
    replace h := nam_some h
    obtain ⟨q10, e11, h⟩ := h
    rw [← e11]
    refine V_goto hM.c 37 dX1_record_33 (by decide) ?_
    refine V_sub [0, 1] rfl ?_
    exact vl_X1_record_l37 hM hz0  h
def f_X1_record (n : Nat) (Z : Zt) (a : Nat) (x1 : Nat) (g : Mem) : Option (Unit × Mem) := grd (zk Z a = 2) (if (gI g a 1) < (4 : Int32) then (f_X1_record_l17 n Z a x1 g) else (bnd (f_X1_moveOldestToEnd n Z a g) (fun r2 g3 => f_X1_record_l17 n Z a x1 (sI g3 a 1 (3 : Int32)))))
theorem mq_X1_record : Mq yX1_record cX1_record 3 none 1 := ⟨tw_841, tw_840, ⟨by decide +kernel, by decide +kernel, by decide +kernel⟩, by decide⟩
theorem mi_X1_record : Cond.instanceMethod yX1_record ∈ TB ∧ Cond.selects yX1_record.cls yX1_record yX1_record ∈ TB := ⟨tw_838, tw_839⟩
theorem zc_X1_record {n : Nat} {Z : Zt} {a : Nat} {x1 : Nat} {g : Mem} {q : Unit × Mem} (h : f_X1_record n Z a x1 g = some q) : zk Z a = 2 := (grd_some h).1
set_option maxHeartbeats 4000000 in
set_option maxRecDepth 100000 in
theorem vm_X1_record {n : Nat} {Z : Zt} {a : Nat} {x1 : Nat} {g : Mem} {rr : Unit} {gg : Mem} (h : f_X1_record n Z a x1 g = some (rr, gg)) : VM yX1_record cX1_record 3 none 3 [.ref a, va_rf (some x1)] Z g none gg := by
  unfold f_X1_record at h
  replace h := grd_some h
  obtain ⟨hz0, h⟩ := h
  refine VM.of (by decide +kernel) (Nat.le_of_ble_eq_true rfl) (fun x hM => ?_)
  have hM : Cm x cX1_record RX1 3 none 3 Z none gg := hM
  show V x Z 0 0 0 [(0, va_rf (some a)), (1, va_rf (some x1))] [] g
  refine V_aload_n hM.c 0 dX1_record_0 rfl rfl ?_
  refine G1_1 hM.c tw_842 hz0 dX1_record_1 ?_
  refine V_iconst (v := 4) hM.c dX1_record_4 (by decide) ?_
  refine V_icmp_lt hM.c 17 dX1_record_5 (by decide) (fun c1 => ?_) (fun c1 => ?_)
  · replace h := ite_p h c1
    refine V_sub [0, 1] rfl ?_
    exact vl_X1_record_l17 hM hz0  h
  · replace h := ite_n h c1
    refine V_aload_n hM.c 0 dX1_record_8 rfl rfl ?_
    replace h := bnd_some h
    obtain ⟨r2, g3, e4, h⟩ := h
    refine V_callV (As := []) (c := 1) (T := TX1) (N := 2) hM.c hM.a mq_X1_moveOldestToEnd mi_X1_moveOldestToEnd tw_844 (hM.d (by decide)) hM.z rfl (by omega) (zc_X1_moveOldestToEnd e4) (vm_X1_moveOldestToEnd e4) rfl (Nat.le_of_ble_eq_true rfl) dX1_record_9 ?_
    refine V_aload_n hM.c 0 dX1_record_12 rfl rfl ?_
    refine V_iconst (v := 3) hM.c dX1_record_13 (by decide) ?_
    refine P1_1 hM.c tw_842 hz0 hM.a dX1_record_14 ?_
    refine V_sub [0, 1] rfl ?_
    exact vl_X1_record_l17 hM hz0  h
def f_X8_setWidth (n : Nat) (Z : Zt) (a : Nat) (x1 : Int32) (x2 : Int32) (g : Mem) : Option (Unit × Mem) := grd (zk Z a = 7) (bnd (f_X10_isTable n Z x1 g) (fun r1 g2 => if r1 = 0 then (some ((), g2)) else (drf (zf Z a 0) (fun b5 => grd (zk Z b5 = 12) (grd (inr x1 (zl Z b5)) (some ((), (sI g2 b5 x1.toNatClampNeg x2))))))))
theorem mq_X8_setWidth : Mq yX8_setWidth cX8_setWidth 3 none 2 := ⟨tw_1769, tw_14, ⟨by decide +kernel, by decide +kernel, by decide +kernel⟩, by decide⟩
theorem mi_X8_setWidth : Cond.instanceMethod yX8_setWidth ∈ TB ∧ Cond.selects yX8_setWidth.cls yX8_setWidth yX8_setWidth ∈ TB := ⟨tw_1767, tw_1768⟩
theorem zc_X8_setWidth {n : Nat} {Z : Zt} {a : Nat} {x1 : Int32} {x2 : Int32} {g : Mem} {q : Unit × Mem} (h : f_X8_setWidth n Z a x1 x2 g = some q) : zk Z a = 7 := (grd_some h).1
set_option maxHeartbeats 4000000 in
set_option maxRecDepth 100000 in
theorem vm_X8_setWidth {n : Nat} {Z : Zt} {a : Nat} {x1 : Int32} {x2 : Int32} {g : Mem} {rr : Unit} {gg : Mem} (h : f_X8_setWidth n Z a x1 x2 g = some (rr, gg)) : VM yX8_setWidth cX8_setWidth 3 none 1 [.ref a, .int x1, .int x2] Z g none gg := by
  unfold f_X8_setWidth at h
  replace h := grd_some h
  obtain ⟨hz0, h⟩ := h
  refine VM.of (by decide +kernel) (Nat.le_of_ble_eq_true rfl) (fun x hM => ?_)
  have hM : Cm x cX8_setWidth RX8 3 none 1 Z none gg := hM
  show V x Z 0 0 0 [(0, va_rf (some a)), (1, .int x1), (2, .int x2)] [] g
  refine V_iload_n hM.c 1 dX8_setWidth_0 rfl rfl ?_
  replace h := bnd_some h
  obtain ⟨r1, g2, e3, h⟩ := h
  refine V_callSN (As := [.int x1]) hM.c hM.a mq_X10_isTable mi_X10_isTable (by decide +kernel) (hM.d (by decide)) hM.z (vm_X10_isTable e3) rfl (Nat.le_of_ble_eq_true rfl) dX8_setWidth_1 ?_
  refine V_if_eq hM.c 14 dX8_setWidth_4 (by decide) (fun c4 => ?_) (fun c4 => ?_)
  · replace h := ite_p h c4
    exact V_vretE hM h dX8_setWidth_14
  · replace h := ite_n h c4
    refine V_aload_n hM.c 0 dX8_setWidth_7 rfl rfl ?_
    replace h := drf_some h
    obtain ⟨b5, e6, h⟩ := h
    refine G6_0 hM.c tw_16 hz0 e6 dX8_setWidth_8 ?_
    refine V_iload_n hM.c 1 dX8_setWidth_11 rfl rfl ?_
    refine V_iload_n hM.c 2 dX8_setWidth_12 rfl rfl ?_
    replace h := grd_some h
    obtain ⟨z7, h⟩ := h
    replace h := grd_some h
    obtain ⟨c8, h⟩ := h
    refine V_iast hM.c z7 c8 hM.a dX8_setWidth_13 ?_
    exact V_vretE hM h dX8_setWidth_14
def f_X10_setColumns (n : Nat) (Z : Zt) (a : Nat) (x1 : Int32) (x2 : Int32) (g : Mem) : Option (Int32 × Mem) := grd (zk Z a = 9) (bnd (f_X10_isTable n Z x1 g) (fun r1 g2 => if r1 = 0 then (some ((-1 : Int32), g2)) else (if x2 < (1 : Int32) then (some ((-2 : Int32), g2)) else (if x2 ≤ (3 : Int32) then (drf (zf Z a 0) (fun b7 => bnd (f_X8_hasRowIn n Z b7 x1 g2) (fun r9 g10 => if r9 = 0 then (drf (zf Z a 0) (fun b13 => bnd (f_X8_queryNames n Z b13 x1 g10) (fun r15 g16 => if r15 = 0 then (drf (zf Z a 0) (fun b19 => bnd (f_X8_widthOf n Z b19 x1 g16) (fun r21 g22 => drf (zf Z a 2) (fun b24 => drf (zf Z a 0) (fun b26 => bnd (f_X1_record n Z b24 b26 g22) (fun r28 g29 => drf (zf Z a 0) (fun b31 => bnd (f_X8_setWidth n Z b31 x1 x2 g29) (fun r33 g34 => some (r21, g34))))))))) else (some ((-5 : Int32), g16))))) else (some ((-5 : Int32), g10))))) else (some ((-2 : Int32), g2))))))
theorem mq_X10_setColumns : Mq yX10_setColumns cX10_setColumns 4 (some .int) 2 := ⟨tw_1753, tw_5, ⟨by decide +kernel, by decide +kernel, by decide +kernel⟩, by decide⟩
theorem mi_X10_setColumns : Cond.instanceMethod yX10_setColumns ∈ TB ∧ Cond.selects yX10_setColumns.cls yX10_setColumns yX10_setColumns ∈ TB := ⟨tw_1751, tw_1752⟩
theorem zc_X10_setColumns {n : Nat} {Z : Zt} {a : Nat} {x1 : Int32} {x2 : Int32} {g : Mem} {q : Int32 × Mem} (h : f_X10_setColumns n Z a x1 x2 g = some q) : zk Z a = 9 := (grd_some h).1
set_option maxHeartbeats 4000000 in
set_option maxRecDepth 100000 in
theorem vm_X10_setColumns {n : Nat} {Z : Zt} {a : Nat} {x1 : Int32} {x2 : Int32} {g : Mem} {rr : Int32} {gg : Mem} (h : f_X10_setColumns n Z a x1 x2 g = some (rr, gg)) : VM yX10_setColumns cX10_setColumns 4 (some .int) 4 [.ref a, .int x1, .int x2] Z g (some (.int rr)) gg := by
  unfold f_X10_setColumns at h
  replace h := grd_some h
  obtain ⟨hz0, h⟩ := h
  refine VM.of (by decide +kernel) (Nat.le_of_ble_eq_true rfl) (fun x hM => ?_)
  have hM : Cm x cX10_setColumns RX10 4 (some .int) 4 Z (some (.int rr)) gg := hM
  show V x Z 0 0 0 [(0, va_rf (some a)), (1, .int x1), (2, .int x2)] [] g
  refine V_iload_n hM.c 1 dX10_setColumns_0 rfl rfl ?_
  replace h := bnd_some h
  obtain ⟨r1, g2, e3, h⟩ := h
  refine V_callS (As := [.int x1]) hM.c hM.a mq_X10_isTable mi_X10_isTable tw_8 (hM.d (by decide)) hM.z (vm_X10_isTable e3) rfl (Nat.le_of_ble_eq_true rfl) dX10_setColumns_1 ?_
  refine V_if_ne hM.c 9 dX10_setColumns_4 (by decide) (fun c4 => ?_) (fun c4 => ?_)
  · replace h := ite_n h c4
    refine V_iload_n hM.c 2 dX10_setColumns_9 rfl rfl ?_
    refine V_iconst (v := 1) hM.c dX10_setColumns_10 (by decide) ?_
    refine V_icmp_lt hM.c 19 dX10_setColumns_11 (by decide) (fun c5 => ?_) (fun c5 => ?_)
    · replace h := ite_p h c5
      refine V_bipush (v := -2) hM.c dX10_setColumns_19 (by decide) ?_
      exact V_iretE hM h dX10_setColumns_21
    · replace h := ite_n h c5
      refine V_iload_n hM.c 2 dX10_setColumns_14 rfl rfl ?_
      refine V_iconst (v := 3) hM.c dX10_setColumns_15 (by decide) ?_
      refine V_icmp_le hM.c 22 dX10_setColumns_16 (by decide) (fun c6 => ?_) (fun c6 => ?_)
      · replace h := ite_p h c6
        refine V_aload_n hM.c 0 dX10_setColumns_22 rfl rfl ?_
        replace h := drf_some h
        obtain ⟨b7, e8, h⟩ := h
        refine G8_0 hM.c tw_7 hz0 e8 dX10_setColumns_23 ?_
        refine V_iload_n hM.c 1 dX10_setColumns_26 rfl rfl ?_
        replace h := bnd_some h
        obtain ⟨r9, g10, e11, h⟩ := h
        refine V_callV (As := [.int x1]) (c := 6) (T := TX8) (N := 8) hM.c hM.a mq_X8_hasRowIn mi_X8_hasRowIn tw_1754 (hM.d (by decide)) hM.z rfl (by omega) (zc_X8_hasRowIn e11) (vm_X8_hasRowIn e11) rfl (Nat.le_of_ble_eq_true rfl) dX10_setColumns_27 ?_
        refine V_if_ne hM.c 44 dX10_setColumns_30 (by decide) (fun c12 => ?_) (fun c12 => ?_)
        · replace h := ite_n h c12
          refine V_bipush (v := -5) hM.c dX10_setColumns_44 (by decide) ?_
          exact V_iretE hM h dX10_setColumns_46
        · replace h := ite_p h c12
          refine V_aload_n hM.c 0 dX10_setColumns_33 rfl rfl ?_
          replace h := drf_some h
          obtain ⟨b13, e14, h⟩ := h
          refine G8_0 hM.c tw_7 hz0 e14 dX10_setColumns_34 ?_
          refine V_iload_n hM.c 1 dX10_setColumns_37 rfl rfl ?_
          replace h := bnd_some h
          obtain ⟨r15, g16, e17, h⟩ := h
          refine V_callV (As := [.int x1]) (c := 6) (T := TX8) (N := 8) hM.c hM.a mq_X8_queryNames mi_X8_queryNames tw_1758 (hM.d (by decide)) hM.z rfl (by omega) (zc_X8_queryNames e17) (vm_X8_queryNames e17) rfl (Nat.le_of_ble_eq_true rfl) dX10_setColumns_38 ?_
          refine V_if_eq hM.c 47 dX10_setColumns_41 (by decide) (fun c18 => ?_) (fun c18 => ?_)
          · replace h := ite_p h c18
            refine V_aload_n hM.c 0 dX10_setColumns_47 rfl rfl ?_
            replace h := drf_some h
            obtain ⟨b19, e20, h⟩ := h
            refine G8_0 hM.c tw_7 hz0 e20 dX10_setColumns_48 ?_
            refine V_iload_n hM.c 1 dX10_setColumns_51 rfl rfl ?_
            replace h := bnd_some h
            obtain ⟨r21, g22, e23, h⟩ := h
            refine V_callV (As := [.int x1]) (c := 6) (T := TX8) (N := 8) hM.c hM.a mq_X8_widthOf mi_X8_widthOf tw_11 (hM.d (by decide)) hM.z rfl (by omega) (zc_X8_widthOf e23) (vm_X8_widthOf e23) rfl (Nat.le_of_ble_eq_true rfl) dX10_setColumns_52 ?_
            refine V_istore_n (i := 3) (L' := [(3, .int r21), (0, va_rf (some a)), (1, .int x1), (2, .int x2)]) hM.c dX10_setColumns_55 rfl (by decide) rfl ?_
            refine V_aload_n hM.c 1 dX10_setColumns_56 rfl rfl ?_
            replace h := drf_some h
            obtain ⟨b24, e25, h⟩ := h
            refine G8_2 hM.c tw_664 hz0 e25 dX10_setColumns_57 ?_
            refine V_aload_n hM.c 1 dX10_setColumns_60 rfl rfl ?_
            replace h := drf_some h
            obtain ⟨b26, e27, h⟩ := h
            refine G8_0 hM.c tw_7 hz0 e27 dX10_setColumns_61 ?_
            replace h := bnd_some h
            obtain ⟨r28, g29, e30, h⟩ := h
            refine V_callV (As := [va_rf (some b26)]) (c := 1) (T := TX1) (N := 2) hM.c hM.a mq_X1_record mi_X1_record tw_837 (hM.d (by decide)) hM.z rfl (by omega) (zc_X1_record e30) (vm_X1_record e30) rfl (Nat.le_of_ble_eq_true rfl) dX10_setColumns_64 ?_
            refine V_aload_n hM.c 1 dX10_setColumns_67 rfl rfl ?_
            replace h := drf_some h
            obtain ⟨b31, e32, h⟩ := h
            refine G8_0 hM.c tw_7 hz0 e32 dX10_setColumns_68 ?_
            refine V_iload_n hM.c 2 dX10_setColumns_71 rfl rfl ?_
            refine V_iload_n hM.c 3 dX10_setColumns_72 rfl rfl ?_
            replace h := bnd_some h
            obtain ⟨r33, g34, e35, h⟩ := h
            refine V_callV (As := [.int x1, .int x2]) (c := 6) (T := TX8) (N := 8) hM.c hM.a mq_X8_setWidth mi_X8_setWidth tw_1766 (hM.d (by decide)) hM.z rfl (by omega) (zc_X8_setWidth e35) (vm_X8_setWidth e35) rfl (Nat.le_of_ble_eq_true rfl) dX10_setColumns_73 ?_
            refine V_iload_n hM.c 0 dX10_setColumns_76 rfl rfl ?_
            exact V_iretE hM h dX10_setColumns_77
          · replace h := ite_n h c18
            refine V_bipush (v := -5) hM.c dX10_setColumns_44 (by decide) ?_
            exact V_iretE hM h dX10_setColumns_46
      · replace h := ite_n h c6
        refine V_bipush (v := -2) hM.c dX10_setColumns_19 (by decide) ?_
        exact V_iretE hM h dX10_setColumns_21
  · replace h := ite_p h c4
    refine V_iconst (v := -1) hM.c dX10_setColumns_7 (by decide) ?_
    exact V_iretE hM h dX10_setColumns_8
def f_X8_freeTag_l2 (n : Nat) (Z : Zt) (a : Nat) : Nat → Int32 → Mem → Option (Int32 × Mem)
  | 0, _, _ => none
  | fu + 1, x1, g => if (16 : Int32) ≤ x1 then (some ((-1 : Int32), g)) else (bnd (f_X8_hasTag n Z a x1 g) (fun r2 g3 => if r2 = 0 then (some (x1, g3)) else (f_X8_freeTag_l2 n Z a fu (x1 + 1) g3)))
set_option maxHeartbeats 4000000 in
set_option maxRecDepth 100000 in
theorem vl_X8_freeTag_l2 {x : Cq} {n : Nat} {Z : Zt} {a : Nat} {rr : Int32} {gg : Mem} (hM : Cm x cX8_freeTag RX8 2 (some .int) 1 Z (some (.int rr)) gg) (hz0 : zk Z a = 7) : ∀ (fu : Nat) (x1 : Int32) (g : Mem), f_X8_freeTag_l2 n Z a fu x1 g = some (rr, gg) → V x Z 0 0 2 [(0, va_rf (some a)), (1, .int x1)] [] g := by
  intro fu
  induction fu with
  | zero => intro x1 g h; cases h
  | succ fu ih =>
    intro x1 g h
    unfold f_X8_freeTag_l2 at h
    refine V_iload_n hM.c 1 dX8_freeTag_2 rfl rfl ?_
    refine V_bipush (v := 16) hM.c dX8_freeTag_3 (by decide) ?_
    refine V_icmp_ge hM.c 24 dX8_freeTag_5 (by decide) (fun c1 => ?_) (fun c1 => ?_)
    · replace h := ite_p h c1
      refine V_iconst (v := -1) hM.c dX8_freeTag_24 (by decide) ?_
      exact V_iretE hM h dX8_freeTag_25
    · replace h := ite_n h c1
      refine V_aload_n hM.c 0 dX8_freeTag_8 rfl rfl ?_
      refine V_iload_n hM.c 1 dX8_freeTag_9 rfl rfl ?_
      replace h := bnd_some h
      obtain ⟨r2, g3, e4, h⟩ := h
      refine V_callV (As := [.int x1]) (c := 6) (T := TX8) (N := 8) hM.c hM.a mq_X8_hasTag mi_X8_hasTag tw_31 (hM.d (by decide)) hM.z rfl (by omega) (zc_X8_hasTag e4) (vm_X8_hasTag e4) rfl (Nat.le_of_ble_eq_true rfl) dX8_freeTag_10 ?_
      refine V_if_ne hM.c 18 dX8_freeTag_13 (by decide) (fun c5 => ?_) (fun c5 => ?_)
      · replace h := ite_n h c5
        refine V_iinc (v := (x1 + 1)) (L' := [(1, .int (x1 + 1)), (0, va_rf (some a))]) hM.c 1 dX8_freeTag_18 rfl rfl (by decide) rfl ?_
        refine V_goto hM.c 2 dX8_freeTag_21 (by decide) ?_
        refine V_sub [1, 0] rfl ?_
        exact ih _ _ h
      · replace h := ite_p h c5
        refine V_iload_n hM.c 1 dX8_freeTag_16 rfl rfl ?_
        exact V_iretE hM h dX8_freeTag_17
def f_X8_freeTag (n : Nat) (Z : Zt) (a : Nat) (g : Mem) : Option (Int32 × Mem) := grd (zk Z a = 7) (f_X8_freeTag_l2 n Z a n (0 : Int32) g)
theorem mq_X8_freeTag : Mq yX8_freeTag cX8_freeTag 2 (some .int) 0 := ⟨tw_942, tw_14, ⟨by decide +kernel, by decide +kernel, by decide +kernel⟩, by decide⟩
theorem mi_X8_freeTag : Cond.instanceMethod yX8_freeTag ∈ TB ∧ Cond.selects yX8_freeTag.cls yX8_freeTag yX8_freeTag ∈ TB := ⟨tw_940, tw_941⟩
theorem zc_X8_freeTag {n : Nat} {Z : Zt} {a : Nat} {g : Mem} {q : Int32 × Mem} (h : f_X8_freeTag n Z a g = some q) : zk Z a = 7 := (grd_some h).1
set_option maxHeartbeats 4000000 in
set_option maxRecDepth 100000 in
theorem vm_X8_freeTag {n : Nat} {Z : Zt} {a : Nat} {g : Mem} {rr : Int32} {gg : Mem} (h : f_X8_freeTag n Z a g = some (rr, gg)) : VM yX8_freeTag cX8_freeTag 2 (some .int) 1 [.ref a] Z g (some (.int rr)) gg := by
  unfold f_X8_freeTag at h
  replace h := grd_some h
  obtain ⟨hz0, h⟩ := h
  refine VM.of (by decide +kernel) (Nat.le_of_ble_eq_true rfl) (fun x hM => ?_)
  have hM : Cm x cX8_freeTag RX8 2 (some .int) 1 Z (some (.int rr)) gg := hM
  show V x Z 0 0 0 [(0, va_rf (some a))] [] g
  refine V_iconst (v := 0) hM.c dX8_freeTag_0 (by decide) ?_
  refine V_istore_n (i := 1) (L' := [(1, .int (0 : Int32)), (0, va_rf (some a))]) hM.c dX8_freeTag_1 rfl (by decide) rfl ?_
  refine V_sub [1, 0] rfl ?_
  exact vl_X8_freeTag_l2 hM hz0  _ _ _ h
def f_X8_place (n : Nat) (Z : Zt) (a : Nat) (x1 : Int32) (x2 : Int32) (x3 : Int32) (g : Mem) : Option (Unit × Mem) := grd (zk Z a = 7) (if x1 < 0 then (some ((), g)) else (if x1 < (16 : Int32) then (drf (zf Z a 1) (fun b3 => grd (zk Z b3 = 12) (grd (inr x1 (zl Z b3)) (drf (zf Z a 2) (fun b7 => grd (zk Z b7 = 12) (grd (inr x1 (zl Z b7)) (drf (zf Z a 3) (fun b11 => grd (zk Z b11 = 12) (grd (inr x1 (zl Z b11)) (drf (zf Z a 4) (fun b15 => grd (zk Z b15 = 12) (grd (inr x1 (zl Z b15)) (some ((), (sI (sI (sI (sI (sI (sI g b3 x1.toNatClampNeg x2) b7 x1.toNatClampNeg x3) b11 x1.toNatClampNeg (1 : Int32)) b15 x1.toNatClampNeg (100 : Int32)) a 6 ((gI (sI (sI (sI (sI g b3 x1.toNatClampNeg x2) b7 x1.toNatClampNeg x3) b11 x1.toNatClampNeg (1 : Int32)) b15 x1.toNatClampNeg (100 : Int32)) a 6) ||| ((1 : Int32) <<< (x1 &&& 31)))) a 7 ((gI (sI (sI (sI (sI (sI g b3 x1.toNatClampNeg x2) b7 x1.toNatClampNeg x3) b11 x1.toNatClampNeg (1 : Int32)) b15 x1.toNatClampNeg (100 : Int32)) a 6 ((gI (sI (sI (sI (sI g b3 x1.toNatClampNeg x2) b7 x1.toNatClampNeg x3) b11 x1.toNatClampNeg (1 : Int32)) b15 x1.toNatClampNeg (100 : Int32)) a 6) ||| ((1 : Int32) <<< (x1 &&& 31)))) a 7) &&& (((1 : Int32) <<< (x1 &&& 31)) ^^^ (-1 : Int32)))))))))))))))))) else (some ((), g))))
theorem mq_X8_place : Mq yX8_place cX8_place 4 none 3 := ⟨tw_989, tw_14, ⟨by decide +kernel, by decide +kernel, by decide +kernel⟩, by decide⟩
theorem mi_X8_place : Cond.instanceMethod yX8_place ∈ TB ∧ Cond.selects yX8_place.cls yX8_place yX8_place ∈ TB := ⟨tw_987, tw_988⟩
theorem zc_X8_place {n : Nat} {Z : Zt} {a : Nat} {x1 : Int32} {x2 : Int32} {x3 : Int32} {g : Mem} {q : Unit × Mem} (h : f_X8_place n Z a x1 x2 x3 g = some q) : zk Z a = 7 := (grd_some h).1
set_option maxHeartbeats 4000000 in
set_option maxRecDepth 100000 in
theorem vm_X8_place {n : Nat} {Z : Zt} {a : Nat} {x1 : Int32} {x2 : Int32} {x3 : Int32} {g : Mem} {rr : Unit} {gg : Mem} (h : f_X8_place n Z a x1 x2 x3 g = some (rr, gg)) : VM yX8_place cX8_place 4 none 0 [.ref a, .int x1, .int x2, .int x3] Z g none gg := by
  unfold f_X8_place at h
  replace h := grd_some h
  obtain ⟨hz0, h⟩ := h
  refine VM.of (by decide +kernel) (Nat.le_of_ble_eq_true rfl) (fun x hM => ?_)
  have hM : Cm x cX8_place RX8 4 none 0 Z none gg := hM
  show V x Z 0 0 0 [(0, va_rf (some a)), (1, .int x1), (2, .int x2), (3, .int x3)] [] g
  refine V_iload_n hM.c 1 dX8_place_0 rfl rfl ?_
  refine V_if_lt hM.c 10 dX8_place_1 (by decide) (fun c1 => ?_) (fun c1 => ?_)
  · replace h := ite_p h c1
    exact V_vretE hM h dX8_place_10
  · replace h := ite_n h c1
    refine V_iload_n hM.c 1 dX8_place_4 rfl rfl ?_
    refine V_bipush (v := 16) hM.c dX8_place_5 (by decide) ?_
    refine V_icmp_lt hM.c 11 dX8_place_7 (by decide) (fun c2 => ?_) (fun c2 => ?_)
    · replace h := ite_p h c2
      refine V_aload_n hM.c 0 dX8_place_11 rfl rfl ?_
      replace h := drf_some h
      obtain ⟨b3, e4, h⟩ := h
      refine G6_1 hM.c tw_30 hz0 e4 dX8_place_12 ?_
      refine V_iload_n hM.c 1 dX8_place_15 rfl rfl ?_
      refine V_iload_n hM.c 2 dX8_place_16 rfl rfl ?_
      replace h := grd_some h
      obtain ⟨z5, h⟩ := h
      replace h := grd_some h
      obtain ⟨c6, h⟩ := h
      refine V_iast hM.c z5 c6 hM.a dX8_place_17 ?_
      refine V_aload_n hM.c 0 dX8_place_18 rfl rfl ?_
      replace h := drf_some h
      obtain ⟨b7, e8, h⟩ := h
      refine G6_2 hM.c tw_58 hz0 e8 dX8_place_19 ?_
      refine V_iload_n hM.c 1 dX8_place_22 rfl rfl ?_
      refine V_iload_n hM.c 3 dX8_place_23 rfl rfl ?_
      replace h := grd_some h
      obtain ⟨z9, h⟩ := h
      replace h := grd_some h
      obtain ⟨c10, h⟩ := h
      refine V_iast hM.c z9 c10 hM.a dX8_place_24 ?_
      refine V_aload_n hM.c 0 dX8_place_25 rfl rfl ?_
      replace h := drf_some h
      obtain ⟨b11, e12, h⟩ := h
      refine G6_3 hM.c tw_40 hz0 e12 dX8_place_26 ?_
      refine V_iload_n hM.c 1 dX8_place_29 rfl rfl ?_
      refine V_iconst (v := 1) hM.c dX8_place_30 (by decide) ?_
      replace h := grd_some h
      obtain ⟨z13, h⟩ := h
      replace h := grd_some h
      obtain ⟨c14, h⟩ := h
      refine V_iast hM.c z13 c14 hM.a dX8_place_31 ?_
      refine V_aload_n hM.c 0 dX8_place_32 rfl rfl ?_
      replace h := drf_some h
      obtain ⟨b15, e16, h⟩ := h
      refine G6_4 hM.c tw_49 hz0 e16 dX8_place_33 ?_
      refine V_iload_n hM.c 1 dX8_place_36 rfl rfl ?_
      refine V_bipush (v := 100) hM.c dX8_place_37 (by decide) ?_
      replace h := grd_some h
      obtain ⟨z17, h⟩ := h
      replace h := grd_some h
      obtain ⟨c18, h⟩ := h
      refine V_iast hM.c z17 c18 hM.a dX8_place_39 ?_
      refine V_aload_n hM.c 0 dX8_place_40 rfl rfl ?_
      refine V_dup hM.c dX8_place_41 (rf_cat _) ?_
      refine G6_6 hM.c tw_25 hz0 dX8_place_42 ?_
      refine V_iconst (v := 1) hM.c dX8_place_45 (by decide) ?_
      refine V_iload_n hM.c 1 dX8_place_46 rfl rfl ?_
      refine V_ishl hM.c dX8_place_47 ?_
      refine V_ior hM.c dX8_place_48 ?_
      refine P6_6 hM.c tw_25 hz0 hM.a dX8_place_49 ?_
      refine V_aload_n hM.c 0 dX8_place_52 rfl rfl ?_
      refine V_dup hM.c dX8_place_53 (rf_cat _) ?_
      refine G6_7 hM.c tw_71 hz0 dX8_place_54 ?_
      refine V_iconst (v := 1) hM.c dX8_place_57 (by decide) ?_
      refine V_iload_n hM.c 1 dX8_place_58 rfl rfl ?_
      refine V_ishl hM.c dX8_place_59 ?_
      refine V_iconst (v := -1) hM.c dX8_place_60 (by decide) ?_
      refine V_ixor hM.c dX8_place_61 ?_
      refine V_iand hM.c dX8_place_62 ?_
      refine P6_7 hM.c tw_71 hz0 hM.a dX8_place_63 ?_
      exact V_vretE hM h dX8_place_66
    · replace h := ite_n h c2
      exact V_vretE hM h dX8_place_10
def f_X6_isWhole (n : Nat) (Z : Zt) (a : Nat) (g : Mem) : Option (Int32 × Mem) := grd (zk Z a = 5) (grd (isz (gI g a 9)) (some ((gI g a 9), g)))
theorem mq_X6_isWhole : Mq yX6_isWhole cX6_isWhole 1 (some .boolean) 0 := ⟨tw_714, tw_592, ⟨by decide +kernel, by decide +kernel, by decide +kernel⟩, by decide⟩
theorem mi_X6_isWhole : Cond.instanceMethod yX6_isWhole ∈ TB ∧ Cond.selects yX6_isWhole.cls yX6_isWhole yX6_isWhole ∈ TB := ⟨tw_712, tw_713⟩
theorem zc_X6_isWhole {n : Nat} {Z : Zt} {a : Nat} {g : Mem} {q : Int32 × Mem} (h : f_X6_isWhole n Z a g = some q) : zk Z a = 5 := (grd_some h).1
set_option maxHeartbeats 4000000 in
set_option maxRecDepth 100000 in
theorem vm_X6_isWhole {n : Nat} {Z : Zt} {a : Nat} {g : Mem} {rr : Int32} {gg : Mem} (h : f_X6_isWhole n Z a g = some (rr, gg)) : VM yX6_isWhole cX6_isWhole 1 (some .boolean) 0 [.ref a] Z g (some (.int rr)) gg := by
  unfold f_X6_isWhole at h
  replace h := grd_some h
  obtain ⟨hz0, h⟩ := h
  refine VM.of (by decide +kernel) (Nat.le_of_ble_eq_true rfl) (fun x hM => ?_)
  have hM : Cm x cX6_isWhole RX6 1 (some .boolean) 0 Z (some (.int rr)) gg := hM
  show V x Z 0 0 0 [(0, va_rf (some a))] [] g
  refine V_aload_n hM.c 0 dX6_isWhole_0 rfl rfl ?_
  refine G4_9 hM.c tw_598 hz0 dX6_isWhole_1 ?_
  replace h := grd_some h
  obtain ⟨c1, h⟩ := h
  exact V_zretE hM (isz_nar c1) h dX6_isWhole_4
def f_X7_clear (n : Nat) (Z : Zt) (a : Nat) (x1 : Int32) (g : Mem) : Option (Unit × Mem) := grd (zk Z a = 6) (some ((), (sI (sI g a 2 x1) a 3 (0 : Int32))))
theorem mq_X7_clear : Mq yX7_clear cX7_clear 2 none 1 := ⟨tw_719, tw_110, ⟨by decide +kernel, by decide +kernel, by decide +kernel⟩, by decide⟩
theorem mi_X7_clear : Cond.instanceMethod yX7_clear ∈ TB ∧ Cond.selects yX7_clear.cls yX7_clear yX7_clear ∈ TB := ⟨tw_716, tw_717⟩
theorem zc_X7_clear {n : Nat} {Z : Zt} {a : Nat} {x1 : Int32} {g : Mem} {q : Unit × Mem} (h : f_X7_clear n Z a x1 g = some q) : zk Z a = 6 := (grd_some h).1
set_option maxHeartbeats 4000000 in
set_option maxRecDepth 100000 in
theorem vm_X7_clear {n : Nat} {Z : Zt} {a : Nat} {x1 : Int32} {g : Mem} {rr : Unit} {gg : Mem} (h : f_X7_clear n Z a x1 g = some (rr, gg)) : VM yX7_clear cX7_clear 2 none 0 [.ref a, .int x1] Z g none gg := by
  unfold f_X7_clear at h
  replace h := grd_some h
  obtain ⟨hz0, h⟩ := h
  refine VM.of (by decide +kernel) (Nat.le_of_ble_eq_true rfl) (fun x hM => ?_)
  have hM : Cm x cX7_clear RX7 2 none 0 Z none gg := hM
  show V x Z 0 0 0 [(0, va_rf (some a)), (1, .int x1)] [] g
  refine V_aload_n hM.c 0 dX7_clear_0 rfl rfl ?_
  refine V_iload_n hM.c 1 dX7_clear_1 rfl rfl ?_
  refine P5_2 hM.c tw_121 hz0 hM.a dX7_clear_2 ?_
  refine V_aload_n hM.c 0 dX7_clear_5 rfl rfl ?_
  refine V_iconst (v := 0) hM.c dX7_clear_6 (by decide) ?_
  refine P5_3 hM.c tw_112 hz0 hM.a dX7_clear_7 ?_
  exact V_vretE hM h dX7_clear_10
def f_X0_pushSpare (n : Nat) (Z : Zt) (a : Nat) (x1 : Int32) (g : Mem) : Option (Int32 × Mem) := grd (zk Z a = 1) (if ((gI g a 3) - x1) < 0 then (some ((0 : Int32), g)) else (if ((gI g a 3) - x1) < (12 : Int32) then (drf (zf Z a 0) (fun b3 => grd (zk Z b3 = 16) (grd (inr ((gI g a 3) - x1) (zl Z b3)) (nam (gP g b3 ((gI g a 3) - x1).toNatClampNeg) (fun q7 => if q7 = none then (some ((0 : Int32), g)) else (drf (zf Z a 0) (fun b10 => nam (gP g a 1) (fun q12 => drf q12 (fun b14 => grd (zk Z b10 = 16) (grd (zk Z b14 = 6) (grd (inr ((gI g a 3) - x1) (zl Z b10)) (some ((1 : Int32), (sI (sP (sP g b10 ((gI g a 3) - x1).toNatClampNeg (some b14)) a 1 q7) a 3 (((gI g a 3) - x1) + (1 : Int32)))))))))))))))) else (some ((0 : Int32), g))))
theorem mq_X0_pushSpare : Mq yX0_pushSpare cX0_pushSpare 4 (some .boolean) 1 := ⟨tw_725, tw_104, ⟨by decide +kernel, by decide +kernel, by decide +kernel⟩, by decide⟩
theorem mi_X0_pushSpare : Cond.instanceMethod yX0_pushSpare ∈ TB ∧ Cond.selects yX0_pushSpare.cls yX0_pushSpare yX0_pushSpare ∈ TB := ⟨tw_723, tw_724⟩
theorem zc_X0_pushSpare {n : Nat} {Z : Zt} {a : Nat} {x1 : Int32} {g : Mem} {q : Int32 × Mem} (h : f_X0_pushSpare n Z a x1 g = some q) : zk Z a = 1 := (grd_some h).1
set_option maxHeartbeats 4000000 in
set_option maxRecDepth 100000 in
theorem vm_X0_pushSpare {n : Nat} {Z : Zt} {a : Nat} {x1 : Int32} {g : Mem} {rr : Int32} {gg : Mem} (h : f_X0_pushSpare n Z a x1 g = some (rr, gg)) : VM yX0_pushSpare cX0_pushSpare 4 (some .boolean) 0 [.ref a, .int x1] Z g (some (.int rr)) gg := by
  unfold f_X0_pushSpare at h
  replace h := grd_some h
  obtain ⟨hz0, h⟩ := h
  refine VM.of (by decide +kernel) (Nat.le_of_ble_eq_true rfl) (fun x hM => ?_)
  have hM : Cm x cX0_pushSpare RX0 4 (some .boolean) 0 Z (some (.int rr)) gg := hM
  show V x Z 0 0 0 [(0, va_rf (some a)), (1, .int x1)] [] g
  refine V_aload_n hM.c 0 dX0_pushSpare_0 rfl rfl ?_
  refine G0_3 hM.c tw_709 hz0 dX0_pushSpare_1 ?_
  refine V_iload_n hM.c 1 dX0_pushSpare_4 rfl rfl ?_
  refine V_isub hM.c dX0_pushSpare_5 ?_
  refine V_istore_n (i := 2) (L' := [(2, .int ((gI g a 3) - x1)), (0, va_rf (some a)), (1, .int x1)]) hM.c dX0_pushSpare_6 rfl (by decide) rfl ?_
  refine V_iload_n hM.c 0 dX0_pushSpare_7 rfl rfl ?_
  refine V_if_lt hM.c 17 dX0_pushSpare_8 (by decide) (fun c1 => ?_) (fun c1 => ?_)
  · replace h := ite_p h c1
    refine V_iconst (v := 0) hM.c dX0_pushSpare_17 (by decide) ?_
    exact V_zretE hM (isz_nar (by decide)) h dX0_pushSpare_18
  · replace h := ite_n h c1
    refine V_iload_n hM.c 0 dX0_pushSpare_11 rfl rfl ?_
    refine V_bipush (v := 12) hM.c dX0_pushSpare_12 (by decide) ?_
    refine V_icmp_lt hM.c 19 dX0_pushSpare_14 (by decide) (fun c2 => ?_) (fun c2 => ?_)
    · replace h := ite_p h c2
      refine V_aload_n hM.c 1 dX0_pushSpare_19 rfl rfl ?_
      replace h := drf_some h
      obtain ⟨b3, e4, h⟩ := h
      refine G0_0 hM.c tw_726 hz0 e4 dX0_pushSpare_20 ?_
      refine V_iload_n hM.c 0 dX0_pushSpare_23 rfl rfl ?_
      replace h := grd_some h
      obtain ⟨z5, h⟩ := h
      replace h := grd_some h
      obtain ⟨c6, h⟩ := h
      refine V_qald5 hM.c z5 c6 dX0_pushSpare_24 ?_
      replace h := nam_some h
      obtain ⟨q7, e8, h⟩ := h
      rw [← e8]
      refine V_astore_n (i := 3) (L' := [(3, va_rf q7), (2, .int ((gI g a 3) - x1)), (0, va_rf (some a)), (1, .int x1)]) hM.c dX0_pushSpare_25 rfl (by decide) rfl ?_
      refine V_aload_n hM.c 0 dX0_pushSpare_26 rfl rfl ?_
      refine V_ifnonnull hM.c 32 dX0_pushSpare_27 (by decide) (fun c9 => ?_) (fun c9 => ?_)
      · replace h := ite_n h c9
        refine V_aload_n hM.c 2 dX0_pushSpare_32 rfl rfl ?_
        replace h := drf_some h
        obtain ⟨b10, e11, h⟩ := h
        refine G0_0 hM.c tw_726 hz0 e11 dX0_pushSpare_33 ?_
        refine V_iload_n hM.c 1 dX0_pushSpare_36 rfl rfl ?_
        refine V_aload_n hM.c 2 dX0_pushSpare_37 rfl rfl ?_
        replace h := nam_some h
        obtain ⟨q12, e13, h⟩ := h
        refine G0_1 hM.c tw_710 hz0 e13 dX0_pushSpare_38 ?_
        replace h := drf_some h
        obtain ⟨b14, rfl, h⟩ := h
        replace h := grd_some h
        obtain ⟨z16, h⟩ := h
        replace h := grd_some h
        obtain ⟨z17, h⟩ := h
        replace h := grd_some h
        obtain ⟨c18, h⟩ := h
        refine V_qast (t := 5) (c := 5) (r := (RX7, TX7, 4)) hM.c z16 (by omega) (by omega) c18 z17 rfl (by omega) rfl hM.a dX0_pushSpare_41 ?_
        refine V_aload_n hM.c 2 dX0_pushSpare_42 rfl rfl ?_
        refine V_aload_n hM.c 0 dX0_pushSpare_43 rfl rfl ?_
        refine P0_1 hM.c tw_710 hz0 hM.a dX0_pushSpare_44 ?_
        refine V_aload_n hM.c 2 dX0_pushSpare_47 rfl rfl ?_
        refine V_iload_n hM.c 1 dX0_pushSpare_48 rfl rfl ?_
        refine V_iconst (v := 1) hM.c dX0_pushSpare_49 (by decide) ?_
        refine V_iadd hM.c dX0_pushSpare_50 ?_
        refine P0_3 hM.c tw_709 hz0 hM.a dX0_pushSpare_51 ?_
        refine V_iconst (v := 1) hM.c dX0_pushSpare_54 (by decide) ?_
        exact V_zretE hM (isz_nar (by decide)) h dX0_pushSpare_55
      · replace h := ite_p h c9
        refine V_iconst (v := 0) hM.c dX0_pushSpare_30 (by decide) ?_
        exact V_zretE hM (isz_nar (by decide)) h dX0_pushSpare_31
    · replace h := ite_n h c2
      refine V_iconst (v := 0) hM.c dX0_pushSpare_17 (by decide) ?_
      exact V_zretE hM (isz_nar (by decide)) h dX0_pushSpare_18
def f_X6_size (n : Nat) (Z : Zt) (a : Nat) (g : Mem) : Option (Int32 × Mem) := grd (zk Z a = 5) (some ((gI g a 6), g))
theorem mq_X6_size : Mq yX6_size cX6_size 1 (some .int) 0 := ⟨tw_730, tw_592, ⟨by decide +kernel, by decide +kernel, by decide +kernel⟩, by decide⟩
theorem mi_X6_size : Cond.instanceMethod yX6_size ∈ TB ∧ Cond.selects yX6_size.cls yX6_size yX6_size ∈ TB := ⟨tw_728, tw_729⟩
theorem zc_X6_size {n : Nat} {Z : Zt} {a : Nat} {g : Mem} {q : Int32 × Mem} (h : f_X6_size n Z a g = some q) : zk Z a = 5 := (grd_some h).1
set_option maxHeartbeats 4000000 in
set_option maxRecDepth 100000 in
theorem vm_X6_size {n : Nat} {Z : Zt} {a : Nat} {g : Mem} {rr : Int32} {gg : Mem} (h : f_X6_size n Z a g = some (rr, gg)) : VM yX6_size cX6_size 1 (some .int) 0 [.ref a] Z g (some (.int rr)) gg := by
  unfold f_X6_size at h
  replace h := grd_some h
  obtain ⟨hz0, h⟩ := h
  refine VM.of (by decide +kernel) (Nat.le_of_ble_eq_true rfl) (fun x hM => ?_)
  have hM : Cm x cX6_size RX6 1 (some .int) 0 Z (some (.int rr)) gg := hM
  show V x Z 0 0 0 [(0, va_rf (some a))] [] g
  refine V_aload_n hM.c 0 dX6_size_0 rfl rfl ?_
  refine G4_6 hM.c tw_595 hz0 dX6_size_1 ?_
  exact V_iretE hM h dX6_size_4
def f_X6_hasNode (n : Nat) (Z : Zt) (a : Nat) (x1 : Int32) (g : Mem) : Option (Int32 × Mem) := grd (zk Z a = 5) (if x1 < 0 then (some ((0 : Int32), g)) else (if (gI g a 6) ≤ x1 then (some ((0 : Int32), g)) else (if (60 : Int32) ≤ x1 then (some ((0 : Int32), g)) else (some ((1 : Int32), g)))))
theorem mq_X6_hasNode : Mq yX6_hasNode cX6_hasNode 2 (some .boolean) 1 := ⟨tw_682, tw_592, ⟨by decide +kernel, by decide +kernel, by decide +kernel⟩, by decide⟩
theorem mi_X6_hasNode : Cond.instanceMethod yX6_hasNode ∈ TB ∧ Cond.selects yX6_hasNode.cls yX6_hasNode yX6_hasNode ∈ TB := ⟨tw_680, tw_681⟩
theorem zc_X6_hasNode {n : Nat} {Z : Zt} {a : Nat} {x1 : Int32} {g : Mem} {q : Int32 × Mem} (h : f_X6_hasNode n Z a x1 g = some q) : zk Z a = 5 := (grd_some h).1
set_option maxHeartbeats 4000000 in
set_option maxRecDepth 100000 in
theorem vm_X6_hasNode {n : Nat} {Z : Zt} {a : Nat} {x1 : Int32} {g : Mem} {rr : Int32} {gg : Mem} (h : f_X6_hasNode n Z a x1 g = some (rr, gg)) : VM yX6_hasNode cX6_hasNode 2 (some .boolean) 0 [.ref a, .int x1] Z g (some (.int rr)) gg := by
  unfold f_X6_hasNode at h
  replace h := grd_some h
  obtain ⟨hz0, h⟩ := h
  refine VM.of (by decide +kernel) (Nat.le_of_ble_eq_true rfl) (fun x hM => ?_)
  have hM : Cm x cX6_hasNode RX6 2 (some .boolean) 0 Z (some (.int rr)) gg := hM
  show V x Z 0 0 0 [(0, va_rf (some a)), (1, .int x1)] [] g
  refine V_iload_n hM.c 1 dX6_hasNode_0 rfl rfl ?_
  refine V_if_lt hM.c 22 dX6_hasNode_1 (by decide) (fun c1 => ?_) (fun c1 => ?_)
  · replace h := ite_p h c1
    refine V_iconst (v := 0) hM.c dX6_hasNode_22 (by decide) ?_
    exact V_zretE hM (isz_nar (by decide)) h dX6_hasNode_23
  · replace h := ite_n h c1
    refine V_iload_n hM.c 1 dX6_hasNode_4 rfl rfl ?_
    refine V_aload_n hM.c 0 dX6_hasNode_5 rfl rfl ?_
    refine G4_6 hM.c tw_595 hz0 dX6_hasNode_6 ?_
    refine V_icmp_ge hM.c 22 dX6_hasNode_9 (by decide) (fun c2 => ?_) (fun c2 => ?_)
    · replace h := ite_p h c2
      refine V_iconst (v := 0) hM.c dX6_hasNode_22 (by decide) ?_
      exact V_zretE hM (isz_nar (by decide)) h dX6_hasNode_23
    · replace h := ite_n h c2
      refine V_iload_n hM.c 1 dX6_hasNode_12 rfl rfl ?_
      refine V_bipush (v := 60) hM.c dX6_hasNode_13 (by decide) ?_
      refine V_icmp_ge hM.c 22 dX6_hasNode_15 (by decide) (fun c3 => ?_) (fun c3 => ?_)
      · replace h := ite_p h c3
        refine V_iconst (v := 0) hM.c dX6_hasNode_22 (by decide) ?_
        exact V_zretE hM (isz_nar (by decide)) h dX6_hasNode_23
      · replace h := ite_n h c3
        refine V_iconst (v := 1) hM.c dX6_hasNode_18 (by decide) ?_
        refine V_goto hM.c 23 dX6_hasNode_19 (by decide) ?_
        exact V_zretE hM (isz_nar (by decide)) h dX6_hasNode_23
def f_X6_kindAt (n : Nat) (Z : Zt) (a : Nat) (x1 : Int32) (g : Mem) : Option (Int32 × Mem) := grd (zk Z a = 5) (bnd (f_X6_hasNode n Z a x1 g) (fun r1 g2 => if r1 = 0 then (some ((-1 : Int32), g2)) else (drf (zf Z a 0) (fun b5 => grd (zk Z b5 = 12) (grd (inr x1 (zl Z b5)) (some ((gI g2 b5 x1.toNatClampNeg), g2)))))))
theorem mq_X6_kindAt : Mq yX6_kindAt cX6_kindAt 2 (some .int) 1 := ⟨tw_690, tw_592, ⟨by decide +kernel, by decide +kernel, by decide +kernel⟩, by decide⟩
theorem mi_X6_kindAt : Cond.instanceMethod yX6_kindAt ∈ TB ∧ Cond.selects yX6_kindAt.cls yX6_kindAt yX6_kindAt ∈ TB := ⟨tw_688, tw_689⟩
theorem zc_X6_kindAt {n : Nat} {Z : Zt} {a : Nat} {x1 : Int32} {g : Mem} {q : Int32 × Mem} (h : f_X6_kindAt n Z a x1 g = some q) : zk Z a = 5 := (grd_some h).1
set_option maxHeartbeats 4000000 in
set_option maxRecDepth 100000 in
theorem vm_X6_kindAt {n : Nat} {Z : Zt} {a : Nat} {x1 : Int32} {g : Mem} {rr : Int32} {gg : Mem} (h : f_X6_kindAt n Z a x1 g = some (rr, gg)) : VM yX6_kindAt cX6_kindAt 2 (some .int) 1 [.ref a, .int x1] Z g (some (.int rr)) gg := by
  unfold f_X6_kindAt at h
  replace h := grd_some h
  obtain ⟨hz0, h⟩ := h
  refine VM.of (by decide +kernel) (Nat.le_of_ble_eq_true rfl) (fun x hM => ?_)
  have hM : Cm x cX6_kindAt RX6 2 (some .int) 1 Z (some (.int rr)) gg := hM
  show V x Z 0 0 0 [(0, va_rf (some a)), (1, .int x1)] [] g
  refine V_aload_n hM.c 0 dX6_kindAt_0 rfl rfl ?_
  refine V_iload_n hM.c 1 dX6_kindAt_1 rfl rfl ?_
  replace h := bnd_some h
  obtain ⟨r1, g2, e3, h⟩ := h
  refine V_callV (As := [.int x1]) (c := 4) (T := TX6) (N := 10) hM.c hM.a mq_X6_hasNode mi_X6_hasNode tw_679 (hM.d (by decide)) hM.z rfl (by omega) (zc_X6_hasNode e3) (vm_X6_hasNode e3) rfl (Nat.le_of_ble_eq_true rfl) dX6_kindAt_2 ?_
  refine V_if_eq hM.c 17 dX6_kindAt_5 (by decide) (fun c4 => ?_) (fun c4 => ?_)
  · replace h := ite_p h c4
    refine V_iconst (v := -1) hM.c dX6_kindAt_17 (by decide) ?_
    exact V_iretE hM h dX6_kindAt_18
  · replace h := ite_n h c4
    refine V_aload_n hM.c 0 dX6_kindAt_8 rfl rfl ?_
    replace h := drf_some h
    obtain ⟨b5, e6, h⟩ := h
    refine G4_0 hM.c tw_624 hz0 e6 dX6_kindAt_9 ?_
    refine V_iload_n hM.c 1 dX6_kindAt_12 rfl rfl ?_
    replace h := grd_some h
    obtain ⟨z7, h⟩ := h
    replace h := grd_some h
    obtain ⟨c8, h⟩ := h
    refine V_iald hM.c z7 c8 dX6_kindAt_13 ?_
    refine V_goto hM.c 18 dX6_kindAt_14 (by decide) ?_
    exact V_iretE hM h dX6_kindAt_18
def f_X6_partsOf (n : Nat) (Z : Zt) (x0 : Int32) (g : Mem) : Option (Int32 × Mem) := if x0 = 0 then (some ((0 : Int32), g)) else (if x0 = (4 : Int32) then (some ((2 : Int32), g)) else (if x0 = (5 : Int32) then (some ((2 : Int32), g)) else (some ((1 : Int32), g))))
theorem mq_X6_partsOf : Mq yX6_partsOf cX6_partsOf 1 (some .int) 1 := ⟨tw_629, tw_592, ⟨by decide +kernel, by decide +kernel, by decide +kernel⟩, by decide⟩
theorem mi_X6_partsOf : Cond.static yX6_partsOf ∈ TB := tw_628
set_option maxHeartbeats 4000000 in
set_option maxRecDepth 100000 in
theorem vm_X6_partsOf {n : Nat} {Z : Zt} {x0 : Int32} {g : Mem} {rr : Int32} {gg : Mem} (h : f_X6_partsOf n Z x0 g = some (rr, gg)) : VM yX6_partsOf cX6_partsOf 1 (some .int) 0 [.int x0] Z g (some (.int rr)) gg := by
  unfold f_X6_partsOf at h
  refine VM.of (by decide +kernel) (Nat.le_of_ble_eq_true rfl) (fun x hM => ?_)
  have hM : Cm x cX6_partsOf RX6 1 (some .int) 0 Z (some (.int rr)) gg := hM
  show V x Z 0 0 0 [(0, .int x0)] [] g
  refine V_iload_n hM.c 0 dX6_partsOf_0 rfl rfl ?_
  refine V_if_ne hM.c 6 dX6_partsOf_1 (by decide) (fun c1 => ?_) (fun c1 => ?_)
  · replace h := ite_n h c1
    refine V_iload_n hM.c 0 dX6_partsOf_6 rfl rfl ?_
    refine V_iconst (v := 4) hM.c dX6_partsOf_7 (by decide) ?_
    refine V_icmp_eq hM.c 16 dX6_partsOf_8 (by decide) (fun c2 => ?_) (fun c2 => ?_)
    · replace h := ite_p h c2
      refine V_iconst (v := 2) hM.c dX6_partsOf_16 (by decide) ?_
      refine V_goto hM.c 21 dX6_partsOf_17 (by decide) ?_
      exact V_iretE hM h dX6_partsOf_21
    · replace h := ite_n h c2
      refine V_iload_n hM.c 0 dX6_partsOf_11 rfl rfl ?_
      refine V_iconst (v := 5) hM.c dX6_partsOf_12 (by decide) ?_
      refine V_icmp_ne hM.c 20 dX6_partsOf_13 (by decide) (fun c3 => ?_) (fun c3 => ?_)
      · replace h := ite_n h c3
        refine V_iconst (v := 1) hM.c dX6_partsOf_20 (by decide) ?_
        exact V_iretE hM h dX6_partsOf_21
      · replace h := ite_p h c3
        refine V_iconst (v := 2) hM.c dX6_partsOf_16 (by decide) ?_
        refine V_goto hM.c 21 dX6_partsOf_17 (by decide) ?_
        exact V_iretE hM h dX6_partsOf_21
  · replace h := ite_p h c1
    refine V_iconst (v := 0) hM.c dX6_partsOf_4 (by decide) ?_
    exact V_iretE hM h dX6_partsOf_5
def f_X0_waiting (n : Nat) (Z : Zt) (a : Nat) (x1 : Int32) (g : Mem) : Option (Option Nat × Mem) := grd (zk Z a = 1) (if ((gI g a 3) - x1) < 0 then (some (none, g)) else (if (12 : Int32) ≤ ((gI g a 3) - x1) then (some (none, g)) else (drf (zf Z a 0) (fun b3 => grd (zk Z b3 = 16) (grd (inr ((gI g a 3) - x1) (zl Z b3)) (nam (gP g b3 ((gI g a 3) - x1).toNatClampNeg) (fun q7 => some (q7, g))))))))
theorem mq_X0_waiting : Mq yX0_waiting cX0_waiting 3 (some (.object "ProvenanceTables$Relation")) 1 := ⟨tw_740, tw_104, ⟨by decide +kernel, by decide +kernel, by decide +kernel⟩, by decide⟩
theorem mi_X0_waiting : Cond.instanceMethod yX0_waiting ∈ TB ∧ Cond.selects yX0_waiting.cls yX0_waiting yX0_waiting ∈ TB := ⟨tw_738, tw_739⟩
theorem zc_X0_waiting {n : Nat} {Z : Zt} {a : Nat} {x1 : Int32} {g : Mem} {q : Option Nat × Mem} (h : f_X0_waiting n Z a x1 g = some q) : zk Z a = 1 := (grd_some h).1
set_option maxHeartbeats 4000000 in
set_option maxRecDepth 100000 in
theorem vm_X0_waiting {n : Nat} {Z : Zt} {a : Nat} {x1 : Int32} {g : Mem} {rr : Option Nat} {gg : Mem} (h : f_X0_waiting n Z a x1 g = some (rr, gg)) : VM yX0_waiting cX0_waiting 3 (some (.object "ProvenanceTables$Relation")) 0 [.ref a, .int x1] Z g (some (va_rf rr)) gg := by
  unfold f_X0_waiting at h
  replace h := grd_some h
  obtain ⟨hz0, h⟩ := h
  refine VM.of (by decide +kernel) (Nat.le_of_ble_eq_true rfl) (fun x hM => ?_)
  have hM : Cm x cX0_waiting RX0 3 (some (.object "ProvenanceTables$Relation")) 0 Z (some (va_rf rr)) gg := hM
  show V x Z 0 0 0 [(0, va_rf (some a)), (1, .int x1)] [] g
  refine V_aload_n hM.c 0 dX0_waiting_0 rfl rfl ?_
  refine G0_3 hM.c tw_709 hz0 dX0_waiting_1 ?_
  refine V_iload_n hM.c 1 dX0_waiting_4 rfl rfl ?_
  refine V_isub hM.c dX0_waiting_5 ?_
  refine V_istore_n (i := 2) (L' := [(2, .int ((gI g a 3) - x1)), (0, va_rf (some a)), (1, .int x1)]) hM.c dX0_waiting_6 rfl (by decide) rfl ?_
  refine V_iload_n hM.c 0 dX0_waiting_7 rfl rfl ?_
  refine V_if_lt hM.c 26 dX0_waiting_8 (by decide) (fun c1 => ?_) (fun c1 => ?_)
  · replace h := ite_p h c1
    refine V_null hM.c dX0_waiting_26 ?_
    exact V_aretE hM h dX0_waiting_27
  · replace h := ite_n h c1
    refine V_iload_n hM.c 0 dX0_waiting_11 rfl rfl ?_
    refine V_bipush (v := 12) hM.c dX0_waiting_12 (by decide) ?_
    refine V_icmp_ge hM.c 26 dX0_waiting_14 (by decide) (fun c2 => ?_) (fun c2 => ?_)
    · replace h := ite_p h c2
      refine V_null hM.c dX0_waiting_26 ?_
      exact V_aretE hM h dX0_waiting_27
    · replace h := ite_n h c2
      refine V_aload_n hM.c 1 dX0_waiting_17 rfl rfl ?_
      replace h := drf_some h
      obtain ⟨b3, e4, h⟩ := h
      refine G0_0 hM.c tw_726 hz0 e4 dX0_waiting_18 ?_
      refine V_iload_n hM.c 0 dX0_waiting_21 rfl rfl ?_
      replace h := grd_some h
      obtain ⟨z5, h⟩ := h
      replace h := grd_some h
      obtain ⟨c6, h⟩ := h
      refine V_qald5 hM.c z5 c6 dX0_waiting_22 ?_
      replace h := nam_some h
      obtain ⟨q7, e8, h⟩ := h
      rw [← e8]
      refine V_goto hM.c 27 dX0_waiting_23 (by decide) ?_
      exact V_aretE hM h dX0_waiting_27
def f_X6_firstAt (n : Nat) (Z : Zt) (a : Nat) (x1 : Int32) (g : Mem) : Option (Int32 × Mem) := grd (zk Z a = 5) (bnd (f_X6_hasNode n Z a x1 g) (fun r1 g2 => if r1 = 0 then (some ((0 : Int32), g2)) else (drf (zf Z a 1) (fun b5 => grd (zk Z b5 = 12) (grd (inr x1 (zl Z b5)) (some ((gI g2 b5 x1.toNatClampNeg), g2)))))))
theorem mq_X6_firstAt : Mq yX6_firstAt cX6_firstAt 2 (some .int) 1 := ⟨tw_678, tw_592, ⟨by decide +kernel, by decide +kernel, by decide +kernel⟩, by decide⟩
theorem mi_X6_firstAt : Cond.instanceMethod yX6_firstAt ∈ TB ∧ Cond.selects yX6_firstAt.cls yX6_firstAt yX6_firstAt ∈ TB := ⟨tw_676, tw_677⟩
theorem zc_X6_firstAt {n : Nat} {Z : Zt} {a : Nat} {x1 : Int32} {g : Mem} {q : Int32 × Mem} (h : f_X6_firstAt n Z a x1 g = some q) : zk Z a = 5 := (grd_some h).1
set_option maxHeartbeats 4000000 in
set_option maxRecDepth 100000 in
theorem vm_X6_firstAt {n : Nat} {Z : Zt} {a : Nat} {x1 : Int32} {g : Mem} {rr : Int32} {gg : Mem} (h : f_X6_firstAt n Z a x1 g = some (rr, gg)) : VM yX6_firstAt cX6_firstAt 2 (some .int) 1 [.ref a, .int x1] Z g (some (.int rr)) gg := by
  unfold f_X6_firstAt at h
  replace h := grd_some h
  obtain ⟨hz0, h⟩ := h
  refine VM.of (by decide +kernel) (Nat.le_of_ble_eq_true rfl) (fun x hM => ?_)
  have hM : Cm x cX6_firstAt RX6 2 (some .int) 1 Z (some (.int rr)) gg := hM
  show V x Z 0 0 0 [(0, va_rf (some a)), (1, .int x1)] [] g
  refine V_aload_n hM.c 0 dX6_firstAt_0 rfl rfl ?_
  refine V_iload_n hM.c 1 dX6_firstAt_1 rfl rfl ?_
  replace h := bnd_some h
  obtain ⟨r1, g2, e3, h⟩ := h
  refine V_callV (As := [.int x1]) (c := 4) (T := TX6) (N := 10) hM.c hM.a mq_X6_hasNode mi_X6_hasNode tw_679 (hM.d (by decide)) hM.z rfl (by omega) (zc_X6_hasNode e3) (vm_X6_hasNode e3) rfl (Nat.le_of_ble_eq_true rfl) dX6_firstAt_2 ?_
  refine V_if_eq hM.c 17 dX6_firstAt_5 (by decide) (fun c4 => ?_) (fun c4 => ?_)
  · replace h := ite_p h c4
    refine V_iconst (v := 0) hM.c dX6_firstAt_17 (by decide) ?_
    exact V_iretE hM h dX6_firstAt_18
  · replace h := ite_n h c4
    refine V_aload_n hM.c 0 dX6_firstAt_8 rfl rfl ?_
    replace h := drf_some h
    obtain ⟨b5, e6, h⟩ := h
    refine G4_1 hM.c tw_625 hz0 e6 dX6_firstAt_9 ?_
    refine V_iload_n hM.c 1 dX6_firstAt_12 rfl rfl ?_
    replace h := grd_some h
    obtain ⟨z7, h⟩ := h
    replace h := grd_some h
    obtain ⟨c8, h⟩ := h
    refine V_iald hM.c z7 c8 dX6_firstAt_13 ?_
    refine V_goto hM.c 18 dX6_firstAt_14 (by decide) ?_
    exact V_iretE hM h dX6_firstAt_18
def f_X6_secondAt (n : Nat) (Z : Zt) (a : Nat) (x1 : Int32) (g : Mem) : Option (Int32 × Mem) := grd (zk Z a = 5) (bnd (f_X6_hasNode n Z a x1 g) (fun r1 g2 => if r1 = 0 then (some ((0 : Int32), g2)) else (drf (zf Z a 2) (fun b5 => grd (zk Z b5 = 12) (grd (inr x1 (zl Z b5)) (some ((gI g2 b5 x1.toNatClampNeg), g2)))))))
theorem mq_X6_secondAt : Mq yX6_secondAt cX6_secondAt 2 (some .int) 1 := ⟨tw_686, tw_592, ⟨by decide +kernel, by decide +kernel, by decide +kernel⟩, by decide⟩
theorem mi_X6_secondAt : Cond.instanceMethod yX6_secondAt ∈ TB ∧ Cond.selects yX6_secondAt.cls yX6_secondAt yX6_secondAt ∈ TB := ⟨tw_684, tw_685⟩
theorem zc_X6_secondAt {n : Nat} {Z : Zt} {a : Nat} {x1 : Int32} {g : Mem} {q : Int32 × Mem} (h : f_X6_secondAt n Z a x1 g = some q) : zk Z a = 5 := (grd_some h).1
set_option maxHeartbeats 4000000 in
set_option maxRecDepth 100000 in
theorem vm_X6_secondAt {n : Nat} {Z : Zt} {a : Nat} {x1 : Int32} {g : Mem} {rr : Int32} {gg : Mem} (h : f_X6_secondAt n Z a x1 g = some (rr, gg)) : VM yX6_secondAt cX6_secondAt 2 (some .int) 1 [.ref a, .int x1] Z g (some (.int rr)) gg := by
  unfold f_X6_secondAt at h
  replace h := grd_some h
  obtain ⟨hz0, h⟩ := h
  refine VM.of (by decide +kernel) (Nat.le_of_ble_eq_true rfl) (fun x hM => ?_)
  have hM : Cm x cX6_secondAt RX6 2 (some .int) 1 Z (some (.int rr)) gg := hM
  show V x Z 0 0 0 [(0, va_rf (some a)), (1, .int x1)] [] g
  refine V_aload_n hM.c 0 dX6_secondAt_0 rfl rfl ?_
  refine V_iload_n hM.c 1 dX6_secondAt_1 rfl rfl ?_
  replace h := bnd_some h
  obtain ⟨r1, g2, e3, h⟩ := h
  refine V_callV (As := [.int x1]) (c := 4) (T := TX6) (N := 10) hM.c hM.a mq_X6_hasNode mi_X6_hasNode tw_679 (hM.d (by decide)) hM.z rfl (by omega) (zc_X6_hasNode e3) (vm_X6_hasNode e3) rfl (Nat.le_of_ble_eq_true rfl) dX6_secondAt_2 ?_
  refine V_if_eq hM.c 17 dX6_secondAt_5 (by decide) (fun c4 => ?_) (fun c4 => ?_)
  · replace h := ite_p h c4
    refine V_iconst (v := 0) hM.c dX6_secondAt_17 (by decide) ?_
    exact V_iretE hM h dX6_secondAt_18
  · replace h := ite_n h c4
    refine V_aload_n hM.c 0 dX6_secondAt_8 rfl rfl ?_
    replace h := drf_some h
    obtain ⟨b5, e6, h⟩ := h
    refine G4_2 hM.c tw_626 hz0 e6 dX6_secondAt_9 ?_
    refine V_iload_n hM.c 1 dX6_secondAt_12 rfl rfl ?_
    replace h := grd_some h
    obtain ⟨z7, h⟩ := h
    replace h := grd_some h
    obtain ⟨c8, h⟩ := h
    refine V_iald hM.c z7 c8 dX6_secondAt_13 ?_
    refine V_goto hM.c 18 dX6_secondAt_14 (by decide) ?_
    exact V_iretE hM h dX6_secondAt_18
def f_X8_tableAt (n : Nat) (Z : Zt) (a : Nat) (x1 : Int32) (g : Mem) : Option (Int32 × Mem) := grd (zk Z a = 7) (bnd (f_X8_hasTag n Z a x1 g) (fun r1 g2 => if r1 = 0 then (some ((-1 : Int32), g2)) else (drf (zf Z a 1) (fun b5 => grd (zk Z b5 = 12) (grd (inr x1 (zl Z b5)) (some ((gI g2 b5 x1.toNatClampNeg), g2)))))))
theorem mq_X8_tableAt : Mq yX8_tableAt cX8_tableAt 2 (some .int) 1 := ⟨tw_29, tw_14, ⟨by decide +kernel, by decide +kernel, by decide +kernel⟩, by decide⟩
theorem mi_X8_tableAt : Cond.instanceMethod yX8_tableAt ∈ TB ∧ Cond.selects yX8_tableAt.cls yX8_tableAt yX8_tableAt ∈ TB := ⟨tw_27, tw_28⟩
theorem zc_X8_tableAt {n : Nat} {Z : Zt} {a : Nat} {x1 : Int32} {g : Mem} {q : Int32 × Mem} (h : f_X8_tableAt n Z a x1 g = some q) : zk Z a = 7 := (grd_some h).1
set_option maxHeartbeats 4000000 in
set_option maxRecDepth 100000 in
theorem vm_X8_tableAt {n : Nat} {Z : Zt} {a : Nat} {x1 : Int32} {g : Mem} {rr : Int32} {gg : Mem} (h : f_X8_tableAt n Z a x1 g = some (rr, gg)) : VM yX8_tableAt cX8_tableAt 2 (some .int) 1 [.ref a, .int x1] Z g (some (.int rr)) gg := by
  unfold f_X8_tableAt at h
  replace h := grd_some h
  obtain ⟨hz0, h⟩ := h
  refine VM.of (by decide +kernel) (Nat.le_of_ble_eq_true rfl) (fun x hM => ?_)
  have hM : Cm x cX8_tableAt RX8 2 (some .int) 1 Z (some (.int rr)) gg := hM
  show V x Z 0 0 0 [(0, va_rf (some a)), (1, .int x1)] [] g
  refine V_aload_n hM.c 0 dX8_tableAt_0 rfl rfl ?_
  refine V_iload_n hM.c 1 dX8_tableAt_1 rfl rfl ?_
  replace h := bnd_some h
  obtain ⟨r1, g2, e3, h⟩ := h
  refine V_callV (As := [.int x1]) (c := 6) (T := TX8) (N := 8) hM.c hM.a mq_X8_hasTag mi_X8_hasTag tw_31 (hM.d (by decide)) hM.z rfl (by omega) (zc_X8_hasTag e3) (vm_X8_hasTag e3) rfl (Nat.le_of_ble_eq_true rfl) dX8_tableAt_2 ?_
  refine V_if_eq hM.c 17 dX8_tableAt_5 (by decide) (fun c4 => ?_) (fun c4 => ?_)
  · replace h := ite_p h c4
    refine V_iconst (v := -1) hM.c dX8_tableAt_17 (by decide) ?_
    exact V_iretE hM h dX8_tableAt_18
  · replace h := ite_n h c4
    refine V_aload_n hM.c 0 dX8_tableAt_8 rfl rfl ?_
    replace h := drf_some h
    obtain ⟨b5, e6, h⟩ := h
    refine G6_1 hM.c tw_30 hz0 e6 dX8_tableAt_9 ?_
    refine V_iload_n hM.c 1 dX8_tableAt_12 rfl rfl ?_
    replace h := grd_some h
    obtain ⟨z7, h⟩ := h
    replace h := grd_some h
    obtain ⟨c8, h⟩ := h
    refine V_iald hM.c z7 c8 dX8_tableAt_13 ?_
    refine V_goto hM.c 18 dX8_tableAt_14 (by decide) ?_
    exact V_iretE hM h dX8_tableAt_18
def f_X8_keyOf (n : Nat) (Z : Zt) (a : Nat) (x1 : Int32) (g : Mem) : Option (Int32 × Mem) := grd (zk Z a = 7) (bnd (f_X8_hasTag n Z a x1 g) (fun r1 g2 => if r1 = 0 then (some ((0 : Int32), g2)) else (drf (zf Z a 2) (fun b5 => grd (zk Z b5 = 12) (grd (inr x1 (zl Z b5)) (some ((gI g2 b5 x1.toNatClampNeg), g2)))))))
theorem mq_X8_keyOf : Mq yX8_keyOf cX8_keyOf 2 (some .int) 1 := ⟨tw_57, tw_14, ⟨by decide +kernel, by decide +kernel, by decide +kernel⟩, by decide⟩
theorem mi_X8_keyOf : Cond.instanceMethod yX8_keyOf ∈ TB ∧ Cond.selects yX8_keyOf.cls yX8_keyOf yX8_keyOf ∈ TB := ⟨tw_55, tw_56⟩
theorem zc_X8_keyOf {n : Nat} {Z : Zt} {a : Nat} {x1 : Int32} {g : Mem} {q : Int32 × Mem} (h : f_X8_keyOf n Z a x1 g = some q) : zk Z a = 7 := (grd_some h).1
set_option maxHeartbeats 4000000 in
set_option maxRecDepth 100000 in
theorem vm_X8_keyOf {n : Nat} {Z : Zt} {a : Nat} {x1 : Int32} {g : Mem} {rr : Int32} {gg : Mem} (h : f_X8_keyOf n Z a x1 g = some (rr, gg)) : VM yX8_keyOf cX8_keyOf 2 (some .int) 1 [.ref a, .int x1] Z g (some (.int rr)) gg := by
  unfold f_X8_keyOf at h
  replace h := grd_some h
  obtain ⟨hz0, h⟩ := h
  refine VM.of (by decide +kernel) (Nat.le_of_ble_eq_true rfl) (fun x hM => ?_)
  have hM : Cm x cX8_keyOf RX8 2 (some .int) 1 Z (some (.int rr)) gg := hM
  show V x Z 0 0 0 [(0, va_rf (some a)), (1, .int x1)] [] g
  refine V_aload_n hM.c 0 dX8_keyOf_0 rfl rfl ?_
  refine V_iload_n hM.c 1 dX8_keyOf_1 rfl rfl ?_
  replace h := bnd_some h
  obtain ⟨r1, g2, e3, h⟩ := h
  refine V_callV (As := [.int x1]) (c := 6) (T := TX8) (N := 8) hM.c hM.a mq_X8_hasTag mi_X8_hasTag tw_31 (hM.d (by decide)) hM.z rfl (by omega) (zc_X8_hasTag e3) (vm_X8_hasTag e3) rfl (Nat.le_of_ble_eq_true rfl) dX8_keyOf_2 ?_
  refine V_if_eq hM.c 17 dX8_keyOf_5 (by decide) (fun c4 => ?_) (fun c4 => ?_)
  · replace h := ite_p h c4
    refine V_iconst (v := 0) hM.c dX8_keyOf_17 (by decide) ?_
    exact V_iretE hM h dX8_keyOf_18
  · replace h := ite_n h c4
    refine V_aload_n hM.c 0 dX8_keyOf_8 rfl rfl ?_
    replace h := drf_some h
    obtain ⟨b5, e6, h⟩ := h
    refine G6_2 hM.c tw_58 hz0 e6 dX8_keyOf_9 ?_
    refine V_iload_n hM.c 1 dX8_keyOf_12 rfl rfl ?_
    replace h := grd_some h
    obtain ⟨z7, h⟩ := h
    replace h := grd_some h
    obtain ⟨c8, h⟩ := h
    refine V_iald hM.c z7 c8 dX8_keyOf_13 ?_
    refine V_goto hM.c 18 dX8_keyOf_14 (by decide) ?_
    exact V_iretE hM h dX8_keyOf_18
def f_X5_clear (n : Nat) (Z : Zt) (a : Nat) (g : Mem) : Option (Unit × Mem) := grd (zk Z a = 4) (some ((), (sI g a 2 (0 : Int32))))
theorem mq_X5_clear : Mq yX5_clear cX5_clear 1 none 0 := ⟨tw_188, tw_148, ⟨by decide +kernel, by decide +kernel, by decide +kernel⟩, by decide⟩
theorem mi_X5_clear : Cond.instanceMethod yX5_clear ∈ TB ∧ Cond.selects yX5_clear.cls yX5_clear yX5_clear ∈ TB := ⟨tw_186, tw_187⟩
theorem zc_X5_clear {n : Nat} {Z : Zt} {a : Nat} {g : Mem} {q : Unit × Mem} (h : f_X5_clear n Z a g = some q) : zk Z a = 4 := (grd_some h).1
set_option maxHeartbeats 4000000 in
set_option maxRecDepth 100000 in
theorem vm_X5_clear {n : Nat} {Z : Zt} {a : Nat} {g : Mem} {rr : Unit} {gg : Mem} (h : f_X5_clear n Z a g = some (rr, gg)) : VM yX5_clear cX5_clear 1 none 0 [.ref a] Z g none gg := by
  unfold f_X5_clear at h
  replace h := grd_some h
  obtain ⟨hz0, h⟩ := h
  refine VM.of (by decide +kernel) (Nat.le_of_ble_eq_true rfl) (fun x hM => ?_)
  have hM : Cm x cX5_clear RX5 1 none 0 Z none gg := hM
  show V x Z 0 0 0 [(0, va_rf (some a))] [] g
  refine V_aload_n hM.c 0 dX5_clear_0 rfl rfl ?_
  refine V_iconst (v := 0) hM.c dX5_clear_1 (by decide) ?_
  refine P3_2 hM.c tw_150 hz0 hM.a dX5_clear_2 ?_
  exact V_vretE hM h dX5_clear_5
def f_X7_rowWith_l96 (n : Nat) (Z : Zt) (a : Nat) : Nat → Int32 → Int32 → (Option Nat) → Int32 → Mem → Option (Option Nat × Mem)
  | 0, _, _, _, _, _ => none
  | fu + 1, x1, x2, x3, x4, g => if x4 ≤ x2 then (drf x3 (fun b30 => bnd (f_X5_clear n Z b30 g) (fun r32 g33 => drf (zf Z a 0) (fun b35 => grd (zk Z b35 = 12) (grd (inr x2 (zl Z b35)) (drf (zf Z a 1) (fun b39 => grd (zk Z b39 = 15) (grd (zk Z b30 = 4) (grd (inr x2 (zl Z b39)) (some ((some b30), (sI (sP (sI g33 b35 x2.toNatClampNeg x1) b39 x2.toNatClampNeg (some b30)) a 3 ((gI (sP (sI g33 b35 x2.toNatClampNeg x1) b39 x2.toNatClampNeg (some b30)) a 3) + (1 : Int32)))))))))))))) else (drf (zf Z a 0) (fun b44 => drf (zf Z a 0) (fun b46 => grd (zk Z b46 = 12) (grd (inr (x4 - (1 : Int32)) (zl Z b46)) (grd (zk Z b44 = 12) (grd (inr x4 (zl Z b44)) (drf (zf Z a 1) (fun b52 => drf (zf Z a 1) (fun b54 => grd (zk Z b54 = 15) (grd (inr (x4 - (1 : Int32)) (zl Z b54)) (nam (gP (sI g b44 x4.toNatClampNeg (gI g b46 (x4 - (1 : Int32)).toNatClampNeg)) b54 (x4 - (1 : Int32)).toNatClampNeg) (fun q58 => drf q58 (fun b60 => grd (zk Z b52 = 15) (grd (zk Z b60 = 4) (grd (inr x4 (zl Z b52)) (f_X7_rowWith_l96 n Z a fu x1 x2 x3 (x4 + (-1 : Int32)) (sP (sI g b44 x4.toNatClampNeg (gI g b46 (x4 - (1 : Int32)).toNatClampNeg)) b52 x4.toNatClampNeg (some b60))))))))))))))))))
set_option maxHeartbeats 4000000 in
set_option maxRecDepth 100000 in
theorem vl_X7_rowWith_l96 {x : Cq} {n : Nat} {Z : Zt} {a : Nat} {rr : Option Nat} {gg : Mem} (hM : Cm x cX7_rowWith RX7 5 (some (.object "ProvenanceTables$Polynomial")) 1 Z (some (va_rf rr)) gg) (hz0 : zk Z a = 6) : ∀ (fu : Nat) (x1 : Int32) (x2 : Int32) (x3 : Option Nat) (x4 : Int32) (g : Mem), f_X7_rowWith_l96 n Z a fu x1 x2 x3 x4 g = some (rr, gg) → V x Z 0 0 96 [(0, va_rf (some a)), (1, .int x1), (2, .int x2), (3, va_rf x3), (4, .int x4)] [] g := by
  intro fu
  induction fu with
  | zero => intro x1 x2 x3 x4 g h; cases h
  | succ fu ih =>
    intro x1 x2 x3 x4 g h
    unfold f_X7_rowWith_l96 at h
    refine V_iload hM.c 4 dX7_rowWith_96 rfl ?_
    refine V_iload_n hM.c 2 dX7_rowWith_98 rfl rfl ?_
    refine V_icmp_le hM.c 140 dX7_rowWith_99 (by decide) (fun c29 => ?_) (fun c29 => ?_)
    · replace h := ite_p h c29
      refine V_aload_n hM.c 3 dX7_rowWith_140 rfl rfl ?_
      replace h := drf_some h
      obtain ⟨b30, rfl, h⟩ := h
      replace h := bnd_some h
      obtain ⟨r32, g33, e34, h⟩ := h
      refine V_callV (As := []) (c := 3) (T := TX5) (N := 3) hM.c hM.a mq_X5_clear mi_X5_clear tw_769 (hM.d (by decide)) hM.z rfl (by omega) (zc_X5_clear e34) (vm_X5_clear e34) rfl (Nat.le_of_ble_eq_true rfl) dX7_rowWith_141 ?_
      refine V_aload_n hM.c 0 dX7_rowWith_144 rfl rfl ?_
      replace h := drf_some h
      obtain ⟨b35, e36, h⟩ := h
      refine G5_0 hM.c tw_134 hz0 e36 dX7_rowWith_145 ?_
      refine V_iload_n hM.c 2 dX7_rowWith_148 rfl rfl ?_
      refine V_iload_n hM.c 1 dX7_rowWith_149 rfl rfl ?_
      replace h := grd_some h
      obtain ⟨z37, h⟩ := h
      replace h := grd_some h
      obtain ⟨c38, h⟩ := h
      refine V_iast hM.c z37 c38 hM.a dX7_rowWith_150 ?_
      refine V_aload_n hM.c 0 dX7_rowWith_151 rfl rfl ?_
      replace h := drf_some h
      obtain ⟨b39, e40, h⟩ := h
      refine G5_1 hM.c tw_144 hz0 e40 dX7_rowWith_152 ?_
      refine V_iload_n hM.c 2 dX7_rowWith_155 rfl rfl ?_
      refine V_aload_n hM.c 3 dX7_rowWith_156 rfl rfl ?_
      replace h := grd_some h
      obtain ⟨z41, h⟩ := h
      replace h := grd_some h
      obtain ⟨z42, h⟩ := h
      replace h := grd_some h
      obtain ⟨c43, h⟩ := h
      refine V_qast (t := 4) (c := 3) (r := (RX5, TX5, 3)) hM.c z41 (by omega) (by omega) c43 z42 rfl (by omega) rfl hM.a dX7_rowWith_157 ?_
      refine V_aload_n hM.c 0 dX7_rowWith_158 rfl rfl ?_
      refine V_dup hM.c dX7_rowWith_159 (rf_cat _) ?_
      refine G5_3 hM.c tw_112 hz0 dX7_rowWith_160 ?_
      refine V_iconst (v := 1) hM.c dX7_rowWith_163 (by decide) ?_
      refine V_iadd hM.c dX7_rowWith_164 ?_
      refine P5_3 hM.c tw_112 hz0 hM.a dX7_rowWith_165 ?_
      refine V_aload_n hM.c 3 dX7_rowWith_168 rfl rfl ?_
      exact V_aretE hM h dX7_rowWith_169
    · replace h := ite_n h c29
      refine V_aload_n hM.c 0 dX7_rowWith_102 rfl rfl ?_
      replace h := drf_some h
      obtain ⟨b44, e45, h⟩ := h
      refine G5_0 hM.c tw_134 hz0 e45 dX7_rowWith_103 ?_
      refine V_iload hM.c 4 dX7_rowWith_106 rfl ?_
      refine V_aload_n hM.c 0 dX7_rowWith_108 rfl rfl ?_
      replace h := drf_some h
      obtain ⟨b46, e47, h⟩ := h
      refine G5_0 hM.c tw_134 hz0 e47 dX7_rowWith_109 ?_
      refine V_iload hM.c 4 dX7_rowWith_112 rfl ?_
      refine V_iconst (v := 1) hM.c dX7_rowWith_114 (by decide) ?_
      refine V_isub hM.c dX7_rowWith_115 ?_
      replace h := grd_some h
      obtain ⟨z48, h⟩ := h
      replace h := grd_some h
      obtain ⟨c49, h⟩ := h
      refine V_iald hM.c z48 c49 dX7_rowWith_116 ?_
      replace h := grd_some h
      obtain ⟨z50, h⟩ := h
      replace h := grd_some h
      obtain ⟨c51, h⟩ := h
      refine V_iast hM.c z50 c51 hM.a dX7_rowWith_117 ?_
      refine V_aload_n hM.c 0 dX7_rowWith_118 rfl rfl ?_
      replace h := drf_some h
      obtain ⟨b52, e53, h⟩ := h
      refine G5_1 hM.c tw_144 hz0 e53 dX7_rowWith_119 ?_
      refine V_iload hM.c 4 dX7_rowWith_122 rfl ?_
      refine V_aload_n hM.c 0 dX7_rowWith_124 rfl rfl ?_
      replace h := drf_some h
      obtain ⟨b54, e55, h⟩ := h
      refine G5_1 hM.c tw_144 hz0 e55 dX7_rowWith_125 ?_
      refine V_iload hM.c 4 dX7_rowWith_128 rfl ?_
      refine V_iconst (v := 1) hM.c dX7_rowWith_130 (by decide) ?_
      refine V_isub hM.c dX7_rowWith_131 ?_
      replace h := grd_some h
      obtain ⟨z56, h⟩ := h
      replace h := grd_some h
      obtain ⟨c57, h⟩ := h
      refine V_qald4 hM.c z56 c57 dX7_rowWith_132 ?_
      replace h := nam_some h
      obtain ⟨q58, e59, h⟩ := h
      rw [← e59]
      replace h := drf_some h
      obtain ⟨b60, rfl, h⟩ := h
      replace h := grd_some h
      obtain ⟨z62, h⟩ := h
      replace h := grd_some h
      obtain ⟨z63, h⟩ := h
      replace h := grd_some h
      obtain ⟨c64, h⟩ := h
      refine V_qast (t := 4) (c := 3) (r := (RX5, TX5, 3)) hM.c z62 (by omega) (by omega) c64 z63 rfl (by omega) rfl hM.a dX7_rowWith_133 ?_
      refine V_iinc (v := (x4 + (-1 : Int32))) (L' := [(4, .int (x4 + (-1 : Int32))), (0, va_rf (some a)), (1, .int x1), (2, .int x2), (3, va_rf x3)]) hM.c 4 dX7_rowWith_134 rfl rfl (by decide) (by simp [rf_cat, cat_i, cat_l]) ?_
      refine V_goto hM.c 96 dX7_rowWith_137 (by decide) ?_
      refine V_sub [1, 2, 3, 4, 0] rfl ?_
      exact ih _ _ _ _ _ h
def f_X7_rowWith_l63 (n : Nat) (Z : Zt) (a : Nat) (x1 : Int32) (x2 : Int32) (g : Mem) : Option (Option Nat × Mem) := if (gI g a 3) < (32 : Int32) then (drf (zf Z a 1) (fun b22 => grd (zk Z b22 = 15) (grd (inr (gI g a 3) (zl Z b22)) (nam (gP g b22 (gI g a 3).toNatClampNeg) (fun q26 => if q26 = none then (some (none, g)) else (f_X7_rowWith_l96 n Z a n x1 x2 q26 (gI g a 3) g)))))) else (some (none, g))
set_option maxHeartbeats 4000000 in
set_option maxRecDepth 100000 in
theorem vl_X7_rowWith_l63 {x : Cq} {n : Nat} {Z : Zt} {a : Nat} {x1 : Int32} {x2 : Int32} {g : Mem} {rr : Option Nat} {gg : Mem} (hM : Cm x cX7_rowWith RX7 5 (some (.object "ProvenanceTables$Polynomial")) 1 Z (some (va_rf rr)) gg) (hz0 : zk Z a = 6) (h : f_X7_rowWith_l63 n Z a x1 x2 g = some (rr, gg)) : V x Z 0 0 63 [(0, va_rf (some a)), (1, .int x1), (2, .int x2)] [] g := by
  unfold f_X7_rowWith_l63 at h
  refine V_aload_n hM.c 0 dX7_rowWith_63 rfl rfl ?_
  refine G5_3 hM.c tw_112 hz0 dX7_rowWith_64 ?_
  refine V_bipush (v := 32) hM.c dX7_rowWith_67 (by decide) ?_
  refine V_icmp_lt hM.c 74 dX7_rowWith_69 (by decide) (fun c21 => ?_) (fun c21 => ?_)
  · replace h := ite_p h c21
    refine V_aload_n hM.c 0 dX7_rowWith_74 rfl rfl ?_
    replace h := drf_some h
    obtain ⟨b22, e23, h⟩ := h
    refine G5_1 hM.c tw_144 hz0 e23 dX7_rowWith_75 ?_
    refine V_aload_n hM.c 0 dX7_rowWith_78 rfl rfl ?_
    refine G5_3 hM.c tw_112 hz0 dX7_rowWith_79 ?_
    replace h := grd_some h
    obtain ⟨z24, h⟩ := h
    replace h := grd_some h
    obtain ⟨c25, h⟩ := h
    refine V_qald4 hM.c z24 c25 dX7_rowWith_82 ?_
    replace h := nam_some h
    obtain ⟨q26, e27, h⟩ := h
    rw [← e27]
    refine V_astore_n (i := 3) (L' := [(3, va_rf q26), (0, va_rf (some a)), (1, .int x1), (2, .int x2)]) hM.c dX7_rowWith_83 rfl (by decide) rfl ?_
    refine V_aload_n hM.c 0 dX7_rowWith_84 rfl rfl ?_
    refine V_ifnonnull hM.c 90 dX7_rowWith_85 (by decide) (fun c28 => ?_) (fun c28 => ?_)
    · replace h := ite_n h c28
      refine V_aload_n hM.c 1 dX7_rowWith_90 rfl rfl ?_
      refine G5_3 hM.c tw_112 hz0 dX7_rowWith_91 ?_
      refine V_istore (L' := [(4, .int (gI g a 3)), (3, va_rf q26), (0, va_rf (some a)), (1, .int x1), (2, .int x2)]) hM.c dX7_rowWith_94 (by decide) (by simp [rf_cat, cat_i, cat_l]) ?_
      refine V_sub [2, 3, 4, 1, 0] rfl ?_
      exact vl_X7_rowWith_l96 hM hz0  _ _ _ _ _ _ h
    · replace h := ite_p h c28
      refine V_null hM.c dX7_rowWith_88 ?_
      exact V_aretE hM h dX7_rowWith_89
  · replace h := ite_n h c21
    refine V_null hM.c dX7_rowWith_72 ?_
    exact V_aretE hM h dX7_rowWith_73
def f_X7_rowWith_l32 (n : Nat) (Z : Zt) (a : Nat) (x1 : Int32) (x2 : Int32) (g : Mem) : Option (Option Nat × Mem) := if (gI g a 3) ≤ x2 then (f_X7_rowWith_l63 n Z a x1 x2 g) else (if (32 : Int32) ≤ x2 then (f_X7_rowWith_l63 n Z a x1 x2 g) else (drf (zf Z a 0) (fun b10 => grd (zk Z b10 = 12) (grd (inr x2 (zl Z b10)) (if (gI g b10 x2.toNatClampNeg) = x1 then (drf (zf Z a 1) (fun b15 => grd (zk Z b15 = 15) (grd (inr x2 (zl Z b15)) (nam (gP g b15 x2.toNatClampNeg) (fun q19 => some (q19, g)))))) else (f_X7_rowWith_l63 n Z a x1 x2 g))))))
set_option maxHeartbeats 4000000 in
set_option maxRecDepth 100000 in
theorem vl_X7_rowWith_l32 {x : Cq} {n : Nat} {Z : Zt} {a : Nat} {x1 : Int32} {x2 : Int32} {g : Mem} {rr : Option Nat} {gg : Mem} (hM : Cm x cX7_rowWith RX7 5 (some (.object "ProvenanceTables$Polynomial")) 1 Z (some (va_rf rr)) gg) (hz0 : zk Z a = 6) (h : f_X7_rowWith_l32 n Z a x1 x2 g = some (rr, gg)) : V x Z 0 0 32 [(0, va_rf (some a)), (1, .int x1), (2, .int x2)] [] g := by
  unfold f_X7_rowWith_l32 at h
  refine V_iload_n hM.c 2 dX7_rowWith_32 rfl rfl ?_
  refine V_aload_n hM.c 0 dX7_rowWith_33 rfl rfl ?_
  refine G5_3 hM.c tw_112 hz0 dX7_rowWith_34 ?_
  refine V_icmp_ge hM.c 63 dX7_rowWith_37 (by decide) (fun c8 => ?_) (fun c8 => ?_)
  · replace h := ite_p h c8
    refine V_sub [0, 1, 2] rfl ?_
    exact vl_X7_rowWith_l63 hM hz0  h
  · replace h := ite_n h c8
    refine V_iload_n hM.c 2 dX7_rowWith_40 rfl rfl ?_
    refine V_bipush (v := 32) hM.c dX7_rowWith_41 (by decide) ?_
    refine V_icmp_ge hM.c 63 dX7_rowWith_43 (by decide) (fun c9 => ?_) (fun c9 => ?_)
    · replace h := ite_p h c9
      refine V_sub [0, 1, 2] rfl ?_
      exact vl_X7_rowWith_l63 hM hz0  h
    · replace h := ite_n h c9
      refine V_aload_n hM.c 0 dX7_rowWith_46 rfl rfl ?_
      replace h := drf_some h
      obtain ⟨b10, e11, h⟩ := h
      refine G5_0 hM.c tw_134 hz0 e11 dX7_rowWith_47 ?_
      refine V_iload_n hM.c 2 dX7_rowWith_50 rfl rfl ?_
      replace h := grd_some h
      obtain ⟨z12, h⟩ := h
      replace h := grd_some h
      obtain ⟨c13, h⟩ := h
      refine V_iald hM.c z12 c13 dX7_rowWith_51 ?_
      refine V_iload_n hM.c 1 dX7_rowWith_52 rfl rfl ?_
      refine V_icmp_ne hM.c 63 dX7_rowWith_53 (by decide) (fun c14 => ?_) (fun c14 => ?_)
      · replace h := ite_n h c14
        refine V_sub [0, 1, 2] rfl ?_
        exact vl_X7_rowWith_l63 hM hz0  h
      · replace h := ite_p h c14
        refine V_aload_n hM.c 0 dX7_rowWith_56 rfl rfl ?_
        replace h := drf_some h
        obtain ⟨b15, e16, h⟩ := h
        refine G5_1 hM.c tw_144 hz0 e16 dX7_rowWith_57 ?_
        refine V_iload_n hM.c 2 dX7_rowWith_60 rfl rfl ?_
        replace h := grd_some h
        obtain ⟨z17, h⟩ := h
        replace h := grd_some h
        obtain ⟨c18, h⟩ := h
        refine V_qald4 hM.c z17 c18 dX7_rowWith_61 ?_
        replace h := nam_some h
        obtain ⟨q19, e20, h⟩ := h
        rw [← e20]
        exact V_aretE hM h dX7_rowWith_62
def f_X7_rowWith_l2 (n : Nat) (Z : Zt) (a : Nat) : Nat → Int32 → Int32 → Mem → Option (Option Nat × Mem)
  | 0, _, _, _ => none
  | fu + 1, x1, x2, g => if (gI g a 3) ≤ x2 then (f_X7_rowWith_l32 n Z a x1 x2 g) else (if (32 : Int32) ≤ x2 then (f_X7_rowWith_l32 n Z a x1 x2 g) else (drf (zf Z a 0) (fun b3 => grd (zk Z b3 = 12) (grd (inr x2 (zl Z b3)) (if x1 ≤ (gI g b3 x2.toNatClampNeg) then (f_X7_rowWith_l32 n Z a x1 x2 g) else (f_X7_rowWith_l2 n Z a fu x1 (x2 + 1) g))))))
set_option maxHeartbeats 4000000 in
set_option maxRecDepth 100000 in
theorem vl_X7_rowWith_l2 {x : Cq} {n : Nat} {Z : Zt} {a : Nat} {rr : Option Nat} {gg : Mem} (hM : Cm x cX7_rowWith RX7 5 (some (.object "ProvenanceTables$Polynomial")) 1 Z (some (va_rf rr)) gg) (hz0 : zk Z a = 6) : ∀ (fu : Nat) (x1 : Int32) (x2 : Int32) (g : Mem), f_X7_rowWith_l2 n Z a fu x1 x2 g = some (rr, gg) → V x Z 0 0 2 [(0, va_rf (some a)), (1, .int x1), (2, .int x2)] [] g := by
  intro fu
  induction fu with
  | zero => intro x1 x2 g h; cases h
  | succ fu ih =>
    intro x1 x2 g h
    unfold f_X7_rowWith_l2 at h
    refine V_iload_n hM.c 2 dX7_rowWith_2 rfl rfl ?_
    refine V_aload_n hM.c 0 dX7_rowWith_3 rfl rfl ?_
    refine G5_3 hM.c tw_112 hz0 dX7_rowWith_4 ?_
    refine V_icmp_ge hM.c 32 dX7_rowWith_7 (by decide) (fun c1 => ?_) (fun c1 => ?_)
    · replace h := ite_p h c1
      refine V_sub [0, 1, 2] rfl ?_
      exact vl_X7_rowWith_l32 hM hz0  h
    · replace h := ite_n h c1
      refine V_iload_n hM.c 2 dX7_rowWith_10 rfl rfl ?_
      refine V_bipush (v := 32) hM.c dX7_rowWith_11 (by decide) ?_
      refine V_icmp_ge hM.c 32 dX7_rowWith_13 (by decide) (fun c2 => ?_) (fun c2 => ?_)
      · replace h := ite_p h c2
        refine V_sub [0, 1, 2] rfl ?_
        exact vl_X7_rowWith_l32 hM hz0  h
      · replace h := ite_n h c2
        refine V_aload_n hM.c 0 dX7_rowWith_16 rfl rfl ?_
        replace h := drf_some h
        obtain ⟨b3, e4, h⟩ := h
        refine G5_0 hM.c tw_134 hz0 e4 dX7_rowWith_17 ?_
        refine V_iload_n hM.c 2 dX7_rowWith_20 rfl rfl ?_
        replace h := grd_some h
        obtain ⟨z5, h⟩ := h
        replace h := grd_some h
        obtain ⟨c6, h⟩ := h
        refine V_iald hM.c z5 c6 dX7_rowWith_21 ?_
        refine V_iload_n hM.c 1 dX7_rowWith_22 rfl rfl ?_
        refine V_icmp_ge hM.c 32 dX7_rowWith_23 (by decide) (fun c7 => ?_) (fun c7 => ?_)
        · replace h := ite_p h c7
          refine V_sub [0, 1, 2] rfl ?_
          exact vl_X7_rowWith_l32 hM hz0  h
        · replace h := ite_n h c7
          refine V_iinc (v := (x2 + 1)) (L' := [(2, .int (x2 + 1)), (0, va_rf (some a)), (1, .int x1)]) hM.c 2 dX7_rowWith_26 rfl rfl (by decide) rfl ?_
          refine V_goto hM.c 2 dX7_rowWith_29 (by decide) ?_
          refine V_sub [1, 2, 0] rfl ?_
          exact ih _ _ _ h
def f_X7_rowWith (n : Nat) (Z : Zt) (a : Nat) (x1 : Int32) (g : Mem) : Option (Option Nat × Mem) := grd (zk Z a = 6) (f_X7_rowWith_l2 n Z a n x1 (0 : Int32) g)
theorem mq_X7_rowWith : Mq yX7_rowWith cX7_rowWith 5 (some (.object "ProvenanceTables$Polynomial")) 1 := ⟨tw_766, tw_110, ⟨by decide +kernel, by decide +kernel, by decide +kernel⟩, by decide⟩
theorem mi_X7_rowWith : Cond.instanceMethod yX7_rowWith ∈ TB ∧ Cond.selects yX7_rowWith.cls yX7_rowWith yX7_rowWith ∈ TB := ⟨tw_764, tw_765⟩
theorem zc_X7_rowWith {n : Nat} {Z : Zt} {a : Nat} {x1 : Int32} {g : Mem} {q : Option Nat × Mem} (h : f_X7_rowWith n Z a x1 g = some q) : zk Z a = 6 := (grd_some h).1
set_option maxHeartbeats 4000000 in
set_option maxRecDepth 100000 in
theorem vm_X7_rowWith {n : Nat} {Z : Zt} {a : Nat} {x1 : Int32} {g : Mem} {rr : Option Nat} {gg : Mem} (h : f_X7_rowWith n Z a x1 g = some (rr, gg)) : VM yX7_rowWith cX7_rowWith 5 (some (.object "ProvenanceTables$Polynomial")) 1 [.ref a, .int x1] Z g (some (va_rf rr)) gg := by
  unfold f_X7_rowWith at h
  replace h := grd_some h
  obtain ⟨hz0, h⟩ := h
  refine VM.of (by decide +kernel) (Nat.le_of_ble_eq_true rfl) (fun x hM => ?_)
  have hM : Cm x cX7_rowWith RX7 5 (some (.object "ProvenanceTables$Polynomial")) 1 Z (some (va_rf rr)) gg := hM
  show V x Z 0 0 0 [(0, va_rf (some a)), (1, .int x1)] [] g
  refine V_iconst (v := 0) hM.c dX7_rowWith_0 (by decide) ?_
  refine V_istore_n (i := 2) (L' := [(2, .int (0 : Int32)), (0, va_rf (some a)), (1, .int x1)]) hM.c dX7_rowWith_1 rfl (by decide) rfl ?_
  refine V_sub [1, 2, 0] rfl ?_
  exact vl_X7_rowWith_l2 hM hz0  _ _ _ _ h
def f_X5_addTerm_l107 (n : Nat) (Z : Zt) (a : Nat) : Nat → Int64 → Int64 → Int32 → Int32 → Mem → Option (Int32 × Mem)
  | 0, _, _, _, _, _ => none
  | fu + 1, x1, x3, x5, x8, g => if x8 ≤ x5 then (drf (zf Z a 0) (fun b23 => grd (zk Z b23 = 13) (grd (inr x5 (zl Z b23)) (drf (zf Z a 1) (fun b27 => grd (zk Z b27 = 13) (grd (inr x5 (zl Z b27)) (some ((1 : Int32), (sI (sJ (sJ g b23 x5.toNatClampNeg x1) b27 x5.toNatClampNeg x3) a 2 ((gI (sJ (sJ g b23 x5.toNatClampNeg x1) b27 x5.toNatClampNeg x3) a 2) + (1 : Int32))))))))))) else (drf (zf Z a 0) (fun b31 => drf (zf Z a 0) (fun b33 => grd (zk Z b33 = 13) (grd (inr (x8 - (1 : Int32)) (zl Z b33)) (grd (zk Z b31 = 13) (grd (inr x8 (zl Z b31)) (drf (zf Z a 1) (fun b39 => drf (zf Z a 1) (fun b41 => grd (zk Z b41 = 13) (grd (inr (x8 - (1 : Int32)) (zl Z b41)) (grd (zk Z b39 = 13) (grd (inr x8 (zl Z b39)) (f_X5_addTerm_l107 n Z a fu x1 x3 x5 (x8 + (-1 : Int32)) (sJ (sJ g b31 x8.toNatClampNeg (gJ g b33 (x8 - (1 : Int32)).toNatClampNeg)) b39 x8.toNatClampNeg (gJ (sJ g b31 x8.toNatClampNeg (gJ g b33 (x8 - (1 : Int32)).toNatClampNeg)) b41 (x8 - (1 : Int32)).toNatClampNeg)))))))))))))))
set_option maxHeartbeats 4000000 in
set_option maxRecDepth 100000 in
theorem vl_X5_addTerm_l107 {x : Cq} {n : Nat} {Z : Zt} {a : Nat} {rr : Int32} {gg : Mem} (hM : Cm x cX5_addTerm RX5 9 (some .boolean) 0 Z (some (.int rr)) gg) (hz0 : zk Z a = 4) : ∀ (fu : Nat) (x1 : Int64) (x3 : Int64) (x5 : Int32) (x8 : Int32) (g : Mem), f_X5_addTerm_l107 n Z a fu x1 x3 x5 x8 g = some (rr, gg) → V x Z 0 0 107 [(0, va_rf (some a)), (1, .long x1), (3, .long x3), (5, .int x5), (8, .int x8)] [] g := by
  intro fu
  induction fu with
  | zero => intro x1 x3 x5 x8 g h; cases h
  | succ fu ih =>
    intro x1 x3 x5 x8 g h
    unfold f_X5_addTerm_l107 at h
    refine V_iload hM.c 4 dX5_addTerm_107 rfl ?_
    refine V_iload hM.c 3 dX5_addTerm_109 rfl ?_
    refine V_icmp_le hM.c 152 dX5_addTerm_111 (by decide) (fun c22 => ?_) (fun c22 => ?_)
    · replace h := ite_p h c22
      refine V_aload_n hM.c 0 dX5_addTerm_152 rfl rfl ?_
      replace h := drf_some h
      obtain ⟨b23, e24, h⟩ := h
      refine G3_0 hM.c tw_155 hz0 e24 dX5_addTerm_153 ?_
      refine V_iload hM.c 3 dX5_addTerm_156 rfl ?_
      refine V_lload_n hM.c 1 dX5_addTerm_158 rfl rfl ?_
      replace h := grd_some h
      obtain ⟨z25, h⟩ := h
      replace h := grd_some h
      obtain ⟨c26, h⟩ := h
      refine V_last hM.c z25 c26 hM.a dX5_addTerm_159 ?_
      refine V_aload_n hM.c 0 dX5_addTerm_160 rfl rfl ?_
      replace h := drf_some h
      obtain ⟨b27, e28, h⟩ := h
      refine G3_1 hM.c tw_197 hz0 e28 dX5_addTerm_161 ?_
      refine V_iload hM.c 3 dX5_addTerm_164 rfl ?_
      refine V_lload_n hM.c 2 dX5_addTerm_166 rfl rfl ?_
      replace h := grd_some h
      obtain ⟨z29, h⟩ := h
      replace h := grd_some h
      obtain ⟨c30, h⟩ := h
      refine V_last hM.c z29 c30 hM.a dX5_addTerm_167 ?_
      refine V_aload_n hM.c 0 dX5_addTerm_168 rfl rfl ?_
      refine V_dup hM.c dX5_addTerm_169 (rf_cat _) ?_
      refine G3_2 hM.c tw_150 hz0 dX5_addTerm_170 ?_
      refine V_iconst (v := 1) hM.c dX5_addTerm_173 (by decide) ?_
      refine V_iadd hM.c dX5_addTerm_174 ?_
      refine P3_2 hM.c tw_150 hz0 hM.a dX5_addTerm_175 ?_
      refine V_iconst (v := 1) hM.c dX5_addTerm_178 (by decide) ?_
      exact V_zretE hM (isz_nar (by decide)) h dX5_addTerm_179
    · replace h := ite_n h c22
      refine V_aload_n hM.c 0 dX5_addTerm_114 rfl rfl ?_
      replace h := drf_some h
      obtain ⟨b31, e32, h⟩ := h
      refine G3_0 hM.c tw_155 hz0 e32 dX5_addTerm_115 ?_
      refine V_iload hM.c 4 dX5_addTerm_118 rfl ?_
      refine V_aload_n hM.c 0 dX5_addTerm_120 rfl rfl ?_
      replace h := drf_some h
      obtain ⟨b33, e34, h⟩ := h
      refine G3_0 hM.c tw_155 hz0 e34 dX5_addTerm_121 ?_
      refine V_iload hM.c 4 dX5_addTerm_124 rfl ?_
      refine V_iconst (v := 1) hM.c dX5_addTerm_126 (by decide) ?_
      refine V_isub hM.c dX5_addTerm_127 ?_
      replace h := grd_some h
      obtain ⟨z35, h⟩ := h
      replace h := grd_some h
      obtain ⟨c36, h⟩ := h
      refine V_lald hM.c z35 c36 dX5_addTerm_128 ?_
      replace h := grd_some h
      obtain ⟨z37, h⟩ := h
      replace h := grd_some h
      obtain ⟨c38, h⟩ := h
      refine V_last hM.c z37 c38 hM.a dX5_addTerm_129 ?_
      refine V_aload_n hM.c 0 dX5_addTerm_130 rfl rfl ?_
      replace h := drf_some h
      obtain ⟨b39, e40, h⟩ := h
      refine G3_1 hM.c tw_197 hz0 e40 dX5_addTerm_131 ?_
      refine V_iload hM.c 4 dX5_addTerm_134 rfl ?_
      refine V_aload_n hM.c 0 dX5_addTerm_136 rfl rfl ?_
      replace h := drf_some h
      obtain ⟨b41, e42, h⟩ := h
      refine G3_1 hM.c tw_197 hz0 e42 dX5_addTerm_137 ?_
      refine V_iload hM.c 4 dX5_addTerm_140 rfl ?_
      refine V_iconst (v := 1) hM.c dX5_addTerm_142 (by decide) ?_
      refine V_isub hM.c dX5_addTerm_143 ?_
      replace h := grd_some h
      obtain ⟨z43, h⟩ := h
      replace h := grd_some h
      obtain ⟨c44, h⟩ := h
      refine V_lald hM.c z43 c44 dX5_addTerm_144 ?_
      replace h := grd_some h
      obtain ⟨z45, h⟩ := h
      replace h := grd_some h
      obtain ⟨c46, h⟩ := h
      refine V_last hM.c z45 c46 hM.a dX5_addTerm_145 ?_
      refine V_iinc (v := (x8 + (-1 : Int32))) (L' := [(8, .int (x8 + (-1 : Int32))), (0, va_rf (some a)), (1, .long x1), (3, .long x3), (5, .int x5)]) hM.c 4 dX5_addTerm_146 rfl rfl (by decide) rfl ?_
      refine V_goto hM.c 107 dX5_addTerm_149 (by decide) ?_
      refine V_sub [1, 2, 3, 4, 0] rfl ?_
      exact ih _ _ _ _ _ h
def f_X5_addTerm_l90 (n : Nat) (Z : Zt) (a : Nat) (x1 : Int64) (x3 : Int64) (x5 : Int32) (g : Mem) : Option (Int32 × Mem) := if (gI g a 2) < (32 : Int32) then (f_X5_addTerm_l107 n Z a n x1 x3 x5 (gI g a 2) g) else (some ((0 : Int32), g))
set_option maxHeartbeats 4000000 in
set_option maxRecDepth 100000 in
theorem vl_X5_addTerm_l90 {x : Cq} {n : Nat} {Z : Zt} {a : Nat} {x1 : Int64} {x3 : Int64} {x5 : Int32} {g : Mem} {rr : Int32} {gg : Mem} (hM : Cm x cX5_addTerm RX5 9 (some .boolean) 0 Z (some (.int rr)) gg) (hz0 : zk Z a = 4) (h : f_X5_addTerm_l90 n Z a x1 x3 x5 g = some (rr, gg)) : V x Z 0 0 90 [(0, va_rf (some a)), (1, .long x1), (3, .long x3), (5, .int x5)] [] g := by
  unfold f_X5_addTerm_l90 at h
  refine V_aload_n hM.c 0 dX5_addTerm_90 rfl rfl ?_
  refine G3_2 hM.c tw_150 hz0 dX5_addTerm_91 ?_
  refine V_bipush (v := 32) hM.c dX5_addTerm_94 (by decide) ?_
  refine V_icmp_lt hM.c 101 dX5_addTerm_96 (by decide) (fun c21 => ?_) (fun c21 => ?_)
  · replace h := ite_p h c21
    refine V_aload_n hM.c 0 dX5_addTerm_101 rfl rfl ?_
    refine G3_2 hM.c tw_150 hz0 dX5_addTerm_102 ?_
    refine V_istore (L' := [(8, .int (gI g a 2)), (0, va_rf (some a)), (1, .long x1), (3, .long x3), (5, .int x5)]) hM.c dX5_addTerm_105 (by decide) rfl ?_
    refine V_sub [1, 2, 3, 4, 0] rfl ?_
    exact vl_X5_addTerm_l107 hM hz0  _ _ _ _ _ _ h
  · replace h := ite_n h c21
    refine V_iconst (v := 0) hM.c dX5_addTerm_99 (by decide) ?_
    exact V_zretE hM (isz_nar (by decide)) h dX5_addTerm_100
def f_X5_addTerm_l49 (n : Nat) (Z : Zt) (a : Nat) (x1 : Int64) (x3 : Int64) (x5 : Int32) (g : Mem) : Option (Int32 × Mem) := if (gI g a 2) ≤ x5 then (f_X5_addTerm_l90 n Z a x1 x3 x5 g) else (if (32 : Int32) ≤ x5 then (f_X5_addTerm_l90 n Z a x1 x3 x5 g) else (drf (zf Z a 0) (fun b10 => grd (zk Z b10 = 13) (grd (inr x5 (zl Z b10)) (if (lg_cmp (gJ g b10 x5.toNatClampNeg) x1) = 0 then (drf (zf Z a 1) (fun b15 => grd (zk Z b15 = 13) (grd (inr x5 (zl Z b15)) (grd (zk Z b15 = 13) (grd (inr x5 (zl Z b15)) (some ((1 : Int32), (sJ g b15 x5.toNatClampNeg ((gJ g b15 x5.toNatClampNeg) + x3))))))))) else (f_X5_addTerm_l90 n Z a x1 x3 x5 g))))))
set_option maxHeartbeats 4000000 in
set_option maxRecDepth 100000 in
theorem vl_X5_addTerm_l49 {x : Cq} {n : Nat} {Z : Zt} {a : Nat} {x1 : Int64} {x3 : Int64} {x5 : Int32} {g : Mem} {rr : Int32} {gg : Mem} (hM : Cm x cX5_addTerm RX5 9 (some .boolean) 0 Z (some (.int rr)) gg) (hz0 : zk Z a = 4) (h : f_X5_addTerm_l49 n Z a x1 x3 x5 g = some (rr, gg)) : V x Z 0 0 49 [(0, va_rf (some a)), (1, .long x1), (3, .long x3), (5, .int x5)] [] g := by
  unfold f_X5_addTerm_l49 at h
  refine V_iload hM.c 3 dX5_addTerm_49 rfl ?_
  refine V_aload_n hM.c 0 dX5_addTerm_51 rfl rfl ?_
  refine G3_2 hM.c tw_150 hz0 dX5_addTerm_52 ?_
  refine V_icmp_ge hM.c 90 dX5_addTerm_55 (by decide) (fun c8 => ?_) (fun c8 => ?_)
  · replace h := ite_p h c8
    refine V_sub [0, 1, 2, 3] rfl ?_
    exact vl_X5_addTerm_l90 hM hz0  h
  · replace h := ite_n h c8
    refine V_iload hM.c 3 dX5_addTerm_58 rfl ?_
    refine V_bipush (v := 32) hM.c dX5_addTerm_60 (by decide) ?_
    refine V_icmp_ge hM.c 90 dX5_addTerm_62 (by decide) (fun c9 => ?_) (fun c9 => ?_)
    · replace h := ite_p h c9
      refine V_sub [0, 1, 2, 3] rfl ?_
      exact vl_X5_addTerm_l90 hM hz0  h
    · replace h := ite_n h c9
      refine V_aload_n hM.c 0 dX5_addTerm_65 rfl rfl ?_
      replace h := drf_some h
      obtain ⟨b10, e11, h⟩ := h
      refine G3_0 hM.c tw_155 hz0 e11 dX5_addTerm_66 ?_
      refine V_iload hM.c 3 dX5_addTerm_69 rfl ?_
      replace h := grd_some h
      obtain ⟨z12, h⟩ := h
      replace h := grd_some h
      obtain ⟨c13, h⟩ := h
      refine V_lald hM.c z12 c13 dX5_addTerm_71 ?_
      refine V_lload_n hM.c 1 dX5_addTerm_72 rfl rfl ?_
      refine V_lcmp hM.c dX5_addTerm_73 ?_
      refine V_if_ne hM.c 90 dX5_addTerm_74 (by decide) (fun c14 => ?_) (fun c14 => ?_)
      · replace h := ite_n h c14
        refine V_sub [0, 1, 2, 3] rfl ?_
        exact vl_X5_addTerm_l90 hM hz0  h
      · replace h := ite_p h c14
        refine V_aload_n hM.c 0 dX5_addTerm_77 rfl rfl ?_
        replace h := drf_some h
        obtain ⟨b15, e16, h⟩ := h
        refine G3_1 hM.c tw_197 hz0 e16 dX5_addTerm_78 ?_
        refine V_iload hM.c 3 dX5_addTerm_81 rfl ?_
        refine V_dup2 hM.c dX5_addTerm_83 rfl (rf_cat _) ?_
        replace h := grd_some h
        obtain ⟨z17, h⟩ := h
        replace h := grd_some h
        obtain ⟨c18, h⟩ := h
        refine V_lald hM.c z17 c18 dX5_addTerm_84 ?_
        refine V_lload_n hM.c 2 dX5_addTerm_85 rfl rfl ?_
        refine V_ladd hM.c dX5_addTerm_86 ?_
        replace h := grd_some h
        obtain ⟨z19, h⟩ := h
        replace h := grd_some h
        obtain ⟨c20, h⟩ := h
        refine V_last hM.c z19 c20 hM.a dX5_addTerm_87 ?_
        refine V_iconst (v := 1) hM.c dX5_addTerm_88 (by decide) ?_
        exact V_zretE hM (isz_nar (by decide)) h dX5_addTerm_89
def f_X5_addTerm_l10 (n : Nat) (Z : Zt) (a : Nat) : Nat → Int64 → Int64 → Int32 → Int64 → Mem → Option (Int32 × Mem)
  | 0, _, _, _, _, _ => none
  | fu + 1, x1, x3, x5, x6, g => if (gI g a 2) ≤ x5 then (f_X5_addTerm_l49 n Z a x1 x3 x5 g) else (if (32 : Int32) ≤ x5 then (f_X5_addTerm_l49 n Z a x1 x3 x5 g) else (drf (zf Z a 0) (fun b3 => grd (zk Z b3 = 13) (grd (inr x5 (zl Z b3)) (if (lg_cmp ((gJ g b3 x5.toNatClampNeg) ^^^ (-9223372036854775808 : Int64)) x6) ≤ 0 then (f_X5_addTerm_l49 n Z a x1 x3 x5 g) else (f_X5_addTerm_l10 n Z a fu x1 x3 (x5 + 1) x6 g))))))
set_option maxHeartbeats 4000000 in
set_option maxRecDepth 100000 in
theorem vl_X5_addTerm_l10 {x : Cq} {n : Nat} {Z : Zt} {a : Nat} {rr : Int32} {gg : Mem} (hM : Cm x cX5_addTerm RX5 9 (some .boolean) 0 Z (some (.int rr)) gg) (hz0 : zk Z a = 4) : ∀ (fu : Nat) (x1 : Int64) (x3 : Int64) (x5 : Int32) (x6 : Int64) (g : Mem), f_X5_addTerm_l10 n Z a fu x1 x3 x5 x6 g = some (rr, gg) → V x Z 0 0 10 [(0, va_rf (some a)), (1, .long x1), (3, .long x3), (5, .int x5), (6, .long x6)] [] g := by
  intro fu
  induction fu with
  | zero => intro x1 x3 x5 x6 g h; cases h
  | succ fu ih =>
    intro x1 x3 x5 x6 g h
    unfold f_X5_addTerm_l10 at h
    refine V_iload hM.c 3 dX5_addTerm_10 rfl ?_
    refine V_aload_n hM.c 0 dX5_addTerm_12 rfl rfl ?_
    refine G3_2 hM.c tw_150 hz0 dX5_addTerm_13 ?_
    refine V_icmp_ge hM.c 49 dX5_addTerm_16 (by decide) (fun c1 => ?_) (fun c1 => ?_)
    · replace h := ite_p h c1
      refine V_sub [0, 1, 2, 3] rfl ?_
      exact vl_X5_addTerm_l49 hM hz0  h
    · replace h := ite_n h c1
      refine V_iload hM.c 3 dX5_addTerm_19 rfl ?_
      refine V_bipush (v := 32) hM.c dX5_addTerm_21 (by decide) ?_
      refine V_icmp_ge hM.c 49 dX5_addTerm_23 (by decide) (fun c2 => ?_) (fun c2 => ?_)
      · replace h := ite_p h c2
        refine V_sub [0, 1, 2, 3] rfl ?_
        exact vl_X5_addTerm_l49 hM hz0  h
      · replace h := ite_n h c2
        refine V_aload_n hM.c 0 dX5_addTerm_26 rfl rfl ?_
        replace h := drf_some h
        obtain ⟨b3, e4, h⟩ := h
        refine G3_0 hM.c tw_155 hz0 e4 dX5_addTerm_27 ?_
        refine V_iload hM.c 3 dX5_addTerm_30 rfl ?_
        replace h := grd_some h
        obtain ⟨z5, h⟩ := h
        replace h := grd_some h
        obtain ⟨c6, h⟩ := h
        refine V_lald hM.c z5 c6 dX5_addTerm_32 ?_
        refine V_ldc2 (v := -9223372036854775808) hM.c tw_202 dX5_addTerm_33 ?_
        refine V_lxor hM.c dX5_addTerm_36 ?_
        refine V_lload hM.c 4 dX5_addTerm_37 rfl ?_
        refine V_lcmp hM.c dX5_addTerm_39 ?_
        refine V_if_le hM.c 49 dX5_addTerm_40 (by decide) (fun c7 => ?_) (fun c7 => ?_)
        · replace h := ite_p h c7
          refine V_sub [0, 1, 2, 3] rfl ?_
          exact vl_X5_addTerm_l49 hM hz0  h
        · replace h := ite_n h c7
          refine V_iinc (v := (x5 + 1)) (L' := [(5, .int (x5 + 1)), (0, va_rf (some a)), (1, .long x1), (3, .long x3), (6, .long x6)]) hM.c 3 dX5_addTerm_43 rfl rfl (by decide) rfl ?_
          refine V_goto hM.c 10 dX5_addTerm_46 (by decide) ?_
          refine V_sub [1, 2, 3, 0, 4] rfl ?_
          exact ih _ _ _ _ _ h
def f_X5_addTerm (n : Nat) (Z : Zt) (a : Nat) (x1 : Int64) (x3 : Int64) (g : Mem) : Option (Int32 × Mem) := grd (zk Z a = 4) (f_X5_addTerm_l10 n Z a n x1 x3 (0 : Int32) (x1 ^^^ (-9223372036854775808 : Int64)) g)
theorem mq_X5_addTerm : Mq yX5_addTerm cX5_addTerm 9 (some .boolean) 2 := ⟨tw_201, tw_148, ⟨by decide +kernel, by decide +kernel, by decide +kernel⟩, by decide⟩
theorem mi_X5_addTerm : Cond.instanceMethod yX5_addTerm ∈ TB ∧ Cond.selects yX5_addTerm.cls yX5_addTerm yX5_addTerm ∈ TB := ⟨tw_199, tw_200⟩
theorem zc_X5_addTerm {n : Nat} {Z : Zt} {a : Nat} {x1 : Int64} {x3 : Int64} {g : Mem} {q : Int32 × Mem} (h : f_X5_addTerm n Z a x1 x3 g = some q) : zk Z a = 4 := (grd_some h).1
set_option maxHeartbeats 4000000 in
set_option maxRecDepth 100000 in
theorem vm_X5_addTerm {n : Nat} {Z : Zt} {a : Nat} {x1 : Int64} {x3 : Int64} {g : Mem} {rr : Int32} {gg : Mem} (h : f_X5_addTerm n Z a x1 x3 g = some (rr, gg)) : VM yX5_addTerm cX5_addTerm 9 (some .boolean) 0 [.ref a, .long x1, .long x3] Z g (some (.int rr)) gg := by
  unfold f_X5_addTerm at h
  replace h := grd_some h
  obtain ⟨hz0, h⟩ := h
  refine VM.of (by decide +kernel) (Nat.le_of_ble_eq_true rfl) (fun x hM => ?_)
  have hM : Cm x cX5_addTerm RX5 9 (some .boolean) 0 Z (some (.int rr)) gg := hM
  show V x Z 0 0 0 [(0, va_rf (some a)), (1, .long x1), (3, .long x3)] [] g
  refine V_iconst (v := 0) hM.c dX5_addTerm_0 (by decide) ?_
  refine V_istore (L' := [(5, .int (0 : Int32)), (0, va_rf (some a)), (1, .long x1), (3, .long x3)]) hM.c dX5_addTerm_1 (by decide) rfl ?_
  refine V_lload_n hM.c 2 dX5_addTerm_3 rfl rfl ?_
  refine V_ldc2 (v := -9223372036854775808) hM.c tw_202 dX5_addTerm_4 ?_
  refine V_lxor hM.c dX5_addTerm_7 ?_
  refine V_lstore (L' := [(6, .long (x1 ^^^ (-9223372036854775808 : Int64))), (5, .int (0 : Int32)), (0, va_rf (some a)), (1, .long x1), (3, .long x3)]) hM.c dX5_addTerm_8 (by decide) rfl ?_
  refine V_sub [2, 3, 4, 1, 0] rfl ?_
  exact vl_X5_addTerm_l10 hM hz0  _ _ _ _ _ _ h
def f_X0_fillTable_l14 (n : Nat) (Z : Zt) (a : Nat) : Nat → Int32 → Nat → Int32 → Mem → Option (Int32 × Mem)
  | 0, _, _, _, _ => none
  | fu + 1, x1, x2, x3, g => if (16 : Int32) ≤ x3 then (some ((1 : Int32), g)) else (bnd (f_X8_tableAt n Z x2 x3 g) (fun r12 g13 => if r12 = x1 then (nam (gP g13 a 1) (fun q16 => bnd (f_X8_keyOf n Z x2 x3 g13) (fun r18 g19 => drf q16 (fun b21 => bnd (f_X7_rowWith n Z b21 r18 g19) (fun r23 g24 => if r23 = none then (some ((0 : Int32), g24)) else (bnd (f_X4_ofTag n Z x3 g24) (fun r27 g28 => drf r23 (fun b30 => bnd (f_X5_addTerm n Z b30 r27 (1 : Int64) g28) (fun r32 g33 => if r32 = 0 then (some ((0 : Int32), g33)) else (f_X0_fillTable_l14 n Z a fu x1 x2 (x3 + 1) g33)))))))))) else (f_X0_fillTable_l14 n Z a fu x1 x2 (x3 + 1) g13)))
set_option maxHeartbeats 4000000 in
set_option maxRecDepth 100000 in
theorem vl_X0_fillTable_l14 {x : Cq} {n : Nat} {Z : Zt} {a : Nat} {rr : Int32} {gg : Mem} (hM : Cm x cX0_fillTable RX0 5 (some .boolean) 2 Z (some (.int rr)) gg) (hz0 : zk Z a = 1) : ∀ (fu : Nat) (x1 : Int32) (x2 : Nat) (x3 : Int32) (g : Mem), f_X0_fillTable_l14 n Z a fu x1 x2 x3 g = some (rr, gg) → V x Z 0 0 14 [(0, va_rf (some a)), (1, .int x1), (2, va_rf (some x2)), (3, .int x3)] [] g := by
  intro fu
  induction fu with
  | zero => intro x1 x2 x3 g h; cases h
  | succ fu ih =>
    intro x1 x2 x3 g h
    unfold f_X0_fillTable_l14 at h
    refine V_iload_n hM.c 3 dX0_fillTable_14 rfl rfl ?_
    refine V_bipush (v := 16) hM.c dX0_fillTable_15 (by decide) ?_
    refine V_icmp_ge hM.c 72 dX0_fillTable_17 (by decide) (fun c11 => ?_) (fun c11 => ?_)
    · replace h := ite_p h c11
      refine V_iconst (v := 1) hM.c dX0_fillTable_72 (by decide) ?_
      exact V_zretE hM (isz_nar (by decide)) h dX0_fillTable_73
    · replace h := ite_n h c11
      refine V_aload_n hM.c 2 dX0_fillTable_20 rfl rfl ?_
      refine V_iload_n hM.c 3 dX0_fillTable_21 rfl rfl ?_
      replace h := bnd_some h
      obtain ⟨r12, g13, e14, h⟩ := h
      refine V_callV (As := [.int x3]) (c := 6) (T := TX8) (N := 8) hM.c hM.a mq_X8_tableAt mi_X8_tableAt tw_748 (hM.d (by decide)) hM.z rfl (by omega) (zc_X8_tableAt e14) (vm_X8_tableAt e14) rfl (Nat.le_of_ble_eq_true rfl) dX0_fillTable_22 ?_
      refine V_iload_n hM.c 1 dX0_fillTable_25 rfl rfl ?_
      refine V_icmp_eq hM.c 32 dX0_fillTable_26 (by decide) (fun c15 => ?_) (fun c15 => ?_)
      · replace h := ite_p h c15
        refine V_aload_n hM.c 0 dX0_fillTable_32 rfl rfl ?_
        replace h := nam_some h
        obtain ⟨q16, e17, h⟩ := h
        refine G0_1 hM.c tw_710 hz0 e17 dX0_fillTable_33 ?_
        refine V_aload_n hM.c 2 dX0_fillTable_36 rfl rfl ?_
        refine V_iload_n hM.c 3 dX0_fillTable_37 rfl rfl ?_
        replace h := bnd_some h
        obtain ⟨r18, g19, e20, h⟩ := h
        refine V_callV (As := [.int x3]) (c := 6) (T := TX8) (N := 8) hM.c hM.a mq_X8_keyOf mi_X8_keyOf tw_758 (hM.d (by decide)) hM.z rfl (by omega) (zc_X8_keyOf e20) (vm_X8_keyOf e20) rfl (by simp [rf_cat, cat_i, cat_l]) dX0_fillTable_38 ?_
        replace h := drf_some h
        obtain ⟨b21, rfl, h⟩ := h
        replace h := bnd_some h
        obtain ⟨r23, g24, e25, h⟩ := h
        refine V_callV (As := [.int r18]) (c := 5) (T := TX7) (N := 4) hM.c hM.a mq_X7_rowWith mi_X7_rowWith tw_763 (hM.d (by decide)) hM.z rfl (by omega) (zc_X7_rowWith e25) (vm_X7_rowWith e25) rfl (Nat.le_of_ble_eq_true rfl) dX0_fillTable_41 ?_
        refine V_astore (L' := [(4, va_rf r23), (0, va_rf (some a)), (1, .int x1), (2, va_rf (some x2)), (3, .int x3)]) hM.c dX0_fillTable_44 (by decide) rfl ?_
        refine V_aload hM.c 0 dX0_fillTable_46 rfl ?_
        refine V_ifnull hM.c 64 dX0_fillTable_48 (by decide) (fun c26 => ?_) (fun c26 => ?_)
        · replace h := ite_p h c26
          refine V_iconst (v := 0) hM.c dX0_fillTable_64 (by decide) ?_
          exact V_zretE hM (isz_nar (by decide)) h dX0_fillTable_65
        · replace h := ite_n h c26
          refine V_aload hM.c 0 dX0_fillTable_51 rfl ?_
          refine V_iload_n hM.c 4 dX0_fillTable_53 rfl rfl ?_
          replace h := bnd_some h
          obtain ⟨r27, g28, e29, h⟩ := h
          refine V_callS (As := [.int x3]) hM.c hM.a mq_X4_ofTag mi_X4_ofTag tw_775 (hM.d (by decide)) hM.z (vm_X4_ofTag e29) rfl (by simp [rf_cat, cat_i, cat_l]) dX0_fillTable_54 ?_
          refine V_lconst (v := 1) hM.c dX0_fillTable_57 (by decide) ?_
          replace h := drf_some h
          obtain ⟨b30, rfl, h⟩ := h
          replace h := bnd_some h
          obtain ⟨r32, g33, e34, h⟩ := h
          refine V_callV (As := [.long r27, .long (1 : Int64)]) (c := 3) (T := TX5) (N := 3) hM.c hM.a mq_X5_addTerm mi_X5_addTerm tw_779 (hM.d (by decide)) hM.z rfl (by omega) (zc_X5_addTerm e34) (vm_X5_addTerm e34) rfl (Nat.le_of_ble_eq_true rfl) dX0_fillTable_58 ?_
          refine V_if_ne hM.c 66 dX0_fillTable_61 (by decide) (fun c35 => ?_) (fun c35 => ?_)
          · replace h := ite_n h c35
            refine V_iinc (v := (x3 + 1)) (L' := [(3, .int (x3 + 1)), (4, va_rf (some b30)), (0, va_rf (some a)), (1, .int x1), (2, va_rf (some x2))]) hM.c 4 dX0_fillTable_66 rfl rfl (by decide) rfl ?_
            refine V_goto hM.c 14 dX0_fillTable_69 (by decide) ?_
            refine V_sub [2, 3, 4, 0] rfl ?_
            exact ih _ _ _ _ h
          · replace h := ite_p h c35
            refine V_iconst (v := 0) hM.c dX0_fillTable_64 (by decide) ?_
            exact V_zretE hM (isz_nar (by decide)) h dX0_fillTable_65
      · replace h := ite_n h c15
        refine V_goto hM.c 66 dX0_fillTable_29 (by decide) ?_
        refine V_iinc (v := (x3 + 1)) (L' := [(3, .int (x3 + 1)), (0, va_rf (some a)), (1, .int x1), (2, va_rf (some x2))]) hM.c 3 dX0_fillTable_66 rfl rfl (by decide) rfl ?_
        refine V_goto hM.c 14 dX0_fillTable_69 (by decide) ?_
        refine V_sub [1, 2, 3, 0] rfl ?_
        exact ih _ _ _ _ h
def f_X0_fillTable (n : Nat) (Z : Zt) (a : Nat) (x1 : Int32) (x2 : Nat) (g : Mem) : Option (Int32 × Mem) := grd (zk Z a = 1) (nam (gP g a 1) (fun q1 => bnd (f_X8_widthOf n Z x2 x1 g) (fun r3 g4 => drf q1 (fun b6 => bnd (f_X7_clear n Z b6 r3 g4) (fun r8 g9 => f_X0_fillTable_l14 n Z a n x1 x2 (0 : Int32) g9)))))
theorem mq_X0_fillTable : Mq yX0_fillTable cX0_fillTable 5 (some .boolean) 2 := ⟨tw_746, tw_104, ⟨by decide +kernel, by decide +kernel, by decide +kernel⟩, by decide⟩
theorem mi_X0_fillTable : Cond.instanceMethod yX0_fillTable ∈ TB ∧ Cond.selects yX0_fillTable.cls yX0_fillTable yX0_fillTable ∈ TB := ⟨tw_744, tw_745⟩
theorem zc_X0_fillTable {n : Nat} {Z : Zt} {a : Nat} {x1 : Int32} {x2 : Nat} {g : Mem} {q : Int32 × Mem} (h : f_X0_fillTable n Z a x1 x2 g = some q) : zk Z a = 1 := (grd_some h).1
set_option maxHeartbeats 4000000 in
set_option maxRecDepth 100000 in
theorem vm_X0_fillTable {n : Nat} {Z : Zt} {a : Nat} {x1 : Int32} {x2 : Nat} {g : Mem} {rr : Int32} {gg : Mem} (h : f_X0_fillTable n Z a x1 x2 g = some (rr, gg)) : VM yX0_fillTable cX0_fillTable 5 (some .boolean) 2 [.ref a, .int x1, va_rf (some x2)] Z g (some (.int rr)) gg := by
  unfold f_X0_fillTable at h
  replace h := grd_some h
  obtain ⟨hz0, h⟩ := h
  refine VM.of (by decide +kernel) (Nat.le_of_ble_eq_true rfl) (fun x hM => ?_)
  have hM : Cm x cX0_fillTable RX0 5 (some .boolean) 2 Z (some (.int rr)) gg := hM
  show V x Z 0 0 0 [(0, va_rf (some a)), (1, .int x1), (2, va_rf (some x2))] [] g
  refine V_aload_n hM.c 0 dX0_fillTable_0 rfl rfl ?_
  replace h := nam_some h
  obtain ⟨q1, e2, h⟩ := h
  refine G0_1 hM.c tw_710 hz0 e2 dX0_fillTable_1 ?_
  refine V_aload_n hM.c 2 dX0_fillTable_4 rfl rfl ?_
  refine V_iload_n hM.c 1 dX0_fillTable_5 rfl rfl ?_
  replace h := bnd_some h
  obtain ⟨r3, g4, e5, h⟩ := h
  refine V_callV (As := [.int x1]) (c := 6) (T := TX8) (N := 8) hM.c hM.a mq_X8_widthOf mi_X8_widthOf tw_747 (hM.d (by decide)) hM.z rfl (by omega) (zc_X8_widthOf e5) (vm_X8_widthOf e5) rfl (by simp [rf_cat, cat_i, cat_l]) dX0_fillTable_6 ?_
  replace h := drf_some h
  obtain ⟨b6, rfl, h⟩ := h
  replace h := bnd_some h
  obtain ⟨r8, g9, e10, h⟩ := h
  refine V_callV (As := [.int r3]) (c := 5) (T := TX7) (N := 4) hM.c hM.a mq_X7_clear mi_X7_clear tw_715 (hM.d (by decide)) hM.z rfl (by omega) (zc_X7_clear e10) (vm_X7_clear e10) rfl (Nat.le_of_ble_eq_true rfl) dX0_fillTable_9 ?_
  refine V_iconst (v := 0) hM.c dX0_fillTable_12 (by decide) ?_
  refine V_istore_n (i := 3) (L' := [(3, .int (0 : Int32)), (0, va_rf (some a)), (1, .int x1), (2, va_rf (some x2))]) hM.c dX0_fillTable_13 rfl (by decide) rfl ?_
  refine V_sub [1, 2, 3, 0] rfl ?_
  exact vl_X0_fillTable_l14 hM hz0  _ _ _ _ _ h
def f_X7_width (n : Nat) (Z : Zt) (a : Nat) (g : Mem) : Option (Int32 × Mem) := grd (zk Z a = 6) (some ((gI g a 2), g))
theorem mq_X7_width : Mq yX7_width cX7_width 1 (some .int) 0 := ⟨tw_120, tw_110, ⟨by decide +kernel, by decide +kernel, by decide +kernel⟩, by decide⟩
theorem mi_X7_width : Cond.instanceMethod yX7_width ∈ TB ∧ Cond.selects yX7_width.cls yX7_width yX7_width ∈ TB := ⟨tw_118, tw_119⟩
theorem zc_X7_width {n : Nat} {Z : Zt} {a : Nat} {g : Mem} {q : Int32 × Mem} (h : f_X7_width n Z a g = some q) : zk Z a = 6 := (grd_some h).1
set_option maxHeartbeats 4000000 in
set_option maxRecDepth 100000 in
theorem vm_X7_width {n : Nat} {Z : Zt} {a : Nat} {g : Mem} {rr : Int32} {gg : Mem} (h : f_X7_width n Z a g = some (rr, gg)) : VM yX7_width cX7_width 1 (some .int) 0 [.ref a] Z g (some (.int rr)) gg := by
  unfold f_X7_width at h
  replace h := grd_some h
  obtain ⟨hz0, h⟩ := h
  refine VM.of (by decide +kernel) (Nat.le_of_ble_eq_true rfl) (fun x hM => ?_)
  have hM : Cm x cX7_width RX7 1 (some .int) 0 Z (some (.int rr)) gg := hM
  show V x Z 0 0 0 [(0, va_rf (some a))] [] g
  refine V_aload_n hM.c 0 dX7_width_0 rfl rfl ?_
  refine G5_2 hM.c tw_121 hz0 dX7_width_1 ?_
  exact V_iretE hM h dX7_width_4
def f_X7_size (n : Nat) (Z : Zt) (a : Nat) (g : Mem) : Option (Int32 × Mem) := grd (zk Z a = 6) (some ((gI g a 3), g))
theorem mq_X7_size : Mq yX7_size cX7_size 1 (some .int) 0 := ⟨tw_111, tw_110, ⟨by decide +kernel, by decide +kernel, by decide +kernel⟩, by decide⟩
theorem mi_X7_size : Cond.instanceMethod yX7_size ∈ TB ∧ Cond.selects yX7_size.cls yX7_size yX7_size ∈ TB := ⟨tw_108, tw_109⟩
theorem zc_X7_size {n : Nat} {Z : Zt} {a : Nat} {g : Mem} {q : Int32 × Mem} (h : f_X7_size n Z a g = some q) : zk Z a = 6 := (grd_some h).1
set_option maxHeartbeats 4000000 in
set_option maxRecDepth 100000 in
theorem vm_X7_size {n : Nat} {Z : Zt} {a : Nat} {g : Mem} {rr : Int32} {gg : Mem} (h : f_X7_size n Z a g = some (rr, gg)) : VM yX7_size cX7_size 1 (some .int) 0 [.ref a] Z g (some (.int rr)) gg := by
  unfold f_X7_size at h
  replace h := grd_some h
  obtain ⟨hz0, h⟩ := h
  refine VM.of (by decide +kernel) (Nat.le_of_ble_eq_true rfl) (fun x hM => ?_)
  have hM : Cm x cX7_size RX7 1 (some .int) 0 Z (some (.int rr)) gg := hM
  show V x Z 0 0 0 [(0, va_rf (some a))] [] g
  refine V_aload_n hM.c 0 dX7_size_0 rfl rfl ?_
  refine G5_3 hM.c tw_112 hz0 dX7_size_1 ?_
  exact V_iretE hM h dX7_size_4
def f_X7_hasRow (n : Nat) (Z : Zt) (a : Nat) (x1 : Int32) (g : Mem) : Option (Int32 × Mem) := grd (zk Z a = 6) (if x1 < 0 then (some ((0 : Int32), g)) else (if (gI g a 3) ≤ x1 then (some ((0 : Int32), g)) else (if (32 : Int32) ≤ x1 then (some ((0 : Int32), g)) else (some ((1 : Int32), g)))))
theorem mq_X7_hasRow : Mq yX7_hasRow cX7_hasRow 2 (some .boolean) 1 := ⟨tw_129, tw_110, ⟨by decide +kernel, by decide +kernel, by decide +kernel⟩, by decide⟩
theorem mi_X7_hasRow : Cond.instanceMethod yX7_hasRow ∈ TB ∧ Cond.selects yX7_hasRow.cls yX7_hasRow yX7_hasRow ∈ TB := ⟨tw_127, tw_128⟩
theorem zc_X7_hasRow {n : Nat} {Z : Zt} {a : Nat} {x1 : Int32} {g : Mem} {q : Int32 × Mem} (h : f_X7_hasRow n Z a x1 g = some q) : zk Z a = 6 := (grd_some h).1
set_option maxHeartbeats 4000000 in
set_option maxRecDepth 100000 in
theorem vm_X7_hasRow {n : Nat} {Z : Zt} {a : Nat} {x1 : Int32} {g : Mem} {rr : Int32} {gg : Mem} (h : f_X7_hasRow n Z a x1 g = some (rr, gg)) : VM yX7_hasRow cX7_hasRow 2 (some .boolean) 0 [.ref a, .int x1] Z g (some (.int rr)) gg := by
  unfold f_X7_hasRow at h
  replace h := grd_some h
  obtain ⟨hz0, h⟩ := h
  refine VM.of (by decide +kernel) (Nat.le_of_ble_eq_true rfl) (fun x hM => ?_)
  have hM : Cm x cX7_hasRow RX7 2 (some .boolean) 0 Z (some (.int rr)) gg := hM
  show V x Z 0 0 0 [(0, va_rf (some a)), (1, .int x1)] [] g
  refine V_iload_n hM.c 1 dX7_hasRow_0 rfl rfl ?_
  refine V_if_lt hM.c 22 dX7_hasRow_1 (by decide) (fun c1 => ?_) (fun c1 => ?_)
  · replace h := ite_p h c1
    refine V_iconst (v := 0) hM.c dX7_hasRow_22 (by decide) ?_
    exact V_zretE hM (isz_nar (by decide)) h dX7_hasRow_23
  · replace h := ite_n h c1
    refine V_iload_n hM.c 1 dX7_hasRow_4 rfl rfl ?_
    refine V_aload_n hM.c 0 dX7_hasRow_5 rfl rfl ?_
    refine G5_3 hM.c tw_112 hz0 dX7_hasRow_6 ?_
    refine V_icmp_ge hM.c 22 dX7_hasRow_9 (by decide) (fun c2 => ?_) (fun c2 => ?_)
    · replace h := ite_p h c2
      refine V_iconst (v := 0) hM.c dX7_hasRow_22 (by decide) ?_
      exact V_zretE hM (isz_nar (by decide)) h dX7_hasRow_23
    · replace h := ite_n h c2
      refine V_iload_n hM.c 1 dX7_hasRow_12 rfl rfl ?_
      refine V_bipush (v := 32) hM.c dX7_hasRow_13 (by decide) ?_
      refine V_icmp_ge hM.c 22 dX7_hasRow_15 (by decide) (fun c3 => ?_) (fun c3 => ?_)
      · replace h := ite_p h c3
        refine V_iconst (v := 0) hM.c dX7_hasRow_22 (by decide) ?_
        exact V_zretE hM (isz_nar (by decide)) h dX7_hasRow_23
      · replace h := ite_n h c3
        refine V_iconst (v := 1) hM.c dX7_hasRow_18 (by decide) ?_
        refine V_goto hM.c 23 dX7_hasRow_19 (by decide) ?_
        exact V_zretE hM (isz_nar (by decide)) h dX7_hasRow_23
def f_X7_keyAt (n : Nat) (Z : Zt) (a : Nat) (x1 : Int32) (g : Mem) : Option (Int32 × Mem) := grd (zk Z a = 6) (bnd (f_X7_hasRow n Z a x1 g) (fun r1 g2 => if r1 = 0 then (some ((0 : Int32), g2)) else (drf (zf Z a 0) (fun b5 => grd (zk Z b5 = 12) (grd (inr x1 (zl Z b5)) (some ((gI g2 b5 x1.toNatClampNeg), g2)))))))
theorem mq_X7_keyAt : Mq yX7_keyAt cX7_keyAt 2 (some .int) 1 := ⟨tw_133, tw_110, ⟨by decide +kernel, by decide +kernel, by decide +kernel⟩, by decide⟩
theorem mi_X7_keyAt : Cond.instanceMethod yX7_keyAt ∈ TB ∧ Cond.selects yX7_keyAt.cls yX7_keyAt yX7_keyAt ∈ TB := ⟨tw_131, tw_132⟩
theorem zc_X7_keyAt {n : Nat} {Z : Zt} {a : Nat} {x1 : Int32} {g : Mem} {q : Int32 × Mem} (h : f_X7_keyAt n Z a x1 g = some q) : zk Z a = 6 := (grd_some h).1
set_option maxHeartbeats 4000000 in
set_option maxRecDepth 100000 in
theorem vm_X7_keyAt {n : Nat} {Z : Zt} {a : Nat} {x1 : Int32} {g : Mem} {rr : Int32} {gg : Mem} (h : f_X7_keyAt n Z a x1 g = some (rr, gg)) : VM yX7_keyAt cX7_keyAt 2 (some .int) 1 [.ref a, .int x1] Z g (some (.int rr)) gg := by
  unfold f_X7_keyAt at h
  replace h := grd_some h
  obtain ⟨hz0, h⟩ := h
  refine VM.of (by decide +kernel) (Nat.le_of_ble_eq_true rfl) (fun x hM => ?_)
  have hM : Cm x cX7_keyAt RX7 2 (some .int) 1 Z (some (.int rr)) gg := hM
  show V x Z 0 0 0 [(0, va_rf (some a)), (1, .int x1)] [] g
  refine V_aload_n hM.c 0 dX7_keyAt_0 rfl rfl ?_
  refine V_iload_n hM.c 1 dX7_keyAt_1 rfl rfl ?_
  replace h := bnd_some h
  obtain ⟨r1, g2, e3, h⟩ := h
  refine V_callV (As := [.int x1]) (c := 5) (T := TX7) (N := 4) hM.c hM.a mq_X7_hasRow mi_X7_hasRow tw_135 (hM.d (by decide)) hM.z rfl (by omega) (zc_X7_hasRow e3) (vm_X7_hasRow e3) rfl (Nat.le_of_ble_eq_true rfl) dX7_keyAt_2 ?_
  refine V_if_eq hM.c 17 dX7_keyAt_5 (by decide) (fun c4 => ?_) (fun c4 => ?_)
  · replace h := ite_p h c4
    refine V_iconst (v := 0) hM.c dX7_keyAt_17 (by decide) ?_
    exact V_iretE hM h dX7_keyAt_18
  · replace h := ite_n h c4
    refine V_aload_n hM.c 0 dX7_keyAt_8 rfl rfl ?_
    replace h := drf_some h
    obtain ⟨b5, e6, h⟩ := h
    refine G5_0 hM.c tw_134 hz0 e6 dX7_keyAt_9 ?_
    refine V_iload_n hM.c 1 dX7_keyAt_12 rfl rfl ?_
    replace h := grd_some h
    obtain ⟨z7, h⟩ := h
    replace h := grd_some h
    obtain ⟨c8, h⟩ := h
    refine V_iald hM.c z7 c8 dX7_keyAt_13 ?_
    refine V_goto hM.c 18 dX7_keyAt_14 (by decide) ?_
    exact V_iretE hM h dX7_keyAt_18
def f_X7_polynomialAt (n : Nat) (Z : Zt) (a : Nat) (x1 : Int32) (g : Mem) : Option (Option Nat × Mem) := grd (zk Z a = 6) (bnd (f_X7_hasRow n Z a x1 g) (fun r1 g2 => if r1 = 0 then (some (none, g2)) else (drf (zf Z a 1) (fun b5 => grd (zk Z b5 = 15) (grd (inr x1 (zl Z b5)) (nam (gP g2 b5 x1.toNatClampNeg) (fun q9 => some (q9, g2))))))))
theorem mq_X7_polynomialAt : Mq yX7_polynomialAt cX7_polynomialAt 2 (some (.object "ProvenanceTables$Polynomial")) 1 := ⟨tw_143, tw_110, ⟨by decide +kernel, by decide +kernel, by decide +kernel⟩, by decide⟩
theorem mi_X7_polynomialAt : Cond.instanceMethod yX7_polynomialAt ∈ TB ∧ Cond.selects yX7_polynomialAt.cls yX7_polynomialAt yX7_polynomialAt ∈ TB := ⟨tw_141, tw_142⟩
theorem zc_X7_polynomialAt {n : Nat} {Z : Zt} {a : Nat} {x1 : Int32} {g : Mem} {q : Option Nat × Mem} (h : f_X7_polynomialAt n Z a x1 g = some q) : zk Z a = 6 := (grd_some h).1
set_option maxHeartbeats 4000000 in
set_option maxRecDepth 100000 in
theorem vm_X7_polynomialAt {n : Nat} {Z : Zt} {a : Nat} {x1 : Int32} {g : Mem} {rr : Option Nat} {gg : Mem} (h : f_X7_polynomialAt n Z a x1 g = some (rr, gg)) : VM yX7_polynomialAt cX7_polynomialAt 2 (some (.object "ProvenanceTables$Polynomial")) 1 [.ref a, .int x1] Z g (some (va_rf rr)) gg := by
  unfold f_X7_polynomialAt at h
  replace h := grd_some h
  obtain ⟨hz0, h⟩ := h
  refine VM.of (by decide +kernel) (Nat.le_of_ble_eq_true rfl) (fun x hM => ?_)
  have hM : Cm x cX7_polynomialAt RX7 2 (some (.object "ProvenanceTables$Polynomial")) 1 Z (some (va_rf rr)) gg := hM
  show V x Z 0 0 0 [(0, va_rf (some a)), (1, .int x1)] [] g
  refine V_aload_n hM.c 0 dX7_polynomialAt_0 rfl rfl ?_
  refine V_iload_n hM.c 1 dX7_polynomialAt_1 rfl rfl ?_
  replace h := bnd_some h
  obtain ⟨r1, g2, e3, h⟩ := h
  refine V_callV (As := [.int x1]) (c := 5) (T := TX7) (N := 4) hM.c hM.a mq_X7_hasRow mi_X7_hasRow tw_135 (hM.d (by decide)) hM.z rfl (by omega) (zc_X7_hasRow e3) (vm_X7_hasRow e3) rfl (Nat.le_of_ble_eq_true rfl) dX7_polynomialAt_2 ?_
  refine V_if_eq hM.c 17 dX7_polynomialAt_5 (by decide) (fun c4 => ?_) (fun c4 => ?_)
  · replace h := ite_p h c4
    refine V_null hM.c dX7_polynomialAt_17 ?_
    exact V_aretE hM h dX7_polynomialAt_18
  · replace h := ite_n h c4
    refine V_aload_n hM.c 0 dX7_polynomialAt_8 rfl rfl ?_
    replace h := drf_some h
    obtain ⟨b5, e6, h⟩ := h
    refine G5_1 hM.c tw_144 hz0 e6 dX7_polynomialAt_9 ?_
    refine V_iload_n hM.c 1 dX7_polynomialAt_12 rfl rfl ?_
    replace h := grd_some h
    obtain ⟨z7, h⟩ := h
    replace h := grd_some h
    obtain ⟨c8, h⟩ := h
    refine V_qald4 hM.c z7 c8 dX7_polynomialAt_13 ?_
    replace h := nam_some h
    obtain ⟨q9, e10, h⟩ := h
    rw [← e10]
    refine V_goto hM.c 18 dX7_polynomialAt_14 (by decide) ?_
    exact V_aretE hM h dX7_polynomialAt_18
def f_X5_addAll_l2 (n : Nat) (Z : Zt) (a : Nat) : Nat → Nat → Int32 → Mem → Option (Int32 × Mem)
  | 0, _, _, _ => none
  | fu + 1, x1, x2, g => grd (zk Z x1 = 4) (if (gI g x1 2) ≤ x2 then (some ((1 : Int32), g)) else (if (32 : Int32) ≤ x2 then (some ((1 : Int32), g)) else (grd (zk Z x1 = 4) (drf (zf Z x1 0) (fun b5 => grd (zk Z b5 = 13) (grd (inr x2 (zl Z b5)) (grd (zk Z x1 = 4) (drf (zf Z x1 1) (fun b10 => grd (zk Z b10 = 13) (grd (inr x2 (zl Z b10)) (bnd (f_X5_addTerm n Z a (gJ g b5 x2.toNatClampNeg) (gJ g b10 x2.toNatClampNeg) g) (fun r14 g15 => if r14 = 0 then (some ((0 : Int32), g15)) else (f_X5_addAll_l2 n Z a fu x1 (x2 + 1) g15)))))))))))))
set_option maxHeartbeats 4000000 in
set_option maxRecDepth 100000 in
theorem vl_X5_addAll_l2 {x : Cq} {n : Nat} {Z : Zt} {a : Nat} {rr : Int32} {gg : Mem} (hM : Cm x cX5_addAll RX5 3 (some .boolean) 1 Z (some (.int rr)) gg) (hz0 : zk Z a = 4) : ∀ (fu : Nat) (x1 : Nat) (x2 : Int32) (g : Mem), f_X5_addAll_l2 n Z a fu x1 x2 g = some (rr, gg) → V x Z 0 0 2 [(0, va_rf (some a)), (1, va_rf (some x1)), (2, .int x2)] [] g := by
  intro fu
  induction fu with
  | zero => intro x1 x2 g h; cases h
  | succ fu ih =>
    intro x1 x2 g h
    unfold f_X5_addAll_l2 at h
    refine V_iload_n hM.c 2 dX5_addAll_2 rfl rfl ?_
    refine V_aload_n hM.c 1 dX5_addAll_3 rfl rfl ?_
    replace h := grd_some h
    obtain ⟨z1, h⟩ := h
    refine G3_2 hM.c tw_150 z1 dX5_addAll_4 ?_
    refine V_icmp_ge hM.c 43 dX5_addAll_7 (by decide) (fun c2 => ?_) (fun c2 => ?_)
    · replace h := ite_p h c2
      refine V_iconst (v := 1) hM.c dX5_addAll_43 (by decide) ?_
      exact V_zretE hM (isz_nar (by decide)) h dX5_addAll_44
    · replace h := ite_n h c2
      refine V_iload_n hM.c 2 dX5_addAll_10 rfl rfl ?_
      refine V_bipush (v := 32) hM.c dX5_addAll_11 (by decide) ?_
      refine V_icmp_ge hM.c 43 dX5_addAll_13 (by decide) (fun c3 => ?_) (fun c3 => ?_)
      · replace h := ite_p h c3
        refine V_iconst (v := 1) hM.c dX5_addAll_43 (by decide) ?_
        exact V_zretE hM (isz_nar (by decide)) h dX5_addAll_44
      · replace h := ite_n h c3
        refine V_aload_n hM.c 0 dX5_addAll_16 rfl rfl ?_
        refine V_aload_n hM.c 1 dX5_addAll_17 rfl rfl ?_
        replace h := grd_some h
        obtain ⟨z4, h⟩ := h
        replace h := drf_some h
        obtain ⟨b5, e6, h⟩ := h
        refine G3_0 hM.c tw_155 z4 e6 dX5_addAll_18 ?_
        refine V_iload_n hM.c 2 dX5_addAll_21 rfl rfl ?_
        replace h := grd_some h
        obtain ⟨z7, h⟩ := h
        replace h := grd_some h
        obtain ⟨c8, h⟩ := h
        refine V_lald hM.c z7 c8 dX5_addAll_22 ?_
        refine V_aload_n hM.c 1 dX5_addAll_23 rfl rfl ?_
        replace h := grd_some h
        obtain ⟨z9, h⟩ := h
        replace h := drf_some h
        obtain ⟨b10, e11, h⟩ := h
        refine G3_1 hM.c tw_197 z9 e11 dX5_addAll_24 ?_
        refine V_iload_n hM.c 2 dX5_addAll_27 rfl rfl ?_
        replace h := grd_some h
        obtain ⟨z12, h⟩ := h
        replace h := grd_some h
        obtain ⟨c13, h⟩ := h
        refine V_lald hM.c z12 c13 dX5_addAll_28 ?_
        replace h := bnd_some h
        obtain ⟨r14, g15, e16, h⟩ := h
        refine V_callV (As := [.long (gJ g b5 x2.toNatClampNeg), .long (gJ g b10 x2.toNatClampNeg)]) (c := 3) (T := TX5) (N := 3) hM.c hM.a mq_X5_addTerm mi_X5_addTerm tw_198 (hM.d (by decide)) hM.z rfl (by omega) (zc_X5_addTerm e16) (vm_X5_addTerm e16) rfl (Nat.le_of_ble_eq_true rfl) dX5_addAll_29 ?_
        refine V_if_ne hM.c 37 dX5_addAll_32 (by decide) (fun c17 => ?_) (fun c17 => ?_)
        · replace h := ite_n h c17
          refine V_iinc (v := (x2 + 1)) (L' := [(2, .int (x2 + 1)), (0, va_rf (some a)), (1, va_rf (some x1))]) hM.c 2 dX5_addAll_37 rfl rfl (by decide) rfl ?_
          refine V_goto hM.c 2 dX5_addAll_40 (by decide) ?_
          refine V_sub [1, 2, 0] rfl ?_
          exact ih _ _ _ h
        · replace h := ite_p h c17
          refine V_iconst (v := 0) hM.c dX5_addAll_35 (by decide) ?_
          exact V_zretE hM (isz_nar (by decide)) h dX5_addAll_36
def f_X5_addAll (n : Nat) (Z : Zt) (a : Nat) (x1 : Nat) (g : Mem) : Option (Int32 × Mem) := grd (zk Z a = 4) (f_X5_addAll_l2 n Z a n x1 (0 : Int32) g)
theorem mq_X5_addAll : Mq yX5_addAll cX5_addAll 3 (some .boolean) 1 := ⟨tw_818, tw_148, ⟨by decide +kernel, by decide +kernel, by decide +kernel⟩, by decide⟩
theorem mi_X5_addAll : Cond.instanceMethod yX5_addAll ∈ TB ∧ Cond.selects yX5_addAll.cls yX5_addAll yX5_addAll ∈ TB := ⟨tw_816, tw_817⟩
theorem zc_X5_addAll {n : Nat} {Z : Zt} {a : Nat} {x1 : Nat} {g : Mem} {q : Int32 × Mem} (h : f_X5_addAll n Z a x1 g = some q) : zk Z a = 4 := (grd_some h).1
set_option maxHeartbeats 4000000 in
set_option maxRecDepth 100000 in
theorem vm_X5_addAll {n : Nat} {Z : Zt} {a : Nat} {x1 : Nat} {g : Mem} {rr : Int32} {gg : Mem} (h : f_X5_addAll n Z a x1 g = some (rr, gg)) : VM yX5_addAll cX5_addAll 3 (some .boolean) 1 [.ref a, va_rf (some x1)] Z g (some (.int rr)) gg := by
  unfold f_X5_addAll at h
  replace h := grd_some h
  obtain ⟨hz0, h⟩ := h
  refine VM.of (by decide +kernel) (Nat.le_of_ble_eq_true rfl) (fun x hM => ?_)
  have hM : Cm x cX5_addAll RX5 3 (some .boolean) 1 Z (some (.int rr)) gg := hM
  show V x Z 0 0 0 [(0, va_rf (some a)), (1, va_rf (some x1))] [] g
  refine V_iconst (v := 0) hM.c dX5_addAll_0 (by decide) ?_
  refine V_istore_n (i := 2) (L' := [(2, .int (0 : Int32)), (0, va_rf (some a)), (1, va_rf (some x1))]) hM.c dX5_addAll_1 rfl (by decide) rfl ?_
  refine V_sub [1, 2, 0] rfl ?_
  exact vl_X5_addAll_l2 hM hz0  _ _ _ _ h
def f_X0_addToSpare (n : Nat) (Z : Zt) (a : Nat) (x1 : Int32) (x2 : Nat) (x3 : Int32) (g : Mem) : Option (Int32 × Mem) := grd (zk Z a = 1) (nam (gP g a 1) (fun q1 => drf q1 (fun b3 => bnd (f_X7_rowWith n Z b3 x1 g) (fun r5 g6 => bnd (f_X7_polynomialAt n Z x2 x3 g6) (fun r8 g9 => if r5 = none then (some ((0 : Int32), g9)) else (if r8 = none then (some ((0 : Int32), g9)) else (drf r8 (fun b13 => drf r5 (fun b15 => bnd (f_X5_addAll n Z b15 b13 g9) (fun r17 g18 => if r17 = 0 then (some ((0 : Int32), g18)) else (some ((1 : Int32), g18))))))))))))
theorem mq_X0_addToSpare : Mq yX0_addToSpare cX0_addToSpare 6 (some .boolean) 3 := ⟨tw_810, tw_104, ⟨by decide +kernel, by decide +kernel, by decide +kernel⟩, by decide⟩
theorem mi_X0_addToSpare : Cond.instanceMethod yX0_addToSpare ∈ TB ∧ Cond.selects yX0_addToSpare.cls yX0_addToSpare yX0_addToSpare ∈ TB := ⟨tw_808, tw_809⟩
theorem zc_X0_addToSpare {n : Nat} {Z : Zt} {a : Nat} {x1 : Int32} {x2 : Nat} {x3 : Int32} {g : Mem} {q : Int32 × Mem} (h : f_X0_addToSpare n Z a x1 x2 x3 g = some q) : zk Z a = 1 := (grd_some h).1
set_option maxHeartbeats 4000000 in
set_option maxRecDepth 100000 in
theorem vm_X0_addToSpare {n : Nat} {Z : Zt} {a : Nat} {x1 : Int32} {x2 : Nat} {x3 : Int32} {g : Mem} {rr : Int32} {gg : Mem} (h : f_X0_addToSpare n Z a x1 x2 x3 g = some (rr, gg)) : VM yX0_addToSpare cX0_addToSpare 6 (some .boolean) 2 [.ref a, .int x1, va_rf (some x2), .int x3] Z g (some (.int rr)) gg := by
  unfold f_X0_addToSpare at h
  replace h := grd_some h
  obtain ⟨hz0, h⟩ := h
  refine VM.of (by decide +kernel) (Nat.le_of_ble_eq_true rfl) (fun x hM => ?_)
  have hM : Cm x cX0_addToSpare RX0 6 (some .boolean) 2 Z (some (.int rr)) gg := hM
  show V x Z 0 0 0 [(0, va_rf (some a)), (1, .int x1), (2, va_rf (some x2)), (3, .int x3)] [] g
  refine V_aload_n hM.c 0 dX0_addToSpare_0 rfl rfl ?_
  replace h := nam_some h
  obtain ⟨q1, e2, h⟩ := h
  refine G0_1 hM.c tw_710 hz0 e2 dX0_addToSpare_1 ?_
  refine V_iload_n hM.c 1 dX0_addToSpare_4 rfl rfl ?_
  replace h := drf_some h
  obtain ⟨b3, rfl, h⟩ := h
  replace h := bnd_some h
  obtain ⟨r5, g6, e7, h⟩ := h
  refine V_callV (As := [.int x1]) (c := 5) (T := TX7) (N := 4) hM.c hM.a mq_X7_rowWith mi_X7_rowWith tw_763 (hM.d (by decide)) hM.z rfl (by omega) (zc_X7_rowWith e7) (vm_X7_rowWith e7) rfl (Nat.le_of_ble_eq_true rfl) dX0_addToSpare_5 ?_
  refine V_astore (L' := [(4, va_rf r5), (0, va_rf (some a)), (1, .int x1), (2, va_rf (some x2)), (3, .int x3)]) hM.c dX0_addToSpare_8 (by decide) rfl ?_
  refine V_aload_n hM.c 3 dX0_addToSpare_10 rfl rfl ?_
  refine V_iload_n hM.c 4 dX0_addToSpare_11 rfl rfl ?_
  replace h := bnd_some h
  obtain ⟨r8, g9, e10, h⟩ := h
  refine V_callV (As := [.int x3]) (c := 5) (T := TX7) (N := 4) hM.c hM.a mq_X7_polynomialAt mi_X7_polynomialAt tw_811 (hM.d (by decide)) hM.z rfl (by omega) (zc_X7_polynomialAt e10) (vm_X7_polynomialAt e10) rfl (Nat.le_of_ble_eq_true rfl) dX0_addToSpare_12 ?_
  refine V_astore (L' := [(5, va_rf r8), (4, va_rf r5), (0, va_rf (some a)), (1, .int x1), (2, va_rf (some x2)), (3, .int x3)]) hM.c dX0_addToSpare_15 (by decide) (by simp [rf_cat, cat_i, cat_l]) ?_
  refine V_aload hM.c 1 dX0_addToSpare_17 rfl ?_
  refine V_ifnull hM.c 41 dX0_addToSpare_19 (by decide) (fun c11 => ?_) (fun c11 => ?_)
  · replace h := ite_p h c11
    refine V_iconst (v := 0) hM.c dX0_addToSpare_41 (by decide) ?_
    exact V_zretE hM (isz_nar (by decide)) h dX0_addToSpare_42
  · replace h := ite_n h c11
    refine V_aload hM.c 0 dX0_addToSpare_22 rfl ?_
    refine V_ifnull hM.c 41 dX0_addToSpare_24 (by decide) (fun c12 => ?_) (fun c12 => ?_)
    · replace h := ite_p h c12
      refine V_iconst (v := 0) hM.c dX0_addToSpare_41 (by decide) ?_
      exact V_zretE hM (isz_nar (by decide)) h dX0_addToSpare_42
    · replace h := ite_n h c12
      refine V_aload hM.c 1 dX0_addToSpare_27 rfl ?_
      refine V_aload hM.c 0 dX0_addToSpare_29 rfl ?_
      replace h := drf_some h
      obtain ⟨b13, rfl, h⟩ := h
      replace h := drf_some h
      obtain ⟨b15, rfl, h⟩ := h
      replace h := bnd_some h
      obtain ⟨r17, g18, e19, h⟩ := h
      refine V_callV (As := [va_rf (some b13)]) (c := 3) (T := TX5) (N := 3) hM.c hM.a mq_X5_addAll mi_X5_addAll tw_815 (hM.d (by decide)) hM.z rfl (by omega) (zc_X5_addAll e19) (vm_X5_addAll e19) rfl (Nat.le_of_ble_eq_true rfl) dX0_addToSpare_31 ?_
      refine V_if_eq hM.c 41 dX0_addToSpare_34 (by decide) (fun c20 => ?_) (fun c20 => ?_)
      · replace h := ite_p h c20
        refine V_iconst (v := 0) hM.c dX0_addToSpare_41 (by decide) ?_
        exact V_zretE hM (isz_nar (by decide)) h dX0_addToSpare_42
      · replace h := ite_n h c20
        refine V_iconst (v := 1) hM.c dX0_addToSpare_37 (by decide) ?_
        refine V_goto hM.c 42 dX0_addToSpare_38 (by decide) ?_
        exact V_zretE hM (isz_nar (by decide)) h dX0_addToSpare_42
def f_X0_fillSelect_l54 (n : Nat) (Z : Zt) (κ18 : Nat → Int32 → Int32 → Int32 → Int32 → Int32 → Mem → Option (Int32 × Mem)) (a : Nat) (x1 : Nat) (x2 : Int32) (x3 : Int32) (x4 : Int32) (x5 : Int32) (x6 : Int32) (x7 : Int32) (s0 : Int32) (g : Mem) : Option (Int32 × Mem) := bnd (f_X2_digit n Z x7 x5 x3 g) (fun r22 g23 => if r22 = s0 then (bnd (f_X0_addToSpare n Z a x7 x1 x6 g23) (fun r26 g27 => if r26 = 0 then (some ((0 : Int32), g27)) else (κ18 x1 x2 x3 x4 x5 (x6 + 1) g27))) else (κ18 x1 x2 x3 x4 x5 (x6 + 1) g23))
set_option maxHeartbeats 4000000 in
set_option maxRecDepth 100000 in
theorem vl_X0_fillSelect_l54 {x : Cq} {n : Nat} {Z : Zt} {κ18 : Nat → Int32 → Int32 → Int32 → Int32 → Int32 → Mem → Option (Int32 × Mem)} {a : Nat} {x1 : Nat} {x2 : Int32} {x3 : Int32} {x4 : Int32} {x5 : Int32} {x6 : Int32} {x7 : Int32} {s0 : Int32} {g : Mem} {rr : Int32} {gg : Mem} (hM : Cm x cX0_fillSelect RX0 9 (some .boolean) 3 Z (some (.int rr)) gg) (hz0 : zk Z a = 1) (hκ18 : ∀ (y1 : Nat) (y2 : Int32) (y3 : Int32) (y4 : Int32) (y5 : Int32) (y6 : Int32) (y : Mem), κ18 y1 y2 y3 y4 y5 y6 y = some (rr, gg) → V x Z 0 0 18 [(0, va_rf (some a)), (1, va_rf (some y1)), (2, .int y2), (3, .int y3), (4, .int y4), (5, .int y5), (6, .int y6)] [] y) (h : f_X0_fillSelect_l54 n Z κ18 a x1 x2 x3 x4 x5 x6 x7 s0 g = some (rr, gg)) : V x Z 0 0 54 [(0, va_rf (some a)), (1, va_rf (some x1)), (2, .int x2), (3, .int x3), (4, .int x4), (5, .int x5), (6, .int x6), (7, .int x7)] [.int s0] g := by
  unfold f_X0_fillSelect_l54 at h
  refine V_istore (L' := [(8, .int s0), (0, va_rf (some a)), (1, va_rf (some x1)), (2, .int x2), (3, .int x3), (4, .int x4), (5, .int x5), (6, .int x6), (7, .int x7)]) hM.c dX0_fillSelect_54 (by decide) rfl ?_
  refine V_iload hM.c 8 dX0_fillSelect_56 rfl ?_
  refine V_iload hM.c 6 dX0_fillSelect_58 rfl ?_
  refine V_iload_n hM.c 4 dX0_fillSelect_60 rfl rfl ?_
  replace h := bnd_some h
  obtain ⟨r22, g23, e24, h⟩ := h
  refine V_callS (As := [.int x7, .int x5, .int x3]) hM.c hM.a mq_X2_digit mi_X2_digit tw_806 (hM.d (by decide)) hM.z (vm_X2_digit e24) rfl (Nat.le_of_ble_eq_true rfl) dX0_fillSelect_61 ?_
  refine V_iload hM.c 0 dX0_fillSelect_64 rfl ?_
  refine V_icmp_ne hM.c 83 dX0_fillSelect_66 (by decide) (fun c25 => ?_) (fun c25 => ?_)
  · replace h := ite_n h c25
    refine V_iinc (v := (x6 + 1)) (L' := [(6, .int (x6 + 1)), (8, .int s0), (0, va_rf (some a)), (1, va_rf (some x1)), (2, .int x2), (3, .int x3), (4, .int x4), (5, .int x5), (7, .int x7)]) hM.c 7 dX0_fillSelect_83 rfl rfl (by decide) rfl ?_
    refine V_goto hM.c 18 dX0_fillSelect_86 (by decide) ?_
    refine V_sub [2, 3, 4, 5, 6, 7, 0] rfl ?_
    exact hκ18 _ _ _ _ _ _ _ h
  · replace h := ite_p h c25
    refine V_aload_n hM.c 1 dX0_fillSelect_69 rfl rfl ?_
    refine V_iload hM.c 8 dX0_fillSelect_70 rfl ?_
    refine V_aload_n hM.c 2 dX0_fillSelect_72 rfl rfl ?_
    refine V_iload hM.c 7 dX0_fillSelect_73 rfl ?_
    replace h := bnd_some h
    obtain ⟨r26, g27, e28, h⟩ := h
    refine V_callV (As := [.int x7, va_rf (some x1), .int x6]) (c := 0) (T := TX0) (N := 4) hM.c hM.a mq_X0_addToSpare mi_X0_addToSpare tw_807 (hM.d (by decide)) hM.z rfl (by omega) (zc_X0_addToSpare e28) (vm_X0_addToSpare e28) rfl (Nat.le_of_ble_eq_true rfl) dX0_fillSelect_75 ?_
    refine V_if_ne hM.c 83 dX0_fillSelect_78 (by decide) (fun c29 => ?_) (fun c29 => ?_)
    · replace h := ite_n h c29
      refine V_iinc (v := (x6 + 1)) (L' := [(6, .int (x6 + 1)), (8, .int s0), (0, va_rf (some a)), (1, va_rf (some x1)), (2, .int x2), (3, .int x3), (4, .int x4), (5, .int x5), (7, .int x7)]) hM.c 7 dX0_fillSelect_83 rfl rfl (by decide) rfl ?_
      refine V_goto hM.c 18 dX0_fillSelect_86 (by decide) ?_
      refine V_sub [2, 3, 4, 5, 6, 7, 0] rfl ?_
      exact hκ18 _ _ _ _ _ _ _ h
    · replace h := ite_p h c29
      refine V_iconst (v := 0) hM.c dX0_fillSelect_81 (by decide) ?_
      exact V_zretE hM (isz_nar (by decide)) h dX0_fillSelect_82
def f_X0_fillSelect_l18 (n : Nat) (Z : Zt) (a : Nat) : Nat → Nat → Int32 → Int32 → Int32 → Int32 → Int32 → Mem → Option (Int32 × Mem)
  | 0, _, _, _, _, _, _, _ => none
  | fu + 1, x1, x2, x3, x4, x5, x6, g => bnd (f_X7_size n Z x1 g) (fun r11 g12 => if r11 ≤ x6 then (some ((1 : Int32), g12)) else (bnd (f_X7_keyAt n Z x1 x6 g12) (fun r15 g16 => if x2 = (2 : Int32) then (bnd (f_X2_digit n Z r15 x5 x4 g16) (fun r19 g20 => f_X0_fillSelect_l54 n Z (fun y0 y1 y2 y3 y4 y5 y => f_X0_fillSelect_l18 n Z a fu y0 y1 y2 y3 y4 y5 y) a x1 x2 x3 x4 x5 x6 r15 r19 g20)) else (f_X0_fillSelect_l54 n Z (fun y0 y1 y2 y3 y4 y5 y => f_X0_fillSelect_l18 n Z a fu y0 y1 y2 y3 y4 y5 y) a x1 x2 x3 x4 x5 x6 r15 x4 g16))))
set_option maxHeartbeats 4000000 in
set_option maxRecDepth 100000 in
theorem vl_X0_fillSelect_l18 {x : Cq} {n : Nat} {Z : Zt} {a : Nat} {rr : Int32} {gg : Mem} (hM : Cm x cX0_fillSelect RX0 9 (some .boolean) 3 Z (some (.int rr)) gg) (hz0 : zk Z a = 1) : ∀ (fu : Nat) (x1 : Nat) (x2 : Int32) (x3 : Int32) (x4 : Int32) (x5 : Int32) (x6 : Int32) (g : Mem), f_X0_fillSelect_l18 n Z a fu x1 x2 x3 x4 x5 x6 g = some (rr, gg) → V x Z 0 0 18 [(0, va_rf (some a)), (1, va_rf (some x1)), (2, .int x2), (3, .int x3), (4, .int x4), (5, .int x5), (6, .int x6)] [] g := by
  intro fu
  induction fu with
  | zero => intro x1 x2 x3 x4 x5 x6 g h; cases h
  | succ fu ih =>
    intro x1 x2 x3 x4 x5 x6 g h
    unfold f_X0_fillSelect_l18 at h
    refine V_iload hM.c 6 dX0_fillSelect_18 rfl ?_
    refine V_aload_n hM.c 1 dX0_fillSelect_20 rfl rfl ?_
    replace h := bnd_some h
    obtain ⟨r11, g12, e13, h⟩ := h
    refine V_callV (As := []) (c := 5) (T := TX7) (N := 4) hM.c hM.a mq_X7_size mi_X7_size tw_794 (hM.d (by decide)) hM.z rfl (by omega) (zc_X7_size e13) (vm_X7_size e13) rfl (Nat.le_of_ble_eq_true rfl) dX0_fillSelect_21 ?_
    refine V_icmp_ge hM.c 89 dX0_fillSelect_24 (by decide) (fun c14 => ?_) (fun c14 => ?_)
    · replace h := ite_p h c14
      refine V_iconst (v := 1) hM.c dX0_fillSelect_89 (by decide) ?_
      exact V_zretE hM (isz_nar (by decide)) h dX0_fillSelect_90
    · replace h := ite_n h c14
      refine V_aload_n hM.c 1 dX0_fillSelect_27 rfl rfl ?_
      refine V_iload hM.c 6 dX0_fillSelect_28 rfl ?_
      replace h := bnd_some h
      obtain ⟨r15, g16, e17, h⟩ := h
      refine V_callV (As := [.int x6]) (c := 5) (T := TX7) (N := 4) hM.c hM.a mq_X7_keyAt mi_X7_keyAt tw_798 (hM.d (by decide)) hM.z rfl (by omega) (zc_X7_keyAt e17) (vm_X7_keyAt e17) rfl (Nat.le_of_ble_eq_true rfl) dX0_fillSelect_30 ?_
      refine V_istore (L' := [(7, .int r15), (0, va_rf (some a)), (1, va_rf (some x1)), (2, .int x2), (3, .int x3), (4, .int x4), (5, .int x5), (6, .int x6)]) hM.c dX0_fillSelect_33 (by decide) rfl ?_
      refine V_iload_n hM.c 3 dX0_fillSelect_35 rfl rfl ?_
      refine V_iconst (v := 2) hM.c dX0_fillSelect_36 (by decide) ?_
      refine V_icmp_ne hM.c 52 dX0_fillSelect_37 (by decide) (fun c18 => ?_) (fun c18 => ?_)
      · replace h := ite_n h c18
        refine V_iload hM.c 5 dX0_fillSelect_52 rfl ?_
        refine V_sub [1, 2, 3, 4, 5, 6, 7, 0] rfl ?_
        exact vl_X0_fillSelect_l54 hM hz0 ih h
      · replace h := ite_p h c18
        refine V_iload hM.c 0 dX0_fillSelect_40 rfl ?_
        refine V_iload hM.c 6 dX0_fillSelect_42 rfl ?_
        refine V_iload hM.c 5 dX0_fillSelect_44 rfl ?_
        replace h := bnd_some h
        obtain ⟨r19, g20, e21, h⟩ := h
        refine V_callS (As := [.int r15, .int x5, .int x4]) hM.c hM.a mq_X2_digit mi_X2_digit tw_806 (hM.d (by decide)) hM.z (vm_X2_digit e21) rfl (Nat.le_of_ble_eq_true rfl) dX0_fillSelect_46 ?_
        refine V_goto hM.c 54 dX0_fillSelect_49 (by decide) ?_
        refine V_sub [1, 2, 3, 4, 5, 6, 7, 0] rfl ?_
        exact vl_X0_fillSelect_l54 hM hz0 ih h
def f_X0_fillSelect (n : Nat) (Z : Zt) (a : Nat) (x1 : Nat) (x2 : Int32) (x3 : Int32) (x4 : Int32) (g : Mem) : Option (Int32 × Mem) := grd (zk Z a = 1) (bnd (f_X7_width n Z x1 g) (fun r1 g2 => nam (gP g2 a 1) (fun q4 => drf q4 (fun b6 => bnd (f_X7_clear n Z b6 r1 g2) (fun r8 g9 => f_X0_fillSelect_l18 n Z a n x1 x2 x3 x4 r1 (0 : Int32) g9)))))
theorem mq_X0_fillSelect : Mq yX0_fillSelect cX0_fillSelect 9 (some .boolean) 4 := ⟨tw_789, tw_104, ⟨by decide +kernel, by decide +kernel, by decide +kernel⟩, by decide⟩
theorem mi_X0_fillSelect : Cond.instanceMethod yX0_fillSelect ∈ TB ∧ Cond.selects yX0_fillSelect.cls yX0_fillSelect yX0_fillSelect ∈ TB := ⟨tw_787, tw_788⟩
theorem zc_X0_fillSelect {n : Nat} {Z : Zt} {a : Nat} {x1 : Nat} {x2 : Int32} {x3 : Int32} {x4 : Int32} {g : Mem} {q : Int32 × Mem} (h : f_X0_fillSelect n Z a x1 x2 x3 x4 g = some q) : zk Z a = 1 := (grd_some h).1
set_option maxHeartbeats 4000000 in
set_option maxRecDepth 100000 in
theorem vm_X0_fillSelect {n : Nat} {Z : Zt} {a : Nat} {x1 : Nat} {x2 : Int32} {x3 : Int32} {x4 : Int32} {g : Mem} {rr : Int32} {gg : Mem} (h : f_X0_fillSelect n Z a x1 x2 x3 x4 g = some (rr, gg)) : VM yX0_fillSelect cX0_fillSelect 9 (some .boolean) 3 [.ref a, va_rf (some x1), .int x2, .int x3, .int x4] Z g (some (.int rr)) gg := by
  unfold f_X0_fillSelect at h
  replace h := grd_some h
  obtain ⟨hz0, h⟩ := h
  refine VM.of (by decide +kernel) (Nat.le_of_ble_eq_true rfl) (fun x hM => ?_)
  have hM : Cm x cX0_fillSelect RX0 9 (some .boolean) 3 Z (some (.int rr)) gg := hM
  show V x Z 0 0 0 [(0, va_rf (some a)), (1, va_rf (some x1)), (2, .int x2), (3, .int x3), (4, .int x4)] [] g
  refine V_aload_n hM.c 1 dX0_fillSelect_0 rfl rfl ?_
  replace h := bnd_some h
  obtain ⟨r1, g2, e3, h⟩ := h
  refine V_callV (As := []) (c := 5) (T := TX7) (N := 4) hM.c hM.a mq_X7_width mi_X7_width tw_790 (hM.d (by decide)) hM.z rfl (by omega) (zc_X7_width e3) (vm_X7_width e3) rfl (Nat.le_of_ble_eq_true rfl) dX0_fillSelect_1 ?_
  refine V_istore (L' := [(5, .int r1), (0, va_rf (some a)), (1, va_rf (some x1)), (2, .int x2), (3, .int x3), (4, .int x4)]) hM.c dX0_fillSelect_4 (by decide) rfl ?_
  refine V_aload_n hM.c 1 dX0_fillSelect_6 rfl rfl ?_
  replace h := nam_some h
  obtain ⟨q4, e5, h⟩ := h
  refine G0_1 hM.c tw_710 hz0 e5 dX0_fillSelect_7 ?_
  refine V_iload hM.c 0 dX0_fillSelect_10 rfl ?_
  replace h := drf_some h
  obtain ⟨b6, rfl, h⟩ := h
  replace h := bnd_some h
  obtain ⟨r8, g9, e10, h⟩ := h
  refine V_callV (As := [.int r1]) (c := 5) (T := TX7) (N := 4) hM.c hM.a mq_X7_clear mi_X7_clear tw_715 (hM.d (by decide)) hM.z rfl (by omega) (zc_X7_clear e10) (vm_X7_clear e10) rfl (Nat.le_of_ble_eq_true rfl) dX0_fillSelect_12 ?_
  refine V_iconst (v := 0) hM.c dX0_fillSelect_15 (by decide) ?_
  refine V_istore (L' := [(6, .int (0 : Int32)), (5, .int r1), (0, va_rf (some a)), (1, va_rf (some x1)), (2, .int x2), (3, .int x3), (4, .int x4)]) hM.c dX0_fillSelect_16 (by decide) rfl ?_
  refine V_sub [2, 3, 4, 5, 6, 1, 0] rfl ?_
  exact vl_X0_fillSelect_l18 hM hz0  _ _ _ _ _ _ _ _ h
def f_X0_fillProject_l76 (n : Nat) (Z : Zt) (κ11 : Nat → Int32 → Int32 → Int32 → Mem → Option (Int32 × Mem)) (a : Nat) (x1 : Nat) (x2 : Int32) (x3 : Int32) (x4 : Int32) (x5 : Int32) (g : Mem) : Option (Int32 × Mem) := bnd (f_X0_addToSpare n Z a x5 x1 x4 g) (fun r29 g30 => if r29 = 0 then (some ((0 : Int32), g30)) else (κ11 x1 x2 x3 (x4 + 1) g30))
set_option maxHeartbeats 4000000 in
set_option maxRecDepth 100000 in
theorem vl_X0_fillProject_l76 {x : Cq} {n : Nat} {Z : Zt} {κ11 : Nat → Int32 → Int32 → Int32 → Mem → Option (Int32 × Mem)} {a : Nat} {x1 : Nat} {x2 : Int32} {x3 : Int32} {x4 : Int32} {x5 : Int32} {g : Mem} {rr : Int32} {gg : Mem} (hM : Cm x cX0_fillProject RX0 8 (some .boolean) 3 Z (some (.int rr)) gg) (hz0 : zk Z a = 1) (hκ11 : ∀ (y1 : Nat) (y2 : Int32) (y3 : Int32) (y4 : Int32) (y : Mem), κ11 y1 y2 y3 y4 y = some (rr, gg) → V x Z 0 0 11 [(0, va_rf (some a)), (1, va_rf (some y1)), (2, .int y2), (3, .int y3), (4, .int y4)] [] y) (h : f_X0_fillProject_l76 n Z κ11 a x1 x2 x3 x4 x5 g = some (rr, gg)) : V x Z 0 0 76 [(0, va_rf (some a)), (1, va_rf (some x1)), (2, .int x2), (3, .int x3), (4, .int x4), (5, .int x5)] [] g := by
  unfold f_X0_fillProject_l76 at h
  refine V_aload_n hM.c 0 dX0_fillProject_76 rfl rfl ?_
  refine V_iload hM.c 5 dX0_fillProject_77 rfl ?_
  refine V_aload_n hM.c 1 dX0_fillProject_79 rfl rfl ?_
  refine V_iload hM.c 4 dX0_fillProject_80 rfl ?_
  replace h := bnd_some h
  obtain ⟨r29, g30, e31, h⟩ := h
  refine V_callV (As := [.int x5, va_rf (some x1), .int x4]) (c := 0) (T := TX0) (N := 4) hM.c hM.a mq_X0_addToSpare mi_X0_addToSpare tw_807 (hM.d (by decide)) hM.z rfl (by omega) (zc_X0_addToSpare e31) (vm_X0_addToSpare e31) rfl (Nat.le_of_ble_eq_true rfl) dX0_fillProject_82 ?_
  refine V_if_ne hM.c 90 dX0_fillProject_85 (by decide) (fun c32 => ?_) (fun c32 => ?_)
  · replace h := ite_n h c32
    refine V_iinc (v := (x4 + 1)) (L' := [(4, .int (x4 + 1)), (0, va_rf (some a)), (1, va_rf (some x1)), (2, .int x2), (3, .int x3), (5, .int x5)]) hM.c 4 dX0_fillProject_90 rfl rfl (by decide) rfl ?_
    refine V_goto hM.c 11 dX0_fillProject_93 (by decide) ?_
    refine V_sub [1, 2, 3, 4, 0] rfl ?_
    exact hκ11 _ _ _ _ _ h
  · replace h := ite_p h c32
    refine V_iconst (v := 0) hM.c dX0_fillProject_88 (by decide) ?_
    exact V_zretE hM (isz_nar (by decide)) h dX0_fillProject_89
def f_X0_fillProject_l26 (n : Nat) (Z : Zt) (κ11 : Nat → Int32 → Int32 → Int32 → Mem → Option (Int32 × Mem)) (a : Nat) : Nat → Nat → Int32 → Int32 → Int32 → Int32 → Int32 → Mem → Option (Int32 × Mem)
  | 0, _, _, _, _, _, _, _ => none
  | fu + 1, x1, x2, x3, x4, x5, x6, g => if x2 ≤ x6 then (f_X0_fillProject_l76 n Z κ11 a x1 x2 x3 x4 x5 g) else (if (4 : Int32) ≤ x6 then (f_X0_fillProject_l76 n Z κ11 a x1 x2 x3 x4 x5 g) else (bnd (f_X2_digit n Z x3 x2 x6 g) (fun r14 g15 => bnd (f_X7_keyAt n Z x1 x4 g15) (fun r17 g18 => bnd (f_X7_width n Z x1 g18) (fun r20 g21 => bnd (f_X2_digit n Z r17 r20 r14 g21) (fun r23 g24 => bnd (f_X2_join n Z x5 r23 (1 : Int32) g24) (fun r26 g27 => f_X0_fillProject_l26 n Z κ11 a fu x1 x2 x3 x4 r26 (x6 + 1) g27)))))))
set_option maxHeartbeats 4000000 in
set_option maxRecDepth 100000 in
theorem vl_X0_fillProject_l26 {x : Cq} {n : Nat} {Z : Zt} {κ11 : Nat → Int32 → Int32 → Int32 → Mem → Option (Int32 × Mem)} {a : Nat} {rr : Int32} {gg : Mem} (hM : Cm x cX0_fillProject RX0 8 (some .boolean) 3 Z (some (.int rr)) gg) (hz0 : zk Z a = 1) (hκ11 : ∀ (y1 : Nat) (y2 : Int32) (y3 : Int32) (y4 : Int32) (y : Mem), κ11 y1 y2 y3 y4 y = some (rr, gg) → V x Z 0 0 11 [(0, va_rf (some a)), (1, va_rf (some y1)), (2, .int y2), (3, .int y3), (4, .int y4)] [] y) : ∀ (fu : Nat) (x1 : Nat) (x2 : Int32) (x3 : Int32) (x4 : Int32) (x5 : Int32) (x6 : Int32) (g : Mem), f_X0_fillProject_l26 n Z κ11 a fu x1 x2 x3 x4 x5 x6 g = some (rr, gg) → V x Z 0 0 26 [(0, va_rf (some a)), (1, va_rf (some x1)), (2, .int x2), (3, .int x3), (4, .int x4), (5, .int x5), (6, .int x6)] [] g := by
  intro fu
  induction fu with
  | zero => intro x1 x2 x3 x4 x5 x6 g h; cases h
  | succ fu ih =>
    intro x1 x2 x3 x4 x5 x6 g h
    unfold f_X0_fillProject_l26 at h
    refine V_iload hM.c 6 dX0_fillProject_26 rfl ?_
    refine V_iload_n hM.c 2 dX0_fillProject_28 rfl rfl ?_
    refine V_icmp_ge hM.c 76 dX0_fillProject_29 (by decide) (fun c12 => ?_) (fun c12 => ?_)
    · replace h := ite_p h c12
      refine V_sub [0, 1, 2, 3, 4, 5] rfl ?_
      exact vl_X0_fillProject_l76 hM hz0 hκ11 h
    · replace h := ite_n h c12
      refine V_iload hM.c 6 dX0_fillProject_32 rfl ?_
      refine V_iconst (v := 4) hM.c dX0_fillProject_34 (by decide) ?_
      refine V_icmp_ge hM.c 76 dX0_fillProject_35 (by decide) (fun c13 => ?_) (fun c13 => ?_)
      · replace h := ite_p h c13
        refine V_sub [0, 1, 2, 3, 4, 5] rfl ?_
        exact vl_X0_fillProject_l76 hM hz0 hκ11 h
      · replace h := ite_n h c13
        refine V_iload_n hM.c 3 dX0_fillProject_38 rfl rfl ?_
        refine V_iload_n hM.c 2 dX0_fillProject_39 rfl rfl ?_
        refine V_iload hM.c 6 dX0_fillProject_40 rfl ?_
        replace h := bnd_some h
        obtain ⟨r14, g15, e16, h⟩ := h
        refine V_callS (As := [.int x3, .int x2, .int x6]) hM.c hM.a mq_X2_digit mi_X2_digit tw_806 (hM.d (by decide)) hM.z (vm_X2_digit e16) rfl (Nat.le_of_ble_eq_true rfl) dX0_fillProject_42 ?_
        refine V_istore (L' := [(7, .int r14), (0, va_rf (some a)), (1, va_rf (some x1)), (2, .int x2), (3, .int x3), (4, .int x4), (5, .int x5), (6, .int x6)]) hM.c dX0_fillProject_45 (by decide) rfl ?_
        refine V_iload hM.c 6 dX0_fillProject_47 rfl ?_
        refine V_aload_n hM.c 2 dX0_fillProject_49 rfl rfl ?_
        refine V_iload hM.c 5 dX0_fillProject_50 rfl ?_
        replace h := bnd_some h
        obtain ⟨r17, g18, e19, h⟩ := h
        refine V_callV (As := [.int x4]) (c := 5) (T := TX7) (N := 4) hM.c hM.a mq_X7_keyAt mi_X7_keyAt tw_798 (hM.d (by decide)) hM.z rfl (by omega) (zc_X7_keyAt e19) (vm_X7_keyAt e19) rfl (Nat.le_of_ble_eq_true rfl) dX0_fillProject_52 ?_
        refine V_aload_n hM.c 2 dX0_fillProject_55 rfl rfl ?_
        replace h := bnd_some h
        obtain ⟨r20, g21, e22, h⟩ := h
        refine V_callV (As := []) (c := 5) (T := TX7) (N := 4) hM.c hM.a mq_X7_width mi_X7_width tw_790 (hM.d (by decide)) hM.z rfl (by omega) (zc_X7_width e22) (vm_X7_width e22) rfl (Nat.le_of_ble_eq_true rfl) dX0_fillProject_56 ?_
        refine V_iload hM.c 0 dX0_fillProject_59 rfl ?_
        replace h := bnd_some h
        obtain ⟨r23, g24, e25, h⟩ := h
        refine V_callS (As := [.int r17, .int r20, .int r14]) hM.c hM.a mq_X2_digit mi_X2_digit tw_806 (hM.d (by decide)) hM.z (vm_X2_digit e25) rfl (Nat.le_of_ble_eq_true rfl) dX0_fillProject_61 ?_
        refine V_iconst (v := 1) hM.c dX0_fillProject_64 (by decide) ?_
        replace h := bnd_some h
        obtain ⟨r26, g27, e28, h⟩ := h
        refine V_callS (As := [.int x5, .int r23, .int (1 : Int32)]) hM.c hM.a mq_X2_join mi_X2_join tw_824 (hM.d (by decide)) hM.z (vm_X2_join e28) rfl (Nat.le_of_ble_eq_true rfl) dX0_fillProject_65 ?_
        refine V_istore (L' := [(5, .int r26), (7, .int r14), (0, va_rf (some a)), (1, va_rf (some x1)), (2, .int x2), (3, .int x3), (4, .int x4), (6, .int x6)]) hM.c dX0_fillProject_68 (by decide) rfl ?_
        refine V_iinc (v := (x6 + 1)) (L' := [(6, .int (x6 + 1)), (5, .int r26), (7, .int r14), (0, va_rf (some a)), (1, va_rf (some x1)), (2, .int x2), (3, .int x3), (4, .int x4)]) hM.c 7 dX0_fillProject_70 rfl rfl (by decide) rfl ?_
        refine V_goto hM.c 26 dX0_fillProject_73 (by decide) ?_
        refine V_sub [3, 4, 5, 6, 7, 1, 0] rfl ?_
        exact ih _ _ _ _ _ _ _ h
def f_X0_fillProject_l11 (n : Nat) (Z : Zt) (a : Nat) : Nat → Nat → Int32 → Int32 → Int32 → Mem → Option (Int32 × Mem)
  | 0, _, _, _, _, _ => none
  | fu + 1, x1, x2, x3, x4, g => bnd (f_X7_size n Z x1 g) (fun r8 g9 => if r8 ≤ x4 then (some ((1 : Int32), g9)) else (f_X0_fillProject_l26 n Z (fun y0 y1 y2 y3 y => f_X0_fillProject_l11 n Z a fu y0 y1 y2 y3 y) a n x1 x2 x3 x4 (0 : Int32) (0 : Int32) g9))
set_option maxHeartbeats 4000000 in
set_option maxRecDepth 100000 in
theorem vl_X0_fillProject_l11 {x : Cq} {n : Nat} {Z : Zt} {a : Nat} {rr : Int32} {gg : Mem} (hM : Cm x cX0_fillProject RX0 8 (some .boolean) 3 Z (some (.int rr)) gg) (hz0 : zk Z a = 1) : ∀ (fu : Nat) (x1 : Nat) (x2 : Int32) (x3 : Int32) (x4 : Int32) (g : Mem), f_X0_fillProject_l11 n Z a fu x1 x2 x3 x4 g = some (rr, gg) → V x Z 0 0 11 [(0, va_rf (some a)), (1, va_rf (some x1)), (2, .int x2), (3, .int x3), (4, .int x4)] [] g := by
  intro fu
  induction fu with
  | zero => intro x1 x2 x3 x4 g h; cases h
  | succ fu ih =>
    intro x1 x2 x3 x4 g h
    unfold f_X0_fillProject_l11 at h
    refine V_iload hM.c 4 dX0_fillProject_11 rfl ?_
    refine V_aload_n hM.c 1 dX0_fillProject_13 rfl rfl ?_
    replace h := bnd_some h
    obtain ⟨r8, g9, e10, h⟩ := h
    refine V_callV (As := []) (c := 5) (T := TX7) (N := 4) hM.c hM.a mq_X7_size mi_X7_size tw_794 (hM.d (by decide)) hM.z rfl (by omega) (zc_X7_size e10) (vm_X7_size e10) rfl (Nat.le_of_ble_eq_true rfl) dX0_fillProject_14 ?_
    refine V_icmp_ge hM.c 96 dX0_fillProject_17 (by decide) (fun c11 => ?_) (fun c11 => ?_)
    · replace h := ite_p h c11
      refine V_iconst (v := 1) hM.c dX0_fillProject_96 (by decide) ?_
      exact V_zretE hM (isz_nar (by decide)) h dX0_fillProject_97
    · replace h := ite_n h c11
      refine V_iconst (v := 0) hM.c dX0_fillProject_20 (by decide) ?_
      refine V_istore (L' := [(5, .int (0 : Int32)), (0, va_rf (some a)), (1, va_rf (some x1)), (2, .int x2), (3, .int x3), (4, .int x4)]) hM.c dX0_fillProject_21 (by decide) rfl ?_
      refine V_iconst (v := 0) hM.c dX0_fillProject_23 (by decide) ?_
      refine V_istore (L' := [(6, .int (0 : Int32)), (5, .int (0 : Int32)), (0, va_rf (some a)), (1, va_rf (some x1)), (2, .int x2), (3, .int x3), (4, .int x4)]) hM.c dX0_fillProject_24 (by decide) rfl ?_
      refine V_sub [2, 3, 4, 5, 6, 1, 0] rfl ?_
      exact vl_X0_fillProject_l26 hM hz0 ih _ _ _ _ _ _ _ _ h
def f_X0_fillProject (n : Nat) (Z : Zt) (a : Nat) (x1 : Nat) (x2 : Int32) (x3 : Int32) (g : Mem) : Option (Int32 × Mem) := grd (zk Z a = 1) (nam (gP g a 1) (fun q1 => drf q1 (fun b3 => bnd (f_X7_clear n Z b3 x2 g) (fun r5 g6 => f_X0_fillProject_l11 n Z a n x1 x2 x3 (0 : Int32) g6))))
theorem mq_X0_fillProject : Mq yX0_fillProject cX0_fillProject 8 (some .boolean) 3 := ⟨tw_823, tw_104, ⟨by decide +kernel, by decide +kernel, by decide +kernel⟩, by decide⟩
theorem mi_X0_fillProject : Cond.instanceMethod yX0_fillProject ∈ TB ∧ Cond.selects yX0_fillProject.cls yX0_fillProject yX0_fillProject ∈ TB := ⟨tw_821, tw_822⟩
theorem zc_X0_fillProject {n : Nat} {Z : Zt} {a : Nat} {x1 : Nat} {x2 : Int32} {x3 : Int32} {g : Mem} {q : Int32 × Mem} (h : f_X0_fillProject n Z a x1 x2 x3 g = some q) : zk Z a = 1 := (grd_some h).1
set_option maxHeartbeats 4000000 in
set_option maxRecDepth 100000 in
theorem vm_X0_fillProject {n : Nat} {Z : Zt} {a : Nat} {x1 : Nat} {x2 : Int32} {x3 : Int32} {g : Mem} {rr : Int32} {gg : Mem} (h : f_X0_fillProject n Z a x1 x2 x3 g = some (rr, gg)) : VM yX0_fillProject cX0_fillProject 8 (some .boolean) 3 [.ref a, va_rf (some x1), .int x2, .int x3] Z g (some (.int rr)) gg := by
  unfold f_X0_fillProject at h
  replace h := grd_some h
  obtain ⟨hz0, h⟩ := h
  refine VM.of (by decide +kernel) (Nat.le_of_ble_eq_true rfl) (fun x hM => ?_)
  have hM : Cm x cX0_fillProject RX0 8 (some .boolean) 3 Z (some (.int rr)) gg := hM
  show V x Z 0 0 0 [(0, va_rf (some a)), (1, va_rf (some x1)), (2, .int x2), (3, .int x3)] [] g
  refine V_aload_n hM.c 0 dX0_fillProject_0 rfl rfl ?_
  replace h := nam_some h
  obtain ⟨q1, e2, h⟩ := h
  refine G0_1 hM.c tw_710 hz0 e2 dX0_fillProject_1 ?_
  refine V_iload_n hM.c 2 dX0_fillProject_4 rfl rfl ?_
  replace h := drf_some h
  obtain ⟨b3, rfl, h⟩ := h
  replace h := bnd_some h
  obtain ⟨r5, g6, e7, h⟩ := h
  refine V_callV (As := [.int x2]) (c := 5) (T := TX7) (N := 4) hM.c hM.a mq_X7_clear mi_X7_clear tw_715 (hM.d (by decide)) hM.z rfl (by omega) (zc_X7_clear e7) (vm_X7_clear e7) rfl (Nat.le_of_ble_eq_true rfl) dX0_fillProject_5 ?_
  refine V_iconst (v := 0) hM.c dX0_fillProject_8 (by decide) ?_
  refine V_istore (L' := [(4, .int (0 : Int32)), (0, va_rf (some a)), (1, va_rf (some x1)), (2, .int x2), (3, .int x3)]) hM.c dX0_fillProject_9 (by decide) rfl ?_
  refine V_sub [1, 2, 3, 4, 0] rfl ?_
  exact vl_X0_fillProject_l11 hM hz0  _ _ _ _ _ _ h
def f_X5_addProduct_l19 (n : Nat) (Z : Zt) (κ2 : Nat → Nat → Int32 → Mem → Option (Int32 × Mem)) (a : Nat) : Nat → Nat → Nat → Int32 → Int32 → Mem → Option (Int32 × Mem)
  | 0, _, _, _, _, _ => none
  | fu + 1, x1, x2, x3, x4, g => grd (zk Z x2 = 4) (if (gI g x2 2) ≤ x4 then (κ2 x1 x2 (x3 + 1) g) else (if (32 : Int32) ≤ x4 then (κ2 x1 x2 (x3 + 1) g) else (grd (zk Z x1 = 4) (drf (zf Z x1 0) (fun b8 => grd (zk Z b8 = 13) (grd (inr x3 (zl Z b8)) (grd (zk Z x2 = 4) (drf (zf Z x2 0) (fun b13 => grd (zk Z b13 = 13) (grd (inr x4 (zl Z b13)) (grd (zk Z x1 = 4) (drf (zf Z x1 1) (fun b18 => grd (zk Z b18 = 13) (grd (inr x3 (zl Z b18)) (grd (zk Z x2 = 4) (drf (zf Z x2 1) (fun b23 => grd (zk Z b23 = 13) (grd (inr x4 (zl Z b23)) (bnd (f_X5_addTerm n Z a ((gJ g b8 x3.toNatClampNeg) + (gJ g b13 x4.toNatClampNeg)) ((gJ g b18 x3.toNatClampNeg) * (gJ g b23 x4.toNatClampNeg)) g) (fun r27 g28 => if r27 = 0 then (some ((0 : Int32), g28)) else (f_X5_addProduct_l19 n Z κ2 a fu x1 x2 x3 (x4 + 1) g28)))))))))))))))))))))
set_option maxHeartbeats 4000000 in
set_option maxRecDepth 100000 in
theorem vl_X5_addProduct_l19 {x : Cq} {n : Nat} {Z : Zt} {κ2 : Nat → Nat → Int32 → Mem → Option (Int32 × Mem)} {a : Nat} {rr : Int32} {gg : Mem} (hM : Cm x cX5_addProduct RX5 7 (some .boolean) 1 Z (some (.int rr)) gg) (hz0 : zk Z a = 4) (hκ2 : ∀ (y1 : Nat) (y2 : Nat) (y3 : Int32) (y : Mem), κ2 y1 y2 y3 y = some (rr, gg) → V x Z 0 0 2 [(0, va_rf (some a)), (1, va_rf (some y1)), (2, va_rf (some y2)), (3, .int y3)] [] y) : ∀ (fu : Nat) (x1 : Nat) (x2 : Nat) (x3 : Int32) (x4 : Int32) (g : Mem), f_X5_addProduct_l19 n Z κ2 a fu x1 x2 x3 x4 g = some (rr, gg) → V x Z 0 0 19 [(0, va_rf (some a)), (1, va_rf (some x1)), (2, va_rf (some x2)), (3, .int x3), (4, .int x4)] [] g := by
  intro fu
  induction fu with
  | zero => intro x1 x2 x3 x4 g h; cases h
  | succ fu ih =>
    intro x1 x2 x3 x4 g h
    unfold f_X5_addProduct_l19 at h
    refine V_iload hM.c 4 dX5_addProduct_19 rfl ?_
    refine V_aload_n hM.c 2 dX5_addProduct_21 rfl rfl ?_
    replace h := grd_some h
    obtain ⟨z4, h⟩ := h
    refine G3_2 hM.c tw_150 z4 dX5_addProduct_22 ?_
    refine V_icmp_ge hM.c 82 dX5_addProduct_25 (by decide) (fun c5 => ?_) (fun c5 => ?_)
    · replace h := ite_p h c5
      refine V_iinc (v := (x3 + 1)) (L' := [(3, .int (x3 + 1)), (0, va_rf (some a)), (1, va_rf (some x1)), (2, va_rf (some x2)), (4, .int x4)]) hM.c 3 dX5_addProduct_82 rfl rfl (by decide) rfl ?_
      refine V_goto hM.c 2 dX5_addProduct_85 (by decide) ?_
      refine V_sub [1, 2, 3, 0] rfl ?_
      exact hκ2 _ _ _ _ h
    · replace h := ite_n h c5
      refine V_iload hM.c 4 dX5_addProduct_28 rfl ?_
      refine V_bipush (v := 32) hM.c dX5_addProduct_30 (by decide) ?_
      refine V_icmp_ge hM.c 82 dX5_addProduct_32 (by decide) (fun c6 => ?_) (fun c6 => ?_)
      · replace h := ite_p h c6
        refine V_iinc (v := (x3 + 1)) (L' := [(3, .int (x3 + 1)), (0, va_rf (some a)), (1, va_rf (some x1)), (2, va_rf (some x2)), (4, .int x4)]) hM.c 3 dX5_addProduct_82 rfl rfl (by decide) rfl ?_
        refine V_goto hM.c 2 dX5_addProduct_85 (by decide) ?_
        refine V_sub [1, 2, 3, 0] rfl ?_
        exact hκ2 _ _ _ _ h
      · replace h := ite_n h c6
        refine V_aload_n hM.c 1 dX5_addProduct_35 rfl rfl ?_
        replace h := grd_some h
        obtain ⟨z7, h⟩ := h
        replace h := drf_some h
        obtain ⟨b8, e9, h⟩ := h
        refine G3_0 hM.c tw_155 z7 e9 dX5_addProduct_36 ?_
        refine V_iload_n hM.c 3 dX5_addProduct_39 rfl rfl ?_
        replace h := grd_some h
        obtain ⟨z10, h⟩ := h
        replace h := grd_some h
        obtain ⟨c11, h⟩ := h
        refine V_lald hM.c z10 c11 dX5_addProduct_40 ?_
        refine V_aload_n hM.c 2 dX5_addProduct_41 rfl rfl ?_
        replace h := grd_some h
        obtain ⟨z12, h⟩ := h
        replace h := drf_some h
        obtain ⟨b13, e14, h⟩ := h
        refine G3_0 hM.c tw_155 z12 e14 dX5_addProduct_42 ?_
        refine V_iload hM.c 4 dX5_addProduct_45 rfl ?_
        replace h := grd_some h
        obtain ⟨z15, h⟩ := h
        replace h := grd_some h
        obtain ⟨c16, h⟩ := h
        refine V_lald hM.c z15 c16 dX5_addProduct_47 ?_
        refine V_ladd hM.c dX5_addProduct_48 ?_
        refine V_lstore (L' := [(5, .long ((gJ g b8 x3.toNatClampNeg) + (gJ g b13 x4.toNatClampNeg))), (0, va_rf (some a)), (1, va_rf (some x1)), (2, va_rf (some x2)), (3, .int x3), (4, .int x4)]) hM.c dX5_addProduct_49 (by decide) rfl ?_
        refine V_aload_n hM.c 1 dX5_addProduct_51 rfl rfl ?_
        refine V_lload hM.c 0 dX5_addProduct_52 rfl ?_
        refine V_aload_n hM.c 2 dX5_addProduct_54 rfl rfl ?_
        replace h := grd_some h
        obtain ⟨z17, h⟩ := h
        replace h := drf_some h
        obtain ⟨b18, e19, h⟩ := h
        refine G3_1 hM.c tw_197 z17 e19 dX5_addProduct_55 ?_
        refine V_iload_n hM.c 4 dX5_addProduct_58 rfl rfl ?_
        replace h := grd_some h
        obtain ⟨z20, h⟩ := h
        replace h := grd_some h
        obtain ⟨c21, h⟩ := h
        refine V_lald hM.c z20 c21 dX5_addProduct_59 ?_
        refine V_aload_n hM.c 3 dX5_addProduct_60 rfl rfl ?_
        replace h := grd_some h
        obtain ⟨z22, h⟩ := h
        replace h := drf_some h
        obtain ⟨b23, e24, h⟩ := h
        refine G3_1 hM.c tw_197 z22 e24 dX5_addProduct_61 ?_
        refine V_iload hM.c 5 dX5_addProduct_64 rfl ?_
        replace h := grd_some h
        obtain ⟨z25, h⟩ := h
        replace h := grd_some h
        obtain ⟨c26, h⟩ := h
        refine V_lald hM.c z25 c26 dX5_addProduct_66 ?_
        refine V_lmul hM.c dX5_addProduct_67 ?_
        replace h := bnd_some h
        obtain ⟨r27, g28, e29, h⟩ := h
        refine V_callV (As := [.long ((gJ g b8 x3.toNatClampNeg) + (gJ g b13 x4.toNatClampNeg)), .long ((gJ g b18 x3.toNatClampNeg) * (gJ g b23 x4.toNatClampNeg))]) (c := 3) (T := TX5) (N := 3) hM.c hM.a mq_X5_addTerm mi_X5_addTerm tw_198 (hM.d (by decide)) hM.z rfl (by omega) (zc_X5_addTerm e29) (vm_X5_addTerm e29) rfl (Nat.le_of_ble_eq_true rfl) dX5_addProduct_68 ?_
        refine V_if_ne hM.c 76 dX5_addProduct_71 (by decide) (fun c30 => ?_) (fun c30 => ?_)
        · replace h := ite_n h c30
          refine V_iinc (v := (x4 + 1)) (L' := [(4, .int (x4 + 1)), (5, .long ((gJ g b8 x3.toNatClampNeg) + (gJ g b13 x4.toNatClampNeg))), (0, va_rf (some a)), (1, va_rf (some x1)), (2, va_rf (some x2)), (3, .int x3)]) hM.c 5 dX5_addProduct_76 rfl rfl (by decide) rfl ?_
          refine V_goto hM.c 19 dX5_addProduct_79 (by decide) ?_
          refine V_sub [2, 3, 4, 5, 0] rfl ?_
          exact ih _ _ _ _ _ h
        · replace h := ite_p h c30
          refine V_iconst (v := 0) hM.c dX5_addProduct_74 (by decide) ?_
          exact V_zretE hM (isz_nar (by decide)) h dX5_addProduct_75
def f_X5_addProduct_l2 (n : Nat) (Z : Zt) (a : Nat) : Nat → Nat → Nat → Int32 → Mem → Option (Int32 × Mem)
  | 0, _, _, _, _ => none
  | fu + 1, x1, x2, x3, g => grd (zk Z x1 = 4) (if (gI g x1 2) ≤ x3 then (some ((1 : Int32), g)) else (if (32 : Int32) ≤ x3 then (some ((1 : Int32), g)) else (f_X5_addProduct_l19 n Z (fun y0 y1 y2 y => f_X5_addProduct_l2 n Z a fu y0 y1 y2 y) a n x1 x2 x3 (0 : Int32) g)))
set_option maxHeartbeats 4000000 in
set_option maxRecDepth 100000 in
theorem vl_X5_addProduct_l2 {x : Cq} {n : Nat} {Z : Zt} {a : Nat} {rr : Int32} {gg : Mem} (hM : Cm x cX5_addProduct RX5 7 (some .boolean) 1 Z (some (.int rr)) gg) (hz0 : zk Z a = 4) : ∀ (fu : Nat) (x1 : Nat) (x2 : Nat) (x3 : Int32) (g : Mem), f_X5_addProduct_l2 n Z a fu x1 x2 x3 g = some (rr, gg) → V x Z 0 0 2 [(0, va_rf (some a)), (1, va_rf (some x1)), (2, va_rf (some x2)), (3, .int x3)] [] g := by
  intro fu
  induction fu with
  | zero => intro x1 x2 x3 g h; cases h
  | succ fu ih =>
    intro x1 x2 x3 g h
    unfold f_X5_addProduct_l2 at h
    refine V_iload_n hM.c 3 dX5_addProduct_2 rfl rfl ?_
    refine V_aload_n hM.c 1 dX5_addProduct_3 rfl rfl ?_
    replace h := grd_some h
    obtain ⟨z1, h⟩ := h
    refine G3_2 hM.c tw_150 z1 dX5_addProduct_4 ?_
    refine V_icmp_ge hM.c 88 dX5_addProduct_7 (by decide) (fun c2 => ?_) (fun c2 => ?_)
    · replace h := ite_p h c2
      refine V_iconst (v := 1) hM.c dX5_addProduct_88 (by decide) ?_
      exact V_zretE hM (isz_nar (by decide)) h dX5_addProduct_89
    · replace h := ite_n h c2
      refine V_iload_n hM.c 3 dX5_addProduct_10 rfl rfl ?_
      refine V_bipush (v := 32) hM.c dX5_addProduct_11 (by decide) ?_
      refine V_icmp_ge hM.c 88 dX5_addProduct_13 (by decide) (fun c3 => ?_) (fun c3 => ?_)
      · replace h := ite_p h c3
        refine V_iconst (v := 1) hM.c dX5_addProduct_88 (by decide) ?_
        exact V_zretE hM (isz_nar (by decide)) h dX5_addProduct_89
      · replace h := ite_n h c3
        refine V_iconst (v := 0) hM.c dX5_addProduct_16 (by decide) ?_
        refine V_istore (L' := [(4, .int (0 : Int32)), (0, va_rf (some a)), (1, va_rf (some x1)), (2, va_rf (some x2)), (3, .int x3)]) hM.c dX5_addProduct_17 (by decide) rfl ?_
        refine V_sub [1, 2, 3, 4, 0] rfl ?_
        exact vl_X5_addProduct_l19 hM hz0 ih _ _ _ _ _ _ h
def f_X5_addProduct (n : Nat) (Z : Zt) (a : Nat) (x1 : Nat) (x2 : Nat) (g : Mem) : Option (Int32 × Mem) := grd (zk Z a = 4) (f_X5_addProduct_l2 n Z a n x1 x2 (0 : Int32) g)
theorem mq_X5_addProduct : Mq yX5_addProduct cX5_addProduct 7 (some .boolean) 2 := ⟨tw_832, tw_148, ⟨by decide +kernel, by decide +kernel, by decide +kernel⟩, by decide⟩
theorem mi_X5_addProduct : Cond.instanceMethod yX5_addProduct ∈ TB ∧ Cond.selects yX5_addProduct.cls yX5_addProduct yX5_addProduct ∈ TB := ⟨tw_830, tw_831⟩
theorem zc_X5_addProduct {n : Nat} {Z : Zt} {a : Nat} {x1 : Nat} {x2 : Nat} {g : Mem} {q : Int32 × Mem} (h : f_X5_addProduct n Z a x1 x2 g = some q) : zk Z a = 4 := (grd_some h).1
set_option maxHeartbeats 4000000 in
set_option maxRecDepth 100000 in
theorem vm_X5_addProduct {n : Nat} {Z : Zt} {a : Nat} {x1 : Nat} {x2 : Nat} {g : Mem} {rr : Int32} {gg : Mem} (h : f_X5_addProduct n Z a x1 x2 g = some (rr, gg)) : VM yX5_addProduct cX5_addProduct 7 (some .boolean) 1 [.ref a, va_rf (some x1), va_rf (some x2)] Z g (some (.int rr)) gg := by
  unfold f_X5_addProduct at h
  replace h := grd_some h
  obtain ⟨hz0, h⟩ := h
  refine VM.of (by decide +kernel) (Nat.le_of_ble_eq_true rfl) (fun x hM => ?_)
  have hM : Cm x cX5_addProduct RX5 7 (some .boolean) 1 Z (some (.int rr)) gg := hM
  show V x Z 0 0 0 [(0, va_rf (some a)), (1, va_rf (some x1)), (2, va_rf (some x2))] [] g
  refine V_iconst (v := 0) hM.c dX5_addProduct_0 (by decide) ?_
  refine V_istore_n (i := 3) (L' := [(3, .int (0 : Int32)), (0, va_rf (some a)), (1, va_rf (some x1)), (2, va_rf (some x2))]) hM.c dX5_addProduct_1 rfl (by decide) rfl ?_
  refine V_sub [1, 2, 3, 0] rfl ?_
  exact vl_X5_addProduct_l2 hM hz0  _ _ _ _ _ h
def f_X0_fillJoin_l47 (n : Nat) (Z : Zt) (κ19 : Nat → Nat → Int32 → Int32 → Int32 → Mem → Option (Int32 × Mem)) (a : Nat) : Nat → Nat → Nat → Int32 → Int32 → Int32 → Int32 → Int32 → Mem → Option (Int32 × Mem)
  | 0, _, _, _, _, _, _, _, _ => none
  | fu + 1, x1, x2, x3, x4, x5, x6, x7, g => bnd (f_X7_size n Z x2 g) (fun r27 g28 => if r27 ≤ x7 then (κ19 x1 x2 x3 x4 (x5 + 1) g28) else (bnd (f_X7_keyAt n Z x2 x7 g28) (fun r31 g32 => bnd (f_X7_width n Z x2 g32) (fun r34 g35 => bnd (f_X2_digit n Z r31 r34 x4 g35) (fun r37 g38 => if r37 = x6 then (nam (gP g38 a 1) (fun q41 => bnd (f_X7_keyAt n Z x1 x5 g38) (fun r43 g44 => bnd (f_X7_keyAt n Z x2 x7 g44) (fun r46 g47 => bnd (f_X7_width n Z x2 g47) (fun r49 g50 => bnd (f_X2_join n Z r43 r46 r49 g50) (fun r52 g53 => drf q41 (fun b55 => bnd (f_X7_rowWith n Z b55 r52 g53) (fun r57 g58 => bnd (f_X7_polynomialAt n Z x1 x5 g58) (fun r60 g61 => bnd (f_X7_polynomialAt n Z x2 x7 g61) (fun r63 g64 => if r57 = none then (some ((0 : Int32), g64)) else (if r60 = none then (some ((0 : Int32), g64)) else (if r63 = none then (some ((0 : Int32), g64)) else (drf r63 (fun b69 => drf r60 (fun b71 => drf r57 (fun b73 => bnd (f_X5_addProduct n Z b73 b71 b69 g64) (fun r75 g76 => if r75 = 0 then (some ((0 : Int32), g76)) else (f_X0_fillJoin_l47 n Z κ19 a fu x1 x2 x3 x4 x5 x6 (x7 + 1) g76)))))))))))))))))) else (f_X0_fillJoin_l47 n Z κ19 a fu x1 x2 x3 x4 x5 x6 (x7 + 1) g38))))))
set_option maxHeartbeats 4000000 in
set_option maxRecDepth 100000 in
theorem vl_X0_fillJoin_l47 {x : Cq} {n : Nat} {Z : Zt} {κ19 : Nat → Nat → Int32 → Int32 → Int32 → Mem → Option (Int32 × Mem)} {a : Nat} {rr : Int32} {gg : Mem} (hM : Cm x cX0_fillJoin RX0 11 (some .boolean) 2 Z (some (.int rr)) gg) (hz0 : zk Z a = 1) (hκ19 : ∀ (y1 : Nat) (y2 : Nat) (y3 : Int32) (y4 : Int32) (y5 : Int32) (y : Mem), κ19 y1 y2 y3 y4 y5 y = some (rr, gg) → V x Z 0 0 19 [(0, va_rf (some a)), (1, va_rf (some y1)), (2, va_rf (some y2)), (3, .int y3), (4, .int y4), (5, .int y5)] [] y) : ∀ (fu : Nat) (x1 : Nat) (x2 : Nat) (x3 : Int32) (x4 : Int32) (x5 : Int32) (x6 : Int32) (x7 : Int32) (g : Mem), f_X0_fillJoin_l47 n Z κ19 a fu x1 x2 x3 x4 x5 x6 x7 g = some (rr, gg) → V x Z 0 0 47 [(0, va_rf (some a)), (1, va_rf (some x1)), (2, va_rf (some x2)), (3, .int x3), (4, .int x4), (5, .int x5), (6, .int x6), (7, .int x7)] [] g := by
  intro fu
  induction fu with
  | zero => intro x1 x2 x3 x4 x5 x6 x7 g h; cases h
  | succ fu ih =>
    intro x1 x2 x3 x4 x5 x6 x7 g h
    unfold f_X0_fillJoin_l47 at h
    refine V_iload hM.c 7 dX0_fillJoin_47 rfl ?_
    refine V_aload_n hM.c 2 dX0_fillJoin_49 rfl rfl ?_
    replace h := bnd_some h
    obtain ⟨r27, g28, e29, h⟩ := h
    refine V_callV (As := []) (c := 5) (T := TX7) (N := 4) hM.c hM.a mq_X7_size mi_X7_size tw_794 (hM.d (by decide)) hM.z rfl (by omega) (zc_X7_size e29) (vm_X7_size e29) rfl (Nat.le_of_ble_eq_true rfl) dX0_fillJoin_50 ?_
    refine V_icmp_ge hM.c 158 dX0_fillJoin_53 (by decide) (fun c30 => ?_) (fun c30 => ?_)
    · replace h := ite_p h c30
      refine V_iinc (v := (x5 + 1)) (L' := [(5, .int (x5 + 1)), (0, va_rf (some a)), (1, va_rf (some x1)), (2, va_rf (some x2)), (3, .int x3), (4, .int x4), (6, .int x6), (7, .int x7)]) hM.c 5 dX0_fillJoin_158 rfl rfl (by decide) rfl ?_
      refine V_goto hM.c 19 dX0_fillJoin_161 (by decide) ?_
      refine V_sub [1, 2, 3, 4, 5, 0] rfl ?_
      exact hκ19 _ _ _ _ _ _ h
    · replace h := ite_n h c30
      refine V_aload_n hM.c 2 dX0_fillJoin_56 rfl rfl ?_
      refine V_iload hM.c 7 dX0_fillJoin_57 rfl ?_
      replace h := bnd_some h
      obtain ⟨r31, g32, e33, h⟩ := h
      refine V_callV (As := [.int x7]) (c := 5) (T := TX7) (N := 4) hM.c hM.a mq_X7_keyAt mi_X7_keyAt tw_798 (hM.d (by decide)) hM.z rfl (by omega) (zc_X7_keyAt e33) (vm_X7_keyAt e33) rfl (Nat.le_of_ble_eq_true rfl) dX0_fillJoin_59 ?_
      refine V_aload_n hM.c 2 dX0_fillJoin_62 rfl rfl ?_
      replace h := bnd_some h
      obtain ⟨r34, g35, e36, h⟩ := h
      refine V_callV (As := []) (c := 5) (T := TX7) (N := 4) hM.c hM.a mq_X7_width mi_X7_width tw_790 (hM.d (by decide)) hM.z rfl (by omega) (zc_X7_width e36) (vm_X7_width e36) rfl (Nat.le_of_ble_eq_true rfl) dX0_fillJoin_63 ?_
      refine V_iload hM.c 4 dX0_fillJoin_66 rfl ?_
      replace h := bnd_some h
      obtain ⟨r37, g38, e39, h⟩ := h
      refine V_callS (As := [.int r31, .int r34, .int x4]) hM.c hM.a mq_X2_digit mi_X2_digit tw_806 (hM.d (by decide)) hM.z (vm_X2_digit e39) rfl (Nat.le_of_ble_eq_true rfl) dX0_fillJoin_68 ?_
      refine V_iload hM.c 6 dX0_fillJoin_71 rfl ?_
      refine V_icmp_eq hM.c 79 dX0_fillJoin_73 (by decide) (fun c40 => ?_) (fun c40 => ?_)
      · replace h := ite_p h c40
        refine V_aload_n hM.c 0 dX0_fillJoin_79 rfl rfl ?_
        replace h := nam_some h
        obtain ⟨q41, e42, h⟩ := h
        refine G0_1 hM.c tw_710 hz0 e42 dX0_fillJoin_80 ?_
        refine V_aload_n hM.c 1 dX0_fillJoin_83 rfl rfl ?_
        refine V_iload hM.c 5 dX0_fillJoin_84 rfl ?_
        replace h := bnd_some h
        obtain ⟨r43, g44, e45, h⟩ := h
        refine V_callV (As := [.int x5]) (c := 5) (T := TX7) (N := 4) hM.c hM.a mq_X7_keyAt mi_X7_keyAt tw_798 (hM.d (by decide)) hM.z rfl (by omega) (zc_X7_keyAt e45) (vm_X7_keyAt e45) rfl (by simp [rf_cat, cat_i, cat_l]) dX0_fillJoin_86 ?_
        refine V_aload_n hM.c 2 dX0_fillJoin_89 rfl rfl ?_
        refine V_iload hM.c 7 dX0_fillJoin_90 rfl ?_
        replace h := bnd_some h
        obtain ⟨r46, g47, e48, h⟩ := h
        refine V_callV (As := [.int x7]) (c := 5) (T := TX7) (N := 4) hM.c hM.a mq_X7_keyAt mi_X7_keyAt tw_798 (hM.d (by decide)) hM.z rfl (by omega) (zc_X7_keyAt e48) (vm_X7_keyAt e48) rfl (by simp [rf_cat, cat_i, cat_l]) dX0_fillJoin_92 ?_
        refine V_aload_n hM.c 2 dX0_fillJoin_95 rfl rfl ?_
        replace h := bnd_some h
        obtain ⟨r49, g50, e51, h⟩ := h
        refine V_callV (As := []) (c := 5) (T := TX7) (N := 4) hM.c hM.a mq_X7_width mi_X7_width tw_790 (hM.d (by decide)) hM.z rfl (by omega) (zc_X7_width e51) (vm_X7_width e51) rfl (by simp [rf_cat, cat_i, cat_l]) dX0_fillJoin_96 ?_
        replace h := bnd_some h
        obtain ⟨r52, g53, e54, h⟩ := h
        refine V_callS (As := [.int r43, .int r46, .int r49]) hM.c hM.a mq_X2_join mi_X2_join tw_824 (hM.d (by decide)) hM.z (vm_X2_join e54) rfl (by simp [rf_cat, cat_i, cat_l]) dX0_fillJoin_99 ?_
        replace h := drf_some h
        obtain ⟨b55, rfl, h⟩ := h
        replace h := bnd_some h
        obtain ⟨r57, g58, e59, h⟩ := h
        refine V_callV (As := [.int r52]) (c := 5) (T := TX7) (N := 4) hM.c hM.a mq_X7_rowWith mi_X7_rowWith tw_763 (hM.d (by decide)) hM.z rfl (by omega) (zc_X7_rowWith e59) (vm_X7_rowWith e59) rfl (Nat.le_of_ble_eq_true rfl) dX0_fillJoin_102 ?_
        refine V_astore (L' := [(8, va_rf r57), (0, va_rf (some a)), (1, va_rf (some x1)), (2, va_rf (some x2)), (3, .int x3), (4, .int x4), (5, .int x5), (6, .int x6), (7, .int x7)]) hM.c dX0_fillJoin_105 (by decide) rfl ?_
        refine V_aload_n hM.c 2 dX0_fillJoin_107 rfl rfl ?_
        refine V_iload hM.c 6 dX0_fillJoin_108 rfl ?_
        replace h := bnd_some h
        obtain ⟨r60, g61, e62, h⟩ := h
        refine V_callV (As := [.int x5]) (c := 5) (T := TX7) (N := 4) hM.c hM.a mq_X7_polynomialAt mi_X7_polynomialAt tw_811 (hM.d (by decide)) hM.z rfl (by omega) (zc_X7_polynomialAt e62) (vm_X7_polynomialAt e62) rfl (Nat.le_of_ble_eq_true rfl) dX0_fillJoin_110 ?_
        refine V_astore (L' := [(9, va_rf r60), (8, va_rf r57), (0, va_rf (some a)), (1, va_rf (some x1)), (2, va_rf (some x2)), (3, .int x3), (4, .int x4), (5, .int x5), (6, .int x6), (7, .int x7)]) hM.c dX0_fillJoin_113 (by decide) (by simp [rf_cat, cat_i, cat_l]) ?_
        refine V_aload_n hM.c 4 dX0_fillJoin_115 rfl rfl ?_
        refine V_iload hM.c 9 dX0_fillJoin_116 rfl ?_
        replace h := bnd_some h
        obtain ⟨r63, g64, e65, h⟩ := h
        refine V_callV (As := [.int x7]) (c := 5) (T := TX7) (N := 4) hM.c hM.a mq_X7_polynomialAt mi_X7_polynomialAt tw_811 (hM.d (by decide)) hM.z rfl (by omega) (zc_X7_polynomialAt e65) (vm_X7_polynomialAt e65) rfl (Nat.le_of_ble_eq_true rfl) dX0_fillJoin_118 ?_
        refine V_astore (L' := [(10, va_rf r63), (9, va_rf r60), (8, va_rf r57), (0, va_rf (some a)), (1, va_rf (some x1)), (2, va_rf (some x2)), (3, .int x3), (4, .int x4), (5, .int x5), (6, .int x6), (7, .int x7)]) hM.c dX0_fillJoin_121 (by decide) (by simp [rf_cat, cat_i, cat_l]) ?_
        refine V_aload hM.c 2 dX0_fillJoin_123 rfl ?_
        refine V_ifnull hM.c 150 dX0_fillJoin_125 (by decide) (fun c66 => ?_) (fun c66 => ?_)
        · replace h := ite_p h c66
          refine V_iconst (v := 0) hM.c dX0_fillJoin_150 (by decide) ?_
          exact V_zretE hM (isz_nar (by decide)) h dX0_fillJoin_151
        · replace h := ite_n h c66
          refine V_aload hM.c 1 dX0_fillJoin_128 rfl ?_
          refine V_ifnull hM.c 150 dX0_fillJoin_130 (by decide) (fun c67 => ?_) (fun c67 => ?_)
          · replace h := ite_p h c67
            refine V_iconst (v := 0) hM.c dX0_fillJoin_150 (by decide) ?_
            exact V_zretE hM (isz_nar (by decide)) h dX0_fillJoin_151
          · replace h := ite_n h c67
            refine V_aload hM.c 0 dX0_fillJoin_133 rfl ?_
            refine V_ifnull hM.c 150 dX0_fillJoin_135 (by decide) (fun c68 => ?_) (fun c68 => ?_)
            · replace h := ite_p h c68
              refine V_iconst (v := 0) hM.c dX0_fillJoin_150 (by decide) ?_
              exact V_zretE hM (isz_nar (by decide)) h dX0_fillJoin_151
            · replace h := ite_n h c68
              refine V_aload hM.c 2 dX0_fillJoin_138 rfl ?_
              refine V_aload hM.c 1 dX0_fillJoin_140 rfl ?_
              refine V_aload hM.c 0 dX0_fillJoin_142 rfl ?_
              replace h := drf_some h
              obtain ⟨b69, rfl, h⟩ := h
              replace h := drf_some h
              obtain ⟨b71, rfl, h⟩ := h
              replace h := drf_some h
              obtain ⟨b73, rfl, h⟩ := h
              replace h := bnd_some h
              obtain ⟨r75, g76, e77, h⟩ := h
              refine V_callV (As := [va_rf (some b71), va_rf (some b69)]) (c := 3) (T := TX5) (N := 3) hM.c hM.a mq_X5_addProduct mi_X5_addProduct tw_829 (hM.d (by decide)) hM.z rfl (by omega) (zc_X5_addProduct e77) (vm_X5_addProduct e77) rfl (Nat.le_of_ble_eq_true rfl) dX0_fillJoin_144 ?_
              refine V_if_ne hM.c 152 dX0_fillJoin_147 (by decide) (fun c78 => ?_) (fun c78 => ?_)
              · replace h := ite_n h c78
                refine V_iinc (v := (x7 + 1)) (L' := [(7, .int (x7 + 1)), (10, va_rf (some b69)), (9, va_rf (some b71)), (8, va_rf (some b73)), (0, va_rf (some a)), (1, va_rf (some x1)), (2, va_rf (some x2)), (3, .int x3), (4, .int x4), (5, .int x5), (6, .int x6)]) hM.c 10 dX0_fillJoin_152 rfl rfl (by decide) rfl ?_
                refine V_goto hM.c 47 dX0_fillJoin_155 (by decide) ?_
                refine V_sub [4, 5, 6, 7, 8, 9, 10, 0] rfl ?_
                exact ih _ _ _ _ _ _ _ _ h
              · replace h := ite_p h c78
                refine V_iconst (v := 0) hM.c dX0_fillJoin_150 (by decide) ?_
                exact V_zretE hM (isz_nar (by decide)) h dX0_fillJoin_151
      · replace h := ite_n h c40
        refine V_goto hM.c 152 dX0_fillJoin_76 (by decide) ?_
        refine V_iinc (v := (x7 + 1)) (L' := [(7, .int (x7 + 1)), (0, va_rf (some a)), (1, va_rf (some x1)), (2, va_rf (some x2)), (3, .int x3), (4, .int x4), (5, .int x5), (6, .int x6)]) hM.c 7 dX0_fillJoin_152 rfl rfl (by decide) rfl ?_
        refine V_goto hM.c 47 dX0_fillJoin_155 (by decide) ?_
        refine V_sub [1, 2, 3, 4, 5, 6, 7, 0] rfl ?_
        exact ih _ _ _ _ _ _ _ _ h
def f_X0_fillJoin_l19 (n : Nat) (Z : Zt) (a : Nat) : Nat → Nat → Nat → Int32 → Int32 → Int32 → Mem → Option (Int32 × Mem)
  | 0, _, _, _, _, _, _ => none
  | fu + 1, x1, x2, x3, x4, x5, g => bnd (f_X7_size n Z x1 g) (fun r14 g15 => if r14 ≤ x5 then (some ((1 : Int32), g15)) else (bnd (f_X7_keyAt n Z x1 x5 g15) (fun r18 g19 => bnd (f_X7_width n Z x1 g19) (fun r21 g22 => bnd (f_X2_digit n Z r18 r21 x3 g22) (fun r24 g25 => f_X0_fillJoin_l47 n Z (fun y0 y1 y2 y3 y4 y => f_X0_fillJoin_l19 n Z a fu y0 y1 y2 y3 y4 y) a n x1 x2 x3 x4 x5 r24 (0 : Int32) g25)))))
set_option maxHeartbeats 4000000 in
set_option maxRecDepth 100000 in
theorem vl_X0_fillJoin_l19 {x : Cq} {n : Nat} {Z : Zt} {a : Nat} {rr : Int32} {gg : Mem} (hM : Cm x cX0_fillJoin RX0 11 (some .boolean) 2 Z (some (.int rr)) gg) (hz0 : zk Z a = 1) : ∀ (fu : Nat) (x1 : Nat) (x2 : Nat) (x3 : Int32) (x4 : Int32) (x5 : Int32) (g : Mem), f_X0_fillJoin_l19 n Z a fu x1 x2 x3 x4 x5 g = some (rr, gg) → V x Z 0 0 19 [(0, va_rf (some a)), (1, va_rf (some x1)), (2, va_rf (some x2)), (3, .int x3), (4, .int x4), (5, .int x5)] [] g := by
  intro fu
  induction fu with
  | zero => intro x1 x2 x3 x4 x5 g h; cases h
  | succ fu ih =>
    intro x1 x2 x3 x4 x5 g h
    unfold f_X0_fillJoin_l19 at h
    refine V_iload hM.c 5 dX0_fillJoin_19 rfl ?_
    refine V_aload_n hM.c 1 dX0_fillJoin_21 rfl rfl ?_
    replace h := bnd_some h
    obtain ⟨r14, g15, e16, h⟩ := h
    refine V_callV (As := []) (c := 5) (T := TX7) (N := 4) hM.c hM.a mq_X7_size mi_X7_size tw_794 (hM.d (by decide)) hM.z rfl (by omega) (zc_X7_size e16) (vm_X7_size e16) rfl (Nat.le_of_ble_eq_true rfl) dX0_fillJoin_22 ?_
    refine V_icmp_ge hM.c 164 dX0_fillJoin_25 (by decide) (fun c17 => ?_) (fun c17 => ?_)
    · replace h := ite_p h c17
      refine V_iconst (v := 1) hM.c dX0_fillJoin_164 (by decide) ?_
      exact V_zretE hM (isz_nar (by decide)) h dX0_fillJoin_165
    · replace h := ite_n h c17
      refine V_aload_n hM.c 1 dX0_fillJoin_28 rfl rfl ?_
      refine V_iload hM.c 5 dX0_fillJoin_29 rfl ?_
      replace h := bnd_some h
      obtain ⟨r18, g19, e20, h⟩ := h
      refine V_callV (As := [.int x5]) (c := 5) (T := TX7) (N := 4) hM.c hM.a mq_X7_keyAt mi_X7_keyAt tw_798 (hM.d (by decide)) hM.z rfl (by omega) (zc_X7_keyAt e20) (vm_X7_keyAt e20) rfl (Nat.le_of_ble_eq_true rfl) dX0_fillJoin_31 ?_
      refine V_aload_n hM.c 1 dX0_fillJoin_34 rfl rfl ?_
      replace h := bnd_some h
      obtain ⟨r21, g22, e23, h⟩ := h
      refine V_callV (As := []) (c := 5) (T := TX7) (N := 4) hM.c hM.a mq_X7_width mi_X7_width tw_790 (hM.d (by decide)) hM.z rfl (by omega) (zc_X7_width e23) (vm_X7_width e23) rfl (Nat.le_of_ble_eq_true rfl) dX0_fillJoin_35 ?_
      refine V_iload_n hM.c 3 dX0_fillJoin_38 rfl rfl ?_
      replace h := bnd_some h
      obtain ⟨r24, g25, e26, h⟩ := h
      refine V_callS (As := [.int r18, .int r21, .int x3]) hM.c hM.a mq_X2_digit mi_X2_digit tw_806 (hM.d (by decide)) hM.z (vm_X2_digit e26) rfl (Nat.le_of_ble_eq_true rfl) dX0_fillJoin_39 ?_
      refine V_istore (L' := [(6, .int r24), (0, va_rf (some a)), (1, va_rf (some x1)), (2, va_rf (some x2)), (3, .int x3), (4, .int x4), (5, .int x5)]) hM.c dX0_fillJoin_42 (by decide) rfl ?_
      refine V_iconst (v := 0) hM.c dX0_fillJoin_44 (by decide) ?_
      refine V_istore (L' := [(7, .int (0 : Int32)), (6, .int r24), (0, va_rf (some a)), (1, va_rf (some x1)), (2, va_rf (some x2)), (3, .int x3), (4, .int x4), (5, .int x5)]) hM.c dX0_fillJoin_45 (by decide) rfl ?_
      refine V_sub [2, 3, 4, 5, 6, 7, 1, 0] rfl ?_
      exact vl_X0_fillJoin_l47 hM hz0 ih _ _ _ _ _ _ _ _ _ h
def f_X0_fillJoin (n : Nat) (Z : Zt) (a : Nat) (x1 : Nat) (x2 : Nat) (x3 : Int32) (x4 : Int32) (g : Mem) : Option (Int32 × Mem) := grd (zk Z a = 1) (nam (gP g a 1) (fun q1 => bnd (f_X7_width n Z x1 g) (fun r3 g4 => bnd (f_X7_width n Z x2 g4) (fun r6 g7 => drf q1 (fun b9 => bnd (f_X7_clear n Z b9 (r3 + r6) g7) (fun r11 g12 => f_X0_fillJoin_l19 n Z a n x1 x2 x3 x4 (0 : Int32) g12))))))
theorem mq_X0_fillJoin : Mq yX0_fillJoin cX0_fillJoin 11 (some .boolean) 4 := ⟨tw_828, tw_104, ⟨by decide +kernel, by decide +kernel, by decide +kernel⟩, by decide⟩
theorem mi_X0_fillJoin : Cond.instanceMethod yX0_fillJoin ∈ TB ∧ Cond.selects yX0_fillJoin.cls yX0_fillJoin yX0_fillJoin ∈ TB := ⟨tw_826, tw_827⟩
theorem zc_X0_fillJoin {n : Nat} {Z : Zt} {a : Nat} {x1 : Nat} {x2 : Nat} {x3 : Int32} {x4 : Int32} {g : Mem} {q : Int32 × Mem} (h : f_X0_fillJoin n Z a x1 x2 x3 x4 g = some q) : zk Z a = 1 := (grd_some h).1
set_option maxHeartbeats 4000000 in
set_option maxRecDepth 100000 in
theorem vm_X0_fillJoin {n : Nat} {Z : Zt} {a : Nat} {x1 : Nat} {x2 : Nat} {x3 : Int32} {x4 : Int32} {g : Mem} {rr : Int32} {gg : Mem} (h : f_X0_fillJoin n Z a x1 x2 x3 x4 g = some (rr, gg)) : VM yX0_fillJoin cX0_fillJoin 11 (some .boolean) 2 [.ref a, va_rf (some x1), va_rf (some x2), .int x3, .int x4] Z g (some (.int rr)) gg := by
  unfold f_X0_fillJoin at h
  replace h := grd_some h
  obtain ⟨hz0, h⟩ := h
  refine VM.of (by decide +kernel) (Nat.le_of_ble_eq_true rfl) (fun x hM => ?_)
  have hM : Cm x cX0_fillJoin RX0 11 (some .boolean) 2 Z (some (.int rr)) gg := hM
  show V x Z 0 0 0 [(0, va_rf (some a)), (1, va_rf (some x1)), (2, va_rf (some x2)), (3, .int x3), (4, .int x4)] [] g
  refine V_aload_n hM.c 0 dX0_fillJoin_0 rfl rfl ?_
  replace h := nam_some h
  obtain ⟨q1, e2, h⟩ := h
  refine G0_1 hM.c tw_710 hz0 e2 dX0_fillJoin_1 ?_
  refine V_aload_n hM.c 1 dX0_fillJoin_4 rfl rfl ?_
  replace h := bnd_some h
  obtain ⟨r3, g4, e5, h⟩ := h
  refine V_callV (As := []) (c := 5) (T := TX7) (N := 4) hM.c hM.a mq_X7_width mi_X7_width tw_790 (hM.d (by decide)) hM.z rfl (by omega) (zc_X7_width e5) (vm_X7_width e5) rfl (by simp [rf_cat, cat_i, cat_l]) dX0_fillJoin_5 ?_
  refine V_aload_n hM.c 2 dX0_fillJoin_8 rfl rfl ?_
  replace h := bnd_some h
  obtain ⟨r6, g7, e8, h⟩ := h
  refine V_callV (As := []) (c := 5) (T := TX7) (N := 4) hM.c hM.a mq_X7_width mi_X7_width tw_790 (hM.d (by decide)) hM.z rfl (by omega) (zc_X7_width e8) (vm_X7_width e8) rfl (by simp [rf_cat, cat_i, cat_l]) dX0_fillJoin_9 ?_
  refine V_iadd hM.c dX0_fillJoin_12 ?_
  replace h := drf_some h
  obtain ⟨b9, rfl, h⟩ := h
  replace h := bnd_some h
  obtain ⟨r11, g12, e13, h⟩ := h
  refine V_callV (As := [.int (r3 + r6)]) (c := 5) (T := TX7) (N := 4) hM.c hM.a mq_X7_clear mi_X7_clear tw_715 (hM.d (by decide)) hM.z rfl (by omega) (zc_X7_clear e13) (vm_X7_clear e13) rfl (Nat.le_of_ble_eq_true rfl) dX0_fillJoin_13 ?_
  refine V_iconst (v := 0) hM.c dX0_fillJoin_16 (by decide) ?_
  refine V_istore (L' := [(5, .int (0 : Int32)), (0, va_rf (some a)), (1, va_rf (some x1)), (2, va_rf (some x2)), (3, .int x3), (4, .int x4)]) hM.c dX0_fillJoin_17 (by decide) rfl ?_
  refine V_sub [1, 2, 3, 4, 5, 0] rfl ?_
  exact vl_X0_fillJoin_l19 hM hz0  _ _ _ _ _ _ _ h
def f_X0_fillUnion_l45 (n : Nat) (Z : Zt) (a : Nat) : Nat → Nat → Int32 → Mem → Option (Int32 × Mem)
  | 0, _, _, _ => none
  | fu + 1, x2, x3, g => bnd (f_X7_size n Z x2 g) (fun r22 g23 => if r22 ≤ x3 then (some ((1 : Int32), g23)) else (bnd (f_X7_keyAt n Z x2 x3 g23) (fun r26 g27 => bnd (f_X0_addToSpare n Z a r26 x2 x3 g27) (fun r29 g30 => if r29 = 0 then (some ((0 : Int32), g30)) else (f_X0_fillUnion_l45 n Z a fu x2 (x3 + 1) g30)))))
set_option maxHeartbeats 4000000 in
set_option maxRecDepth 100000 in
theorem vl_X0_fillUnion_l45 {x : Cq} {n : Nat} {Z : Zt} {a : Nat} {rr : Int32} {gg : Mem} (hM : Cm x cX0_fillUnion RX0 4 (some .boolean) 3 Z (some (.int rr)) gg) (hz0 : zk Z a = 1) : ∀ (fu : Nat) (x2 : Nat) (x3 : Int32) (g : Mem), f_X0_fillUnion_l45 n Z a fu x2 x3 g = some (rr, gg) → V x Z 0 0 45 [(0, va_rf (some a)), (2, va_rf (some x2)), (3, .int x3)] [] g := by
  intro fu
  induction fu with
  | zero => intro x2 x3 g h; cases h
  | succ fu ih =>
    intro x2 x3 g h
    unfold f_X0_fillUnion_l45 at h
    refine V_iload_n hM.c 2 dX0_fillUnion_45 rfl rfl ?_
    refine V_aload_n hM.c 1 dX0_fillUnion_46 rfl rfl ?_
    replace h := bnd_some h
    obtain ⟨r22, g23, e24, h⟩ := h
    refine V_callV (As := []) (c := 5) (T := TX7) (N := 4) hM.c hM.a mq_X7_size mi_X7_size tw_794 (hM.d (by decide)) hM.z rfl (by omega) (zc_X7_size e24) (vm_X7_size e24) rfl (Nat.le_of_ble_eq_true rfl) dX0_fillUnion_47 ?_
    refine V_icmp_ge hM.c 75 dX0_fillUnion_50 (by decide) (fun c25 => ?_) (fun c25 => ?_)
    · replace h := ite_p h c25
      refine V_iconst (v := 1) hM.c dX0_fillUnion_75 (by decide) ?_
      exact V_zretE hM (isz_nar (by decide)) h dX0_fillUnion_76
    · replace h := ite_n h c25
      refine V_aload_n hM.c 0 dX0_fillUnion_53 rfl rfl ?_
      refine V_aload_n hM.c 1 dX0_fillUnion_54 rfl rfl ?_
      refine V_iload_n hM.c 2 dX0_fillUnion_55 rfl rfl ?_
      replace h := bnd_some h
      obtain ⟨r26, g27, e28, h⟩ := h
      refine V_callV (As := [.int x3]) (c := 5) (T := TX7) (N := 4) hM.c hM.a mq_X7_keyAt mi_X7_keyAt tw_798 (hM.d (by decide)) hM.z rfl (by omega) (zc_X7_keyAt e28) (vm_X7_keyAt e28) rfl (Nat.le_of_ble_eq_true rfl) dX0_fillUnion_56 ?_
      refine V_aload_n hM.c 1 dX0_fillUnion_59 rfl rfl ?_
      refine V_iload_n hM.c 2 dX0_fillUnion_60 rfl rfl ?_
      replace h := bnd_some h
      obtain ⟨r29, g30, e31, h⟩ := h
      refine V_callV (As := [.int r26, va_rf (some x2), .int x3]) (c := 0) (T := TX0) (N := 4) hM.c hM.a mq_X0_addToSpare mi_X0_addToSpare tw_807 (hM.d (by decide)) hM.z rfl (by omega) (zc_X0_addToSpare e31) (vm_X0_addToSpare e31) rfl (Nat.le_of_ble_eq_true rfl) dX0_fillUnion_61 ?_
      refine V_if_ne hM.c 69 dX0_fillUnion_64 (by decide) (fun c32 => ?_) (fun c32 => ?_)
      · replace h := ite_n h c32
        refine V_iinc (v := (x3 + 1)) (L' := [(3, .int (x3 + 1)), (0, va_rf (some a)), (2, va_rf (some x2))]) hM.c 2 dX0_fillUnion_69 rfl rfl (by decide) rfl ?_
        refine V_goto hM.c 45 dX0_fillUnion_72 (by decide) ?_
        refine V_sub [1, 2, 0] rfl ?_
        exact ih _ _ _ h
      · replace h := ite_p h c32
        refine V_iconst (v := 0) hM.c dX0_fillUnion_67 (by decide) ?_
        exact V_zretE hM (isz_nar (by decide)) h dX0_fillUnion_68
def f_X0_fillUnion_l13 (n : Nat) (Z : Zt) (a : Nat) : Nat → Nat → Nat → Int32 → Mem → Option (Int32 × Mem)
  | 0, _, _, _, _ => none
  | fu + 1, x1, x2, x3, g => bnd (f_X7_size n Z x1 g) (fun r11 g12 => if r11 ≤ x3 then (f_X0_fillUnion_l45 n Z a n x2 (0 : Int32) g12) else (bnd (f_X7_keyAt n Z x1 x3 g12) (fun r15 g16 => bnd (f_X0_addToSpare n Z a r15 x1 x3 g16) (fun r18 g19 => if r18 = 0 then (some ((0 : Int32), g19)) else (f_X0_fillUnion_l13 n Z a fu x1 x2 (x3 + 1) g19)))))
set_option maxHeartbeats 4000000 in
set_option maxRecDepth 100000 in
theorem vl_X0_fillUnion_l13 {x : Cq} {n : Nat} {Z : Zt} {a : Nat} {rr : Int32} {gg : Mem} (hM : Cm x cX0_fillUnion RX0 4 (some .boolean) 3 Z (some (.int rr)) gg) (hz0 : zk Z a = 1) : ∀ (fu : Nat) (x1 : Nat) (x2 : Nat) (x3 : Int32) (g : Mem), f_X0_fillUnion_l13 n Z a fu x1 x2 x3 g = some (rr, gg) → V x Z 0 0 13 [(0, va_rf (some a)), (1, va_rf (some x1)), (2, va_rf (some x2)), (3, .int x3)] [] g := by
  intro fu
  induction fu with
  | zero => intro x1 x2 x3 g h; cases h
  | succ fu ih =>
    intro x1 x2 x3 g h
    unfold f_X0_fillUnion_l13 at h
    refine V_iload_n hM.c 3 dX0_fillUnion_13 rfl rfl ?_
    refine V_aload_n hM.c 1 dX0_fillUnion_14 rfl rfl ?_
    replace h := bnd_some h
    obtain ⟨r11, g12, e13, h⟩ := h
    refine V_callV (As := []) (c := 5) (T := TX7) (N := 4) hM.c hM.a mq_X7_size mi_X7_size tw_794 (hM.d (by decide)) hM.z rfl (by omega) (zc_X7_size e13) (vm_X7_size e13) rfl (Nat.le_of_ble_eq_true rfl) dX0_fillUnion_15 ?_
    refine V_icmp_ge hM.c 43 dX0_fillUnion_18 (by decide) (fun c14 => ?_) (fun c14 => ?_)
    · replace h := ite_p h c14
      refine V_iconst (v := 0) hM.c dX0_fillUnion_43 (by decide) ?_
      refine V_istore_n (i := 3) (L' := [(3, .int (0 : Int32)), (0, va_rf (some a)), (1, va_rf (some x1)), (2, va_rf (some x2))]) hM.c dX0_fillUnion_44 rfl (by decide) rfl ?_
      refine V_sub [1, 3, 0] rfl ?_
      exact vl_X0_fillUnion_l45 hM hz0  _ _ _ _ h
    · replace h := ite_n h c14
      refine V_aload_n hM.c 0 dX0_fillUnion_21 rfl rfl ?_
      refine V_aload_n hM.c 1 dX0_fillUnion_22 rfl rfl ?_
      refine V_iload_n hM.c 3 dX0_fillUnion_23 rfl rfl ?_
      replace h := bnd_some h
      obtain ⟨r15, g16, e17, h⟩ := h
      refine V_callV (As := [.int x3]) (c := 5) (T := TX7) (N := 4) hM.c hM.a mq_X7_keyAt mi_X7_keyAt tw_798 (hM.d (by decide)) hM.z rfl (by omega) (zc_X7_keyAt e17) (vm_X7_keyAt e17) rfl (Nat.le_of_ble_eq_true rfl) dX0_fillUnion_24 ?_
      refine V_aload_n hM.c 1 dX0_fillUnion_27 rfl rfl ?_
      refine V_iload_n hM.c 3 dX0_fillUnion_28 rfl rfl ?_
      replace h := bnd_some h
      obtain ⟨r18, g19, e20, h⟩ := h
      refine V_callV (As := [.int r15, va_rf (some x1), .int x3]) (c := 0) (T := TX0) (N := 4) hM.c hM.a mq_X0_addToSpare mi_X0_addToSpare tw_807 (hM.d (by decide)) hM.z rfl (by omega) (zc_X0_addToSpare e20) (vm_X0_addToSpare e20) rfl (Nat.le_of_ble_eq_true rfl) dX0_fillUnion_29 ?_
      refine V_if_ne hM.c 37 dX0_fillUnion_32 (by decide) (fun c21 => ?_) (fun c21 => ?_)
      · replace h := ite_n h c21
        refine V_iinc (v := (x3 + 1)) (L' := [(3, .int (x3 + 1)), (0, va_rf (some a)), (1, va_rf (some x1)), (2, va_rf (some x2))]) hM.c 3 dX0_fillUnion_37 rfl rfl (by decide) rfl ?_
        refine V_goto hM.c 13 dX0_fillUnion_40 (by decide) ?_
        refine V_sub [1, 2, 3, 0] rfl ?_
        exact ih _ _ _ _ h
      · replace h := ite_p h c21
        refine V_iconst (v := 0) hM.c dX0_fillUnion_35 (by decide) ?_
        exact V_zretE hM (isz_nar (by decide)) h dX0_fillUnion_36
def f_X0_fillUnion (n : Nat) (Z : Zt) (a : Nat) (x1 : Nat) (x2 : Nat) (g : Mem) : Option (Int32 × Mem) := grd (zk Z a = 1) (nam (gP g a 1) (fun q1 => bnd (f_X7_width n Z x1 g) (fun r3 g4 => drf q1 (fun b6 => bnd (f_X7_clear n Z b6 r3 g4) (fun r8 g9 => f_X0_fillUnion_l13 n Z a n x1 x2 (0 : Int32) g9)))))
theorem mq_X0_fillUnion : Mq yX0_fillUnion cX0_fillUnion 4 (some .boolean) 2 := ⟨tw_836, tw_104, ⟨by decide +kernel, by decide +kernel, by decide +kernel⟩, by decide⟩
theorem mi_X0_fillUnion : Cond.instanceMethod yX0_fillUnion ∈ TB ∧ Cond.selects yX0_fillUnion.cls yX0_fillUnion yX0_fillUnion ∈ TB := ⟨tw_834, tw_835⟩
theorem zc_X0_fillUnion {n : Nat} {Z : Zt} {a : Nat} {x1 : Nat} {x2 : Nat} {g : Mem} {q : Int32 × Mem} (h : f_X0_fillUnion n Z a x1 x2 g = some q) : zk Z a = 1 := (grd_some h).1
set_option maxHeartbeats 4000000 in
set_option maxRecDepth 100000 in
theorem vm_X0_fillUnion {n : Nat} {Z : Zt} {a : Nat} {x1 : Nat} {x2 : Nat} {g : Mem} {rr : Int32} {gg : Mem} (h : f_X0_fillUnion n Z a x1 x2 g = some (rr, gg)) : VM yX0_fillUnion cX0_fillUnion 4 (some .boolean) 3 [.ref a, va_rf (some x1), va_rf (some x2)] Z g (some (.int rr)) gg := by
  unfold f_X0_fillUnion at h
  replace h := grd_some h
  obtain ⟨hz0, h⟩ := h
  refine VM.of (by decide +kernel) (Nat.le_of_ble_eq_true rfl) (fun x hM => ?_)
  have hM : Cm x cX0_fillUnion RX0 4 (some .boolean) 3 Z (some (.int rr)) gg := hM
  show V x Z 0 0 0 [(0, va_rf (some a)), (1, va_rf (some x1)), (2, va_rf (some x2))] [] g
  refine V_aload_n hM.c 0 dX0_fillUnion_0 rfl rfl ?_
  replace h := nam_some h
  obtain ⟨q1, e2, h⟩ := h
  refine G0_1 hM.c tw_710 hz0 e2 dX0_fillUnion_1 ?_
  refine V_aload_n hM.c 1 dX0_fillUnion_4 rfl rfl ?_
  replace h := bnd_some h
  obtain ⟨r3, g4, e5, h⟩ := h
  refine V_callV (As := []) (c := 5) (T := TX7) (N := 4) hM.c hM.a mq_X7_width mi_X7_width tw_790 (hM.d (by decide)) hM.z rfl (by omega) (zc_X7_width e5) (vm_X7_width e5) rfl (by simp [rf_cat, cat_i, cat_l]) dX0_fillUnion_5 ?_
  replace h := drf_some h
  obtain ⟨b6, rfl, h⟩ := h
  replace h := bnd_some h
  obtain ⟨r8, g9, e10, h⟩ := h
  refine V_callV (As := [.int r3]) (c := 5) (T := TX7) (N := 4) hM.c hM.a mq_X7_clear mi_X7_clear tw_715 (hM.d (by decide)) hM.z rfl (by omega) (zc_X7_clear e10) (vm_X7_clear e10) rfl (Nat.le_of_ble_eq_true rfl) dX0_fillUnion_8 ?_
  refine V_iconst (v := 0) hM.c dX0_fillUnion_11 (by decide) ?_
  refine V_istore_n (i := 3) (L' := [(3, .int (0 : Int32)), (0, va_rf (some a)), (1, va_rf (some x1)), (2, va_rf (some x2))]) hM.c dX0_fillUnion_12 rfl (by decide) rfl ?_
  refine V_sub [1, 2, 3, 0] rfl ?_
  exact vl_X0_fillUnion_l13 hM hz0  _ _ _ _ _ h
def f_X0_computeNode_l171 (n : Nat) (Z : Zt) (a : Nat) (x5 : Int32) (x10 : Int32) (g : Mem) : Option (Int32 × Mem) := if x10 = 0 then (some ((0 : Int32), g)) else (bnd (f_X0_pushSpare n Z a x5 g) (fun r51 g52 => if r51 = 0 then (some ((0 : Int32), g52)) else (some ((1 : Int32), g52))))
set_option maxHeartbeats 4000000 in
set_option maxRecDepth 100000 in
theorem vl_X0_computeNode_l171 {x : Cq} {n : Nat} {Z : Zt} {a : Nat} {x5 : Int32} {x10 : Int32} {g : Mem} {rr : Int32} {gg : Mem} (hM : Cm x cX0_computeNode RX0 11 (some .boolean) 4 Z (some (.int rr)) gg) (hz0 : zk Z a = 1) (h : f_X0_computeNode_l171 n Z a x5 x10 g = some (rr, gg)) : V x Z 0 0 171 [(0, va_rf (some a)), (5, .int x5), (10, .int x10)] [] g := by
  unfold f_X0_computeNode_l171 at h
  refine V_iload hM.c 2 dX0_computeNode_171 rfl ?_
  refine V_if_eq hM.c 189 dX0_computeNode_173 (by decide) (fun c50 => ?_) (fun c50 => ?_)
  · replace h := ite_p h c50
    refine V_iconst (v := 0) hM.c dX0_computeNode_189 (by decide) ?_
    exact V_zretE hM (isz_nar (by decide)) h dX0_computeNode_190
  · replace h := ite_n h c50
    refine V_aload_n hM.c 0 dX0_computeNode_176 rfl rfl ?_
    refine V_iload hM.c 1 dX0_computeNode_177 rfl ?_
    replace h := bnd_some h
    obtain ⟨r51, g52, e53, h⟩ := h
    refine V_callV (As := [.int x5]) (c := 0) (T := TX0) (N := 4) hM.c hM.a mq_X0_pushSpare mi_X0_pushSpare tw_722 (hM.d (by decide)) hM.z rfl (by omega) (zc_X0_pushSpare e53) (vm_X0_pushSpare e53) rfl (Nat.le_of_ble_eq_true rfl) dX0_computeNode_179 ?_
    refine V_if_eq hM.c 189 dX0_computeNode_182 (by decide) (fun c54 => ?_) (fun c54 => ?_)
    · replace h := ite_p h c54
      refine V_iconst (v := 0) hM.c dX0_computeNode_189 (by decide) ?_
      exact V_zretE hM (isz_nar (by decide)) h dX0_computeNode_190
    · replace h := ite_n h c54
      refine V_iconst (v := 1) hM.c dX0_computeNode_185 (by decide) ?_
      refine V_goto hM.c 190 dX0_computeNode_186 (by decide) ?_
      exact V_zretE hM (isz_nar (by decide)) h dX0_computeNode_190
def f_X0_computeNode_l112 (n : Nat) (Z : Zt) (a : Nat) (x4 : Int32) (x5 : Int32) (x6 : Option Nat) (x8 : Int32) (x9 : Int32) (g : Mem) : Option (Int32 × Mem) := drf x6 (fun b55 => bnd (f_X0_fillSelect n Z a b55 x4 x8 x9 g) (fun r57 g58 => f_X0_computeNode_l171 n Z a x5 r57 g58))
set_option maxHeartbeats 4000000 in
set_option maxRecDepth 100000 in
theorem vl_X0_computeNode_l112 {x : Cq} {n : Nat} {Z : Zt} {a : Nat} {x4 : Int32} {x5 : Int32} {x6 : Option Nat} {x8 : Int32} {x9 : Int32} {g : Mem} {rr : Int32} {gg : Mem} (hM : Cm x cX0_computeNode RX0 11 (some .boolean) 4 Z (some (.int rr)) gg) (hz0 : zk Z a = 1) (h : f_X0_computeNode_l112 n Z a x4 x5 x6 x8 x9 g = some (rr, gg)) : V x Z 0 0 112 [(0, va_rf (some a)), (4, .int x4), (5, .int x5), (6, va_rf x6), (8, .int x8), (9, .int x9)] [] g := by
  unfold f_X0_computeNode_l112 at h
  refine V_aload_n hM.c 0 dX0_computeNode_112 rfl rfl ?_
  refine V_aload hM.c 3 dX0_computeNode_113 rfl ?_
  refine V_iload hM.c 1 dX0_computeNode_115 rfl ?_
  refine V_iload hM.c 4 dX0_computeNode_117 rfl ?_
  refine V_iload hM.c 5 dX0_computeNode_119 rfl ?_
  replace h := drf_some h
  obtain ⟨b55, rfl, h⟩ := h
  replace h := bnd_some h
  obtain ⟨r57, g58, e59, h⟩ := h
  refine V_callV (As := [va_rf (some b55), .int x4, .int x8, .int x9]) (c := 0) (T := TX0) (N := 4) hM.c hM.a mq_X0_fillSelect mi_X0_fillSelect tw_786 (hM.d (by decide)) hM.z rfl (by omega) (zc_X0_fillSelect e59) (vm_X0_fillSelect e59) rfl (Nat.le_of_ble_eq_true rfl) dX0_computeNode_121 ?_
  refine V_istore (L' := [(10, .int r57), (0, va_rf (some a)), (4, .int x4), (5, .int x5), (6, va_rf (some b55)), (8, .int x8), (9, .int x9)]) hM.c dX0_computeNode_124 (by decide) rfl ?_
  refine V_goto hM.c 171 dX0_computeNode_126 (by decide) ?_
  refine V_sub [1, 3, 0] rfl ?_
  exact vl_X0_computeNode_l171 hM hz0  h
def f_X0_computeNode_l51 (n : Nat) (Z : Zt) (a : Nat) (x1 : Nat) (x2 : Int32) (x3 : Nat) (x4 : Int32) (x5 : Int32) (x6 : Option Nat) (x7 : Option Nat) (g : Mem) : Option (Int32 × Mem) := bnd (f_X6_firstAt n Z x1 x2 g) (fun r17 g18 => bnd (f_X6_secondAt n Z x1 x2 g18) (fun r20 g21 => if x4 = 0 then (bnd (f_X0_fillTable n Z a r17 x3 g21) (fun r28 g29 => f_X0_computeNode_l171 n Z a x5 r28 g29)) else (if x4 = 1 then (f_X0_computeNode_l112 n Z a x4 x5 x6 r17 r20 g21) else (if x4 = 2 then (f_X0_computeNode_l112 n Z a x4 x5 x6 r17 r20 g21) else (if x4 = 3 then (drf x6 (fun b31 => bnd (f_X0_fillProject n Z a b31 r17 r20 g21) (fun r33 g34 => f_X0_computeNode_l171 n Z a x5 r33 g34))) else (if x4 = 4 then (drf x7 (fun b36 => drf x6 (fun b38 => bnd (f_X0_fillJoin n Z a b38 b36 r17 r20 g21) (fun r40 g41 => f_X0_computeNode_l171 n Z a x5 r40 g41)))) else (drf x7 (fun b43 => drf x6 (fun b45 => bnd (f_X0_fillUnion n Z a b45 b43 g21) (fun r47 g48 => f_X0_computeNode_l171 n Z a x5 r47 g48))))))))))
set_option maxHeartbeats 4000000 in
set_option maxRecDepth 100000 in
theorem vl_X0_computeNode_l51 {x : Cq} {n : Nat} {Z : Zt} {a : Nat} {x1 : Nat} {x2 : Int32} {x3 : Nat} {x4 : Int32} {x5 : Int32} {x6 : Option Nat} {x7 : Option Nat} {g : Mem} {rr : Int32} {gg : Mem} (hM : Cm x cX0_computeNode RX0 11 (some .boolean) 4 Z (some (.int rr)) gg) (hz0 : zk Z a = 1) (h : f_X0_computeNode_l51 n Z a x1 x2 x3 x4 x5 x6 x7 g = some (rr, gg)) : V x Z 0 0 51 [(0, va_rf (some a)), (1, va_rf (some x1)), (2, .int x2), (3, va_rf (some x3)), (4, .int x4), (5, .int x5), (6, va_rf x6), (7, va_rf x7)] [] g := by
  unfold f_X0_computeNode_l51 at h
  refine V_aload_n hM.c 1 dX0_computeNode_51 rfl rfl ?_
  refine V_iload_n hM.c 2 dX0_computeNode_52 rfl rfl ?_
  replace h := bnd_some h
  obtain ⟨r17, g18, e19, h⟩ := h
  refine V_callV (As := [.int x2]) (c := 4) (T := TX6) (N := 10) hM.c hM.a mq_X6_firstAt mi_X6_firstAt tw_741 (hM.d (by decide)) hM.z rfl (by omega) (zc_X6_firstAt e19) (vm_X6_firstAt e19) rfl (Nat.le_of_ble_eq_true rfl) dX0_computeNode_53 ?_
  refine V_istore (L' := [(8, .int r17), (0, va_rf (some a)), (1, va_rf (some x1)), (2, .int x2), (3, va_rf (some x3)), (4, .int x4), (5, .int x5), (6, va_rf x6), (7, va_rf x7)]) hM.c dX0_computeNode_56 (by decide) (by simp [rf_cat, cat_i, cat_l]) ?_
  refine V_aload_n hM.c 2 dX0_computeNode_58 rfl rfl ?_
  refine V_iload_n hM.c 3 dX0_computeNode_59 rfl rfl ?_
  replace h := bnd_some h
  obtain ⟨r20, g21, e22, h⟩ := h
  refine V_callV (As := [.int x2]) (c := 4) (T := TX6) (N := 10) hM.c hM.a mq_X6_secondAt mi_X6_secondAt tw_742 (hM.d (by decide)) hM.z rfl (by omega) (zc_X6_secondAt e22) (vm_X6_secondAt e22) rfl (Nat.le_of_ble_eq_true rfl) dX0_computeNode_60 ?_
  refine V_istore (L' := [(9, .int r20), (8, .int r17), (0, va_rf (some a)), (1, va_rf (some x1)), (2, .int x2), (3, va_rf (some x3)), (4, .int x4), (5, .int x5), (6, va_rf x6), (7, va_rf x7)]) hM.c dX0_computeNode_63 (by decide) (by simp [rf_cat, cat_i, cat_l]) ?_
  refine V_iload hM.c 6 dX0_computeNode_65 rfl ?_
  by_cases c23 : x4 = 0
  · replace h := ite_p h c23
    refine V_tblK (off := 33) hM.c 100 c23 dX0_computeNode_67 (by decide) (by decide) (by decide) (by decide) ?_
    refine V_aload_n hM.c 2 dX0_computeNode_100 rfl rfl ?_
    refine V_iload hM.c 1 dX0_computeNode_101 rfl ?_
    refine V_aload_n hM.c 5 dX0_computeNode_103 rfl rfl ?_
    replace h := bnd_some h
    obtain ⟨r28, g29, e30, h⟩ := h
    refine V_callV (As := [.int r17, va_rf (some x3)]) (c := 0) (T := TX0) (N := 4) hM.c hM.a mq_X0_fillTable mi_X0_fillTable tw_743 (hM.d (by decide)) hM.z rfl (by omega) (zc_X0_fillTable e30) (vm_X0_fillTable e30) rfl (Nat.le_of_ble_eq_true rfl) dX0_computeNode_104 ?_
    refine V_istore (L' := [(10, .int r28), (9, .int r20), (8, .int r17), (0, va_rf (some a)), (1, va_rf (some x1)), (2, .int x2), (3, va_rf (some x3)), (4, .int x4), (5, .int x5), (6, va_rf x6), (7, va_rf x7)]) hM.c dX0_computeNode_107 (by decide) (by simp [rf_cat, cat_i, cat_l]) ?_
    refine V_goto hM.c 171 dX0_computeNode_109 (by decide) ?_
    refine V_sub [3, 8, 0] rfl ?_
    exact vl_X0_computeNode_l171 hM hz0  h
  replace h := ite_n h c23
  by_cases c24 : x4 = 1
  · replace h := ite_p h c24
    refine V_tblK (off := 45) hM.c 112 c24 dX0_computeNode_67 (by decide) (by decide) (by decide) (by decide) ?_
    refine V_sub [2, 6, 7, 8, 1, 0] rfl ?_
    exact vl_X0_computeNode_l112 hM hz0  h
  replace h := ite_n h c24
  by_cases c25 : x4 = 2
  · replace h := ite_p h c25
    refine V_tblK (off := 45) hM.c 112 c25 dX0_computeNode_67 (by decide) (by decide) (by decide) (by decide) ?_
    refine V_sub [2, 6, 7, 8, 1, 0] rfl ?_
    exact vl_X0_computeNode_l112 hM hz0  h
  replace h := ite_n h c25
  by_cases c26 : x4 = 3
  · replace h := ite_p h c26
    refine V_tblK (off := 62) hM.c 129 c26 dX0_computeNode_67 (by decide) (by decide) (by decide) (by decide) ?_
    refine V_aload_n hM.c 2 dX0_computeNode_129 rfl rfl ?_
    refine V_aload hM.c 8 dX0_computeNode_130 rfl ?_
    refine V_iload hM.c 1 dX0_computeNode_132 rfl ?_
    refine V_iload hM.c 0 dX0_computeNode_134 rfl ?_
    replace h := drf_some h
    obtain ⟨b31, rfl, h⟩ := h
    replace h := bnd_some h
    obtain ⟨r33, g34, e35, h⟩ := h
    refine V_callV (As := [va_rf (some b31), .int r17, .int r20]) (c := 0) (T := TX0) (N := 4) hM.c hM.a mq_X0_fillProject mi_X0_fillProject tw_820 (hM.d (by decide)) hM.z rfl (by omega) (zc_X0_fillProject e35) (vm_X0_fillProject e35) rfl (Nat.le_of_ble_eq_true rfl) dX0_computeNode_136 ?_
    refine V_istore (L' := [(10, .int r33), (9, .int r20), (8, .int r17), (0, va_rf (some a)), (1, va_rf (some x1)), (2, .int x2), (3, va_rf (some x3)), (4, .int x4), (5, .int x5), (6, va_rf (some b31)), (7, va_rf x7)]) hM.c dX0_computeNode_139 (by decide) (by simp [rf_cat, cat_i, cat_l]) ?_
    refine V_goto hM.c 171 dX0_computeNode_141 (by decide) ?_
    refine V_sub [3, 8, 0] rfl ?_
    exact vl_X0_computeNode_l171 hM hz0  h
  replace h := ite_n h c26
  by_cases c27 : x4 = 4
  · replace h := ite_p h c27
    refine V_tblK (off := 77) hM.c 144 c27 dX0_computeNode_67 (by decide) (by decide) (by decide) (by decide) ?_
    refine V_aload_n hM.c 2 dX0_computeNode_144 rfl rfl ?_
    refine V_aload hM.c 8 dX0_computeNode_145 rfl ?_
    refine V_aload hM.c 9 dX0_computeNode_147 rfl ?_
    refine V_iload hM.c 1 dX0_computeNode_149 rfl ?_
    refine V_iload hM.c 0 dX0_computeNode_151 rfl ?_
    replace h := drf_some h
    obtain ⟨b36, rfl, h⟩ := h
    replace h := drf_some h
    obtain ⟨b38, rfl, h⟩ := h
    replace h := bnd_some h
    obtain ⟨r40, g41, e42, h⟩ := h
    refine V_callV (As := [va_rf (some b38), va_rf (some b36), .int r17, .int r20]) (c := 0) (T := TX0) (N := 4) hM.c hM.a mq_X0_fillJoin mi_X0_fillJoin tw_825 (hM.d (by decide)) hM.z rfl (by omega) (zc_X0_fillJoin e42) (vm_X0_fillJoin e42) rfl (Nat.le_of_ble_eq_true rfl) dX0_computeNode_153 ?_
    refine V_istore (L' := [(10, .int r40), (9, .int r20), (8, .int r17), (0, va_rf (some a)), (1, va_rf (some x1)), (2, .int x2), (3, va_rf (some x3)), (4, .int x4), (5, .int x5), (6, va_rf (some b38)), (7, va_rf (some b36))]) hM.c dX0_computeNode_156 (by decide) rfl ?_
    refine V_goto hM.c 171 dX0_computeNode_158 (by decide) ?_
    refine V_sub [3, 8, 0] rfl ?_
    exact vl_X0_computeNode_l171 hM hz0  h
  replace h := ite_n h c27
  refine V_tblD hM.c 161 dX0_computeNode_67 (by have q0 := lv_neT (a := 0) c23 (by decide); have q1 := lv_neT (a := 1) c24 (by decide); have q2 := lv_neT (a := 2) c25 (by decide); have q3 := lv_neT (a := 3) c26 (by decide); have q4 := lv_neT (a := 4) c27 (by decide); omega) (by decide) ?_
  refine V_aload_n hM.c 2 dX0_computeNode_161 rfl rfl ?_
  refine V_aload hM.c 8 dX0_computeNode_162 rfl ?_
  refine V_aload hM.c 9 dX0_computeNode_164 rfl ?_
  replace h := drf_some h
  obtain ⟨b43, rfl, h⟩ := h
  replace h := drf_some h
  obtain ⟨b45, rfl, h⟩ := h
  replace h := bnd_some h
  obtain ⟨r47, g48, e49, h⟩ := h
  refine V_callV (As := [va_rf (some b45), va_rf (some b43)]) (c := 0) (T := TX0) (N := 4) hM.c hM.a mq_X0_fillUnion mi_X0_fillUnion tw_833 (hM.d (by decide)) hM.z rfl (by omega) (zc_X0_fillUnion e49) (vm_X0_fillUnion e49) rfl (Nat.le_of_ble_eq_true rfl) dX0_computeNode_166 ?_
  refine V_istore (L' := [(10, .int r47), (9, .int r20), (8, .int r17), (0, va_rf (some a)), (1, va_rf (some x1)), (2, .int x2), (3, va_rf (some x3)), (4, .int x4), (5, .int x5), (6, va_rf (some b45)), (7, va_rf (some b43))]) hM.c dX0_computeNode_169 (by decide) rfl ?_
  refine V_sub [3, 8, 0] rfl ?_
  exact vl_X0_computeNode_l171 hM hz0  h
def f_X0_computeNode_l38 (n : Nat) (Z : Zt) (a : Nat) (x1 : Nat) (x2 : Int32) (x3 : Nat) (x4 : Int32) (x5 : Int32) (x6 : Option Nat) (x7 : Option Nat) (g : Mem) : Option (Int32 × Mem) := if x5 ≤ (1 : Int32) then (f_X0_computeNode_l51 n Z a x1 x2 x3 x4 x5 x6 x7 g) else (if x7 = none then (some ((0 : Int32), g)) else (f_X0_computeNode_l51 n Z a x1 x2 x3 x4 x5 x6 x7 g))
set_option maxHeartbeats 4000000 in
set_option maxRecDepth 100000 in
theorem vl_X0_computeNode_l38 {x : Cq} {n : Nat} {Z : Zt} {a : Nat} {x1 : Nat} {x2 : Int32} {x3 : Nat} {x4 : Int32} {x5 : Int32} {x6 : Option Nat} {x7 : Option Nat} {g : Mem} {rr : Int32} {gg : Mem} (hM : Cm x cX0_computeNode RX0 11 (some .boolean) 4 Z (some (.int rr)) gg) (hz0 : zk Z a = 1) (h : f_X0_computeNode_l38 n Z a x1 x2 x3 x4 x5 x6 x7 g = some (rr, gg)) : V x Z 0 0 38 [(0, va_rf (some a)), (1, va_rf (some x1)), (2, .int x2), (3, va_rf (some x3)), (4, .int x4), (5, .int x5), (6, va_rf x6), (7, va_rf x7)] [] g := by
  unfold f_X0_computeNode_l38 at h
  refine V_iload hM.c 5 dX0_computeNode_38 rfl ?_
  refine V_iconst (v := 1) hM.c dX0_computeNode_40 (by decide) ?_
  refine V_icmp_le hM.c 51 dX0_computeNode_41 (by decide) (fun c15 => ?_) (fun c15 => ?_)
  · replace h := ite_p h c15
    refine V_sub [0, 1, 2, 3, 4, 5, 6, 7] rfl ?_
    exact vl_X0_computeNode_l51 hM hz0  h
  · replace h := ite_n h c15
    refine V_aload hM.c 7 dX0_computeNode_44 rfl ?_
    refine V_ifnonnull hM.c 51 dX0_computeNode_46 (by decide) (fun c16 => ?_) (fun c16 => ?_)
    · replace h := ite_n h c16
      refine V_sub [0, 1, 2, 3, 4, 5, 6, 7] rfl ?_
      exact vl_X0_computeNode_l51 hM hz0  h
    · replace h := ite_p h c16
      refine V_iconst (v := 0) hM.c dX0_computeNode_49 (by decide) ?_
      exact V_zretE hM (isz_nar (by decide)) h dX0_computeNode_50
def f_X0_computeNode (n : Nat) (Z : Zt) (a : Nat) (x1 : Nat) (x2 : Int32) (x3 : Nat) (g : Mem) : Option (Int32 × Mem) := grd (zk Z a = 1) (bnd (f_X6_kindAt n Z x1 x2 g) (fun r1 g2 => bnd (f_X6_partsOf n Z r1 g2) (fun r4 g5 => bnd (f_X0_waiting n Z a (1 : Int32) g5) (fun r7 g8 => bnd (f_X0_waiting n Z a (2 : Int32) g8) (fun r10 g11 => if r4 ≤ 0 then (f_X0_computeNode_l38 n Z a x1 x2 x3 r1 r4 r7 r10 g11) else (if r7 = none then (some ((0 : Int32), g11)) else (f_X0_computeNode_l38 n Z a x1 x2 x3 r1 r4 r7 r10 g11)))))))
theorem mq_X0_computeNode : Mq yX0_computeNode cX0_computeNode 11 (some .boolean) 3 := ⟨tw_734, tw_104, ⟨by decide +kernel, by decide +kernel, by decide +kernel⟩, by decide⟩
theorem mi_X0_computeNode : Cond.instanceMethod yX0_computeNode ∈ TB ∧ Cond.selects yX0_computeNode.cls yX0_computeNode yX0_computeNode ∈ TB := ⟨tw_732, tw_733⟩
theorem zc_X0_computeNode {n : Nat} {Z : Zt} {a : Nat} {x1 : Nat} {x2 : Int32} {x3 : Nat} {g : Mem} {q : Int32 × Mem} (h : f_X0_computeNode n Z a x1 x2 x3 g = some q) : zk Z a = 1 := (grd_some h).1
set_option maxHeartbeats 4000000 in
set_option maxRecDepth 100000 in
theorem vm_X0_computeNode {n : Nat} {Z : Zt} {a : Nat} {x1 : Nat} {x2 : Int32} {x3 : Nat} {g : Mem} {rr : Int32} {gg : Mem} (h : f_X0_computeNode n Z a x1 x2 x3 g = some (rr, gg)) : VM yX0_computeNode cX0_computeNode 11 (some .boolean) 4 [.ref a, va_rf (some x1), .int x2, va_rf (some x3)] Z g (some (.int rr)) gg := by
  unfold f_X0_computeNode at h
  replace h := grd_some h
  obtain ⟨hz0, h⟩ := h
  refine VM.of (by decide +kernel) (Nat.le_of_ble_eq_true rfl) (fun x hM => ?_)
  have hM : Cm x cX0_computeNode RX0 11 (some .boolean) 4 Z (some (.int rr)) gg := hM
  show V x Z 0 0 0 [(0, va_rf (some a)), (1, va_rf (some x1)), (2, .int x2), (3, va_rf (some x3))] [] g
  refine V_aload_n hM.c 1 dX0_computeNode_0 rfl rfl ?_
  refine V_iload_n hM.c 2 dX0_computeNode_1 rfl rfl ?_
  replace h := bnd_some h
  obtain ⟨r1, g2, e3, h⟩ := h
  refine V_callV (As := [.int x2]) (c := 4) (T := TX6) (N := 10) hM.c hM.a mq_X6_kindAt mi_X6_kindAt tw_735 (hM.d (by decide)) hM.z rfl (by omega) (zc_X6_kindAt e3) (vm_X6_kindAt e3) rfl (Nat.le_of_ble_eq_true rfl) dX0_computeNode_2 ?_
  refine V_istore (L' := [(4, .int r1), (0, va_rf (some a)), (1, va_rf (some x1)), (2, .int x2), (3, va_rf (some x3))]) hM.c dX0_computeNode_5 (by decide) rfl ?_
  refine V_iload hM.c 0 dX0_computeNode_7 rfl ?_
  replace h := bnd_some h
  obtain ⟨r4, g5, e6, h⟩ := h
  refine V_callS (As := [.int r1]) hM.c hM.a mq_X6_partsOf mi_X6_partsOf tw_736 (hM.d (by decide)) hM.z (vm_X6_partsOf e6) rfl (Nat.le_of_ble_eq_true rfl) dX0_computeNode_9 ?_
  refine V_istore (L' := [(5, .int r4), (4, .int r1), (0, va_rf (some a)), (1, va_rf (some x1)), (2, .int x2), (3, va_rf (some x3))]) hM.c dX0_computeNode_12 (by decide) rfl ?_
  refine V_aload_n hM.c 2 dX0_computeNode_14 rfl rfl ?_
  refine V_iconst (v := 1) hM.c dX0_computeNode_15 (by decide) ?_
  replace h := bnd_some h
  obtain ⟨r7, g8, e9, h⟩ := h
  refine V_callV (As := [.int (1 : Int32)]) (c := 0) (T := TX0) (N := 4) hM.c hM.a mq_X0_waiting mi_X0_waiting tw_737 (hM.d (by decide)) hM.z rfl (by omega) (zc_X0_waiting e9) (vm_X0_waiting e9) rfl (Nat.le_of_ble_eq_true rfl) dX0_computeNode_16 ?_
  refine V_astore (L' := [(6, va_rf r7), (5, .int r4), (4, .int r1), (0, va_rf (some a)), (1, va_rf (some x1)), (2, .int x2), (3, va_rf (some x3))]) hM.c dX0_computeNode_19 (by decide) rfl ?_
  refine V_aload_n hM.c 3 dX0_computeNode_21 rfl rfl ?_
  refine V_iconst (v := 2) hM.c dX0_computeNode_22 (by decide) ?_
  replace h := bnd_some h
  obtain ⟨r10, g11, e12, h⟩ := h
  refine V_callV (As := [.int (2 : Int32)]) (c := 0) (T := TX0) (N := 4) hM.c hM.a mq_X0_waiting mi_X0_waiting tw_737 (hM.d (by decide)) hM.z rfl (by omega) (zc_X0_waiting e12) (vm_X0_waiting e12) rfl (Nat.le_of_ble_eq_true rfl) dX0_computeNode_23 ?_
  refine V_astore (L' := [(7, va_rf r10), (6, va_rf r7), (5, .int r4), (4, .int r1), (0, va_rf (some a)), (1, va_rf (some x1)), (2, .int x2), (3, va_rf (some x3))]) hM.c dX0_computeNode_26 (by decide) (by simp [rf_cat, cat_i, cat_l]) ?_
  refine V_iload hM.c 2 dX0_computeNode_28 rfl ?_
  refine V_if_le hM.c 38 dX0_computeNode_30 (by decide) (fun c13 => ?_) (fun c13 => ?_)
  · replace h := ite_p h c13
    refine V_sub [4, 5, 6, 7, 3, 2, 1, 0] rfl ?_
    exact vl_X0_computeNode_l38 hM hz0  h
  · replace h := ite_n h c13
    refine V_aload hM.c 1 dX0_computeNode_33 rfl ?_
    refine V_ifnull hM.c 49 dX0_computeNode_35 (by decide) (fun c14 => ?_) (fun c14 => ?_)
    · replace h := ite_p h c14
      refine V_iconst (v := 0) hM.c dX0_computeNode_49 (by decide) ?_
      exact V_zretE hM (isz_nar (by decide)) h dX0_computeNode_50
    · replace h := ite_n h c14
      refine V_sub [4, 5, 6, 7, 3, 2, 1, 0] rfl ?_
      exact vl_X0_computeNode_l38 hM hz0  h
def f_X0_compute_l33 (n : Nat) (Z : Zt) (a : Nat) : Nat → Nat → Nat → Int32 → Mem → Option (Int32 × Mem)
  | 0, _, _, _, _ => none
  | fu + 1, x1, x2, x3, g => if x3 < 0 then (if (gI g a 3) = (1 : Int32) then (some ((1 : Int32), g)) else (some ((0 : Int32), g))) else (bnd (f_X0_computeNode n Z a x1 x3 x2 g) (fun r21 g22 => if r21 = 0 then (some ((0 : Int32), g22)) else (f_X0_compute_l33 n Z a fu x1 x2 (x3 + (-1 : Int32)) g22)))
set_option maxHeartbeats 4000000 in
set_option maxRecDepth 100000 in
theorem vl_X0_compute_l33 {x : Cq} {n : Nat} {Z : Zt} {a : Nat} {rr : Int32} {gg : Mem} (hM : Cm x cX0_compute RX0 4 (some .boolean) 5 Z (some (.int rr)) gg) (hz0 : zk Z a = 1) : ∀ (fu : Nat) (x1 : Nat) (x2 : Nat) (x3 : Int32) (g : Mem), f_X0_compute_l33 n Z a fu x1 x2 x3 g = some (rr, gg) → V x Z 0 0 33 [(0, va_rf (some a)), (1, va_rf (some x1)), (2, va_rf (some x2)), (3, .int x3)] [] g := by
  intro fu
  induction fu with
  | zero => intro x1 x2 x3 g h; cases h
  | succ fu ih =>
    intro x1 x2 x3 g h
    unfold f_X0_compute_l33 at h
    refine V_iload_n hM.c 3 dX0_compute_33 rfl rfl ?_
    refine V_if_lt hM.c 55 dX0_compute_34 (by decide) (fun c19 => ?_) (fun c19 => ?_)
    · replace h := ite_p h c19
      refine V_aload_n hM.c 0 dX0_compute_55 rfl rfl ?_
      refine G0_3 hM.c tw_709 hz0 dX0_compute_56 ?_
      refine V_iconst (v := 1) hM.c dX0_compute_59 (by decide) ?_
      refine V_icmp_ne hM.c 67 dX0_compute_60 (by decide) (fun c20 => ?_) (fun c20 => ?_)
      · replace h := ite_n h c20
        refine V_iconst (v := 0) hM.c dX0_compute_67 (by decide) ?_
        exact V_zretE hM (isz_nar (by decide)) h dX0_compute_68
      · replace h := ite_p h c20
        refine V_iconst (v := 1) hM.c dX0_compute_63 (by decide) ?_
        refine V_goto hM.c 68 dX0_compute_64 (by decide) ?_
        exact V_zretE hM (isz_nar (by decide)) h dX0_compute_68
    · replace h := ite_n h c19
      refine V_aload_n hM.c 0 dX0_compute_37 rfl rfl ?_
      refine V_aload_n hM.c 1 dX0_compute_38 rfl rfl ?_
      refine V_iload_n hM.c 3 dX0_compute_39 rfl rfl ?_
      refine V_aload_n hM.c 2 dX0_compute_40 rfl rfl ?_
      replace h := bnd_some h
      obtain ⟨r21, g22, e23, h⟩ := h
      refine V_callV (As := [va_rf (some x1), .int x3, va_rf (some x2)]) (c := 0) (T := TX0) (N := 4) hM.c hM.a mq_X0_computeNode mi_X0_computeNode tw_731 (hM.d (by decide)) hM.z rfl (by omega) (zc_X0_computeNode e23) (vm_X0_computeNode e23) rfl (Nat.le_of_ble_eq_true rfl) dX0_compute_41 ?_
      refine V_if_ne hM.c 49 dX0_compute_44 (by decide) (fun c24 => ?_) (fun c24 => ?_)
      · replace h := ite_n h c24
        refine V_iinc (v := (x3 + (-1 : Int32))) (L' := [(3, .int (x3 + (-1 : Int32))), (0, va_rf (some a)), (1, va_rf (some x1)), (2, va_rf (some x2))]) hM.c 3 dX0_compute_49 rfl rfl (by decide) rfl ?_
        refine V_goto hM.c 33 dX0_compute_52 (by decide) ?_
        refine V_sub [1, 2, 3, 0] rfl ?_
        exact ih _ _ _ _ h
      · replace h := ite_p h c24
        refine V_iconst (v := 0) hM.c dX0_compute_47 (by decide) ?_
        exact V_zretE hM (isz_nar (by decide)) h dX0_compute_48
def f_X0_compute (n : Nat) (Z : Zt) (a : Nat) (x1 : Nat) (x2 : Nat) (g : Mem) : Option (Int32 × Mem) := grd (zk Z a = 1) (bnd (f_X6_isWhole n Z x1 (sI g a 3 (0 : Int32))) (fun r1 g2 => if r1 = 0 then (nam (gP g2 a 1) (fun q8 => drf q8 (fun b10 => bnd (f_X7_clear n Z b10 (0 : Int32) g2) (fun r12 g13 => bnd (f_X0_pushSpare n Z a (0 : Int32) g13) (fun r15 g16 => grd (isz r15) (some (r15, g16))))))) else (bnd (f_X6_size n Z x1 g2) (fun r5 g6 => f_X0_compute_l33 n Z a n x1 x2 (r5 - (1 : Int32)) g6))))
theorem mq_X0_compute : Mq yX0_compute cX0_compute 4 (some .boolean) 2 := ⟨tw_708, tw_104, ⟨by decide +kernel, by decide +kernel, by decide +kernel⟩, by decide⟩
theorem mi_X0_compute : Cond.instanceMethod yX0_compute ∈ TB ∧ Cond.selects yX0_compute.cls yX0_compute yX0_compute ∈ TB := ⟨tw_705, tw_706⟩
theorem zc_X0_compute {n : Nat} {Z : Zt} {a : Nat} {x1 : Nat} {x2 : Nat} {g : Mem} {q : Int32 × Mem} (h : f_X0_compute n Z a x1 x2 g = some q) : zk Z a = 1 := (grd_some h).1
set_option maxHeartbeats 4000000 in
set_option maxRecDepth 100000 in
theorem vm_X0_compute {n : Nat} {Z : Zt} {a : Nat} {x1 : Nat} {x2 : Nat} {g : Mem} {rr : Int32} {gg : Mem} (h : f_X0_compute n Z a x1 x2 g = some (rr, gg)) : VM yX0_compute cX0_compute 4 (some .boolean) 5 [.ref a, va_rf (some x1), va_rf (some x2)] Z g (some (.int rr)) gg := by
  unfold f_X0_compute at h
  replace h := grd_some h
  obtain ⟨hz0, h⟩ := h
  refine VM.of (by decide +kernel) (Nat.le_of_ble_eq_true rfl) (fun x hM => ?_)
  have hM : Cm x cX0_compute RX0 4 (some .boolean) 5 Z (some (.int rr)) gg := hM
  show V x Z 0 0 0 [(0, va_rf (some a)), (1, va_rf (some x1)), (2, va_rf (some x2))] [] g
  refine V_aload_n hM.c 0 dX0_compute_0 rfl rfl ?_
  refine V_iconst (v := 0) hM.c dX0_compute_1 (by decide) ?_
  refine P0_3 hM.c tw_709 hz0 hM.a dX0_compute_2 ?_
  refine V_aload_n hM.c 1 dX0_compute_5 rfl rfl ?_
  replace h := bnd_some h
  obtain ⟨r1, g2, e3, h⟩ := h
  refine V_callV (As := []) (c := 4) (T := TX6) (N := 10) hM.c hM.a mq_X6_isWhole mi_X6_isWhole tw_711 (hM.d (by decide)) hM.z rfl (by omega) (zc_X6_isWhole e3) (vm_X6_isWhole e3) rfl (Nat.le_of_ble_eq_true rfl) dX0_compute_6 ?_
  refine V_if_ne hM.c 26 dX0_compute_9 (by decide) (fun c4 => ?_) (fun c4 => ?_)
  · replace h := ite_n h c4
    refine V_aload_n hM.c 1 dX0_compute_26 rfl rfl ?_
    replace h := bnd_some h
    obtain ⟨r5, g6, e7, h⟩ := h
    refine V_callV (As := []) (c := 4) (T := TX6) (N := 10) hM.c hM.a mq_X6_size mi_X6_size tw_727 (hM.d (by decide)) hM.z rfl (by omega) (zc_X6_size e7) (vm_X6_size e7) rfl (Nat.le_of_ble_eq_true rfl) dX0_compute_27 ?_
    refine V_iconst (v := 1) hM.c dX0_compute_30 (by decide) ?_
    refine V_isub hM.c dX0_compute_31 ?_
    refine V_istore_n (i := 3) (L' := [(3, .int (r5 - (1 : Int32))), (0, va_rf (some a)), (1, va_rf (some x1)), (2, va_rf (some x2))]) hM.c dX0_compute_32 rfl (by decide) rfl ?_
    refine V_sub [1, 2, 3, 0] rfl ?_
    exact vl_X0_compute_l33 hM hz0  _ _ _ _ _ h
  · replace h := ite_p h c4
    refine V_aload_n hM.c 0 dX0_compute_12 rfl rfl ?_
    replace h := nam_some h
    obtain ⟨q8, e9, h⟩ := h
    refine G0_1 hM.c tw_710 hz0 e9 dX0_compute_13 ?_
    refine V_iconst (v := 0) hM.c dX0_compute_16 (by decide) ?_
    replace h := drf_some h
    obtain ⟨b10, rfl, h⟩ := h
    replace h := bnd_some h
    obtain ⟨r12, g13, e14, h⟩ := h
    refine V_callV (As := [.int (0 : Int32)]) (c := 5) (T := TX7) (N := 4) hM.c hM.a mq_X7_clear mi_X7_clear tw_715 (hM.d (by decide)) hM.z rfl (by omega) (zc_X7_clear e14) (vm_X7_clear e14) rfl (Nat.le_of_ble_eq_true rfl) dX0_compute_17 ?_
    refine V_aload_n hM.c 0 dX0_compute_20 rfl rfl ?_
    refine V_iconst (v := 0) hM.c dX0_compute_21 (by decide) ?_
    replace h := bnd_some h
    obtain ⟨r15, g16, e17, h⟩ := h
    refine V_callV (As := [.int (0 : Int32)]) (c := 0) (T := TX0) (N := 4) hM.c hM.a mq_X0_pushSpare mi_X0_pushSpare tw_722 (hM.d (by decide)) hM.z rfl (by omega) (zc_X0_pushSpare e17) (vm_X0_pushSpare e17) rfl (Nat.le_of_ble_eq_true rfl) dX0_compute_22 ?_
    replace h := grd_some h
    obtain ⟨c18, h⟩ := h
    exact V_zretE hM (isz_nar c18) h dX0_compute_25
def f_X0_keepResult (n : Nat) (Z : Zt) (a : Nat) (g : Mem) : Option (Unit × Mem) := grd (zk Z a = 1) (drf (zf Z a 0) (fun b1 => grd (zk Z b1 = 16) (grd (inr (0 : Int32) (zl Z b1)) (nam (gP g b1 (0 : Int32).toNatClampNeg) (fun q5 => if q5 = none then (some ((), g)) else (drf (zf Z a 0) (fun b8 => nam (gP g a 2) (fun q10 => drf q10 (fun b12 => grd (zk Z b8 = 16) (grd (zk Z b12 = 6) (grd (inr (0 : Int32) (zl Z b8)) (some ((), (sP (sP g b8 (0 : Int32).toNatClampNeg (some b12)) a 2 q5))))))))))))))
theorem mq_X0_keepResult : Mq yX0_keepResult cX0_keepResult 2 none 0 := ⟨tw_870, tw_104, ⟨by decide +kernel, by decide +kernel, by decide +kernel⟩, by decide⟩
theorem mi_X0_keepResult : Cond.instanceMethod yX0_keepResult ∈ TB ∧ Cond.selects yX0_keepResult.cls yX0_keepResult yX0_keepResult ∈ TB := ⟨tw_868, tw_869⟩
theorem zc_X0_keepResult {n : Nat} {Z : Zt} {a : Nat} {g : Mem} {q : Unit × Mem} (h : f_X0_keepResult n Z a g = some q) : zk Z a = 1 := (grd_some h).1
set_option maxHeartbeats 4000000 in
set_option maxRecDepth 100000 in
theorem vm_X0_keepResult {n : Nat} {Z : Zt} {a : Nat} {g : Mem} {rr : Unit} {gg : Mem} (h : f_X0_keepResult n Z a g = some (rr, gg)) : VM yX0_keepResult cX0_keepResult 2 none 0 [.ref a] Z g none gg := by
  unfold f_X0_keepResult at h
  replace h := grd_some h
  obtain ⟨hz0, h⟩ := h
  refine VM.of (by decide +kernel) (Nat.le_of_ble_eq_true rfl) (fun x hM => ?_)
  have hM : Cm x cX0_keepResult RX0 2 none 0 Z none gg := hM
  show V x Z 0 0 0 [(0, va_rf (some a))] [] g
  refine V_aload_n hM.c 0 dX0_keepResult_0 rfl rfl ?_
  replace h := drf_some h
  obtain ⟨b1, e2, h⟩ := h
  refine G0_0 hM.c tw_726 hz0 e2 dX0_keepResult_1 ?_
  refine V_iconst (v := 0) hM.c dX0_keepResult_4 (by decide) ?_
  replace h := grd_some h
  obtain ⟨z3, h⟩ := h
  replace h := grd_some h
  obtain ⟨c4, h⟩ := h
  refine V_qald5 hM.c z3 c4 dX0_keepResult_5 ?_
  replace h := nam_some h
  obtain ⟨q5, e6, h⟩ := h
  rw [← e6]
  refine V_astore_n (i := 1) (L' := [(1, va_rf q5), (0, va_rf (some a))]) hM.c dX0_keepResult_6 rfl (by decide) rfl ?_
  refine V_aload_n hM.c 0 dX0_keepResult_7 rfl rfl ?_
  refine V_ifnull hM.c 26 dX0_keepResult_8 (by decide) (fun c7 => ?_) (fun c7 => ?_)
  · replace h := ite_p h c7
    exact V_vretE hM h dX0_keepResult_26
  · replace h := ite_n h c7
    refine V_aload_n hM.c 1 dX0_keepResult_11 rfl rfl ?_
    replace h := drf_some h
    obtain ⟨b8, e9, h⟩ := h
    refine G0_0 hM.c tw_726 hz0 e9 dX0_keepResult_12 ?_
    refine V_iconst (v := 0) hM.c dX0_keepResult_15 (by decide) ?_
    refine V_aload_n hM.c 1 dX0_keepResult_16 rfl rfl ?_
    replace h := nam_some h
    obtain ⟨q10, e11, h⟩ := h
    refine G0_2 hM.c tw_106 hz0 e11 dX0_keepResult_17 ?_
    replace h := drf_some h
    obtain ⟨b12, rfl, h⟩ := h
    replace h := grd_some h
    obtain ⟨z14, h⟩ := h
    replace h := grd_some h
    obtain ⟨z15, h⟩ := h
    replace h := grd_some h
    obtain ⟨c16, h⟩ := h
    refine V_qast (t := 5) (c := 5) (r := (RX7, TX7, 4)) hM.c z14 (by omega) (by omega) c16 z15 rfl (by omega) rfl hM.a dX0_keepResult_20 ?_
    refine V_aload_n hM.c 1 dX0_keepResult_21 rfl rfl ?_
    refine V_aload_n hM.c 0 dX0_keepResult_22 rfl rfl ?_
    refine P0_2 hM.c tw_106 hz0 hM.a dX0_keepResult_23 ?_
    exact V_vretE hM h dX0_keepResult_26
def f_X10_addRow (n : Nat) (Z : Zt) (a : Nat) (x1 : Int32) (x2 : Int32) (g : Mem) : Option (Int32 × Mem) := grd (zk Z a = 9) (bnd (f_X10_isTable n Z x1 g) (fun r1 g2 => if r1 = 0 then (some ((-1 : Int32), g2)) else (drf (zf Z a 0) (fun b5 => bnd (f_X8_widthOf n Z b5 x1 g2) (fun r7 g8 => if x2 < 0 then (some ((-2 : Int32), g8)) else (bnd (f_X2_hasMoreDigits n Z x2 r7 g8) (fun r11 g12 => if r11 = 0 then (drf (zf Z a 0) (fun b15 => bnd (f_X8_freeTag n Z b15 g12) (fun r17 g18 => if 0 ≤ r17 then (drf (zf Z a 1) (fun b21 => drf (zf Z a 0) (fun b23 => bnd (f_X8_copy n Z b21 b23 g18) (fun r25 g26 => drf (zf Z a 1) (fun b28 => bnd (f_X2_ofDecimal n Z x2 r7 g26) (fun r30 g31 => bnd (f_X8_place n Z b28 r17 x1 r30 g31) (fun r33 g34 => drf (zf Z a 7) (fun b36 => drf (zf Z a 6) (fun b38 => drf (zf Z a 1) (fun b40 => bnd (f_X0_compute n Z b36 b38 b40 g34) (fun r42 g43 => if r42 = 0 then (some ((-4 : Int32), g43)) else (drf (zf Z a 2) (fun b46 => drf (zf Z a 0) (fun b48 => bnd (f_X1_record n Z b46 b48 g43) (fun r50 g51 => drf (zf Z a 0) (fun b53 => drf (zf Z a 1) (fun b55 => bnd (f_X8_copy n Z b53 b55 g51) (fun r57 g58 => drf (zf Z a 7) (fun b60 => bnd (f_X0_keepResult n Z b60 g58) (fun r62 g63 => some (r17, g63))))))))))))))))))))) else (some ((-4 : Int32), g18))))) else (some ((-2 : Int32), g12)))))))))
theorem mq_X10_addRow : Mq yX10_addRow cX10_addRow 5 (some .int) 2 := ⟨tw_931, tw_5, ⟨by decide +kernel, by decide +kernel, by decide +kernel⟩, by decide⟩
theorem mi_X10_addRow : Cond.instanceMethod yX10_addRow ∈ TB ∧ Cond.selects yX10_addRow.cls yX10_addRow yX10_addRow ∈ TB := ⟨tw_929, tw_930⟩
theorem zc_X10_addRow {n : Nat} {Z : Zt} {a : Nat} {x1 : Int32} {x2 : Int32} {g : Mem} {q : Int32 × Mem} (h : f_X10_addRow n Z a x1 x2 g = some q) : zk Z a = 9 := (grd_some h).1
set_option maxHeartbeats 4000000 in
set_option maxRecDepth 100000 in
theorem vm_X10_addRow {n : Nat} {Z : Zt} {a : Nat} {x1 : Int32} {x2 : Int32} {g : Mem} {rr : Int32} {gg : Mem} (h : f_X10_addRow n Z a x1 x2 g = some (rr, gg)) : VM yX10_addRow cX10_addRow 5 (some .int) 6 [.ref a, .int x1, .int x2] Z g (some (.int rr)) gg := by
  unfold f_X10_addRow at h
  replace h := grd_some h
  obtain ⟨hz0, h⟩ := h
  refine VM.of (by decide +kernel) (Nat.le_of_ble_eq_true rfl) (fun x hM => ?_)
  have hM : Cm x cX10_addRow RX10 5 (some .int) 6 Z (some (.int rr)) gg := hM
  show V x Z 0 0 0 [(0, va_rf (some a)), (1, .int x1), (2, .int x2)] [] g
  refine V_iload_n hM.c 1 dX10_addRow_0 rfl rfl ?_
  replace h := bnd_some h
  obtain ⟨r1, g2, e3, h⟩ := h
  refine V_callS (As := [.int x1]) hM.c hM.a mq_X10_isTable mi_X10_isTable tw_8 (hM.d (by decide)) hM.z (vm_X10_isTable e3) rfl (Nat.le_of_ble_eq_true rfl) dX10_addRow_1 ?_
  refine V_if_ne hM.c 9 dX10_addRow_4 (by decide) (fun c4 => ?_) (fun c4 => ?_)
  · replace h := ite_n h c4
    refine V_aload_n hM.c 0 dX10_addRow_9 rfl rfl ?_
    replace h := drf_some h
    obtain ⟨b5, e6, h⟩ := h
    refine G8_0 hM.c tw_7 hz0 e6 dX10_addRow_10 ?_
    refine V_iload_n hM.c 1 dX10_addRow_13 rfl rfl ?_
    replace h := bnd_some h
    obtain ⟨r7, g8, e9, h⟩ := h
    refine V_callV (As := [.int x1]) (c := 6) (T := TX8) (N := 8) hM.c hM.a mq_X8_widthOf mi_X8_widthOf tw_11 (hM.d (by decide)) hM.z rfl (by omega) (zc_X8_widthOf e9) (vm_X8_widthOf e9) rfl (Nat.le_of_ble_eq_true rfl) dX10_addRow_14 ?_
    refine V_istore_n (i := 3) (L' := [(3, .int r7), (0, va_rf (some a)), (1, .int x1), (2, .int x2)]) hM.c dX10_addRow_17 rfl (by decide) rfl ?_
    refine V_iload_n hM.c 3 dX10_addRow_18 rfl rfl ?_
    refine V_if_lt hM.c 30 dX10_addRow_19 (by decide) (fun c10 => ?_) (fun c10 => ?_)
    · replace h := ite_p h c10
      refine V_bipush (v := -2) hM.c dX10_addRow_30 (by decide) ?_
      exact V_iretE hM h dX10_addRow_32
    · replace h := ite_n h c10
      refine V_iload_n hM.c 3 dX10_addRow_22 rfl rfl ?_
      refine V_iload_n hM.c 0 dX10_addRow_23 rfl rfl ?_
      replace h := bnd_some h
      obtain ⟨r11, g12, e13, h⟩ := h
      refine V_callS (As := [.int x2, .int r7]) hM.c hM.a mq_X2_hasMoreDigits mi_X2_hasMoreDigits tw_935 (hM.d (by decide)) hM.z (vm_X2_hasMoreDigits e13) rfl (Nat.le_of_ble_eq_true rfl) dX10_addRow_24 ?_
      refine V_if_eq hM.c 33 dX10_addRow_27 (by decide) (fun c14 => ?_) (fun c14 => ?_)
      · replace h := ite_p h c14
        refine V_aload_n hM.c 1 dX10_addRow_33 rfl rfl ?_
        replace h := drf_some h
        obtain ⟨b15, e16, h⟩ := h
        refine G8_0 hM.c tw_7 hz0 e16 dX10_addRow_34 ?_
        replace h := bnd_some h
        obtain ⟨r17, g18, e19, h⟩ := h
        refine V_callV (As := []) (c := 6) (T := TX8) (N := 8) hM.c hM.a mq_X8_freeTag mi_X8_freeTag tw_939 (hM.d (by decide)) hM.z rfl (by omega) (zc_X8_freeTag e19) (vm_X8_freeTag e19) rfl (Nat.le_of_ble_eq_true rfl) dX10_addRow_37 ?_
        refine V_istore (L' := [(4, .int r17), (3, .int r7), (0, va_rf (some a)), (1, .int x1), (2, .int x2)]) hM.c dX10_addRow_40 (by decide) rfl ?_
        refine V_iload hM.c 0 dX10_addRow_42 rfl ?_
        refine V_if_ge hM.c 50 dX10_addRow_44 (by decide) (fun c20 => ?_) (fun c20 => ?_)
        · replace h := ite_p h c20
          refine V_aload_n hM.c 2 dX10_addRow_50 rfl rfl ?_
          replace h := drf_some h
          obtain ⟨b21, e22, h⟩ := h
          refine G8_1 hM.c tw_932 hz0 e22 dX10_addRow_51 ?_
          refine V_aload_n hM.c 2 dX10_addRow_54 rfl rfl ?_
          replace h := drf_some h
          obtain ⟨b23, e24, h⟩ := h
          refine G8_0 hM.c tw_7 hz0 e24 dX10_addRow_55 ?_
          replace h := bnd_some h
          obtain ⟨r25, g26, e27, h⟩ := h
          refine V_callV (As := [va_rf (some b23)]) (c := 6) (T := TX8) (N := 8) hM.c hM.a mq_X8_copy mi_X8_copy tw_947 (hM.d (by decide)) hM.z rfl (by omega) (zc_X8_copy e27) (vm_X8_copy e27) rfl (Nat.le_of_ble_eq_true rfl) dX10_addRow_58 ?_
          refine V_aload_n hM.c 2 dX10_addRow_61 rfl rfl ?_
          replace h := drf_some h
          obtain ⟨b28, e29, h⟩ := h
          refine G8_1 hM.c tw_932 hz0 e29 dX10_addRow_62 ?_
          refine V_iload hM.c 0 dX10_addRow_65 rfl ?_
          refine V_iload_n hM.c 3 dX10_addRow_67 rfl rfl ?_
          refine V_iload_n hM.c 4 dX10_addRow_68 rfl rfl ?_
          refine V_iload_n hM.c 1 dX10_addRow_69 rfl rfl ?_
          replace h := bnd_some h
          obtain ⟨r30, g31, e32, h⟩ := h
          refine V_callS (As := [.int x2, .int r7]) hM.c hM.a mq_X2_ofDecimal mi_X2_ofDecimal tw_983 (hM.d (by decide)) hM.z (vm_X2_ofDecimal e32) rfl (Nat.le_of_ble_eq_true rfl) dX10_addRow_70 ?_
          replace h := bnd_some h
          obtain ⟨r33, g34, e35, h⟩ := h
          refine V_callV (As := [.int r17, .int x1, .int r30]) (c := 6) (T := TX8) (N := 8) hM.c hM.a mq_X8_place mi_X8_place tw_986 (hM.d (by decide)) hM.z rfl (by omega) (zc_X8_place e35) (vm_X8_place e35) rfl (Nat.le_of_ble_eq_true rfl) dX10_addRow_73 ?_
          refine V_aload_n hM.c 2 dX10_addRow_76 rfl rfl ?_
          replace h := drf_some h
          obtain ⟨b36, e37, h⟩ := h
          refine G8_7 hM.c tw_100 hz0 e37 dX10_addRow_77 ?_
          refine V_aload_n hM.c 2 dX10_addRow_80 rfl rfl ?_
          replace h := drf_some h
          obtain ⟨b38, e39, h⟩ := h
          refine G8_6 hM.c tw_665 hz0 e39 dX10_addRow_81 ?_
          refine V_aload_n hM.c 2 dX10_addRow_84 rfl rfl ?_
          replace h := drf_some h
          obtain ⟨b40, e41, h⟩ := h
          refine G8_1 hM.c tw_932 hz0 e41 dX10_addRow_85 ?_
          replace h := bnd_some h
          obtain ⟨r42, g43, e44, h⟩ := h
          refine V_callV (As := [va_rf (some b38), va_rf (some b40)]) (c := 0) (T := TX0) (N := 4) hM.c hM.a mq_X0_compute mi_X0_compute tw_704 (hM.d (by decide)) hM.z rfl (by omega) (zc_X0_compute e44) (vm_X0_compute e44) rfl (Nat.le_of_ble_eq_true rfl) dX10_addRow_88 ?_
          refine V_if_ne hM.c 97 dX10_addRow_91 (by decide) (fun c45 => ?_) (fun c45 => ?_)
          · replace h := ite_n h c45
            refine V_aload_n hM.c 2 dX10_addRow_97 rfl rfl ?_
            replace h := drf_some h
            obtain ⟨b46, e47, h⟩ := h
            refine G8_2 hM.c tw_664 hz0 e47 dX10_addRow_98 ?_
            refine V_aload_n hM.c 2 dX10_addRow_101 rfl rfl ?_
            replace h := drf_some h
            obtain ⟨b48, e49, h⟩ := h
            refine G8_0 hM.c tw_7 hz0 e49 dX10_addRow_102 ?_
            replace h := bnd_some h
            obtain ⟨r50, g51, e52, h⟩ := h
            refine V_callV (As := [va_rf (some b48)]) (c := 1) (T := TX1) (N := 2) hM.c hM.a mq_X1_record mi_X1_record tw_837 (hM.d (by decide)) hM.z rfl (by omega) (zc_X1_record e52) (vm_X1_record e52) rfl (Nat.le_of_ble_eq_true rfl) dX10_addRow_105 ?_
            refine V_aload_n hM.c 2 dX10_addRow_108 rfl rfl ?_
            replace h := drf_some h
            obtain ⟨b53, e54, h⟩ := h
            refine G8_0 hM.c tw_7 hz0 e54 dX10_addRow_109 ?_
            refine V_aload_n hM.c 2 dX10_addRow_112 rfl rfl ?_
            replace h := drf_some h
            obtain ⟨b55, e56, h⟩ := h
            refine G8_1 hM.c tw_932 hz0 e56 dX10_addRow_113 ?_
            replace h := bnd_some h
            obtain ⟨r57, g58, e59, h⟩ := h
            refine V_callV (As := [va_rf (some b55)]) (c := 6) (T := TX8) (N := 8) hM.c hM.a mq_X8_copy mi_X8_copy tw_947 (hM.d (by decide)) hM.z rfl (by omega) (zc_X8_copy e59) (vm_X8_copy e59) rfl (Nat.le_of_ble_eq_true rfl) dX10_addRow_116 ?_
            refine V_aload_n hM.c 2 dX10_addRow_119 rfl rfl ?_
            replace h := drf_some h
            obtain ⟨b60, e61, h⟩ := h
            refine G8_7 hM.c tw_100 hz0 e61 dX10_addRow_120 ?_
            replace h := bnd_some h
            obtain ⟨r62, g63, e64, h⟩ := h
            refine V_callV (As := []) (c := 0) (T := TX0) (N := 4) hM.c hM.a mq_X0_keepResult mi_X0_keepResult tw_867 (hM.d (by decide)) hM.z rfl (by omega) (zc_X0_keepResult e64) (vm_X0_keepResult e64) rfl (Nat.le_of_ble_eq_true rfl) dX10_addRow_123 ?_
            refine V_iload hM.c 0 dX10_addRow_126 rfl ?_
            exact V_iretE hM h dX10_addRow_128
          · replace h := ite_p h c45
            refine V_bipush (v := -4) hM.c dX10_addRow_94 (by decide) ?_
            exact V_iretE hM h dX10_addRow_96
        · replace h := ite_n h c20
          refine V_bipush (v := -4) hM.c dX10_addRow_47 (by decide) ?_
          exact V_iretE hM h dX10_addRow_49
      · replace h := ite_n h c14
        refine V_bipush (v := -2) hM.c dX10_addRow_30 (by decide) ?_
        exact V_iretE hM h dX10_addRow_32
  · replace h := ite_p h c4
    refine V_iconst (v := -1) hM.c dX10_addRow_7 (by decide) ?_
    exact V_iretE hM h dX10_addRow_8
def f_X8_remove (n : Nat) (Z : Zt) (a : Nat) (x1 : Int32) (g : Mem) : Option (Unit × Mem) := grd (zk Z a = 7) (some ((), (sI (sI g a 6 ((gI g a 6) &&& (((1 : Int32) <<< (x1 &&& 31)) ^^^ (-1 : Int32)))) a 7 ((gI (sI g a 6 ((gI g a 6) &&& (((1 : Int32) <<< (x1 &&& 31)) ^^^ (-1 : Int32)))) a 7) &&& (((1 : Int32) <<< (x1 &&& 31)) ^^^ (-1 : Int32))))))
theorem mq_X8_remove : Mq yX8_remove cX8_remove 2 none 1 := ⟨tw_1197, tw_14, ⟨by decide +kernel, by decide +kernel, by decide +kernel⟩, by decide⟩
theorem mi_X8_remove : Cond.instanceMethod yX8_remove ∈ TB ∧ Cond.selects yX8_remove.cls yX8_remove yX8_remove ∈ TB := ⟨tw_1195, tw_1196⟩
theorem zc_X8_remove {n : Nat} {Z : Zt} {a : Nat} {x1 : Int32} {g : Mem} {q : Unit × Mem} (h : f_X8_remove n Z a x1 g = some q) : zk Z a = 7 := (grd_some h).1
set_option maxHeartbeats 4000000 in
set_option maxRecDepth 100000 in
theorem vm_X8_remove {n : Nat} {Z : Zt} {a : Nat} {x1 : Int32} {g : Mem} {rr : Unit} {gg : Mem} (h : f_X8_remove n Z a x1 g = some (rr, gg)) : VM yX8_remove cX8_remove 2 none 0 [.ref a, .int x1] Z g none gg := by
  unfold f_X8_remove at h
  replace h := grd_some h
  obtain ⟨hz0, h⟩ := h
  refine VM.of (by decide +kernel) (Nat.le_of_ble_eq_true rfl) (fun x hM => ?_)
  have hM : Cm x cX8_remove RX8 2 none 0 Z none gg := hM
  show V x Z 0 0 0 [(0, va_rf (some a)), (1, .int x1)] [] g
  refine V_aload_n hM.c 0 dX8_remove_0 rfl rfl ?_
  refine V_dup hM.c dX8_remove_1 (rf_cat _) ?_
  refine G6_6 hM.c tw_25 hz0 dX8_remove_2 ?_
  refine V_iconst (v := 1) hM.c dX8_remove_5 (by decide) ?_
  refine V_iload_n hM.c 1 dX8_remove_6 rfl rfl ?_
  refine V_ishl hM.c dX8_remove_7 ?_
  refine V_iconst (v := -1) hM.c dX8_remove_8 (by decide) ?_
  refine V_ixor hM.c dX8_remove_9 ?_
  refine V_iand hM.c dX8_remove_10 ?_
  refine P6_6 hM.c tw_25 hz0 hM.a dX8_remove_11 ?_
  refine V_aload_n hM.c 0 dX8_remove_14 rfl rfl ?_
  refine V_dup hM.c dX8_remove_15 (rf_cat _) ?_
  refine G6_7 hM.c tw_71 hz0 dX8_remove_16 ?_
  refine V_iconst (v := 1) hM.c dX8_remove_19 (by decide) ?_
  refine V_iload_n hM.c 1 dX8_remove_20 rfl rfl ?_
  refine V_ishl hM.c dX8_remove_21 ?_
  refine V_iconst (v := -1) hM.c dX8_remove_22 (by decide) ?_
  refine V_ixor hM.c dX8_remove_23 ?_
  refine V_iand hM.c dX8_remove_24 ?_
  refine P6_7 hM.c tw_71 hz0 hM.a dX8_remove_25 ?_
  exact V_vretE hM h dX8_remove_28
def f_X10_refreshAnswer (n : Nat) (Z : Zt) (a : Nat) (g : Mem) : Option (Unit × Mem) := grd (zk Z a = 9) (drf (zf Z a 7) (fun b1 => drf (zf Z a 6) (fun b3 => drf (zf Z a 0) (fun b5 => bnd (f_X0_compute n Z b1 b3 b5 g) (fun r7 g8 => if r7 = 0 then (some ((), g8)) else (drf (zf Z a 7) (fun b11 => bnd (f_X0_keepResult n Z b11 g8) (fun r13 g14 => some ((), g14)))))))))
theorem mq_X10_refreshAnswer : Mq yX10_refreshAnswer cX10_refreshAnswer 1 none 0 := ⟨tw_1201, tw_5, ⟨by decide +kernel, by decide +kernel, by decide +kernel⟩, by decide⟩
theorem mi_X10_refreshAnswer : Cond.instanceMethod yX10_refreshAnswer ∈ TB ∧ Cond.selects yX10_refreshAnswer.cls yX10_refreshAnswer yX10_refreshAnswer ∈ TB := ⟨tw_1199, tw_1200⟩
theorem zc_X10_refreshAnswer {n : Nat} {Z : Zt} {a : Nat} {g : Mem} {q : Unit × Mem} (h : f_X10_refreshAnswer n Z a g = some q) : zk Z a = 9 := (grd_some h).1
set_option maxHeartbeats 4000000 in
set_option maxRecDepth 100000 in
theorem vm_X10_refreshAnswer {n : Nat} {Z : Zt} {a : Nat} {g : Mem} {rr : Unit} {gg : Mem} (h : f_X10_refreshAnswer n Z a g = some (rr, gg)) : VM yX10_refreshAnswer cX10_refreshAnswer 1 none 6 [.ref a] Z g none gg := by
  unfold f_X10_refreshAnswer at h
  replace h := grd_some h
  obtain ⟨hz0, h⟩ := h
  refine VM.of (by decide +kernel) (Nat.le_of_ble_eq_true rfl) (fun x hM => ?_)
  have hM : Cm x cX10_refreshAnswer RX10 1 none 6 Z none gg := hM
  show V x Z 0 0 0 [(0, va_rf (some a))] [] g
  refine V_aload_n hM.c 0 dX10_refreshAnswer_0 rfl rfl ?_
  replace h := drf_some h
  obtain ⟨b1, e2, h⟩ := h
  refine G8_7 hM.c tw_100 hz0 e2 dX10_refreshAnswer_1 ?_
  refine V_aload_n hM.c 0 dX10_refreshAnswer_4 rfl rfl ?_
  replace h := drf_some h
  obtain ⟨b3, e4, h⟩ := h
  refine G8_6 hM.c tw_665 hz0 e4 dX10_refreshAnswer_5 ?_
  refine V_aload_n hM.c 0 dX10_refreshAnswer_8 rfl rfl ?_
  replace h := drf_some h
  obtain ⟨b5, e6, h⟩ := h
  refine G8_0 hM.c tw_7 hz0 e6 dX10_refreshAnswer_9 ?_
  replace h := bnd_some h
  obtain ⟨r7, g8, e9, h⟩ := h
  refine V_callV (As := [va_rf (some b3), va_rf (some b5)]) (c := 0) (T := TX0) (N := 4) hM.c hM.a mq_X0_compute mi_X0_compute tw_704 (hM.d (by decide)) hM.z rfl (by omega) (zc_X0_compute e9) (vm_X0_compute e9) rfl (Nat.le_of_ble_eq_true rfl) dX10_refreshAnswer_12 ?_
  refine V_if_eq hM.c 25 dX10_refreshAnswer_15 (by decide) (fun c10 => ?_) (fun c10 => ?_)
  · replace h := ite_p h c10
    exact V_vretE hM h dX10_refreshAnswer_25
  · replace h := ite_n h c10
    refine V_aload_n hM.c 0 dX10_refreshAnswer_18 rfl rfl ?_
    replace h := drf_some h
    obtain ⟨b11, e12, h⟩ := h
    refine G8_7 hM.c tw_100 hz0 e12 dX10_refreshAnswer_19 ?_
    replace h := bnd_some h
    obtain ⟨r13, g14, e15, h⟩ := h
    refine V_callV (As := []) (c := 0) (T := TX0) (N := 4) hM.c hM.a mq_X0_keepResult mi_X0_keepResult tw_867 (hM.d (by decide)) hM.z rfl (by omega) (zc_X0_keepResult e15) (vm_X0_keepResult e15) rfl (Nat.le_of_ble_eq_true rfl) dX10_refreshAnswer_22 ?_
    exact V_vretE hM h dX10_refreshAnswer_25
def f_X8_tagMask (n : Nat) (Z : Zt) (a : Nat) (g : Mem) : Option (Int32 × Mem) := grd (zk Z a = 7) (some ((gI g a 6), g))
theorem mq_X8_tagMask : Mq yX8_tagMask cX8_tagMask 1 (some .int) 0 := ⟨tw_266, tw_14, ⟨by decide +kernel, by decide +kernel, by decide +kernel⟩, by decide⟩
theorem mi_X8_tagMask : Cond.instanceMethod yX8_tagMask ∈ TB ∧ Cond.selects yX8_tagMask.cls yX8_tagMask yX8_tagMask ∈ TB := ⟨tw_264, tw_265⟩
theorem zc_X8_tagMask {n : Nat} {Z : Zt} {a : Nat} {g : Mem} {q : Int32 × Mem} (h : f_X8_tagMask n Z a g = some q) : zk Z a = 7 := (grd_some h).1
set_option maxHeartbeats 4000000 in
set_option maxRecDepth 100000 in
theorem vm_X8_tagMask {n : Nat} {Z : Zt} {a : Nat} {g : Mem} {rr : Int32} {gg : Mem} (h : f_X8_tagMask n Z a g = some (rr, gg)) : VM yX8_tagMask cX8_tagMask 1 (some .int) 0 [.ref a] Z g (some (.int rr)) gg := by
  unfold f_X8_tagMask at h
  replace h := grd_some h
  obtain ⟨hz0, h⟩ := h
  refine VM.of (by decide +kernel) (Nat.le_of_ble_eq_true rfl) (fun x hM => ?_)
  have hM : Cm x cX8_tagMask RX8 1 (some .int) 0 Z (some (.int rr)) gg := hM
  show V x Z 0 0 0 [(0, va_rf (some a))] [] g
  refine V_aload_n hM.c 0 dX8_tagMask_0 rfl rfl ?_
  refine G6_6 hM.c tw_25 hz0 dX8_tagMask_1 ?_
  exact V_iretE hM h dX8_tagMask_4
def f_X10_dropRow (n : Nat) (Z : Zt) (a : Nat) (x1 : Int32) (g : Mem) : Option (Int32 × Mem) := grd (zk Z a = 9) (drf (zf Z a 0) (fun b1 => bnd (f_X8_hasTag n Z b1 x1 g) (fun r3 g4 => if r3 = 0 then (some ((-1 : Int32), g4)) else (drf (zf Z a 2) (fun b7 => drf (zf Z a 0) (fun b9 => bnd (f_X1_record n Z b7 b9 g4) (fun r11 g12 => drf (zf Z a 0) (fun b14 => bnd (f_X8_remove n Z b14 x1 g12) (fun r16 g17 => bnd (f_X10_refreshAnswer n Z a g17) (fun r19 g20 => drf (zf Z a 0) (fun b22 => bnd (f_X8_tagMask n Z b22 g20) (fun r24 g25 => bnd (f_J6_bitCount_0f7a4 n Z r24 g25) (fun r27 g28 => some (r27, g28))))))))))))))
theorem mq_X10_dropRow : Mq yX10_dropRow cX10_dropRow 2 (some .int) 1 := ⟨tw_1193, tw_5, ⟨by decide +kernel, by decide +kernel, by decide +kernel⟩, by decide⟩
theorem mi_X10_dropRow : Cond.instanceMethod yX10_dropRow ∈ TB ∧ Cond.selects yX10_dropRow.cls yX10_dropRow yX10_dropRow ∈ TB := ⟨tw_1191, tw_1192⟩
theorem zc_X10_dropRow {n : Nat} {Z : Zt} {a : Nat} {x1 : Int32} {g : Mem} {q : Int32 × Mem} (h : f_X10_dropRow n Z a x1 g = some q) : zk Z a = 9 := (grd_some h).1
set_option maxHeartbeats 4000000 in
set_option maxRecDepth 100000 in
theorem vm_X10_dropRow {n : Nat} {Z : Zt} {a : Nat} {x1 : Int32} {g : Mem} {rr : Int32} {gg : Mem} (h : f_X10_dropRow n Z a x1 g = some (rr, gg)) : VM yX10_dropRow cX10_dropRow 2 (some .int) 7 [.ref a, .int x1] Z g (some (.int rr)) gg := by
  unfold f_X10_dropRow at h
  replace h := grd_some h
  obtain ⟨hz0, h⟩ := h
  refine VM.of (by decide +kernel) (Nat.le_of_ble_eq_true rfl) (fun x hM => ?_)
  have hM : Cm x cX10_dropRow RX10 2 (some .int) 7 Z (some (.int rr)) gg := hM
  show V x Z 0 0 0 [(0, va_rf (some a)), (1, .int x1)] [] g
  refine V_aload_n hM.c 0 dX10_dropRow_0 rfl rfl ?_
  replace h := drf_some h
  obtain ⟨b1, e2, h⟩ := h
  refine G8_0 hM.c tw_7 hz0 e2 dX10_dropRow_1 ?_
  refine V_iload_n hM.c 1 dX10_dropRow_4 rfl rfl ?_
  replace h := bnd_some h
  obtain ⟨r3, g4, e5, h⟩ := h
  refine V_callV (As := [.int x1]) (c := 6) (T := TX8) (N := 8) hM.c hM.a mq_X8_hasTag mi_X8_hasTag tw_21 (hM.d (by decide)) hM.z rfl (by omega) (zc_X8_hasTag e5) (vm_X8_hasTag e5) rfl (Nat.le_of_ble_eq_true rfl) dX10_dropRow_5 ?_
  refine V_if_ne hM.c 13 dX10_dropRow_8 (by decide) (fun c6 => ?_) (fun c6 => ?_)
  · replace h := ite_n h c6
    refine V_aload_n hM.c 0 dX10_dropRow_13 rfl rfl ?_
    replace h := drf_some h
    obtain ⟨b7, e8, h⟩ := h
    refine G8_2 hM.c tw_664 hz0 e8 dX10_dropRow_14 ?_
    refine V_aload_n hM.c 0 dX10_dropRow_17 rfl rfl ?_
    replace h := drf_some h
    obtain ⟨b9, e10, h⟩ := h
    refine G8_0 hM.c tw_7 hz0 e10 dX10_dropRow_18 ?_
    replace h := bnd_some h
    obtain ⟨r11, g12, e13, h⟩ := h
    refine V_callV (As := [va_rf (some b9)]) (c := 1) (T := TX1) (N := 2) hM.c hM.a mq_X1_record mi_X1_record tw_837 (hM.d (by decide)) hM.z rfl (by omega) (zc_X1_record e13) (vm_X1_record e13) rfl (Nat.le_of_ble_eq_true rfl) dX10_dropRow_21 ?_
    refine V_aload_n hM.c 0 dX10_dropRow_24 rfl rfl ?_
    replace h := drf_some h
    obtain ⟨b14, e15, h⟩ := h
    refine G8_0 hM.c tw_7 hz0 e15 dX10_dropRow_25 ?_
    refine V_iload_n hM.c 1 dX10_dropRow_28 rfl rfl ?_
    replace h := bnd_some h
    obtain ⟨r16, g17, e18, h⟩ := h
    refine V_callV (As := [.int x1]) (c := 6) (T := TX8) (N := 8) hM.c hM.a mq_X8_remove mi_X8_remove tw_1194 (hM.d (by decide)) hM.z rfl (by omega) (zc_X8_remove e18) (vm_X8_remove e18) rfl (Nat.le_of_ble_eq_true rfl) dX10_dropRow_29 ?_
    refine V_aload_n hM.c 0 dX10_dropRow_32 rfl rfl ?_
    replace h := bnd_some h
    obtain ⟨r19, g20, e21, h⟩ := h
    refine V_callV (As := []) (c := 8) (T := TX10) (N := 10) hM.c hM.a mq_X10_refreshAnswer mi_X10_refreshAnswer tw_1198 (hM.d (by decide)) hM.z rfl (by omega) (zc_X10_refreshAnswer e21) (vm_X10_refreshAnswer e21) rfl (Nat.le_of_ble_eq_true rfl) dX10_dropRow_33 ?_
    refine V_aload_n hM.c 0 dX10_dropRow_36 rfl rfl ?_
    replace h := drf_some h
    obtain ⟨b22, e23, h⟩ := h
    refine G8_0 hM.c tw_7 hz0 e23 dX10_dropRow_37 ?_
    replace h := bnd_some h
    obtain ⟨r24, g25, e26, h⟩ := h
    refine V_callV (As := []) (c := 6) (T := TX8) (N := 8) hM.c hM.a mq_X8_tagMask mi_X8_tagMask tw_263 (hM.d (by decide)) hM.z rfl (by omega) (zc_X8_tagMask e26) (vm_X8_tagMask e26) rfl (Nat.le_of_ble_eq_true rfl) dX10_dropRow_40 ?_
    replace h := bnd_some h
    obtain ⟨r27, g28, e29, h⟩ := h
    refine V_callS (As := [.int r24]) hM.c hM.a mq_J6_bitCount_0f7a4 mi_J6_bitCount_0f7a4 tw_1202 (hM.d (by decide)) hM.z (vm_J6_bitCount_0f7a4 e29) rfl (Nat.le_of_ble_eq_true rfl) dX10_dropRow_43 ?_
    exact V_iretE hM h dX10_dropRow_46
  · replace h := ite_p h c6
    refine V_iconst (v := -1) hM.c dX10_dropRow_11 (by decide) ?_
    exact V_iretE hM h dX10_dropRow_12
def f_X8_costOf (n : Nat) (Z : Zt) (a : Nat) (x1 : Int32) (g : Mem) : Option (Int32 × Mem) := grd (zk Z a = 7) (bnd (f_X8_hasTag n Z a x1 g) (fun r1 g2 => if r1 = 0 then (some ((0 : Int32), g2)) else (drf (zf Z a 3) (fun b5 => grd (zk Z b5 = 12) (grd (inr x1 (zl Z b5)) (some ((gI g2 b5 x1.toNatClampNeg), g2)))))))
theorem mq_X8_costOf : Mq yX8_costOf cX8_costOf 2 (some .int) 1 := ⟨tw_39, tw_14, ⟨by decide +kernel, by decide +kernel, by decide +kernel⟩, by decide⟩
theorem mi_X8_costOf : Cond.instanceMethod yX8_costOf ∈ TB ∧ Cond.selects yX8_costOf.cls yX8_costOf yX8_costOf ∈ TB := ⟨tw_37, tw_38⟩
theorem zc_X8_costOf {n : Nat} {Z : Zt} {a : Nat} {x1 : Int32} {g : Mem} {q : Int32 × Mem} (h : f_X8_costOf n Z a x1 g = some q) : zk Z a = 7 := (grd_some h).1
set_option maxHeartbeats 4000000 in
set_option maxRecDepth 100000 in
theorem vm_X8_costOf {n : Nat} {Z : Zt} {a : Nat} {x1 : Int32} {g : Mem} {rr : Int32} {gg : Mem} (h : f_X8_costOf n Z a x1 g = some (rr, gg)) : VM yX8_costOf cX8_costOf 2 (some .int) 1 [.ref a, .int x1] Z g (some (.int rr)) gg := by
  unfold f_X8_costOf at h
  replace h := grd_some h
  obtain ⟨hz0, h⟩ := h
  refine VM.of (by decide +kernel) (Nat.le_of_ble_eq_true rfl) (fun x hM => ?_)
  have hM : Cm x cX8_costOf RX8 2 (some .int) 1 Z (some (.int rr)) gg := hM
  show V x Z 0 0 0 [(0, va_rf (some a)), (1, .int x1)] [] g
  refine V_aload_n hM.c 0 dX8_costOf_0 rfl rfl ?_
  refine V_iload_n hM.c 1 dX8_costOf_1 rfl rfl ?_
  replace h := bnd_some h
  obtain ⟨r1, g2, e3, h⟩ := h
  refine V_callV (As := [.int x1]) (c := 6) (T := TX8) (N := 8) hM.c hM.a mq_X8_hasTag mi_X8_hasTag tw_31 (hM.d (by decide)) hM.z rfl (by omega) (zc_X8_hasTag e3) (vm_X8_hasTag e3) rfl (Nat.le_of_ble_eq_true rfl) dX8_costOf_2 ?_
  refine V_if_eq hM.c 17 dX8_costOf_5 (by decide) (fun c4 => ?_) (fun c4 => ?_)
  · replace h := ite_p h c4
    refine V_iconst (v := 0) hM.c dX8_costOf_17 (by decide) ?_
    exact V_iretE hM h dX8_costOf_18
  · replace h := ite_n h c4
    refine V_aload_n hM.c 0 dX8_costOf_8 rfl rfl ?_
    replace h := drf_some h
    obtain ⟨b5, e6, h⟩ := h
    refine G6_3 hM.c tw_40 hz0 e6 dX8_costOf_9 ?_
    refine V_iload_n hM.c 1 dX8_costOf_12 rfl rfl ?_
    replace h := grd_some h
    obtain ⟨z7, h⟩ := h
    replace h := grd_some h
    obtain ⟨c8, h⟩ := h
    refine V_iald hM.c z7 c8 dX8_costOf_13 ?_
    refine V_goto hM.c 18 dX8_costOf_14 (by decide) ?_
    exact V_iretE hM h dX8_costOf_18
def f_X8_changeCost (n : Nat) (Z : Zt) (a : Nat) (x1 : Int32) (x2 : Int32) (g : Mem) : Option (Unit × Mem) := grd (zk Z a = 7) (bnd (f_X8_hasTag n Z a x1 g) (fun r1 g2 => if r1 = 0 then (some ((), g2)) else (drf (zf Z a 3) (fun b5 => grd (zk Z b5 = 12) (grd (inr x1 (zl Z b5)) (some ((), (sI g2 b5 x1.toNatClampNeg x2))))))))
theorem mq_X8_changeCost : Mq yX8_changeCost cX8_changeCost 3 none 2 := ⟨tw_1216, tw_14, ⟨by decide +kernel, by decide +kernel, by decide +kernel⟩, by decide⟩
theorem mi_X8_changeCost : Cond.instanceMethod yX8_changeCost ∈ TB ∧ Cond.selects yX8_changeCost.cls yX8_changeCost yX8_changeCost ∈ TB := ⟨tw_1214, tw_1215⟩
theorem zc_X8_changeCost {n : Nat} {Z : Zt} {a : Nat} {x1 : Int32} {x2 : Int32} {g : Mem} {q : Unit × Mem} (h : f_X8_changeCost n Z a x1 x2 g = some q) : zk Z a = 7 := (grd_some h).1
set_option maxHeartbeats 4000000 in
set_option maxRecDepth 100000 in
theorem vm_X8_changeCost {n : Nat} {Z : Zt} {a : Nat} {x1 : Int32} {x2 : Int32} {g : Mem} {rr : Unit} {gg : Mem} (h : f_X8_changeCost n Z a x1 x2 g = some (rr, gg)) : VM yX8_changeCost cX8_changeCost 3 none 1 [.ref a, .int x1, .int x2] Z g none gg := by
  unfold f_X8_changeCost at h
  replace h := grd_some h
  obtain ⟨hz0, h⟩ := h
  refine VM.of (by decide +kernel) (Nat.le_of_ble_eq_true rfl) (fun x hM => ?_)
  have hM : Cm x cX8_changeCost RX8 3 none 1 Z none gg := hM
  show V x Z 0 0 0 [(0, va_rf (some a)), (1, .int x1), (2, .int x2)] [] g
  refine V_aload_n hM.c 0 dX8_changeCost_0 rfl rfl ?_
  refine V_iload_n hM.c 1 dX8_changeCost_1 rfl rfl ?_
  replace h := bnd_some h
  obtain ⟨r1, g2, e3, h⟩ := h
  refine V_callV (As := [.int x1]) (c := 6) (T := TX8) (N := 8) hM.c hM.a mq_X8_hasTag mi_X8_hasTag tw_31 (hM.d (by decide)) hM.z rfl (by omega) (zc_X8_hasTag e3) (vm_X8_hasTag e3) rfl (Nat.le_of_ble_eq_true rfl) dX8_changeCost_2 ?_
  refine V_if_eq hM.c 15 dX8_changeCost_5 (by decide) (fun c4 => ?_) (fun c4 => ?_)
  · replace h := ite_p h c4
    exact V_vretE hM h dX8_changeCost_15
  · replace h := ite_n h c4
    refine V_aload_n hM.c 0 dX8_changeCost_8 rfl rfl ?_
    replace h := drf_some h
    obtain ⟨b5, e6, h⟩ := h
    refine G6_3 hM.c tw_40 hz0 e6 dX8_changeCost_9 ?_
    refine V_iload_n hM.c 1 dX8_changeCost_12 rfl rfl ?_
    refine V_iload_n hM.c 2 dX8_changeCost_13 rfl rfl ?_
    replace h := grd_some h
    obtain ⟨z7, h⟩ := h
    replace h := grd_some h
    obtain ⟨c8, h⟩ := h
    refine V_iast hM.c z7 c8 hM.a dX8_changeCost_14 ?_
    exact V_vretE hM h dX8_changeCost_15
def f_X10_setCost (n : Nat) (Z : Zt) (a : Nat) (x1 : Int32) (x2 : Int32) (g : Mem) : Option (Int32 × Mem) := grd (zk Z a = 9) (drf (zf Z a 0) (fun b1 => bnd (f_X8_hasTag n Z b1 x1 g) (fun r3 g4 => if r3 = 0 then (some ((-1 : Int32), g4)) else (if x2 < 0 then (some ((-2 : Int32), g4)) else (if x2 ≤ (999 : Int32) then (drf (zf Z a 0) (fun b9 => bnd (f_X8_costOf n Z b9 x1 g4) (fun r11 g12 => drf (zf Z a 2) (fun b14 => drf (zf Z a 0) (fun b16 => bnd (f_X1_record n Z b14 b16 g12) (fun r18 g19 => drf (zf Z a 0) (fun b21 => bnd (f_X8_changeCost n Z b21 x1 x2 g19) (fun r23 g24 => some (r11, g24))))))))) else (some ((-2 : Int32), g4)))))))
theorem mq_X10_setCost : Mq yX10_setCost cX10_setCost 4 (some .int) 2 := ⟨tw_1212, tw_5, ⟨by decide +kernel, by decide +kernel, by decide +kernel⟩, by decide⟩
theorem mi_X10_setCost : Cond.instanceMethod yX10_setCost ∈ TB ∧ Cond.selects yX10_setCost.cls yX10_setCost yX10_setCost ∈ TB := ⟨tw_1210, tw_1211⟩
theorem zc_X10_setCost {n : Nat} {Z : Zt} {a : Nat} {x1 : Int32} {x2 : Int32} {g : Mem} {q : Int32 × Mem} (h : f_X10_setCost n Z a x1 x2 g = some q) : zk Z a = 9 := (grd_some h).1
set_option maxHeartbeats 4000000 in
set_option maxRecDepth 100000 in
theorem vm_X10_setCost {n : Nat} {Z : Zt} {a : Nat} {x1 : Int32} {x2 : Int32} {g : Mem} {rr : Int32} {gg : Mem} (h : f_X10_setCost n Z a x1 x2 g = some (rr, gg)) : VM yX10_setCost cX10_setCost 4 (some .int) 4 [.ref a, .int x1, .int x2] Z g (some (.int rr)) gg := by
  unfold f_X10_setCost at h
  replace h := grd_some h
  obtain ⟨hz0, h⟩ := h
  refine VM.of (by decide +kernel) (Nat.le_of_ble_eq_true rfl) (fun x hM => ?_)
  have hM : Cm x cX10_setCost RX10 4 (some .int) 4 Z (some (.int rr)) gg := hM
  show V x Z 0 0 0 [(0, va_rf (some a)), (1, .int x1), (2, .int x2)] [] g
  refine V_aload_n hM.c 0 dX10_setCost_0 rfl rfl ?_
  replace h := drf_some h
  obtain ⟨b1, e2, h⟩ := h
  refine G8_0 hM.c tw_7 hz0 e2 dX10_setCost_1 ?_
  refine V_iload_n hM.c 1 dX10_setCost_4 rfl rfl ?_
  replace h := bnd_some h
  obtain ⟨r3, g4, e5, h⟩ := h
  refine V_callV (As := [.int x1]) (c := 6) (T := TX8) (N := 8) hM.c hM.a mq_X8_hasTag mi_X8_hasTag tw_21 (hM.d (by decide)) hM.z rfl (by omega) (zc_X8_hasTag e5) (vm_X8_hasTag e5) rfl (Nat.le_of_ble_eq_true rfl) dX10_setCost_5 ?_
  refine V_if_ne hM.c 13 dX10_setCost_8 (by decide) (fun c6 => ?_) (fun c6 => ?_)
  · replace h := ite_n h c6
    refine V_iload_n hM.c 2 dX10_setCost_13 rfl rfl ?_
    refine V_if_lt hM.c 24 dX10_setCost_14 (by decide) (fun c7 => ?_) (fun c7 => ?_)
    · replace h := ite_p h c7
      refine V_bipush (v := -2) hM.c dX10_setCost_24 (by decide) ?_
      exact V_iretE hM h dX10_setCost_26
    · replace h := ite_n h c7
      refine V_iload_n hM.c 2 dX10_setCost_17 rfl rfl ?_
      refine V_sipush (v := 999) hM.c dX10_setCost_18 (by decide) ?_
      refine V_icmp_le hM.c 27 dX10_setCost_21 (by decide) (fun c8 => ?_) (fun c8 => ?_)
      · replace h := ite_p h c8
        refine V_aload_n hM.c 0 dX10_setCost_27 rfl rfl ?_
        replace h := drf_some h
        obtain ⟨b9, e10, h⟩ := h
        refine G8_0 hM.c tw_7 hz0 e10 dX10_setCost_28 ?_
        refine V_iload_n hM.c 1 dX10_setCost_31 rfl rfl ?_
        replace h := bnd_some h
        obtain ⟨r11, g12, e13, h⟩ := h
        refine V_callV (As := [.int x1]) (c := 6) (T := TX8) (N := 8) hM.c hM.a mq_X8_costOf mi_X8_costOf tw_36 (hM.d (by decide)) hM.z rfl (by omega) (zc_X8_costOf e13) (vm_X8_costOf e13) rfl (Nat.le_of_ble_eq_true rfl) dX10_setCost_32 ?_
        refine V_istore_n (i := 3) (L' := [(3, .int r11), (0, va_rf (some a)), (1, .int x1), (2, .int x2)]) hM.c dX10_setCost_35 rfl (by decide) rfl ?_
        refine V_aload_n hM.c 1 dX10_setCost_36 rfl rfl ?_
        replace h := drf_some h
        obtain ⟨b14, e15, h⟩ := h
        refine G8_2 hM.c tw_664 hz0 e15 dX10_setCost_37 ?_
        refine V_aload_n hM.c 1 dX10_setCost_40 rfl rfl ?_
        replace h := drf_some h
        obtain ⟨b16, e17, h⟩ := h
        refine G8_0 hM.c tw_7 hz0 e17 dX10_setCost_41 ?_
        replace h := bnd_some h
        obtain ⟨r18, g19, e20, h⟩ := h
        refine V_callV (As := [va_rf (some b16)]) (c := 1) (T := TX1) (N := 2) hM.c hM.a mq_X1_record mi_X1_record tw_837 (hM.d (by decide)) hM.z rfl (by omega) (zc_X1_record e20) (vm_X1_record e20) rfl (Nat.le_of_ble_eq_true rfl) dX10_setCost_44 ?_
        refine V_aload_n hM.c 1 dX10_setCost_47 rfl rfl ?_
        replace h := drf_some h
        obtain ⟨b21, e22, h⟩ := h
        refine G8_0 hM.c tw_7 hz0 e22 dX10_setCost_48 ?_
        refine V_iload_n hM.c 2 dX10_setCost_51 rfl rfl ?_
        refine V_iload_n hM.c 3 dX10_setCost_52 rfl rfl ?_
        replace h := bnd_some h
        obtain ⟨r23, g24, e25, h⟩ := h
        refine V_callV (As := [.int x1, .int x2]) (c := 6) (T := TX8) (N := 8) hM.c hM.a mq_X8_changeCost mi_X8_changeCost tw_1213 (hM.d (by decide)) hM.z rfl (by omega) (zc_X8_changeCost e25) (vm_X8_changeCost e25) rfl (Nat.le_of_ble_eq_true rfl) dX10_setCost_53 ?_
        refine V_iload_n hM.c 0 dX10_setCost_56 rfl rfl ?_
        exact V_iretE hM h dX10_setCost_57
      · replace h := ite_n h c8
        refine V_bipush (v := -2) hM.c dX10_setCost_24 (by decide) ?_
        exact V_iretE hM h dX10_setCost_26
  · replace h := ite_p h c6
    refine V_iconst (v := -1) hM.c dX10_setCost_11 (by decide) ?_
    exact V_iretE hM h dX10_setCost_12
def f_X8_trustOf (n : Nat) (Z : Zt) (a : Nat) (x1 : Int32) (g : Mem) : Option (Int32 × Mem) := grd (zk Z a = 7) (bnd (f_X8_hasTag n Z a x1 g) (fun r1 g2 => if r1 = 0 then (some ((0 : Int32), g2)) else (drf (zf Z a 4) (fun b5 => grd (zk Z b5 = 12) (grd (inr x1 (zl Z b5)) (some ((gI g2 b5 x1.toNatClampNeg), g2)))))))
theorem mq_X8_trustOf : Mq yX8_trustOf cX8_trustOf 2 (some .int) 1 := ⟨tw_48, tw_14, ⟨by decide +kernel, by decide +kernel, by decide +kernel⟩, by decide⟩
theorem mi_X8_trustOf : Cond.instanceMethod yX8_trustOf ∈ TB ∧ Cond.selects yX8_trustOf.cls yX8_trustOf yX8_trustOf ∈ TB := ⟨tw_46, tw_47⟩
theorem zc_X8_trustOf {n : Nat} {Z : Zt} {a : Nat} {x1 : Int32} {g : Mem} {q : Int32 × Mem} (h : f_X8_trustOf n Z a x1 g = some q) : zk Z a = 7 := (grd_some h).1
set_option maxHeartbeats 4000000 in
set_option maxRecDepth 100000 in
theorem vm_X8_trustOf {n : Nat} {Z : Zt} {a : Nat} {x1 : Int32} {g : Mem} {rr : Int32} {gg : Mem} (h : f_X8_trustOf n Z a x1 g = some (rr, gg)) : VM yX8_trustOf cX8_trustOf 2 (some .int) 1 [.ref a, .int x1] Z g (some (.int rr)) gg := by
  unfold f_X8_trustOf at h
  replace h := grd_some h
  obtain ⟨hz0, h⟩ := h
  refine VM.of (by decide +kernel) (Nat.le_of_ble_eq_true rfl) (fun x hM => ?_)
  have hM : Cm x cX8_trustOf RX8 2 (some .int) 1 Z (some (.int rr)) gg := hM
  show V x Z 0 0 0 [(0, va_rf (some a)), (1, .int x1)] [] g
  refine V_aload_n hM.c 0 dX8_trustOf_0 rfl rfl ?_
  refine V_iload_n hM.c 1 dX8_trustOf_1 rfl rfl ?_
  replace h := bnd_some h
  obtain ⟨r1, g2, e3, h⟩ := h
  refine V_callV (As := [.int x1]) (c := 6) (T := TX8) (N := 8) hM.c hM.a mq_X8_hasTag mi_X8_hasTag tw_31 (hM.d (by decide)) hM.z rfl (by omega) (zc_X8_hasTag e3) (vm_X8_hasTag e3) rfl (Nat.le_of_ble_eq_true rfl) dX8_trustOf_2 ?_
  refine V_if_eq hM.c 17 dX8_trustOf_5 (by decide) (fun c4 => ?_) (fun c4 => ?_)
  · replace h := ite_p h c4
    refine V_iconst (v := 0) hM.c dX8_trustOf_17 (by decide) ?_
    exact V_iretE hM h dX8_trustOf_18
  · replace h := ite_n h c4
    refine V_aload_n hM.c 0 dX8_trustOf_8 rfl rfl ?_
    replace h := drf_some h
    obtain ⟨b5, e6, h⟩ := h
    refine G6_4 hM.c tw_49 hz0 e6 dX8_trustOf_9 ?_
    refine V_iload_n hM.c 1 dX8_trustOf_12 rfl rfl ?_
    replace h := grd_some h
    obtain ⟨z7, h⟩ := h
    replace h := grd_some h
    obtain ⟨c8, h⟩ := h
    refine V_iald hM.c z7 c8 dX8_trustOf_13 ?_
    refine V_goto hM.c 18 dX8_trustOf_14 (by decide) ?_
    exact V_iretE hM h dX8_trustOf_18
def f_X8_changeTrust (n : Nat) (Z : Zt) (a : Nat) (x1 : Int32) (x2 : Int32) (g : Mem) : Option (Unit × Mem) := grd (zk Z a = 7) (bnd (f_X8_hasTag n Z a x1 g) (fun r1 g2 => if r1 = 0 then (some ((), g2)) else (drf (zf Z a 4) (fun b5 => grd (zk Z b5 = 12) (grd (inr x1 (zl Z b5)) (some ((), (sI g2 b5 x1.toNatClampNeg x2))))))))
theorem mq_X8_changeTrust : Mq yX8_changeTrust cX8_changeTrust 3 none 2 := ⟨tw_1224, tw_14, ⟨by decide +kernel, by decide +kernel, by decide +kernel⟩, by decide⟩
theorem mi_X8_changeTrust : Cond.instanceMethod yX8_changeTrust ∈ TB ∧ Cond.selects yX8_changeTrust.cls yX8_changeTrust yX8_changeTrust ∈ TB := ⟨tw_1222, tw_1223⟩
theorem zc_X8_changeTrust {n : Nat} {Z : Zt} {a : Nat} {x1 : Int32} {x2 : Int32} {g : Mem} {q : Unit × Mem} (h : f_X8_changeTrust n Z a x1 x2 g = some q) : zk Z a = 7 := (grd_some h).1
set_option maxHeartbeats 4000000 in
set_option maxRecDepth 100000 in
theorem vm_X8_changeTrust {n : Nat} {Z : Zt} {a : Nat} {x1 : Int32} {x2 : Int32} {g : Mem} {rr : Unit} {gg : Mem} (h : f_X8_changeTrust n Z a x1 x2 g = some (rr, gg)) : VM yX8_changeTrust cX8_changeTrust 3 none 1 [.ref a, .int x1, .int x2] Z g none gg := by
  unfold f_X8_changeTrust at h
  replace h := grd_some h
  obtain ⟨hz0, h⟩ := h
  refine VM.of (by decide +kernel) (Nat.le_of_ble_eq_true rfl) (fun x hM => ?_)
  have hM : Cm x cX8_changeTrust RX8 3 none 1 Z none gg := hM
  show V x Z 0 0 0 [(0, va_rf (some a)), (1, .int x1), (2, .int x2)] [] g
  refine V_aload_n hM.c 0 dX8_changeTrust_0 rfl rfl ?_
  refine V_iload_n hM.c 1 dX8_changeTrust_1 rfl rfl ?_
  replace h := bnd_some h
  obtain ⟨r1, g2, e3, h⟩ := h
  refine V_callV (As := [.int x1]) (c := 6) (T := TX8) (N := 8) hM.c hM.a mq_X8_hasTag mi_X8_hasTag tw_31 (hM.d (by decide)) hM.z rfl (by omega) (zc_X8_hasTag e3) (vm_X8_hasTag e3) rfl (Nat.le_of_ble_eq_true rfl) dX8_changeTrust_2 ?_
  refine V_if_eq hM.c 15 dX8_changeTrust_5 (by decide) (fun c4 => ?_) (fun c4 => ?_)
  · replace h := ite_p h c4
    exact V_vretE hM h dX8_changeTrust_15
  · replace h := ite_n h c4
    refine V_aload_n hM.c 0 dX8_changeTrust_8 rfl rfl ?_
    replace h := drf_some h
    obtain ⟨b5, e6, h⟩ := h
    refine G6_4 hM.c tw_49 hz0 e6 dX8_changeTrust_9 ?_
    refine V_iload_n hM.c 1 dX8_changeTrust_12 rfl rfl ?_
    refine V_iload_n hM.c 2 dX8_changeTrust_13 rfl rfl ?_
    replace h := grd_some h
    obtain ⟨z7, h⟩ := h
    replace h := grd_some h
    obtain ⟨c8, h⟩ := h
    refine V_iast hM.c z7 c8 hM.a dX8_changeTrust_14 ?_
    exact V_vretE hM h dX8_changeTrust_15
def f_X10_setTrust (n : Nat) (Z : Zt) (a : Nat) (x1 : Int32) (x2 : Int32) (g : Mem) : Option (Int32 × Mem) := grd (zk Z a = 9) (drf (zf Z a 0) (fun b1 => bnd (f_X8_hasTag n Z b1 x1 g) (fun r3 g4 => if r3 = 0 then (some ((-1 : Int32), g4)) else (if x2 < 0 then (some ((-2 : Int32), g4)) else (if x2 ≤ (100 : Int32) then (drf (zf Z a 0) (fun b9 => bnd (f_X8_trustOf n Z b9 x1 g4) (fun r11 g12 => drf (zf Z a 2) (fun b14 => drf (zf Z a 0) (fun b16 => bnd (f_X1_record n Z b14 b16 g12) (fun r18 g19 => drf (zf Z a 0) (fun b21 => bnd (f_X8_changeTrust n Z b21 x1 x2 g19) (fun r23 g24 => some (r11, g24))))))))) else (some ((-2 : Int32), g4)))))))
theorem mq_X10_setTrust : Mq yX10_setTrust cX10_setTrust 4 (some .int) 2 := ⟨tw_1220, tw_5, ⟨by decide +kernel, by decide +kernel, by decide +kernel⟩, by decide⟩
theorem mi_X10_setTrust : Cond.instanceMethod yX10_setTrust ∈ TB ∧ Cond.selects yX10_setTrust.cls yX10_setTrust yX10_setTrust ∈ TB := ⟨tw_1218, tw_1219⟩
theorem zc_X10_setTrust {n : Nat} {Z : Zt} {a : Nat} {x1 : Int32} {x2 : Int32} {g : Mem} {q : Int32 × Mem} (h : f_X10_setTrust n Z a x1 x2 g = some q) : zk Z a = 9 := (grd_some h).1
set_option maxHeartbeats 4000000 in
set_option maxRecDepth 100000 in
theorem vm_X10_setTrust {n : Nat} {Z : Zt} {a : Nat} {x1 : Int32} {x2 : Int32} {g : Mem} {rr : Int32} {gg : Mem} (h : f_X10_setTrust n Z a x1 x2 g = some (rr, gg)) : VM yX10_setTrust cX10_setTrust 4 (some .int) 4 [.ref a, .int x1, .int x2] Z g (some (.int rr)) gg := by
  unfold f_X10_setTrust at h
  replace h := grd_some h
  obtain ⟨hz0, h⟩ := h
  refine VM.of (by decide +kernel) (Nat.le_of_ble_eq_true rfl) (fun x hM => ?_)
  have hM : Cm x cX10_setTrust RX10 4 (some .int) 4 Z (some (.int rr)) gg := hM
  show V x Z 0 0 0 [(0, va_rf (some a)), (1, .int x1), (2, .int x2)] [] g
  refine V_aload_n hM.c 0 dX10_setTrust_0 rfl rfl ?_
  replace h := drf_some h
  obtain ⟨b1, e2, h⟩ := h
  refine G8_0 hM.c tw_7 hz0 e2 dX10_setTrust_1 ?_
  refine V_iload_n hM.c 1 dX10_setTrust_4 rfl rfl ?_
  replace h := bnd_some h
  obtain ⟨r3, g4, e5, h⟩ := h
  refine V_callV (As := [.int x1]) (c := 6) (T := TX8) (N := 8) hM.c hM.a mq_X8_hasTag mi_X8_hasTag tw_21 (hM.d (by decide)) hM.z rfl (by omega) (zc_X8_hasTag e5) (vm_X8_hasTag e5) rfl (Nat.le_of_ble_eq_true rfl) dX10_setTrust_5 ?_
  refine V_if_ne hM.c 13 dX10_setTrust_8 (by decide) (fun c6 => ?_) (fun c6 => ?_)
  · replace h := ite_n h c6
    refine V_iload_n hM.c 2 dX10_setTrust_13 rfl rfl ?_
    refine V_if_lt hM.c 23 dX10_setTrust_14 (by decide) (fun c7 => ?_) (fun c7 => ?_)
    · replace h := ite_p h c7
      refine V_bipush (v := -2) hM.c dX10_setTrust_23 (by decide) ?_
      exact V_iretE hM h dX10_setTrust_25
    · replace h := ite_n h c7
      refine V_iload_n hM.c 2 dX10_setTrust_17 rfl rfl ?_
      refine V_bipush (v := 100) hM.c dX10_setTrust_18 (by decide) ?_
      refine V_icmp_le hM.c 26 dX10_setTrust_20 (by decide) (fun c8 => ?_) (fun c8 => ?_)
      · replace h := ite_p h c8
        refine V_aload_n hM.c 0 dX10_setTrust_26 rfl rfl ?_
        replace h := drf_some h
        obtain ⟨b9, e10, h⟩ := h
        refine G8_0 hM.c tw_7 hz0 e10 dX10_setTrust_27 ?_
        refine V_iload_n hM.c 1 dX10_setTrust_30 rfl rfl ?_
        replace h := bnd_some h
        obtain ⟨r11, g12, e13, h⟩ := h
        refine V_callV (As := [.int x1]) (c := 6) (T := TX8) (N := 8) hM.c hM.a mq_X8_trustOf mi_X8_trustOf tw_45 (hM.d (by decide)) hM.z rfl (by omega) (zc_X8_trustOf e13) (vm_X8_trustOf e13) rfl (Nat.le_of_ble_eq_true rfl) dX10_setTrust_31 ?_
        refine V_istore_n (i := 3) (L' := [(3, .int r11), (0, va_rf (some a)), (1, .int x1), (2, .int x2)]) hM.c dX10_setTrust_34 rfl (by decide) rfl ?_
        refine V_aload_n hM.c 1 dX10_setTrust_35 rfl rfl ?_
        replace h := drf_some h
        obtain ⟨b14, e15, h⟩ := h
        refine G8_2 hM.c tw_664 hz0 e15 dX10_setTrust_36 ?_
        refine V_aload_n hM.c 1 dX10_setTrust_39 rfl rfl ?_
        replace h := drf_some h
        obtain ⟨b16, e17, h⟩ := h
        refine G8_0 hM.c tw_7 hz0 e17 dX10_setTrust_40 ?_
        replace h := bnd_some h
        obtain ⟨r18, g19, e20, h⟩ := h
        refine V_callV (As := [va_rf (some b16)]) (c := 1) (T := TX1) (N := 2) hM.c hM.a mq_X1_record mi_X1_record tw_837 (hM.d (by decide)) hM.z rfl (by omega) (zc_X1_record e20) (vm_X1_record e20) rfl (Nat.le_of_ble_eq_true rfl) dX10_setTrust_43 ?_
        refine V_aload_n hM.c 1 dX10_setTrust_46 rfl rfl ?_
        replace h := drf_some h
        obtain ⟨b21, e22, h⟩ := h
        refine G8_0 hM.c tw_7 hz0 e22 dX10_setTrust_47 ?_
        refine V_iload_n hM.c 2 dX10_setTrust_50 rfl rfl ?_
        refine V_iload_n hM.c 3 dX10_setTrust_51 rfl rfl ?_
        replace h := bnd_some h
        obtain ⟨r23, g24, e25, h⟩ := h
        refine V_callV (As := [.int x1, .int x2]) (c := 6) (T := TX8) (N := 8) hM.c hM.a mq_X8_changeTrust mi_X8_changeTrust tw_1221 (hM.d (by decide)) hM.z rfl (by omega) (zc_X8_changeTrust e25) (vm_X8_changeTrust e25) rfl (Nat.le_of_ble_eq_true rfl) dX10_setTrust_52 ?_
        refine V_iload_n hM.c 0 dX10_setTrust_55 rfl rfl ?_
        exact V_iretE hM h dX10_setTrust_56
      · replace h := ite_n h c8
        refine V_bipush (v := -2) hM.c dX10_setTrust_23 (by decide) ?_
        exact V_iretE hM h dX10_setTrust_25
  · replace h := ite_p h c6
    refine V_iconst (v := -1) hM.c dX10_setTrust_11 (by decide) ?_
    exact V_iretE hM h dX10_setTrust_12
def f_X8_withdraw (n : Nat) (Z : Zt) (a : Nat) (x1 : Int32) (x2 : Int32) (g : Mem) : Option (Unit × Mem) := grd (zk Z a = 7) (if x2 = 0 then (some ((), (sI g a 7 ((gI g a 7) &&& (((1 : Int32) <<< (x1 &&& 31)) ^^^ (-1 : Int32)))))) else (some ((), (sI g a 7 ((gI g a 7) ||| ((1 : Int32) <<< (x1 &&& 31)))))))
theorem mq_X8_withdraw : Mq yX8_withdraw cX8_withdraw 3 none 2 := ⟨tw_1630, tw_14, ⟨by decide +kernel, by decide +kernel, by decide +kernel⟩, by decide⟩
theorem mi_X8_withdraw : Cond.instanceMethod yX8_withdraw ∈ TB ∧ Cond.selects yX8_withdraw.cls yX8_withdraw yX8_withdraw ∈ TB := ⟨tw_1628, tw_1629⟩
theorem zc_X8_withdraw {n : Nat} {Z : Zt} {a : Nat} {x1 : Int32} {x2 : Int32} {g : Mem} {q : Unit × Mem} (h : f_X8_withdraw n Z a x1 x2 g = some q) : zk Z a = 7 := (grd_some h).1
set_option maxHeartbeats 4000000 in
set_option maxRecDepth 100000 in
theorem vm_X8_withdraw {n : Nat} {Z : Zt} {a : Nat} {x1 : Int32} {x2 : Int32} {g : Mem} {rr : Unit} {gg : Mem} (h : f_X8_withdraw n Z a x1 x2 g = some (rr, gg)) : VM yX8_withdraw cX8_withdraw 3 none 0 [.ref a, .int x1, .int x2] Z g none gg := by
  unfold f_X8_withdraw at h
  replace h := grd_some h
  obtain ⟨hz0, h⟩ := h
  refine VM.of (by decide +kernel) (Nat.le_of_ble_eq_true rfl) (fun x hM => ?_)
  have hM : Cm x cX8_withdraw RX8 3 none 0 Z none gg := hM
  show V x Z 0 0 0 [(0, va_rf (some a)), (1, .int x1), (2, .int x2)] [] g
  refine V_iload_n hM.c 2 dX8_withdraw_0 rfl rfl ?_
  refine V_if_eq hM.c 19 dX8_withdraw_1 (by decide) (fun c1 => ?_) (fun c1 => ?_)
  · replace h := ite_p h c1
    refine V_aload_n hM.c 0 dX8_withdraw_19 rfl rfl ?_
    refine V_dup hM.c dX8_withdraw_20 (rf_cat _) ?_
    refine G6_7 hM.c tw_71 hz0 dX8_withdraw_21 ?_
    refine V_iconst (v := 1) hM.c dX8_withdraw_24 (by decide) ?_
    refine V_iload_n hM.c 1 dX8_withdraw_25 rfl rfl ?_
    refine V_ishl hM.c dX8_withdraw_26 ?_
    refine V_iconst (v := -1) hM.c dX8_withdraw_27 (by decide) ?_
    refine V_ixor hM.c dX8_withdraw_28 ?_
    refine V_iand hM.c dX8_withdraw_29 ?_
    refine P6_7 hM.c tw_71 hz0 hM.a dX8_withdraw_30 ?_
    exact V_vretE hM h dX8_withdraw_33
  · replace h := ite_n h c1
    refine V_aload_n hM.c 0 dX8_withdraw_4 rfl rfl ?_
    refine V_dup hM.c dX8_withdraw_5 (rf_cat _) ?_
    refine G6_7 hM.c tw_71 hz0 dX8_withdraw_6 ?_
    refine V_iconst (v := 1) hM.c dX8_withdraw_9 (by decide) ?_
    refine V_iload_n hM.c 1 dX8_withdraw_10 rfl rfl ?_
    refine V_ishl hM.c dX8_withdraw_11 ?_
    refine V_ior hM.c dX8_withdraw_12 ?_
    refine P6_7 hM.c tw_71 hz0 hM.a dX8_withdraw_13 ?_
    refine V_goto hM.c 33 dX8_withdraw_16 (by decide) ?_
    exact V_vretE hM h dX8_withdraw_33
def f_X0_answer (n : Nat) (Z : Zt) (a : Nat) (g : Mem) : Option (Option Nat × Mem) := grd (zk Z a = 1) (nam (gP g a 2) (fun q1 => some (q1, g)))
theorem mq_X0_answer : Mq yX0_answer cX0_answer 1 (some (.object "ProvenanceTables$Relation")) 0 := ⟨tw_105, tw_104, ⟨by decide +kernel, by decide +kernel, by decide +kernel⟩, by decide⟩
theorem mi_X0_answer : Cond.instanceMethod yX0_answer ∈ TB ∧ Cond.selects yX0_answer.cls yX0_answer yX0_answer ∈ TB := ⟨tw_102, tw_103⟩
theorem zc_X0_answer {n : Nat} {Z : Zt} {a : Nat} {g : Mem} {q : Option Nat × Mem} (h : f_X0_answer n Z a g = some q) : zk Z a = 1 := (grd_some h).1
set_option maxHeartbeats 4000000 in
set_option maxRecDepth 100000 in
theorem vm_X0_answer {n : Nat} {Z : Zt} {a : Nat} {g : Mem} {rr : Option Nat} {gg : Mem} (h : f_X0_answer n Z a g = some (rr, gg)) : VM yX0_answer cX0_answer 1 (some (.object "ProvenanceTables$Relation")) 0 [.ref a] Z g (some (va_rf rr)) gg := by
  unfold f_X0_answer at h
  replace h := grd_some h
  obtain ⟨hz0, h⟩ := h
  refine VM.of (by decide +kernel) (Nat.le_of_ble_eq_true rfl) (fun x hM => ?_)
  have hM : Cm x cX0_answer RX0 1 (some (.object "ProvenanceTables$Relation")) 0 Z (some (va_rf rr)) gg := hM
  show V x Z 0 0 0 [(0, va_rf (some a))] [] g
  refine V_aload_n hM.c 0 dX0_answer_0 rfl rfl ?_
  replace h := nam_some h
  obtain ⟨q1, e2, h⟩ := h
  refine G0_2 hM.c tw_106 hz0 e2 dX0_answer_1 ?_
  exact V_aretE hM h dX0_answer_4
def f_X8_withdrawnMask (n : Nat) (Z : Zt) (a : Nat) (g : Mem) : Option (Int32 × Mem) := grd (zk Z a = 7) (some ((gI g a 7), g))
theorem mq_X8_withdrawnMask : Mq yX8_withdrawnMask cX8_withdrawnMask 1 (some .int) 0 := ⟨tw_70, tw_14, ⟨by decide +kernel, by decide +kernel, by decide +kernel⟩, by decide⟩
theorem mi_X8_withdrawnMask : Cond.instanceMethod yX8_withdrawnMask ∈ TB ∧ Cond.selects yX8_withdrawnMask.cls yX8_withdrawnMask yX8_withdrawnMask ∈ TB := ⟨tw_68, tw_69⟩
theorem zc_X8_withdrawnMask {n : Nat} {Z : Zt} {a : Nat} {g : Mem} {q : Int32 × Mem} (h : f_X8_withdrawnMask n Z a g = some q) : zk Z a = 7 := (grd_some h).1
set_option maxHeartbeats 4000000 in
set_option maxRecDepth 100000 in
theorem vm_X8_withdrawnMask {n : Nat} {Z : Zt} {a : Nat} {g : Mem} {rr : Int32} {gg : Mem} (h : f_X8_withdrawnMask n Z a g = some (rr, gg)) : VM yX8_withdrawnMask cX8_withdrawnMask 1 (some .int) 0 [.ref a] Z g (some (.int rr)) gg := by
  unfold f_X8_withdrawnMask at h
  replace h := grd_some h
  obtain ⟨hz0, h⟩ := h
  refine VM.of (by decide +kernel) (Nat.le_of_ble_eq_true rfl) (fun x hM => ?_)
  have hM : Cm x cX8_withdrawnMask RX8 1 (some .int) 0 Z (some (.int rr)) gg := hM
  show V x Z 0 0 0 [(0, va_rf (some a))] [] g
  refine V_aload_n hM.c 0 dX8_withdrawnMask_0 rfl rfl ?_
  refine G6_7 hM.c tw_71 hz0 dX8_withdrawnMask_1 ?_
  exact V_iretE hM h dX8_withdrawnMask_4
def f_X5_hasTerm (n : Nat) (Z : Zt) (a : Nat) (x1 : Int32) (g : Mem) : Option (Int32 × Mem) := grd (zk Z a = 4) (if x1 < 0 then (some ((0 : Int32), g)) else (if (gI g a 2) ≤ x1 then (some ((0 : Int32), g)) else (if (32 : Int32) ≤ x1 then (some ((0 : Int32), g)) else (some ((1 : Int32), g)))))
theorem mq_X5_hasTerm : Mq yX5_hasTerm cX5_hasTerm 2 (some .boolean) 1 := ⟨tw_159, tw_148, ⟨by decide +kernel, by decide +kernel, by decide +kernel⟩, by decide⟩
theorem mi_X5_hasTerm : Cond.instanceMethod yX5_hasTerm ∈ TB ∧ Cond.selects yX5_hasTerm.cls yX5_hasTerm yX5_hasTerm ∈ TB := ⟨tw_157, tw_158⟩
theorem zc_X5_hasTerm {n : Nat} {Z : Zt} {a : Nat} {x1 : Int32} {g : Mem} {q : Int32 × Mem} (h : f_X5_hasTerm n Z a x1 g = some q) : zk Z a = 4 := (grd_some h).1
set_option maxHeartbeats 4000000 in
set_option maxRecDepth 100000 in
theorem vm_X5_hasTerm {n : Nat} {Z : Zt} {a : Nat} {x1 : Int32} {g : Mem} {rr : Int32} {gg : Mem} (h : f_X5_hasTerm n Z a x1 g = some (rr, gg)) : VM yX5_hasTerm cX5_hasTerm 2 (some .boolean) 0 [.ref a, .int x1] Z g (some (.int rr)) gg := by
  unfold f_X5_hasTerm at h
  replace h := grd_some h
  obtain ⟨hz0, h⟩ := h
  refine VM.of (by decide +kernel) (Nat.le_of_ble_eq_true rfl) (fun x hM => ?_)
  have hM : Cm x cX5_hasTerm RX5 2 (some .boolean) 0 Z (some (.int rr)) gg := hM
  show V x Z 0 0 0 [(0, va_rf (some a)), (1, .int x1)] [] g
  refine V_iload_n hM.c 1 dX5_hasTerm_0 rfl rfl ?_
  refine V_if_lt hM.c 22 dX5_hasTerm_1 (by decide) (fun c1 => ?_) (fun c1 => ?_)
  · replace h := ite_p h c1
    refine V_iconst (v := 0) hM.c dX5_hasTerm_22 (by decide) ?_
    exact V_zretE hM (isz_nar (by decide)) h dX5_hasTerm_23
  · replace h := ite_n h c1
    refine V_iload_n hM.c 1 dX5_hasTerm_4 rfl rfl ?_
    refine V_aload_n hM.c 0 dX5_hasTerm_5 rfl rfl ?_
    refine G3_2 hM.c tw_150 hz0 dX5_hasTerm_6 ?_
    refine V_icmp_ge hM.c 22 dX5_hasTerm_9 (by decide) (fun c2 => ?_) (fun c2 => ?_)
    · replace h := ite_p h c2
      refine V_iconst (v := 0) hM.c dX5_hasTerm_22 (by decide) ?_
      exact V_zretE hM (isz_nar (by decide)) h dX5_hasTerm_23
    · replace h := ite_n h c2
      refine V_iload_n hM.c 1 dX5_hasTerm_12 rfl rfl ?_
      refine V_bipush (v := 32) hM.c dX5_hasTerm_13 (by decide) ?_
      refine V_icmp_ge hM.c 22 dX5_hasTerm_15 (by decide) (fun c3 => ?_) (fun c3 => ?_)
      · replace h := ite_p h c3
        refine V_iconst (v := 0) hM.c dX5_hasTerm_22 (by decide) ?_
        exact V_zretE hM (isz_nar (by decide)) h dX5_hasTerm_23
      · replace h := ite_n h c3
        refine V_iconst (v := 1) hM.c dX5_hasTerm_18 (by decide) ?_
        refine V_goto hM.c 23 dX5_hasTerm_19 (by decide) ?_
        exact V_zretE hM (isz_nar (by decide)) h dX5_hasTerm_23
def f_X5_monomialAt (n : Nat) (Z : Zt) (a : Nat) (x1 : Int32) (g : Mem) : Option (Int64 × Mem) := grd (zk Z a = 4) (bnd (f_X5_hasTerm n Z a x1 g) (fun r1 g2 => if r1 = 0 then (some ((0 : Int64), g2)) else (drf (zf Z a 0) (fun b5 => grd (zk Z b5 = 13) (grd (inr x1 (zl Z b5)) (some ((gJ g2 b5 x1.toNatClampNeg), g2)))))))
theorem mq_X5_monomialAt : Mq yX5_monomialAt cX5_monomialAt 2 (some .long) 1 := ⟨tw_154, tw_148, ⟨by decide +kernel, by decide +kernel, by decide +kernel⟩, by decide⟩
theorem mi_X5_monomialAt : Cond.instanceMethod yX5_monomialAt ∈ TB ∧ Cond.selects yX5_monomialAt.cls yX5_monomialAt yX5_monomialAt ∈ TB := ⟨tw_152, tw_153⟩
theorem zc_X5_monomialAt {n : Nat} {Z : Zt} {a : Nat} {x1 : Int32} {g : Mem} {q : Int64 × Mem} (h : f_X5_monomialAt n Z a x1 g = some q) : zk Z a = 4 := (grd_some h).1
set_option maxHeartbeats 4000000 in
set_option maxRecDepth 100000 in
theorem vm_X5_monomialAt {n : Nat} {Z : Zt} {a : Nat} {x1 : Int32} {g : Mem} {rr : Int64} {gg : Mem} (h : f_X5_monomialAt n Z a x1 g = some (rr, gg)) : VM yX5_monomialAt cX5_monomialAt 2 (some .long) 1 [.ref a, .int x1] Z g (some (.long rr)) gg := by
  unfold f_X5_monomialAt at h
  replace h := grd_some h
  obtain ⟨hz0, h⟩ := h
  refine VM.of (by decide +kernel) (Nat.le_of_ble_eq_true rfl) (fun x hM => ?_)
  have hM : Cm x cX5_monomialAt RX5 2 (some .long) 1 Z (some (.long rr)) gg := hM
  show V x Z 0 0 0 [(0, va_rf (some a)), (1, .int x1)] [] g
  refine V_aload_n hM.c 0 dX5_monomialAt_0 rfl rfl ?_
  refine V_iload_n hM.c 1 dX5_monomialAt_1 rfl rfl ?_
  replace h := bnd_some h
  obtain ⟨r1, g2, e3, h⟩ := h
  refine V_callV (As := [.int x1]) (c := 3) (T := TX5) (N := 3) hM.c hM.a mq_X5_hasTerm mi_X5_hasTerm tw_156 (hM.d (by decide)) hM.z rfl (by omega) (zc_X5_hasTerm e3) (vm_X5_hasTerm e3) rfl (Nat.le_of_ble_eq_true rfl) dX5_monomialAt_2 ?_
  refine V_if_eq hM.c 17 dX5_monomialAt_5 (by decide) (fun c4 => ?_) (fun c4 => ?_)
  · replace h := ite_p h c4
    refine V_lconst (v := 0) hM.c dX5_monomialAt_17 (by decide) ?_
    exact V_lretE hM h dX5_monomialAt_18
  · replace h := ite_n h c4
    refine V_aload_n hM.c 0 dX5_monomialAt_8 rfl rfl ?_
    replace h := drf_some h
    obtain ⟨b5, e6, h⟩ := h
    refine G3_0 hM.c tw_155 hz0 e6 dX5_monomialAt_9 ?_
    refine V_iload_n hM.c 1 dX5_monomialAt_12 rfl rfl ?_
    replace h := grd_some h
    obtain ⟨z7, h⟩ := h
    replace h := grd_some h
    obtain ⟨c8, h⟩ := h
    refine V_lald hM.c z7 c8 dX5_monomialAt_13 ?_
    refine V_goto hM.c 18 dX5_monomialAt_14 (by decide) ?_
    exact V_lretE hM h dX5_monomialAt_18
def f_X5_hasTermWithout_l2 (n : Nat) (Z : Zt) (a : Nat) : Nat → Int64 → Int32 → Mem → Option (Int32 × Mem)
  | 0, _, _, _ => none
  | fu + 1, x1, x3, g => if (gI g a 2) ≤ x3 then (some ((0 : Int32), g)) else (bnd (f_X5_monomialAt n Z a x3 g) (fun r2 g3 => if (lg_cmp (r2 &&& x1) (0 : Int64)) = 0 then (some ((1 : Int32), g3)) else (f_X5_hasTermWithout_l2 n Z a fu x1 (x3 + 1) g3)))
set_option maxHeartbeats 4000000 in
set_option maxRecDepth 100000 in
theorem vl_X5_hasTermWithout_l2 {x : Cq} {n : Nat} {Z : Zt} {a : Nat} {rr : Int32} {gg : Mem} (hM : Cm x cX5_hasTermWithout RX5 4 (some .boolean) 2 Z (some (.int rr)) gg) (hz0 : zk Z a = 4) : ∀ (fu : Nat) (x1 : Int64) (x3 : Int32) (g : Mem), f_X5_hasTermWithout_l2 n Z a fu x1 x3 g = some (rr, gg) → V x Z 0 0 2 [(0, va_rf (some a)), (1, .long x1), (3, .int x3)] [] g := by
  intro fu
  induction fu with
  | zero => intro x1 x3 g h; cases h
  | succ fu ih =>
    intro x1 x3 g h
    unfold f_X5_hasTermWithout_l2 at h
    refine V_iload_n hM.c 2 dX5_hasTermWithout_2 rfl rfl ?_
    refine V_aload_n hM.c 0 dX5_hasTermWithout_3 rfl rfl ?_
    refine G3_2 hM.c tw_150 hz0 dX5_hasTermWithout_4 ?_
    refine V_icmp_ge hM.c 30 dX5_hasTermWithout_7 (by decide) (fun c1 => ?_) (fun c1 => ?_)
    · replace h := ite_p h c1
      refine V_iconst (v := 0) hM.c dX5_hasTermWithout_30 (by decide) ?_
      exact V_zretE hM (isz_nar (by decide)) h dX5_hasTermWithout_31
    · replace h := ite_n h c1
      refine V_aload_n hM.c 0 dX5_hasTermWithout_10 rfl rfl ?_
      refine V_iload_n hM.c 2 dX5_hasTermWithout_11 rfl rfl ?_
      replace h := bnd_some h
      obtain ⟨r2, g3, e4, h⟩ := h
      refine V_callV (As := [.int x3]) (c := 3) (T := TX5) (N := 3) hM.c hM.a mq_X5_monomialAt mi_X5_monomialAt tw_151 (hM.d (by decide)) hM.z rfl (by omega) (zc_X5_monomialAt e4) (vm_X5_monomialAt e4) rfl (Nat.le_of_ble_eq_true rfl) dX5_hasTermWithout_12 ?_
      refine V_lload_n hM.c 1 dX5_hasTermWithout_15 rfl rfl ?_
      refine V_land hM.c dX5_hasTermWithout_16 ?_
      refine V_lconst (v := 0) hM.c dX5_hasTermWithout_17 (by decide) ?_
      refine V_lcmp hM.c dX5_hasTermWithout_18 ?_
      refine V_if_ne hM.c 24 dX5_hasTermWithout_19 (by decide) (fun c5 => ?_) (fun c5 => ?_)
      · replace h := ite_n h c5
        refine V_iinc (v := (x3 + 1)) (L' := [(3, .int (x3 + 1)), (0, va_rf (some a)), (1, .long x1)]) hM.c 2 dX5_hasTermWithout_24 rfl rfl (by decide) rfl ?_
        refine V_goto hM.c 2 dX5_hasTermWithout_27 (by decide) ?_
        refine V_sub [1, 2, 0] rfl ?_
        exact ih _ _ _ h
      · replace h := ite_p h c5
        refine V_iconst (v := 1) hM.c dX5_hasTermWithout_22 (by decide) ?_
        exact V_zretE hM (isz_nar (by decide)) h dX5_hasTermWithout_23
def f_X5_hasTermWithout (n : Nat) (Z : Zt) (a : Nat) (x1 : Int64) (g : Mem) : Option (Int32 × Mem) := grd (zk Z a = 4) (f_X5_hasTermWithout_l2 n Z a n x1 (0 : Int32) g)
theorem mq_X5_hasTermWithout : Mq yX5_hasTermWithout cX5_hasTermWithout 4 (some .boolean) 1 := ⟨tw_1622, tw_148, ⟨by decide +kernel, by decide +kernel, by decide +kernel⟩, by decide⟩
theorem mi_X5_hasTermWithout : Cond.instanceMethod yX5_hasTermWithout ∈ TB ∧ Cond.selects yX5_hasTermWithout.cls yX5_hasTermWithout yX5_hasTermWithout ∈ TB := ⟨tw_1620, tw_1621⟩
theorem zc_X5_hasTermWithout {n : Nat} {Z : Zt} {a : Nat} {x1 : Int64} {g : Mem} {q : Int32 × Mem} (h : f_X5_hasTermWithout n Z a x1 g = some q) : zk Z a = 4 := (grd_some h).1
set_option maxHeartbeats 4000000 in
set_option maxRecDepth 100000 in
theorem vm_X5_hasTermWithout {n : Nat} {Z : Zt} {a : Nat} {x1 : Int64} {g : Mem} {rr : Int32} {gg : Mem} (h : f_X5_hasTermWithout n Z a x1 g = some (rr, gg)) : VM yX5_hasTermWithout cX5_hasTermWithout 4 (some .boolean) 2 [.ref a, .long x1] Z g (some (.int rr)) gg := by
  unfold f_X5_hasTermWithout at h
  replace h := grd_some h
  obtain ⟨hz0, h⟩ := h
  refine VM.of (by decide +kernel) (Nat.le_of_ble_eq_true rfl) (fun x hM => ?_)
  have hM : Cm x cX5_hasTermWithout RX5 4 (some .boolean) 2 Z (some (.int rr)) gg := hM
  show V x Z 0 0 0 [(0, va_rf (some a)), (1, .long x1)] [] g
  refine V_iconst (v := 0) hM.c dX5_hasTermWithout_0 (by decide) ?_
  refine V_istore_n (i := 3) (L' := [(3, .int (0 : Int32)), (0, va_rf (some a)), (1, .long x1)]) hM.c dX5_hasTermWithout_1 rfl (by decide) rfl ?_
  refine V_sub [1, 2, 0] rfl ?_
  exact vl_X5_hasTermWithout_l2 hM hz0  _ _ _ _ h
def f_X7_countPresent_l11 (n : Nat) (Z : Zt) (a : Nat) : Nat → Int64 → Int32 → Int32 → Mem → Option (Int32 × Mem)
  | 0, _, _, _, _ => none
  | fu + 1, x2, x4, x5, g => if (gI g a 3) ≤ x5 then (some (x4, g)) else (bnd (f_X7_polynomialAt n Z a x5 g) (fun r5 g6 => if r5 = none then (f_X7_countPresent_l11 n Z a fu x2 x4 (x5 + 1) g6) else (drf r5 (fun b9 => bnd (f_X5_hasTermWithout n Z b9 x2 g6) (fun r11 g12 => if r11 = 0 then (f_X7_countPresent_l11 n Z a fu x2 x4 (x5 + 1) g12) else (f_X7_countPresent_l11 n Z a fu x2 (x4 + 1) (x5 + 1) g12))))))
set_option maxHeartbeats 4000000 in
set_option maxRecDepth 100000 in
theorem vl_X7_countPresent_l11 {x : Cq} {n : Nat} {Z : Zt} {a : Nat} {rr : Int32} {gg : Mem} (hM : Cm x cX7_countPresent RX7 7 (some .int) 3 Z (some (.int rr)) gg) (hz0 : zk Z a = 6) : ∀ (fu : Nat) (x2 : Int64) (x4 : Int32) (x5 : Int32) (g : Mem), f_X7_countPresent_l11 n Z a fu x2 x4 x5 g = some (rr, gg) → V x Z 0 0 11 [(0, va_rf (some a)), (2, .long x2), (4, .int x4), (5, .int x5)] [] g := by
  intro fu
  induction fu with
  | zero => intro x2 x4 x5 g h; cases h
  | succ fu ih =>
    intro x2 x4 x5 g h
    unfold f_X7_countPresent_l11 at h
    refine V_iload hM.c 3 dX7_countPresent_11 rfl ?_
    refine V_aload_n hM.c 0 dX7_countPresent_13 rfl rfl ?_
    refine G5_3 hM.c tw_112 hz0 dX7_countPresent_14 ?_
    refine V_icmp_ge hM.c 51 dX7_countPresent_17 (by decide) (fun c4 => ?_) (fun c4 => ?_)
    · replace h := ite_p h c4
      refine V_iload hM.c 2 dX7_countPresent_51 rfl ?_
      exact V_iretE hM h dX7_countPresent_53
    · replace h := ite_n h c4
      refine V_aload_n hM.c 0 dX7_countPresent_20 rfl rfl ?_
      refine V_iload hM.c 3 dX7_countPresent_21 rfl ?_
      replace h := bnd_some h
      obtain ⟨r5, g6, e7, h⟩ := h
      refine V_callV (As := [.int x5]) (c := 5) (T := TX7) (N := 4) hM.c hM.a mq_X7_polynomialAt mi_X7_polynomialAt tw_1618 (hM.d (by decide)) hM.z rfl (by omega) (zc_X7_polynomialAt e7) (vm_X7_polynomialAt e7) rfl (Nat.le_of_ble_eq_true rfl) dX7_countPresent_23 ?_
      refine V_astore (L' := [(6, va_rf r5), (0, va_rf (some a)), (2, .long x2), (4, .int x4), (5, .int x5)]) hM.c dX7_countPresent_26 (by decide) rfl ?_
      refine V_aload hM.c 0 dX7_countPresent_28 rfl ?_
      refine V_ifnull hM.c 45 dX7_countPresent_30 (by decide) (fun c8 => ?_) (fun c8 => ?_)
      · replace h := ite_p h c8
        refine V_iinc (v := (x5 + 1)) (L' := [(5, .int (x5 + 1)), (6, va_rf r5), (0, va_rf (some a)), (2, .long x2), (4, .int x4)]) hM.c 4 dX7_countPresent_45 rfl rfl (by decide) (by simp [rf_cat, cat_i, cat_l]) ?_
        refine V_goto hM.c 11 dX7_countPresent_48 (by decide) ?_
        refine V_sub [2, 3, 4, 0] rfl ?_
        exact ih _ _ _ _ h
      · replace h := ite_n h c8
        refine V_aload hM.c 0 dX7_countPresent_33 rfl ?_
        refine V_lload_n hM.c 2 dX7_countPresent_35 rfl rfl ?_
        replace h := drf_some h
        obtain ⟨b9, rfl, h⟩ := h
        replace h := bnd_some h
        obtain ⟨r11, g12, e13, h⟩ := h
        refine V_callV (As := [.long x2]) (c := 3) (T := TX5) (N := 3) hM.c hM.a mq_X5_hasTermWithout mi_X5_hasTermWithout tw_1619 (hM.d (by decide)) hM.z rfl (by omega) (zc_X5_hasTermWithout e13) (vm_X5_hasTermWithout e13) rfl (Nat.le_of_ble_eq_true rfl) dX7_countPresent_36 ?_
        refine V_if_eq hM.c 45 dX7_countPresent_39 (by decide) (fun c14 => ?_) (fun c14 => ?_)
        · replace h := ite_p h c14
          refine V_iinc (v := (x5 + 1)) (L' := [(5, .int (x5 + 1)), (6, va_rf (some b9)), (0, va_rf (some a)), (2, .long x2), (4, .int x4)]) hM.c 4 dX7_countPresent_45 rfl rfl (by decide) rfl ?_
          refine V_goto hM.c 11 dX7_countPresent_48 (by decide) ?_
          refine V_sub [2, 3, 4, 0] rfl ?_
          exact ih _ _ _ _ h
        · replace h := ite_n h c14
          refine V_iinc (v := (x4 + 1)) (L' := [(4, .int (x4 + 1)), (6, va_rf (some b9)), (0, va_rf (some a)), (2, .long x2), (5, .int x5)]) hM.c 3 dX7_countPresent_42 rfl rfl (by decide) rfl ?_
          refine V_iinc (v := (x5 + 1)) (L' := [(5, .int (x5 + 1)), (4, .int (x4 + 1)), (6, va_rf (some b9)), (0, va_rf (some a)), (2, .long x2)]) hM.c 4 dX7_countPresent_45 rfl rfl (by decide) rfl ?_
          refine V_goto hM.c 11 dX7_countPresent_48 (by decide) ?_
          refine V_sub [3, 4, 1, 0] rfl ?_
          exact ih _ _ _ _ h
def f_X7_countPresent (n : Nat) (Z : Zt) (a : Nat) (x1 : Int32) (g : Mem) : Option (Int32 × Mem) := grd (zk Z a = 6) (bnd (f_X4_maskOf n Z x1 g) (fun r1 g2 => f_X7_countPresent_l11 n Z a n r1 (0 : Int32) (0 : Int32) g2))
theorem mq_X7_countPresent : Mq yX7_countPresent cX7_countPresent 7 (some .int) 1 := ⟨tw_1616, tw_110, ⟨by decide +kernel, by decide +kernel, by decide +kernel⟩, by decide⟩
theorem mi_X7_countPresent : Cond.instanceMethod yX7_countPresent ∈ TB ∧ Cond.selects yX7_countPresent.cls yX7_countPresent yX7_countPresent ∈ TB := ⟨tw_1614, tw_1615⟩
theorem zc_X7_countPresent {n : Nat} {Z : Zt} {a : Nat} {x1 : Int32} {g : Mem} {q : Int32 × Mem} (h : f_X7_countPresent n Z a x1 g = some q) : zk Z a = 6 := (grd_some h).1
set_option maxHeartbeats 4000000 in
set_option maxRecDepth 100000 in
theorem vm_X7_countPresent {n : Nat} {Z : Zt} {a : Nat} {x1 : Int32} {g : Mem} {rr : Int32} {gg : Mem} (h : f_X7_countPresent n Z a x1 g = some (rr, gg)) : VM yX7_countPresent cX7_countPresent 7 (some .int) 3 [.ref a, .int x1] Z g (some (.int rr)) gg := by
  unfold f_X7_countPresent at h
  replace h := grd_some h
  obtain ⟨hz0, h⟩ := h
  refine VM.of (by decide +kernel) (Nat.le_of_ble_eq_true rfl) (fun x hM => ?_)
  have hM : Cm x cX7_countPresent RX7 7 (some .int) 3 Z (some (.int rr)) gg := hM
  show V x Z 0 0 0 [(0, va_rf (some a)), (1, .int x1)] [] g
  refine V_iload_n hM.c 1 dX7_countPresent_0 rfl rfl ?_
  replace h := bnd_some h
  obtain ⟨r1, g2, e3, h⟩ := h
  refine V_callS (As := [.int x1]) hM.c hM.a mq_X4_maskOf mi_X4_maskOf tw_1617 (hM.d (by decide)) hM.z (vm_X4_maskOf e3) rfl (Nat.le_of_ble_eq_true rfl) dX7_countPresent_1 ?_
  refine V_lstore_n (i := 2) (L' := [(2, .long r1), (0, va_rf (some a)), (1, .int x1)]) hM.c dX7_countPresent_4 rfl (by decide) rfl ?_
  refine V_iconst (v := 0) hM.c dX7_countPresent_5 (by decide) ?_
  refine V_istore (L' := [(4, .int (0 : Int32)), (2, .long r1), (0, va_rf (some a)), (1, .int x1)]) hM.c dX7_countPresent_6 (by decide) rfl ?_
  refine V_iconst (v := 0) hM.c dX7_countPresent_8 (by decide) ?_
  refine V_istore (L' := [(5, .int (0 : Int32)), (4, .int (0 : Int32)), (2, .long r1), (0, va_rf (some a)), (1, .int x1)]) hM.c dX7_countPresent_9 (by decide) rfl ?_
  refine V_sub [3, 2, 1, 0] rfl ?_
  exact vl_X7_countPresent_l11 hM hz0  _ _ _ _ _ h
def f_X10_presentRows (n : Nat) (Z : Zt) (a : Nat) (g : Mem) : Option (Int32 × Mem) := grd (zk Z a = 9) (drf (zf Z a 7) (fun b1 => bnd (f_X0_answer n Z b1 g) (fun r3 g4 => drf (zf Z a 0) (fun b6 => bnd (f_X8_withdrawnMask n Z b6 g4) (fun r8 g9 => drf r3 (fun b11 => bnd (f_X7_countPresent n Z b11 r8 g9) (fun r13 g14 => some (r13, g14))))))))
theorem mq_X10_presentRows : Mq yX10_presentRows cX10_presentRows 1 (some .int) 0 := ⟨tw_1634, tw_5, ⟨by decide +kernel, by decide +kernel, by decide +kernel⟩, by decide⟩
theorem mi_X10_presentRows : Cond.instanceMethod yX10_presentRows ∈ TB ∧ Cond.selects yX10_presentRows.cls yX10_presentRows yX10_presentRows ∈ TB := ⟨tw_1632, tw_1633⟩
theorem zc_X10_presentRows {n : Nat} {Z : Zt} {a : Nat} {g : Mem} {q : Int32 × Mem} (h : f_X10_presentRows n Z a g = some q) : zk Z a = 9 := (grd_some h).1
set_option maxHeartbeats 4000000 in
set_option maxRecDepth 100000 in
theorem vm_X10_presentRows {n : Nat} {Z : Zt} {a : Nat} {g : Mem} {rr : Int32} {gg : Mem} (h : f_X10_presentRows n Z a g = some (rr, gg)) : VM yX10_presentRows cX10_presentRows 1 (some .int) 4 [.ref a] Z g (some (.int rr)) gg := by
  unfold f_X10_presentRows at h
  replace h := grd_some h
  obtain ⟨hz0, h⟩ := h
  refine VM.of (by decide +kernel) (Nat.le_of_ble_eq_true rfl) (fun x hM => ?_)
  have hM : Cm x cX10_presentRows RX10 1 (some .int) 4 Z (some (.int rr)) gg := hM
  show V x Z 0 0 0 [(0, va_rf (some a))] [] g
  refine V_aload_n hM.c 0 dX10_presentRows_0 rfl rfl ?_
  replace h := drf_some h
  obtain ⟨b1, e2, h⟩ := h
  refine G8_7 hM.c tw_100 hz0 e2 dX10_presentRows_1 ?_
  replace h := bnd_some h
  obtain ⟨r3, g4, e5, h⟩ := h
  refine V_callV (As := []) (c := 0) (T := TX0) (N := 4) hM.c hM.a mq_X0_answer mi_X0_answer tw_101 (hM.d (by decide)) hM.z rfl (by omega) (zc_X0_answer e5) (vm_X0_answer e5) rfl (Nat.le_of_ble_eq_true rfl) dX10_presentRows_4 ?_
  refine V_aload_n hM.c 0 dX10_presentRows_7 rfl rfl ?_
  replace h := drf_some h
  obtain ⟨b6, e7, h⟩ := h
  refine G8_0 hM.c tw_7 hz0 e7 dX10_presentRows_8 ?_
  replace h := bnd_some h
  obtain ⟨r8, g9, e10, h⟩ := h
  refine V_callV (As := []) (c := 6) (T := TX8) (N := 8) hM.c hM.a mq_X8_withdrawnMask mi_X8_withdrawnMask tw_67 (hM.d (by decide)) hM.z rfl (by omega) (zc_X8_withdrawnMask e10) (vm_X8_withdrawnMask e10) rfl (by simp [rf_cat, cat_i, cat_l]) dX10_presentRows_11 ?_
  replace h := drf_some h
  obtain ⟨b11, rfl, h⟩ := h
  replace h := bnd_some h
  obtain ⟨r13, g14, e15, h⟩ := h
  refine V_callV (As := [.int r8]) (c := 5) (T := TX7) (N := 4) hM.c hM.a mq_X7_countPresent mi_X7_countPresent tw_1613 (hM.d (by decide)) hM.z rfl (by omega) (zc_X7_countPresent e15) (vm_X7_countPresent e15) rfl (Nat.le_of_ble_eq_true rfl) dX10_presentRows_14 ?_
  exact V_iretE hM h dX10_presentRows_17
def f_X10_setWithdrawn (n : Nat) (Z : Zt) (a : Nat) (x1 : Int32) (x2 : Int32) (g : Mem) : Option (Int32 × Mem) := grd (zk Z a = 9) (drf (zf Z a 0) (fun b1 => bnd (f_X8_hasTag n Z b1 x1 g) (fun r3 g4 => if r3 = 0 then (some ((-1 : Int32), g4)) else (drf (zf Z a 2) (fun b7 => drf (zf Z a 0) (fun b9 => bnd (f_X1_record n Z b7 b9 g4) (fun r11 g12 => drf (zf Z a 0) (fun b14 => bnd (f_X8_withdraw n Z b14 x1 x2 g12) (fun r16 g17 => bnd (f_X10_presentRows n Z a g17) (fun r19 g20 => some (r19, g20)))))))))))
theorem mq_X10_setWithdrawn : Mq yX10_setWithdrawn cX10_setWithdrawn 3 (some .int) 2 := ⟨tw_1626, tw_5, ⟨by decide +kernel, by decide +kernel, by decide +kernel⟩, by decide⟩
theorem mi_X10_setWithdrawn : Cond.instanceMethod yX10_setWithdrawn ∈ TB ∧ Cond.selects yX10_setWithdrawn.cls yX10_setWithdrawn yX10_setWithdrawn ∈ TB := ⟨tw_1624, tw_1625⟩
theorem zc_X10_setWithdrawn {n : Nat} {Z : Zt} {a : Nat} {x1 : Int32} {x2 : Int32} {g : Mem} {q : Int32 × Mem} (h : f_X10_setWithdrawn n Z a x1 x2 g = some q) : zk Z a = 9 := (grd_some h).1
set_option maxHeartbeats 4000000 in
set_option maxRecDepth 100000 in
theorem vm_X10_setWithdrawn {n : Nat} {Z : Zt} {a : Nat} {x1 : Int32} {x2 : Int32} {g : Mem} {rr : Int32} {gg : Mem} (h : f_X10_setWithdrawn n Z a x1 x2 g = some (rr, gg)) : VM yX10_setWithdrawn cX10_setWithdrawn 3 (some .int) 5 [.ref a, .int x1, .int x2] Z g (some (.int rr)) gg := by
  unfold f_X10_setWithdrawn at h
  replace h := grd_some h
  obtain ⟨hz0, h⟩ := h
  refine VM.of (by decide +kernel) (Nat.le_of_ble_eq_true rfl) (fun x hM => ?_)
  have hM : Cm x cX10_setWithdrawn RX10 3 (some .int) 5 Z (some (.int rr)) gg := hM
  show V x Z 0 0 0 [(0, va_rf (some a)), (1, .int x1), (2, .int x2)] [] g
  refine V_aload_n hM.c 0 dX10_setWithdrawn_0 rfl rfl ?_
  replace h := drf_some h
  obtain ⟨b1, e2, h⟩ := h
  refine G8_0 hM.c tw_7 hz0 e2 dX10_setWithdrawn_1 ?_
  refine V_iload_n hM.c 1 dX10_setWithdrawn_4 rfl rfl ?_
  replace h := bnd_some h
  obtain ⟨r3, g4, e5, h⟩ := h
  refine V_callV (As := [.int x1]) (c := 6) (T := TX8) (N := 8) hM.c hM.a mq_X8_hasTag mi_X8_hasTag tw_21 (hM.d (by decide)) hM.z rfl (by omega) (zc_X8_hasTag e5) (vm_X8_hasTag e5) rfl (Nat.le_of_ble_eq_true rfl) dX10_setWithdrawn_5 ?_
  refine V_if_ne hM.c 13 dX10_setWithdrawn_8 (by decide) (fun c6 => ?_) (fun c6 => ?_)
  · replace h := ite_n h c6
    refine V_aload_n hM.c 0 dX10_setWithdrawn_13 rfl rfl ?_
    replace h := drf_some h
    obtain ⟨b7, e8, h⟩ := h
    refine G8_2 hM.c tw_664 hz0 e8 dX10_setWithdrawn_14 ?_
    refine V_aload_n hM.c 0 dX10_setWithdrawn_17 rfl rfl ?_
    replace h := drf_some h
    obtain ⟨b9, e10, h⟩ := h
    refine G8_0 hM.c tw_7 hz0 e10 dX10_setWithdrawn_18 ?_
    replace h := bnd_some h
    obtain ⟨r11, g12, e13, h⟩ := h
    refine V_callV (As := [va_rf (some b9)]) (c := 1) (T := TX1) (N := 2) hM.c hM.a mq_X1_record mi_X1_record tw_837 (hM.d (by decide)) hM.z rfl (by omega) (zc_X1_record e13) (vm_X1_record e13) rfl (Nat.le_of_ble_eq_true rfl) dX10_setWithdrawn_21 ?_
    refine V_aload_n hM.c 0 dX10_setWithdrawn_24 rfl rfl ?_
    replace h := drf_some h
    obtain ⟨b14, e15, h⟩ := h
    refine G8_0 hM.c tw_7 hz0 e15 dX10_setWithdrawn_25 ?_
    refine V_iload_n hM.c 1 dX10_setWithdrawn_28 rfl rfl ?_
    refine V_iload_n hM.c 2 dX10_setWithdrawn_29 rfl rfl ?_
    replace h := bnd_some h
    obtain ⟨r16, g17, e18, h⟩ := h
    refine V_callV (As := [.int x1, .int x2]) (c := 6) (T := TX8) (N := 8) hM.c hM.a mq_X8_withdraw mi_X8_withdraw tw_1627 (hM.d (by decide)) hM.z rfl (by omega) (zc_X8_withdraw e18) (vm_X8_withdraw e18) rfl (Nat.le_of_ble_eq_true rfl) dX10_setWithdrawn_30 ?_
    refine V_aload_n hM.c 0 dX10_setWithdrawn_33 rfl rfl ?_
    replace h := bnd_some h
    obtain ⟨r19, g20, e21, h⟩ := h
    refine V_callV (As := []) (c := 8) (T := TX10) (N := 10) hM.c hM.a mq_X10_presentRows mi_X10_presentRows tw_1631 (hM.d (by decide)) hM.z rfl (by omega) (zc_X10_presentRows e21) (vm_X10_presentRows e21) rfl (Nat.le_of_ble_eq_true rfl) dX10_setWithdrawn_34 ?_
    exact V_iretE hM h dX10_setWithdrawn_37
  · replace h := ite_p h c6
    refine V_iconst (v := -1) hM.c dX10_setWithdrawn_11 (by decide) ?_
    exact V_iretE hM h dX10_setWithdrawn_12
def f_X6_push (n : Nat) (Z : Zt) (a : Nat) (x1 : Int32) (g : Mem) : Option (Unit × Mem) := grd (zk Z a = 5) (if (gI g a 8) < 0 then (some ((), g)) else (if (120 : Int32) ≤ (gI g a 8) then (some ((), g)) else (drf (zf Z a 4) (fun b3 => grd (zk Z b3 = 11) (grd (inr (gI g a 8) (zl Z b3)) (some ((), (sI (sI g b3 (gI g a 8).toNatClampNeg (vp_nar .char x1)) a 8 ((gI (sI g b3 (gI g a 8).toNatClampNeg (vp_nar .char x1)) a 8) + (1 : Int32))))))))))
theorem mq_X6_push : Mq yX6_push cX6_push 2 none 1 := ⟨tw_602, tw_592, ⟨by decide +kernel, by decide +kernel, by decide +kernel⟩, by decide⟩
theorem mi_X6_push : Cond.instanceMethod yX6_push ∈ TB ∧ Cond.selects yX6_push.cls yX6_push yX6_push ∈ TB := ⟨tw_600, tw_601⟩
theorem zc_X6_push {n : Nat} {Z : Zt} {a : Nat} {x1 : Int32} {g : Mem} {q : Unit × Mem} (h : f_X6_push n Z a x1 g = some q) : zk Z a = 5 := (grd_some h).1
set_option maxHeartbeats 4000000 in
set_option maxRecDepth 100000 in
theorem vm_X6_push {n : Nat} {Z : Zt} {a : Nat} {x1 : Int32} {g : Mem} {rr : Unit} {gg : Mem} (h : f_X6_push n Z a x1 g = some (rr, gg)) : VM yX6_push cX6_push 2 none 0 [.ref a, .int x1] Z g none gg := by
  unfold f_X6_push at h
  replace h := grd_some h
  obtain ⟨hz0, h⟩ := h
  refine VM.of (by decide +kernel) (Nat.le_of_ble_eq_true rfl) (fun x hM => ?_)
  have hM : Cm x cX6_push RX6 2 none 0 Z none gg := hM
  show V x Z 0 0 0 [(0, va_rf (some a)), (1, .int x1)] [] g
  refine V_aload_n hM.c 0 dX6_push_0 rfl rfl ?_
  refine G4_8 hM.c tw_597 hz0 dX6_push_1 ?_
  refine V_if_lt hM.c 36 dX6_push_4 (by decide) (fun c1 => ?_) (fun c1 => ?_)
  · replace h := ite_p h c1
    exact V_vretE hM h dX6_push_36
  · replace h := ite_n h c1
    refine V_aload_n hM.c 0 dX6_push_7 rfl rfl ?_
    refine G4_8 hM.c tw_597 hz0 dX6_push_8 ?_
    refine V_bipush (v := 120) hM.c dX6_push_11 (by decide) ?_
    refine V_icmp_ge hM.c 36 dX6_push_13 (by decide) (fun c2 => ?_) (fun c2 => ?_)
    · replace h := ite_p h c2
      exact V_vretE hM h dX6_push_36
    · replace h := ite_n h c2
      refine V_aload_n hM.c 0 dX6_push_16 rfl rfl ?_
      replace h := drf_some h
      obtain ⟨b3, e4, h⟩ := h
      refine G4_4 hM.c tw_603 hz0 e4 dX6_push_17 ?_
      refine V_aload_n hM.c 0 dX6_push_20 rfl rfl ?_
      refine G4_8 hM.c tw_597 hz0 dX6_push_21 ?_
      refine V_iload_n hM.c 1 dX6_push_24 rfl rfl ?_
      replace h := grd_some h
      obtain ⟨z5, h⟩ := h
      replace h := grd_some h
      obtain ⟨c6, h⟩ := h
      refine V_cast hM.c z5 c6 hM.a dX6_push_25 ?_
      refine V_aload_n hM.c 0 dX6_push_26 rfl rfl ?_
      refine V_dup hM.c dX6_push_27 (rf_cat _) ?_
      refine G4_8 hM.c tw_597 hz0 dX6_push_28 ?_
      refine V_iconst (v := 1) hM.c dX6_push_31 (by decide) ?_
      refine V_iadd hM.c dX6_push_32 ?_
      refine P4_8 hM.c tw_597 hz0 hM.a dX6_push_33 ?_
      exact V_vretE hM h dX6_push_36
def f_X6_pop (n : Nat) (Z : Zt) (a : Nat) (g : Mem) : Option (Int32 × Mem) := grd (zk Z a = 5) (if (gI g a 8) ≤ 0 then (grd (vp_nar .char (113 : Int32) = (113 : Int32)) (some ((113 : Int32), g))) else (if (gI g a 8) ≤ (120 : Int32) then (drf (zf Z a 4) (fun b4 => grd (zk Z b4 = 11) (grd (inr (gI (sI g a 8 ((gI g a 8) - (1 : Int32))) a 8) (zl Z b4)) (grd (vp_nar .char (gI (sI g a 8 ((gI g a 8) - (1 : Int32))) b4 (gI (sI g a 8 ((gI g a 8) - (1 : Int32))) a 8).toNatClampNeg) = (gI (sI g a 8 ((gI g a 8) - (1 : Int32))) b4 (gI (sI g a 8 ((gI g a 8) - (1 : Int32))) a 8).toNatClampNeg)) (some ((gI (sI g a 8 ((gI g a 8) - (1 : Int32))) b4 (gI (sI g a 8 ((gI g a 8) - (1 : Int32))) a 8).toNatClampNeg), (sI g a 8 ((gI g a 8) - (1 : Int32))))))))) else (grd (vp_nar .char (113 : Int32) = (113 : Int32)) (some ((113 : Int32), g)))))
theorem mq_X6_pop : Mq yX6_pop cX6_pop 1 (some .char) 0 := ⟨tw_607, tw_592, ⟨by decide +kernel, by decide +kernel, by decide +kernel⟩, by decide⟩
theorem mi_X6_pop : Cond.instanceMethod yX6_pop ∈ TB ∧ Cond.selects yX6_pop.cls yX6_pop yX6_pop ∈ TB := ⟨tw_605, tw_606⟩
theorem zc_X6_pop {n : Nat} {Z : Zt} {a : Nat} {g : Mem} {q : Int32 × Mem} (h : f_X6_pop n Z a g = some q) : zk Z a = 5 := (grd_some h).1
set_option maxHeartbeats 4000000 in
set_option maxRecDepth 100000 in
theorem vm_X6_pop {n : Nat} {Z : Zt} {a : Nat} {g : Mem} {rr : Int32} {gg : Mem} (h : f_X6_pop n Z a g = some (rr, gg)) : VM yX6_pop cX6_pop 1 (some .char) 0 [.ref a] Z g (some (.int rr)) gg := by
  unfold f_X6_pop at h
  replace h := grd_some h
  obtain ⟨hz0, h⟩ := h
  refine VM.of (by decide +kernel) (Nat.le_of_ble_eq_true rfl) (fun x hM => ?_)
  have hM : Cm x cX6_pop RX6 1 (some .char) 0 Z (some (.int rr)) gg := hM
  show V x Z 0 0 0 [(0, va_rf (some a))] [] g
  refine V_aload_n hM.c 0 dX6_pop_0 rfl rfl ?_
  refine G4_8 hM.c tw_597 hz0 dX6_pop_1 ?_
  refine V_if_le hM.c 16 dX6_pop_4 (by decide) (fun c1 => ?_) (fun c1 => ?_)
  · replace h := ite_p h c1
    refine V_bipush (v := 113) hM.c dX6_pop_16 (by decide) ?_
    replace h := grd_some h
    obtain ⟨c2, h⟩ := h
    exact V_zretE hM (char_nar c2) h dX6_pop_18
  · replace h := ite_n h c1
    refine V_aload_n hM.c 0 dX6_pop_7 rfl rfl ?_
    refine G4_8 hM.c tw_597 hz0 dX6_pop_8 ?_
    refine V_bipush (v := 120) hM.c dX6_pop_11 (by decide) ?_
    refine V_icmp_le hM.c 19 dX6_pop_13 (by decide) (fun c3 => ?_) (fun c3 => ?_)
    · replace h := ite_p h c3
      refine V_aload_n hM.c 0 dX6_pop_19 rfl rfl ?_
      refine V_dup hM.c dX6_pop_20 (rf_cat _) ?_
      refine G4_8 hM.c tw_597 hz0 dX6_pop_21 ?_
      refine V_iconst (v := 1) hM.c dX6_pop_24 (by decide) ?_
      refine V_isub hM.c dX6_pop_25 ?_
      refine P4_8 hM.c tw_597 hz0 hM.a dX6_pop_26 ?_
      refine V_aload_n hM.c 0 dX6_pop_29 rfl rfl ?_
      replace h := drf_some h
      obtain ⟨b4, e5, h⟩ := h
      refine G4_4 hM.c tw_603 hz0 e5 dX6_pop_30 ?_
      refine V_aload_n hM.c 0 dX6_pop_33 rfl rfl ?_
      refine G4_8 hM.c tw_597 hz0 dX6_pop_34 ?_
      replace h := grd_some h
      obtain ⟨z6, h⟩ := h
      replace h := grd_some h
      obtain ⟨c7, h⟩ := h
      refine V_cald hM.c z6 c7 dX6_pop_37 ?_
      replace h := grd_some h
      obtain ⟨c8, h⟩ := h
      exact V_zretE hM (char_nar c8) h dX6_pop_38
    · replace h := ite_n h c3
      refine V_bipush (v := 113) hM.c dX6_pop_16 (by decide) ?_
      replace h := grd_some h
      obtain ⟨c9, h⟩ := h
      exact V_zretE hM (char_nar c9) h dX6_pop_18
def f_X6_nextCode (n : Nat) (Z : Zt) (a : Nat) (g : Mem) : Option (Int32 × Mem) := grd (zk Z a = 5) (nam (gP g a 5) (fun q1 => if q1 = none then (some ((-1 : Int32), g)) else (nam (gP g a 5) (fun q4 => drf q4 (fun b6 => bnd (f_X3_codeAt n Z b6 (gI g a 7) g) (fun r8 g9 => some (r8, g9)))))))
theorem mq_X6_nextCode : Mq yX6_nextCode cX6_nextCode 1 (some .int) 0 := ⟨tw_615, tw_592, ⟨by decide +kernel, by decide +kernel, by decide +kernel⟩, by decide⟩
theorem mi_X6_nextCode : Cond.instanceMethod yX6_nextCode ∈ TB ∧ Cond.selects yX6_nextCode.cls yX6_nextCode yX6_nextCode ∈ TB := ⟨tw_613, tw_614⟩
theorem zc_X6_nextCode {n : Nat} {Z : Zt} {a : Nat} {g : Mem} {q : Int32 × Mem} (h : f_X6_nextCode n Z a g = some q) : zk Z a = 5 := (grd_some h).1
set_option maxHeartbeats 4000000 in
set_option maxRecDepth 100000 in
theorem vm_X6_nextCode {n : Nat} {Z : Zt} {a : Nat} {g : Mem} {rr : Int32} {gg : Mem} (h : f_X6_nextCode n Z a g = some (rr, gg)) : VM yX6_nextCode cX6_nextCode 1 (some .int) 1 [.ref a] Z g (some (.int rr)) gg := by
  unfold f_X6_nextCode at h
  replace h := grd_some h
  obtain ⟨hz0, h⟩ := h
  refine VM.of (by decide +kernel) (Nat.le_of_ble_eq_true rfl) (fun x hM => ?_)
  have hM : Cm x cX6_nextCode RX6 1 (some .int) 1 Z (some (.int rr)) gg := hM
  show V x Z 0 0 0 [(0, va_rf (some a))] [] g
  refine V_aload_n hM.c 0 dX6_nextCode_0 rfl rfl ?_
  replace h := nam_some h
  obtain ⟨q1, e2, h⟩ := h
  refine G4_5 hM.c tw_594 hz0 e2 dX6_nextCode_1 ?_
  refine V_ifnonnull hM.c 11 dX6_nextCode_4 (by decide) (fun c3 => ?_) (fun c3 => ?_)
  · replace h := ite_n h c3
    refine V_aload_n hM.c 0 dX6_nextCode_11 rfl rfl ?_
    replace h := nam_some h
    obtain ⟨q4, e5, h⟩ := h
    refine G4_5 hM.c tw_594 hz0 e5 dX6_nextCode_12 ?_
    refine V_aload_n hM.c 0 dX6_nextCode_15 rfl rfl ?_
    refine G4_7 hM.c tw_596 hz0 dX6_nextCode_16 ?_
    replace h := drf_some h
    obtain ⟨b6, rfl, h⟩ := h
    replace h := bnd_some h
    obtain ⟨r8, g9, e10, h⟩ := h
    refine V_callV (As := [.int (gI g a 7)]) (c := 2) (T := TX3) (N := 2) hM.c hM.a mq_X3_codeAt mi_X3_codeAt tw_616 (hM.d (by decide)) hM.z rfl (by omega) (zc_X3_codeAt e10) (vm_X3_codeAt e10) rfl (Nat.le_of_ble_eq_true rfl) dX6_nextCode_19 ?_
    exact V_iretE hM h dX6_nextCode_22
  · replace h := ite_p h c3
    refine V_iconst (v := -1) hM.c dX6_nextCode_7 (by decide) ?_
    refine V_goto hM.c 22 dX6_nextCode_8 (by decide) ?_
    exact V_iretE hM h dX6_nextCode_22
def f_X6_addNode_l81 (n : Nat) (Z : Zt) (a : Nat) (x4 : Int32) (g : Mem) : Option (Int32 × Mem) := if x4 ≤ (1 : Int32) then (some ((1 : Int32), g)) else (bnd (f_X6_push n Z a (44 : Int32) g) (fun r26 g27 => bnd (f_X6_push n Z a (113 : Int32) g27) (fun r29 g30 => some ((1 : Int32), g30))))
set_option maxHeartbeats 4000000 in
set_option maxRecDepth 100000 in
theorem vl_X6_addNode_l81 {x : Cq} {n : Nat} {Z : Zt} {a : Nat} {x4 : Int32} {g : Mem} {rr : Int32} {gg : Mem} (hM : Cm x cX6_addNode RX6 5 (some .boolean) 1 Z (some (.int rr)) gg) (hz0 : zk Z a = 5) (h : f_X6_addNode_l81 n Z a x4 g = some (rr, gg)) : V x Z 0 0 81 [(0, va_rf (some a)), (4, .int x4)] [] g := by
  unfold f_X6_addNode_l81 at h
  refine V_iload hM.c 1 dX6_addNode_81 rfl ?_
  refine V_iconst (v := 1) hM.c dX6_addNode_83 (by decide) ?_
  refine V_icmp_le hM.c 99 dX6_addNode_84 (by decide) (fun c25 => ?_) (fun c25 => ?_)
  · replace h := ite_p h c25
    refine V_iconst (v := 1) hM.c dX6_addNode_99 (by decide) ?_
    exact V_zretE hM (isz_nar (by decide)) h dX6_addNode_100
  · replace h := ite_n h c25
    refine V_aload_n hM.c 0 dX6_addNode_87 rfl rfl ?_
    refine V_bipush (v := 44) hM.c dX6_addNode_88 (by decide) ?_
    replace h := bnd_some h
    obtain ⟨r26, g27, e28, h⟩ := h
    refine V_callV (As := [.int (44 : Int32)]) (c := 4) (T := TX6) (N := 10) hM.c hM.a mq_X6_push mi_X6_push tw_599 (hM.d (by decide)) hM.z rfl (by omega) (zc_X6_push e28) (vm_X6_push e28) rfl (Nat.le_of_ble_eq_true rfl) dX6_addNode_90 ?_
    refine V_aload_n hM.c 0 dX6_addNode_93 rfl rfl ?_
    refine V_bipush (v := 113) hM.c dX6_addNode_94 (by decide) ?_
    replace h := bnd_some h
    obtain ⟨r29, g30, e31, h⟩ := h
    refine V_callV (As := [.int (113 : Int32)]) (c := 4) (T := TX6) (N := 10) hM.c hM.a mq_X6_push mi_X6_push tw_599 (hM.d (by decide)) hM.z rfl (by omega) (zc_X6_push e31) (vm_X6_push e31) rfl (Nat.le_of_ble_eq_true rfl) dX6_addNode_96 ?_
    refine V_iconst (v := 1) hM.c dX6_addNode_99 (by decide) ?_
    exact V_zretE hM (isz_nar (by decide)) h dX6_addNode_100
def f_X6_addNode (n : Nat) (Z : Zt) (a : Nat) (x1 : Int32) (x2 : Int32) (x3 : Int32) (g : Mem) : Option (Int32 × Mem) := grd (zk Z a = 5) (if (gI g a 6) < 0 then (some ((0 : Int32), g)) else (if (gI g a 6) < (60 : Int32) then (drf (zf Z a 0) (fun b3 => grd (zk Z b3 = 12) (grd (inr (gI g a 6) (zl Z b3)) (drf (zf Z a 1) (fun b7 => grd (zk Z b7 = 12) (grd (inr (gI (sI g b3 (gI g a 6).toNatClampNeg x1) a 6) (zl Z b7)) (drf (zf Z a 2) (fun b11 => grd (zk Z b11 = 12) (grd (inr (gI (sI (sI g b3 (gI g a 6).toNatClampNeg x1) b7 (gI (sI g b3 (gI g a 6).toNatClampNeg x1) a 6).toNatClampNeg x2) a 6) (zl Z b11)) (bnd (f_X6_partsOf n Z x1 (sI (sI (sI (sI g b3 (gI g a 6).toNatClampNeg x1) b7 (gI (sI g b3 (gI g a 6).toNatClampNeg x1) a 6).toNatClampNeg x2) b11 (gI (sI (sI g b3 (gI g a 6).toNatClampNeg x1) b7 (gI (sI g b3 (gI g a 6).toNatClampNeg x1) a 6).toNatClampNeg x2) a 6).toNatClampNeg x3) a 6 ((gI (sI (sI (sI g b3 (gI g a 6).toNatClampNeg x1) b7 (gI (sI g b3 (gI g a 6).toNatClampNeg x1) a 6).toNatClampNeg x2) b11 (gI (sI (sI g b3 (gI g a 6).toNatClampNeg x1) b7 (gI (sI g b3 (gI g a 6).toNatClampNeg x1) a 6).toNatClampNeg x2) a 6).toNatClampNeg x3) a 6) + (1 : Int32)))) (fun r15 g16 => if r15 ≤ 0 then (f_X6_addNode_l81 n Z a r15 g16) else (bnd (f_X6_push n Z a (41 : Int32) g16) (fun r19 g20 => bnd (f_X6_push n Z a (113 : Int32) g20) (fun r22 g23 => f_X6_addNode_l81 n Z a r15 g23)))))))))))))) else (some ((0 : Int32), g))))
theorem mq_X6_addNode : Mq yX6_addNode cX6_addNode 5 (some .boolean) 3 := ⟨tw_623, tw_592, ⟨by decide +kernel, by decide +kernel, by decide +kernel⟩, by decide⟩
theorem mi_X6_addNode : Cond.instanceMethod yX6_addNode ∈ TB ∧ Cond.selects yX6_addNode.cls yX6_addNode yX6_addNode ∈ TB := ⟨tw_621, tw_622⟩
theorem zc_X6_addNode {n : Nat} {Z : Zt} {a : Nat} {x1 : Int32} {x2 : Int32} {x3 : Int32} {g : Mem} {q : Int32 × Mem} (h : f_X6_addNode n Z a x1 x2 x3 g = some q) : zk Z a = 5 := (grd_some h).1
set_option maxHeartbeats 4000000 in
set_option maxRecDepth 100000 in
theorem vm_X6_addNode {n : Nat} {Z : Zt} {a : Nat} {x1 : Int32} {x2 : Int32} {x3 : Int32} {g : Mem} {rr : Int32} {gg : Mem} (h : f_X6_addNode n Z a x1 x2 x3 g = some (rr, gg)) : VM yX6_addNode cX6_addNode 5 (some .boolean) 1 [.ref a, .int x1, .int x2, .int x3] Z g (some (.int rr)) gg := by
  unfold f_X6_addNode at h
  replace h := grd_some h
  obtain ⟨hz0, h⟩ := h
  refine VM.of (by decide +kernel) (Nat.le_of_ble_eq_true rfl) (fun x hM => ?_)
  have hM : Cm x cX6_addNode RX6 5 (some .boolean) 1 Z (some (.int rr)) gg := hM
  show V x Z 0 0 0 [(0, va_rf (some a)), (1, .int x1), (2, .int x2), (3, .int x3)] [] g
  refine V_aload_n hM.c 0 dX6_addNode_0 rfl rfl ?_
  refine G4_6 hM.c tw_595 hz0 dX6_addNode_1 ?_
  refine V_if_lt hM.c 16 dX6_addNode_4 (by decide) (fun c1 => ?_) (fun c1 => ?_)
  · replace h := ite_p h c1
    refine V_iconst (v := 0) hM.c dX6_addNode_16 (by decide) ?_
    exact V_zretE hM (isz_nar (by decide)) h dX6_addNode_17
  · replace h := ite_n h c1
    refine V_aload_n hM.c 0 dX6_addNode_7 rfl rfl ?_
    refine G4_6 hM.c tw_595 hz0 dX6_addNode_8 ?_
    refine V_bipush (v := 60) hM.c dX6_addNode_11 (by decide) ?_
    refine V_icmp_lt hM.c 18 dX6_addNode_13 (by decide) (fun c2 => ?_) (fun c2 => ?_)
    · replace h := ite_p h c2
      refine V_aload_n hM.c 0 dX6_addNode_18 rfl rfl ?_
      replace h := drf_some h
      obtain ⟨b3, e4, h⟩ := h
      refine G4_0 hM.c tw_624 hz0 e4 dX6_addNode_19 ?_
      refine V_aload_n hM.c 0 dX6_addNode_22 rfl rfl ?_
      refine G4_6 hM.c tw_595 hz0 dX6_addNode_23 ?_
      refine V_iload_n hM.c 1 dX6_addNode_26 rfl rfl ?_
      replace h := grd_some h
      obtain ⟨z5, h⟩ := h
      replace h := grd_some h
      obtain ⟨c6, h⟩ := h
      refine V_iast hM.c z5 c6 hM.a dX6_addNode_27 ?_
      refine V_aload_n hM.c 0 dX6_addNode_28 rfl rfl ?_
      replace h := drf_some h
      obtain ⟨b7, e8, h⟩ := h
      refine G4_1 hM.c tw_625 hz0 e8 dX6_addNode_29 ?_
      refine V_aload_n hM.c 0 dX6_addNode_32 rfl rfl ?_
      refine G4_6 hM.c tw_595 hz0 dX6_addNode_33 ?_
      refine V_iload_n hM.c 2 dX6_addNode_36 rfl rfl ?_
      replace h := grd_some h
      obtain ⟨z9, h⟩ := h
      replace h := grd_some h
      obtain ⟨c10, h⟩ := h
      refine V_iast hM.c z9 c10 hM.a dX6_addNode_37 ?_
      refine V_aload_n hM.c 0 dX6_addNode_38 rfl rfl ?_
      replace h := drf_some h
      obtain ⟨b11, e12, h⟩ := h
      refine G4_2 hM.c tw_626 hz0 e12 dX6_addNode_39 ?_
      refine V_aload_n hM.c 0 dX6_addNode_42 rfl rfl ?_
      refine G4_6 hM.c tw_595 hz0 dX6_addNode_43 ?_
      refine V_iload_n hM.c 3 dX6_addNode_46 rfl rfl ?_
      replace h := grd_some h
      obtain ⟨z13, h⟩ := h
      replace h := grd_some h
      obtain ⟨c14, h⟩ := h
      refine V_iast hM.c z13 c14 hM.a dX6_addNode_47 ?_
      refine V_aload_n hM.c 0 dX6_addNode_48 rfl rfl ?_
      refine V_dup hM.c dX6_addNode_49 (rf_cat _) ?_
      refine G4_6 hM.c tw_595 hz0 dX6_addNode_50 ?_
      refine V_iconst (v := 1) hM.c dX6_addNode_53 (by decide) ?_
      refine V_iadd hM.c dX6_addNode_54 ?_
      refine P4_6 hM.c tw_595 hz0 hM.a dX6_addNode_55 ?_
      refine V_iload_n hM.c 1 dX6_addNode_58 rfl rfl ?_
      replace h := bnd_some h
      obtain ⟨r15, g16, e17, h⟩ := h
      refine V_callS (As := [.int x1]) hM.c hM.a mq_X6_partsOf mi_X6_partsOf tw_627 (hM.d (by decide)) hM.z (vm_X6_partsOf e17) rfl (Nat.le_of_ble_eq_true rfl) dX6_addNode_59 ?_
      refine V_istore (L' := [(4, .int r15), (0, va_rf (some a)), (1, .int x1), (2, .int x2), (3, .int x3)]) hM.c dX6_addNode_62 (by decide) rfl ?_
      refine V_iload hM.c 0 dX6_addNode_64 rfl ?_
      refine V_if_le hM.c 81 dX6_addNode_66 (by decide) (fun c18 => ?_) (fun c18 => ?_)
      · replace h := ite_p h c18
        refine V_sub [1, 0] rfl ?_
        exact vl_X6_addNode_l81 hM hz0  h
      · replace h := ite_n h c18
        refine V_aload_n hM.c 1 dX6_addNode_69 rfl rfl ?_
        refine V_bipush (v := 41) hM.c dX6_addNode_70 (by decide) ?_
        replace h := bnd_some h
        obtain ⟨r19, g20, e21, h⟩ := h
        refine V_callV (As := [.int (41 : Int32)]) (c := 4) (T := TX6) (N := 10) hM.c hM.a mq_X6_push mi_X6_push tw_599 (hM.d (by decide)) hM.z rfl (by omega) (zc_X6_push e21) (vm_X6_push e21) rfl (Nat.le_of_ble_eq_true rfl) dX6_addNode_72 ?_
        refine V_aload_n hM.c 1 dX6_addNode_75 rfl rfl ?_
        refine V_bipush (v := 113) hM.c dX6_addNode_76 (by decide) ?_
        replace h := bnd_some h
        obtain ⟨r22, g23, e24, h⟩ := h
        refine V_callV (As := [.int (113 : Int32)]) (c := 4) (T := TX6) (N := 10) hM.c hM.a mq_X6_push mi_X6_push tw_599 (hM.d (by decide)) hM.z rfl (by omega) (zc_X6_push e24) (vm_X6_push e24) rfl (Nat.le_of_ble_eq_true rfl) dX6_addNode_78 ?_
        refine V_sub [1, 0] rfl ?_
        exact vl_X6_addNode_l81 hM hz0  h
    · replace h := ite_n h c2
      refine V_iconst (v := 0) hM.c dX6_addNode_16 (by decide) ?_
      exact V_zretE hM (isz_nar (by decide)) h dX6_addNode_17
def f_X6_takeDigit (n : Nat) (Z : Zt) (a : Nat) (x1 : Int32) (g : Mem) : Option (Int32 × Mem) := grd (zk Z a = 5) (bnd (f_X6_nextCode n Z a g) (fun r1 g2 => if (r1 - (48 : Int32)) < 0 then (some ((-1 : Int32), g2)) else (if (r1 - (48 : Int32)) < x1 then (some ((r1 - (48 : Int32)), (sI g2 a 7 ((gI g2 a 7) + (1 : Int32))))) else (some ((-1 : Int32), g2)))))
theorem mq_X6_takeDigit : Mq yX6_takeDigit cX6_takeDigit 3 (some .int) 1 := ⟨tw_637, tw_592, ⟨by decide +kernel, by decide +kernel, by decide +kernel⟩, by decide⟩
theorem mi_X6_takeDigit : Cond.instanceMethod yX6_takeDigit ∈ TB ∧ Cond.selects yX6_takeDigit.cls yX6_takeDigit yX6_takeDigit ∈ TB := ⟨tw_635, tw_636⟩
theorem zc_X6_takeDigit {n : Nat} {Z : Zt} {a : Nat} {x1 : Int32} {g : Mem} {q : Int32 × Mem} (h : f_X6_takeDigit n Z a x1 g = some q) : zk Z a = 5 := (grd_some h).1
set_option maxHeartbeats 4000000 in
set_option maxRecDepth 100000 in
theorem vm_X6_takeDigit {n : Nat} {Z : Zt} {a : Nat} {x1 : Int32} {g : Mem} {rr : Int32} {gg : Mem} (h : f_X6_takeDigit n Z a x1 g = some (rr, gg)) : VM yX6_takeDigit cX6_takeDigit 3 (some .int) 2 [.ref a, .int x1] Z g (some (.int rr)) gg := by
  unfold f_X6_takeDigit at h
  replace h := grd_some h
  obtain ⟨hz0, h⟩ := h
  refine VM.of (by decide +kernel) (Nat.le_of_ble_eq_true rfl) (fun x hM => ?_)
  have hM : Cm x cX6_takeDigit RX6 3 (some .int) 2 Z (some (.int rr)) gg := hM
  show V x Z 0 0 0 [(0, va_rf (some a)), (1, .int x1)] [] g
  refine V_aload_n hM.c 0 dX6_takeDigit_0 rfl rfl ?_
  replace h := bnd_some h
  obtain ⟨r1, g2, e3, h⟩ := h
  refine V_callV (As := []) (c := 4) (T := TX6) (N := 10) hM.c hM.a mq_X6_nextCode mi_X6_nextCode tw_612 (hM.d (by decide)) hM.z rfl (by omega) (zc_X6_nextCode e3) (vm_X6_nextCode e3) rfl (Nat.le_of_ble_eq_true rfl) dX6_takeDigit_1 ?_
  refine V_bipush (v := 48) hM.c dX6_takeDigit_4 (by decide) ?_
  refine V_isub hM.c dX6_takeDigit_6 ?_
  refine V_istore_n (i := 2) (L' := [(2, .int (r1 - (48 : Int32))), (0, va_rf (some a)), (1, .int x1)]) hM.c dX6_takeDigit_7 rfl (by decide) rfl ?_
  refine V_iload_n hM.c 0 dX6_takeDigit_8 rfl rfl ?_
  refine V_if_lt hM.c 17 dX6_takeDigit_9 (by decide) (fun c4 => ?_) (fun c4 => ?_)
  · replace h := ite_p h c4
    refine V_iconst (v := -1) hM.c dX6_takeDigit_17 (by decide) ?_
    exact V_iretE hM h dX6_takeDigit_18
  · replace h := ite_n h c4
    refine V_iload_n hM.c 0 dX6_takeDigit_12 rfl rfl ?_
    refine V_iload_n hM.c 2 dX6_takeDigit_13 rfl rfl ?_
    refine V_icmp_lt hM.c 19 dX6_takeDigit_14 (by decide) (fun c5 => ?_) (fun c5 => ?_)
    · replace h := ite_p h c5
      refine V_aload_n hM.c 1 dX6_takeDigit_19 rfl rfl ?_
      refine V_dup hM.c dX6_takeDigit_20 (rf_cat _) ?_
      refine G4_7 hM.c tw_596 hz0 dX6_takeDigit_21 ?_
      refine V_iconst (v := 1) hM.c dX6_takeDigit_24 (by decide) ?_
      refine V_iadd hM.c dX6_takeDigit_25 ?_
      refine P4_7 hM.c tw_596 hz0 hM.a dX6_takeDigit_26 ?_
      refine V_iload_n hM.c 0 dX6_takeDigit_29 rfl rfl ?_
      exact V_iretE hM h dX6_takeDigit_30
    · replace h := ite_n h c5
      refine V_iconst (v := -1) hM.c dX6_takeDigit_17 (by decide) ?_
      exact V_iretE hM h dX6_takeDigit_18
def f_X6_take (n : Nat) (Z : Zt) (a : Nat) (x1 : Int32) (g : Mem) : Option (Int32 × Mem) := grd (zk Z a = 5) (bnd (f_X6_nextCode n Z a g) (fun r1 g2 => if r1 = x1 then (some ((1 : Int32), (sI g2 a 7 ((gI g2 a 7) + (1 : Int32))))) else (some ((0 : Int32), g2))))
theorem mq_X6_take : Mq yX6_take cX6_take 2 (some .boolean) 1 := ⟨tw_641, tw_592, ⟨by decide +kernel, by decide +kernel, by decide +kernel⟩, by decide⟩
theorem mi_X6_take : Cond.instanceMethod yX6_take ∈ TB ∧ Cond.selects yX6_take.cls yX6_take yX6_take ∈ TB := ⟨tw_639, tw_640⟩
theorem zc_X6_take {n : Nat} {Z : Zt} {a : Nat} {x1 : Int32} {g : Mem} {q : Int32 × Mem} (h : f_X6_take n Z a x1 g = some q) : zk Z a = 5 := (grd_some h).1
set_option maxHeartbeats 4000000 in
set_option maxRecDepth 100000 in
theorem vm_X6_take {n : Nat} {Z : Zt} {a : Nat} {x1 : Int32} {g : Mem} {rr : Int32} {gg : Mem} (h : f_X6_take n Z a x1 g = some (rr, gg)) : VM yX6_take cX6_take 2 (some .boolean) 2 [.ref a, .int x1] Z g (some (.int rr)) gg := by
  unfold f_X6_take at h
  replace h := grd_some h
  obtain ⟨hz0, h⟩ := h
  refine VM.of (by decide +kernel) (Nat.le_of_ble_eq_true rfl) (fun x hM => ?_)
  have hM : Cm x cX6_take RX6 2 (some .boolean) 2 Z (some (.int rr)) gg := hM
  show V x Z 0 0 0 [(0, va_rf (some a)), (1, .int x1)] [] g
  refine V_aload_n hM.c 0 dX6_take_0 rfl rfl ?_
  replace h := bnd_some h
  obtain ⟨r1, g2, e3, h⟩ := h
  refine V_callV (As := []) (c := 4) (T := TX6) (N := 10) hM.c hM.a mq_X6_nextCode mi_X6_nextCode tw_612 (hM.d (by decide)) hM.z rfl (by omega) (zc_X6_nextCode e3) (vm_X6_nextCode e3) rfl (Nat.le_of_ble_eq_true rfl) dX6_take_1 ?_
  refine V_iload_n hM.c 1 dX6_take_4 rfl rfl ?_
  refine V_icmp_eq hM.c 10 dX6_take_5 (by decide) (fun c4 => ?_) (fun c4 => ?_)
  · replace h := ite_p h c4
    refine V_aload_n hM.c 0 dX6_take_10 rfl rfl ?_
    refine V_dup hM.c dX6_take_11 (rf_cat _) ?_
    refine G4_7 hM.c tw_596 hz0 dX6_take_12 ?_
    refine V_iconst (v := 1) hM.c dX6_take_15 (by decide) ?_
    refine V_iadd hM.c dX6_take_16 ?_
    refine P4_7 hM.c tw_596 hz0 hM.a dX6_take_17 ?_
    refine V_iconst (v := 1) hM.c dX6_take_20 (by decide) ?_
    exact V_zretE hM (isz_nar (by decide)) h dX6_take_21
  · replace h := ite_n h c4
    refine V_iconst (v := 0) hM.c dX6_take_8 (by decide) ?_
    exact V_zretE hM (isz_nar (by decide)) h dX6_take_9
def f_X6_readSelect_l60 (n : Nat) (Z : Zt) (a : Nat) (x1 : Int32) (x2 : Int32) (s0 : Int32) (s1 : Nat) (g : Mem) : Option (Int32 × Mem) := bnd (f_X6_takeDigit n Z s1 s0 g) (fun r15 g16 => if r15 < 0 then (some ((0 : Int32), g16)) else (bnd (f_X6_take n Z a (40 : Int32) g16) (fun r19 g20 => if r19 = 0 then (some ((0 : Int32), g20)) else (bnd (f_X6_addNode n Z a x2 x1 r15 g20) (fun r23 g24 => if r23 = 0 then (some ((0 : Int32), g24)) else (some ((1 : Int32), g24)))))))
set_option maxHeartbeats 4000000 in
set_option maxRecDepth 100000 in
theorem vl_X6_readSelect_l60 {x : Cq} {n : Nat} {Z : Zt} {a : Nat} {x1 : Int32} {x2 : Int32} {s0 : Int32} {s1 : Nat} {g : Mem} {rr : Int32} {gg : Mem} (hM : Cm x cX6_readSelect RX6 4 (some .boolean) 3 Z (some (.int rr)) gg) (hz0 : zk Z a = 5) (h : f_X6_readSelect_l60 n Z a x1 x2 s0 s1 g = some (rr, gg)) : V x Z 0 0 60 [(0, va_rf (some a)), (1, .int x1), (2, .int x2)] [.int s0, va_rf (some s1)] g := by
  unfold f_X6_readSelect_l60 at h
  replace h := bnd_some h
  obtain ⟨r15, g16, e17, h⟩ := h
  refine V_callV (As := [.int s0]) (c := 4) (T := TX6) (N := 10) hM.c hM.a mq_X6_takeDigit mi_X6_takeDigit tw_634 (hM.d (by decide)) hM.z rfl (by omega) (zc_X6_takeDigit e17) (vm_X6_takeDigit e17) rfl (Nat.le_of_ble_eq_true rfl) dX6_readSelect_60 ?_
  refine V_istore_n (i := 3) (L' := [(3, .int r15), (0, va_rf (some a)), (1, .int x1), (2, .int x2)]) hM.c dX6_readSelect_63 rfl (by decide) rfl ?_
  refine V_iload_n hM.c 0 dX6_readSelect_64 rfl rfl ?_
  refine V_if_lt hM.c 91 dX6_readSelect_65 (by decide) (fun c18 => ?_) (fun c18 => ?_)
  · replace h := ite_p h c18
    refine V_iconst (v := 0) hM.c dX6_readSelect_91 (by decide) ?_
    exact V_zretE hM (isz_nar (by decide)) h dX6_readSelect_92
  · replace h := ite_n h c18
    refine V_aload_n hM.c 1 dX6_readSelect_68 rfl rfl ?_
    refine V_bipush (v := 40) hM.c dX6_readSelect_69 (by decide) ?_
    replace h := bnd_some h
    obtain ⟨r19, g20, e21, h⟩ := h
    refine V_callV (As := [.int (40 : Int32)]) (c := 4) (T := TX6) (N := 10) hM.c hM.a mq_X6_take mi_X6_take tw_638 (hM.d (by decide)) hM.z rfl (by omega) (zc_X6_take e21) (vm_X6_take e21) rfl (Nat.le_of_ble_eq_true rfl) dX6_readSelect_71 ?_
    refine V_if_eq hM.c 91 dX6_readSelect_74 (by decide) (fun c22 => ?_) (fun c22 => ?_)
    · replace h := ite_p h c22
      refine V_iconst (v := 0) hM.c dX6_readSelect_91 (by decide) ?_
      exact V_zretE hM (isz_nar (by decide)) h dX6_readSelect_92
    · replace h := ite_n h c22
      refine V_aload_n hM.c 1 dX6_readSelect_77 rfl rfl ?_
      refine V_iload_n hM.c 3 dX6_readSelect_78 rfl rfl ?_
      refine V_iload_n hM.c 2 dX6_readSelect_79 rfl rfl ?_
      refine V_iload_n hM.c 0 dX6_readSelect_80 rfl rfl ?_
      replace h := bnd_some h
      obtain ⟨r23, g24, e25, h⟩ := h
      refine V_callV (As := [.int x2, .int x1, .int r15]) (c := 4) (T := TX6) (N := 10) hM.c hM.a mq_X6_addNode mi_X6_addNode tw_620 (hM.d (by decide)) hM.z rfl (by omega) (zc_X6_addNode e25) (vm_X6_addNode e25) rfl (Nat.le_of_ble_eq_true rfl) dX6_readSelect_81 ?_
      refine V_if_eq hM.c 91 dX6_readSelect_84 (by decide) (fun c26 => ?_) (fun c26 => ?_)
      · replace h := ite_p h c26
        refine V_iconst (v := 0) hM.c dX6_readSelect_91 (by decide) ?_
        exact V_zretE hM (isz_nar (by decide)) h dX6_readSelect_92
      · replace h := ite_n h c26
        refine V_iconst (v := 1) hM.c dX6_readSelect_87 (by decide) ?_
        refine V_goto hM.c 92 dX6_readSelect_88 (by decide) ?_
        exact V_zretE hM (isz_nar (by decide)) h dX6_readSelect_92
def f_X6_readSelect_l40 (n : Nat) (Z : Zt) (a : Nat) (x1 : Int32) (x2 : Int32) (s0 : Int32) (s1 : Nat) (g : Mem) : Option (Int32 × Mem) := bnd (f_X6_take n Z s1 s0 g) (fun r10 g11 => if r10 = 0 then (some ((0 : Int32), g11)) else (if x2 = (2 : Int32) then (f_X6_readSelect_l60 n Z a x1 x2 (4 : Int32) a g11) else (f_X6_readSelect_l60 n Z a x1 x2 (10 : Int32) a g11)))
set_option maxHeartbeats 4000000 in
set_option maxRecDepth 100000 in
theorem vl_X6_readSelect_l40 {x : Cq} {n : Nat} {Z : Zt} {a : Nat} {x1 : Int32} {x2 : Int32} {s0 : Int32} {s1 : Nat} {g : Mem} {rr : Int32} {gg : Mem} (hM : Cm x cX6_readSelect RX6 4 (some .boolean) 3 Z (some (.int rr)) gg) (hz0 : zk Z a = 5) (h : f_X6_readSelect_l40 n Z a x1 x2 s0 s1 g = some (rr, gg)) : V x Z 0 0 40 [(0, va_rf (some a)), (1, .int x1), (2, .int x2)] [.int s0, va_rf (some s1)] g := by
  unfold f_X6_readSelect_l40 at h
  replace h := bnd_some h
  obtain ⟨r10, g11, e12, h⟩ := h
  refine V_callV (As := [.int s0]) (c := 4) (T := TX6) (N := 10) hM.c hM.a mq_X6_take mi_X6_take tw_638 (hM.d (by decide)) hM.z rfl (by omega) (zc_X6_take e12) (vm_X6_take e12) rfl (Nat.le_of_ble_eq_true rfl) dX6_readSelect_40 ?_
  refine V_if_ne hM.c 48 dX6_readSelect_43 (by decide) (fun c13 => ?_) (fun c13 => ?_)
  · replace h := ite_n h c13
    refine V_aload_n hM.c 0 dX6_readSelect_48 rfl rfl ?_
    refine V_iload_n hM.c 2 dX6_readSelect_49 rfl rfl ?_
    refine V_iconst (v := 2) hM.c dX6_readSelect_50 (by decide) ?_
    refine V_icmp_ne hM.c 58 dX6_readSelect_51 (by decide) (fun c14 => ?_) (fun c14 => ?_)
    · replace h := ite_n h c14
      refine V_bipush (v := 10) hM.c dX6_readSelect_58 (by decide) ?_
      refine V_sub [0, 1, 2] rfl ?_
      exact vl_X6_readSelect_l60 hM hz0  h
    · replace h := ite_p h c14
      refine V_iconst (v := 4) hM.c dX6_readSelect_54 (by decide) ?_
      refine V_goto hM.c 60 dX6_readSelect_55 (by decide) ?_
      refine V_sub [0, 1, 2] rfl ?_
      exact vl_X6_readSelect_l60 hM hz0  h
  · replace h := ite_p h c13
    refine V_iconst (v := 0) hM.c dX6_readSelect_46 (by decide) ?_
    exact V_zretE hM (isz_nar (by decide)) h dX6_readSelect_47
def f_X6_readSelect_l26 (n : Nat) (Z : Zt) (a : Nat) (x1 : Int32) (s0 : Int32) (g : Mem) : Option (Int32 × Mem) := if s0 = (2 : Int32) then (f_X6_readSelect_l40 n Z a x1 s0 (126 : Int32) a g) else (f_X6_readSelect_l40 n Z a x1 s0 (61 : Int32) a g)
set_option maxHeartbeats 4000000 in
set_option maxRecDepth 100000 in
theorem vl_X6_readSelect_l26 {x : Cq} {n : Nat} {Z : Zt} {a : Nat} {x1 : Int32} {s0 : Int32} {g : Mem} {rr : Int32} {gg : Mem} (hM : Cm x cX6_readSelect RX6 4 (some .boolean) 3 Z (some (.int rr)) gg) (hz0 : zk Z a = 5) (h : f_X6_readSelect_l26 n Z a x1 s0 g = some (rr, gg)) : V x Z 0 0 26 [(0, va_rf (some a)), (1, .int x1)] [.int s0] g := by
  unfold f_X6_readSelect_l26 at h
  refine V_istore_n (i := 2) (L' := [(2, .int s0), (0, va_rf (some a)), (1, .int x1)]) hM.c dX6_readSelect_26 rfl (by decide) rfl ?_
  refine V_aload_n hM.c 1 dX6_readSelect_27 rfl rfl ?_
  refine V_iload_n hM.c 0 dX6_readSelect_28 rfl rfl ?_
  refine V_iconst (v := 2) hM.c dX6_readSelect_29 (by decide) ?_
  refine V_icmp_ne hM.c 38 dX6_readSelect_30 (by decide) (fun c9 => ?_) (fun c9 => ?_)
  · replace h := ite_n h c9
    refine V_bipush (v := 61) hM.c dX6_readSelect_38 (by decide) ?_
    refine V_sub [1, 2, 0] rfl ?_
    exact vl_X6_readSelect_l40 hM hz0  h
  · replace h := ite_p h c9
    refine V_bipush (v := 126) hM.c dX6_readSelect_33 (by decide) ?_
    refine V_goto hM.c 40 dX6_readSelect_35 (by decide) ?_
    refine V_sub [1, 2, 0] rfl ?_
    exact vl_X6_readSelect_l40 hM hz0  h
def f_X6_readSelect (n : Nat) (Z : Zt) (a : Nat) (g : Mem) : Option (Int32 × Mem) := grd (zk Z a = 5) (bnd (f_X6_takeDigit n Z a (4 : Int32) g) (fun r1 g2 => if 0 ≤ r1 then (bnd (f_X6_nextCode n Z a g2) (fun r5 g6 => if r5 = (126 : Int32) then (f_X6_readSelect_l26 n Z a r1 (2 : Int32) g6) else (f_X6_readSelect_l26 n Z a r1 (1 : Int32) g6))) else (some ((0 : Int32), g2))))
theorem mq_X6_readSelect : Mq yX6_readSelect cX6_readSelect 4 (some .boolean) 0 := ⟨tw_633, tw_592, ⟨by decide +kernel, by decide +kernel, by decide +kernel⟩, by decide⟩
theorem mi_X6_readSelect : Cond.instanceMethod yX6_readSelect ∈ TB ∧ Cond.selects yX6_readSelect.cls yX6_readSelect yX6_readSelect ∈ TB := ⟨tw_631, tw_632⟩
theorem zc_X6_readSelect {n : Nat} {Z : Zt} {a : Nat} {g : Mem} {q : Int32 × Mem} (h : f_X6_readSelect n Z a g = some q) : zk Z a = 5 := (grd_some h).1
set_option maxHeartbeats 4000000 in
set_option maxRecDepth 100000 in
theorem vm_X6_readSelect {n : Nat} {Z : Zt} {a : Nat} {g : Mem} {rr : Int32} {gg : Mem} (h : f_X6_readSelect n Z a g = some (rr, gg)) : VM yX6_readSelect cX6_readSelect 4 (some .boolean) 3 [.ref a] Z g (some (.int rr)) gg := by
  unfold f_X6_readSelect at h
  replace h := grd_some h
  obtain ⟨hz0, h⟩ := h
  refine VM.of (by decide +kernel) (Nat.le_of_ble_eq_true rfl) (fun x hM => ?_)
  have hM : Cm x cX6_readSelect RX6 4 (some .boolean) 3 Z (some (.int rr)) gg := hM
  show V x Z 0 0 0 [(0, va_rf (some a))] [] g
  refine V_aload_n hM.c 0 dX6_readSelect_0 rfl rfl ?_
  refine V_iconst (v := 4) hM.c dX6_readSelect_1 (by decide) ?_
  replace h := bnd_some h
  obtain ⟨r1, g2, e3, h⟩ := h
  refine V_callV (As := [.int (4 : Int32)]) (c := 4) (T := TX6) (N := 10) hM.c hM.a mq_X6_takeDigit mi_X6_takeDigit tw_634 (hM.d (by decide)) hM.z rfl (by omega) (zc_X6_takeDigit e3) (vm_X6_takeDigit e3) rfl (Nat.le_of_ble_eq_true rfl) dX6_readSelect_2 ?_
  refine V_istore_n (i := 1) (L' := [(1, .int r1), (0, va_rf (some a))]) hM.c dX6_readSelect_5 rfl (by decide) rfl ?_
  refine V_iload_n hM.c 0 dX6_readSelect_6 rfl rfl ?_
  refine V_if_ge hM.c 12 dX6_readSelect_7 (by decide) (fun c4 => ?_) (fun c4 => ?_)
  · replace h := ite_p h c4
    refine V_aload_n hM.c 1 dX6_readSelect_12 rfl rfl ?_
    replace h := bnd_some h
    obtain ⟨r5, g6, e7, h⟩ := h
    refine V_callV (As := []) (c := 4) (T := TX6) (N := 10) hM.c hM.a mq_X6_nextCode mi_X6_nextCode tw_612 (hM.d (by decide)) hM.z rfl (by omega) (zc_X6_nextCode e7) (vm_X6_nextCode e7) rfl (Nat.le_of_ble_eq_true rfl) dX6_readSelect_13 ?_
    refine V_bipush (v := 126) hM.c dX6_readSelect_16 (by decide) ?_
    refine V_icmp_ne hM.c 25 dX6_readSelect_18 (by decide) (fun c8 => ?_) (fun c8 => ?_)
    · replace h := ite_n h c8
      refine V_iconst (v := 1) hM.c dX6_readSelect_25 (by decide) ?_
      refine V_sub [1, 0] rfl ?_
      exact vl_X6_readSelect_l26 hM hz0  h
    · replace h := ite_p h c8
      refine V_iconst (v := 2) hM.c dX6_readSelect_21 (by decide) ?_
      refine V_goto hM.c 26 dX6_readSelect_22 (by decide) ?_
      refine V_sub [1, 0] rfl ?_
      exact vl_X6_readSelect_l26 hM hz0  h
  · replace h := ite_n h c4
    refine V_iconst (v := 0) hM.c dX6_readSelect_10 (by decide) ?_
    exact V_zretE hM (isz_nar (by decide)) h dX6_readSelect_11
def f_X6_readProject_l43 (n : Nat) (Z : Zt) (a : Nat) (x1 : Int32) (x2 : Int32) (g : Mem) : Option (Int32 × Mem) := if x1 ≤ 0 then (some ((0 : Int32), g)) else (bnd (f_X6_take n Z a (40 : Int32) g) (fun r10 g11 => if r10 = 0 then (some ((0 : Int32), g11)) else (bnd (f_X6_addNode n Z a (3 : Int32) x1 x2 g11) (fun r14 g15 => if r14 = 0 then (some ((0 : Int32), g15)) else (some ((1 : Int32), g15))))))
set_option maxHeartbeats 4000000 in
set_option maxRecDepth 100000 in
theorem vl_X6_readProject_l43 {x : Cq} {n : Nat} {Z : Zt} {a : Nat} {x1 : Int32} {x2 : Int32} {g : Mem} {rr : Int32} {gg : Mem} (hM : Cm x cX6_readProject RX6 5 (some .boolean) 3 Z (some (.int rr)) gg) (hz0 : zk Z a = 5) (h : f_X6_readProject_l43 n Z a x1 x2 g = some (rr, gg)) : V x Z 0 0 43 [(0, va_rf (some a)), (1, .int x1), (2, .int x2)] [] g := by
  unfold f_X6_readProject_l43 at h
  refine V_iload_n hM.c 1 dX6_readProject_43 rfl rfl ?_
  refine V_if_le hM.c 70 dX6_readProject_44 (by decide) (fun c9 => ?_) (fun c9 => ?_)
  · replace h := ite_p h c9
    refine V_iconst (v := 0) hM.c dX6_readProject_70 (by decide) ?_
    exact V_zretE hM (isz_nar (by decide)) h dX6_readProject_71
  · replace h := ite_n h c9
    refine V_aload_n hM.c 0 dX6_readProject_47 rfl rfl ?_
    refine V_bipush (v := 40) hM.c dX6_readProject_48 (by decide) ?_
    replace h := bnd_some h
    obtain ⟨r10, g11, e12, h⟩ := h
    refine V_callV (As := [.int (40 : Int32)]) (c := 4) (T := TX6) (N := 10) hM.c hM.a mq_X6_take mi_X6_take tw_638 (hM.d (by decide)) hM.z rfl (by omega) (zc_X6_take e12) (vm_X6_take e12) rfl (Nat.le_of_ble_eq_true rfl) dX6_readProject_50 ?_
    refine V_if_eq hM.c 70 dX6_readProject_53 (by decide) (fun c13 => ?_) (fun c13 => ?_)
    · replace h := ite_p h c13
      refine V_iconst (v := 0) hM.c dX6_readProject_70 (by decide) ?_
      exact V_zretE hM (isz_nar (by decide)) h dX6_readProject_71
    · replace h := ite_n h c13
      refine V_aload_n hM.c 0 dX6_readProject_56 rfl rfl ?_
      refine V_iconst (v := 3) hM.c dX6_readProject_57 (by decide) ?_
      refine V_iload_n hM.c 1 dX6_readProject_58 rfl rfl ?_
      refine V_iload_n hM.c 2 dX6_readProject_59 rfl rfl ?_
      replace h := bnd_some h
      obtain ⟨r14, g15, e16, h⟩ := h
      refine V_callV (As := [.int (3 : Int32), .int x1, .int x2]) (c := 4) (T := TX6) (N := 10) hM.c hM.a mq_X6_addNode mi_X6_addNode tw_620 (hM.d (by decide)) hM.z rfl (by omega) (zc_X6_addNode e16) (vm_X6_addNode e16) rfl (Nat.le_of_ble_eq_true rfl) dX6_readProject_60 ?_
      refine V_if_eq hM.c 70 dX6_readProject_63 (by decide) (fun c17 => ?_) (fun c17 => ?_)
      · replace h := ite_p h c17
        refine V_iconst (v := 0) hM.c dX6_readProject_70 (by decide) ?_
        exact V_zretE hM (isz_nar (by decide)) h dX6_readProject_71
      · replace h := ite_n h c17
        refine V_iconst (v := 1) hM.c dX6_readProject_66 (by decide) ?_
        refine V_goto hM.c 71 dX6_readProject_67 (by decide) ?_
        exact V_zretE hM (isz_nar (by decide)) h dX6_readProject_71
def f_X6_readProject_l6 (n : Nat) (Z : Zt) (a : Nat) : Nat → Int32 → Int32 → Int32 → Mem → Option (Int32 × Mem)
  | 0, _, _, _, _ => none
  | fu + 1, x1, x2, x3, g => if (4 : Int32) ≤ x3 then (f_X6_readProject_l43 n Z a x1 x2 g) else (bnd (f_X6_takeDigit n Z a (4 : Int32) g) (fun r2 g3 => if 0 ≤ r2 then (bnd (f_X2_join n Z x2 r2 (1 : Int32) g3) (fun r6 g7 => f_X6_readProject_l6 n Z a fu (x1 + 1) r6 (x3 + 1) g7)) else (f_X6_readProject_l43 n Z a x1 x2 g3)))
set_option maxHeartbeats 4000000 in
set_option maxRecDepth 100000 in
theorem vl_X6_readProject_l6 {x : Cq} {n : Nat} {Z : Zt} {a : Nat} {rr : Int32} {gg : Mem} (hM : Cm x cX6_readProject RX6 5 (some .boolean) 3 Z (some (.int rr)) gg) (hz0 : zk Z a = 5) : ∀ (fu : Nat) (x1 : Int32) (x2 : Int32) (x3 : Int32) (g : Mem), f_X6_readProject_l6 n Z a fu x1 x2 x3 g = some (rr, gg) → V x Z 0 0 6 [(0, va_rf (some a)), (1, .int x1), (2, .int x2), (3, .int x3)] [] g := by
  intro fu
  induction fu with
  | zero => intro x1 x2 x3 g h; cases h
  | succ fu ih =>
    intro x1 x2 x3 g h
    unfold f_X6_readProject_l6 at h
    refine V_iload_n hM.c 3 dX6_readProject_6 rfl rfl ?_
    refine V_iconst (v := 4) hM.c dX6_readProject_7 (by decide) ?_
    refine V_icmp_ge hM.c 43 dX6_readProject_8 (by decide) (fun c1 => ?_) (fun c1 => ?_)
    · replace h := ite_p h c1
      refine V_sub [0, 1, 2] rfl ?_
      exact vl_X6_readProject_l43 hM hz0  h
    · replace h := ite_n h c1
      refine V_aload_n hM.c 0 dX6_readProject_11 rfl rfl ?_
      refine V_iconst (v := 4) hM.c dX6_readProject_12 (by decide) ?_
      replace h := bnd_some h
      obtain ⟨r2, g3, e4, h⟩ := h
      refine V_callV (As := [.int (4 : Int32)]) (c := 4) (T := TX6) (N := 10) hM.c hM.a mq_X6_takeDigit mi_X6_takeDigit tw_634 (hM.d (by decide)) hM.z rfl (by omega) (zc_X6_takeDigit e4) (vm_X6_takeDigit e4) rfl (Nat.le_of_ble_eq_true rfl) dX6_readProject_13 ?_
      refine V_istore (L' := [(4, .int r2), (0, va_rf (some a)), (1, .int x1), (2, .int x2), (3, .int x3)]) hM.c dX6_readProject_16 (by decide) rfl ?_
      refine V_iload hM.c 0 dX6_readProject_18 rfl ?_
      refine V_if_ge hM.c 26 dX6_readProject_20 (by decide) (fun c5 => ?_) (fun c5 => ?_)
      · replace h := ite_p h c5
        refine V_iload_n hM.c 3 dX6_readProject_26 rfl rfl ?_
        refine V_iload hM.c 0 dX6_readProject_27 rfl ?_
        refine V_iconst (v := 1) hM.c dX6_readProject_29 (by decide) ?_
        replace h := bnd_some h
        obtain ⟨r6, g7, e8, h⟩ := h
        refine V_callS (As := [.int x2, .int r2, .int (1 : Int32)]) hM.c hM.a mq_X2_join mi_X2_join tw_646 (hM.d (by decide)) hM.z (vm_X2_join e8) rfl (Nat.le_of_ble_eq_true rfl) dX6_readProject_30 ?_
        refine V_istore_n (i := 2) (L' := [(2, .int r6), (4, .int r2), (0, va_rf (some a)), (1, .int x1), (3, .int x3)]) hM.c dX6_readProject_33 rfl (by decide) rfl ?_
        refine V_iinc (v := (x1 + 1)) (L' := [(1, .int (x1 + 1)), (2, .int r6), (4, .int r2), (0, va_rf (some a)), (3, .int x3)]) hM.c 3 dX6_readProject_34 rfl rfl (by decide) rfl ?_
        refine V_iinc (v := (x3 + 1)) (L' := [(3, .int (x3 + 1)), (1, .int (x1 + 1)), (2, .int r6), (4, .int r2), (0, va_rf (some a))]) hM.c 4 dX6_readProject_37 rfl rfl (by decide) rfl ?_
        refine V_goto hM.c 6 dX6_readProject_40 (by decide) ?_
        refine V_sub [4, 1, 2, 0] rfl ?_
        exact ih _ _ _ _ h
      · replace h := ite_n h c5
        refine V_goto hM.c 43 dX6_readProject_23 (by decide) ?_
        refine V_sub [1, 2, 3] rfl ?_
        exact vl_X6_readProject_l43 hM hz0  h
def f_X6_readProject (n : Nat) (Z : Zt) (a : Nat) (g : Mem) : Option (Int32 × Mem) := grd (zk Z a = 5) (f_X6_readProject_l6 n Z a n (0 : Int32) (0 : Int32) (0 : Int32) g)
theorem mq_X6_readProject : Mq yX6_readProject cX6_readProject 5 (some .boolean) 0 := ⟨tw_645, tw_592, ⟨by decide +kernel, by decide +kernel, by decide +kernel⟩, by decide⟩
theorem mi_X6_readProject : Cond.instanceMethod yX6_readProject ∈ TB ∧ Cond.selects yX6_readProject.cls yX6_readProject yX6_readProject ∈ TB := ⟨tw_643, tw_644⟩
theorem zc_X6_readProject {n : Nat} {Z : Zt} {a : Nat} {g : Mem} {q : Int32 × Mem} (h : f_X6_readProject n Z a g = some q) : zk Z a = 5 := (grd_some h).1
set_option maxHeartbeats 4000000 in
set_option maxRecDepth 100000 in
theorem vm_X6_readProject {n : Nat} {Z : Zt} {a : Nat} {g : Mem} {rr : Int32} {gg : Mem} (h : f_X6_readProject n Z a g = some (rr, gg)) : VM yX6_readProject cX6_readProject 5 (some .boolean) 3 [.ref a] Z g (some (.int rr)) gg := by
  unfold f_X6_readProject at h
  replace h := grd_some h
  obtain ⟨hz0, h⟩ := h
  refine VM.of (by decide +kernel) (Nat.le_of_ble_eq_true rfl) (fun x hM => ?_)
  have hM : Cm x cX6_readProject RX6 5 (some .boolean) 3 Z (some (.int rr)) gg := hM
  show V x Z 0 0 0 [(0, va_rf (some a))] [] g
  refine V_iconst (v := 0) hM.c dX6_readProject_0 (by decide) ?_
  refine V_istore_n (i := 1) (L' := [(1, .int (0 : Int32)), (0, va_rf (some a))]) hM.c dX6_readProject_1 rfl (by decide) rfl ?_
  refine V_iconst (v := 0) hM.c dX6_readProject_2 (by decide) ?_
  refine V_istore_n (i := 2) (L' := [(2, .int (0 : Int32)), (1, .int (0 : Int32)), (0, va_rf (some a))]) hM.c dX6_readProject_3 rfl (by decide) rfl ?_
  refine V_iconst (v := 0) hM.c dX6_readProject_4 (by decide) ?_
  refine V_istore_n (i := 3) (L' := [(3, .int (0 : Int32)), (2, .int (0 : Int32)), (1, .int (0 : Int32)), (0, va_rf (some a))]) hM.c dX6_readProject_5 rfl (by decide) rfl ?_
  refine V_sub [3, 2, 1, 0] rfl ?_
  exact vl_X6_readProject_l6 hM hz0  _ _ _ _ _ h
def f_X6_readJoin (n : Nat) (Z : Zt) (a : Nat) (g : Mem) : Option (Int32 × Mem) := grd (zk Z a = 5) (bnd (f_X6_takeDigit n Z a (4 : Int32) g) (fun r1 g2 => if 0 ≤ r1 then (bnd (f_X6_takeDigit n Z a (4 : Int32) g2) (fun r5 g6 => if r5 < 0 then (some ((0 : Int32), g6)) else (bnd (f_X6_take n Z a (40 : Int32) g6) (fun r9 g10 => if r9 = 0 then (some ((0 : Int32), g10)) else (bnd (f_X6_addNode n Z a (4 : Int32) r1 r5 g10) (fun r13 g14 => if r13 = 0 then (some ((0 : Int32), g14)) else (some ((1 : Int32), g14)))))))) else (some ((0 : Int32), g2))))
theorem mq_X6_readJoin : Mq yX6_readJoin cX6_readJoin 3 (some .boolean) 0 := ⟨tw_653, tw_592, ⟨by decide +kernel, by decide +kernel, by decide +kernel⟩, by decide⟩
theorem mi_X6_readJoin : Cond.instanceMethod yX6_readJoin ∈ TB ∧ Cond.selects yX6_readJoin.cls yX6_readJoin yX6_readJoin ∈ TB := ⟨tw_651, tw_652⟩
theorem zc_X6_readJoin {n : Nat} {Z : Zt} {a : Nat} {g : Mem} {q : Int32 × Mem} (h : f_X6_readJoin n Z a g = some q) : zk Z a = 5 := (grd_some h).1
set_option maxHeartbeats 4000000 in
set_option maxRecDepth 100000 in
theorem vm_X6_readJoin {n : Nat} {Z : Zt} {a : Nat} {g : Mem} {rr : Int32} {gg : Mem} (h : f_X6_readJoin n Z a g = some (rr, gg)) : VM yX6_readJoin cX6_readJoin 3 (some .boolean) 3 [.ref a] Z g (some (.int rr)) gg := by
  unfold f_X6_readJoin at h
  replace h := grd_some h
  obtain ⟨hz0, h⟩ := h
  refine VM.of (by decide +kernel) (Nat.le_of_ble_eq_true rfl) (fun x hM => ?_)
  have hM : Cm x cX6_readJoin RX6 3 (some .boolean) 3 Z (some (.int rr)) gg := hM
  show V x Z 0 0 0 [(0, va_rf (some a))] [] g
  refine V_aload_n hM.c 0 dX6_readJoin_0 rfl rfl ?_
  refine V_iconst (v := 4) hM.c dX6_readJoin_1 (by decide) ?_
  replace h := bnd_some h
  obtain ⟨r1, g2, e3, h⟩ := h
  refine V_callV (As := [.int (4 : Int32)]) (c := 4) (T := TX6) (N := 10) hM.c hM.a mq_X6_takeDigit mi_X6_takeDigit tw_634 (hM.d (by decide)) hM.z rfl (by omega) (zc_X6_takeDigit e3) (vm_X6_takeDigit e3) rfl (Nat.le_of_ble_eq_true rfl) dX6_readJoin_2 ?_
  refine V_istore_n (i := 1) (L' := [(1, .int r1), (0, va_rf (some a))]) hM.c dX6_readJoin_5 rfl (by decide) rfl ?_
  refine V_iload_n hM.c 0 dX6_readJoin_6 rfl rfl ?_
  refine V_if_ge hM.c 12 dX6_readJoin_7 (by decide) (fun c4 => ?_) (fun c4 => ?_)
  · replace h := ite_p h c4
    refine V_aload_n hM.c 1 dX6_readJoin_12 rfl rfl ?_
    refine V_iconst (v := 4) hM.c dX6_readJoin_13 (by decide) ?_
    replace h := bnd_some h
    obtain ⟨r5, g6, e7, h⟩ := h
    refine V_callV (As := [.int (4 : Int32)]) (c := 4) (T := TX6) (N := 10) hM.c hM.a mq_X6_takeDigit mi_X6_takeDigit tw_634 (hM.d (by decide)) hM.z rfl (by omega) (zc_X6_takeDigit e7) (vm_X6_takeDigit e7) rfl (Nat.le_of_ble_eq_true rfl) dX6_readJoin_14 ?_
    refine V_istore_n (i := 2) (L' := [(2, .int r5), (1, .int r1), (0, va_rf (some a))]) hM.c dX6_readJoin_17 rfl (by decide) rfl ?_
    refine V_iload_n hM.c 0 dX6_readJoin_18 rfl rfl ?_
    refine V_if_lt hM.c 45 dX6_readJoin_19 (by decide) (fun c8 => ?_) (fun c8 => ?_)
    · replace h := ite_p h c8
      refine V_iconst (v := 0) hM.c dX6_readJoin_45 (by decide) ?_
      exact V_zretE hM (isz_nar (by decide)) h dX6_readJoin_46
    · replace h := ite_n h c8
      refine V_aload_n hM.c 2 dX6_readJoin_22 rfl rfl ?_
      refine V_bipush (v := 40) hM.c dX6_readJoin_23 (by decide) ?_
      replace h := bnd_some h
      obtain ⟨r9, g10, e11, h⟩ := h
      refine V_callV (As := [.int (40 : Int32)]) (c := 4) (T := TX6) (N := 10) hM.c hM.a mq_X6_take mi_X6_take tw_638 (hM.d (by decide)) hM.z rfl (by omega) (zc_X6_take e11) (vm_X6_take e11) rfl (Nat.le_of_ble_eq_true rfl) dX6_readJoin_25 ?_
      refine V_if_eq hM.c 45 dX6_readJoin_28 (by decide) (fun c12 => ?_) (fun c12 => ?_)
      · replace h := ite_p h c12
        refine V_iconst (v := 0) hM.c dX6_readJoin_45 (by decide) ?_
        exact V_zretE hM (isz_nar (by decide)) h dX6_readJoin_46
      · replace h := ite_n h c12
        refine V_aload_n hM.c 2 dX6_readJoin_31 rfl rfl ?_
        refine V_iconst (v := 4) hM.c dX6_readJoin_32 (by decide) ?_
        refine V_iload_n hM.c 1 dX6_readJoin_33 rfl rfl ?_
        refine V_iload_n hM.c 0 dX6_readJoin_34 rfl rfl ?_
        replace h := bnd_some h
        obtain ⟨r13, g14, e15, h⟩ := h
        refine V_callV (As := [.int (4 : Int32), .int r1, .int r5]) (c := 4) (T := TX6) (N := 10) hM.c hM.a mq_X6_addNode mi_X6_addNode tw_620 (hM.d (by decide)) hM.z rfl (by omega) (zc_X6_addNode e15) (vm_X6_addNode e15) rfl (Nat.le_of_ble_eq_true rfl) dX6_readJoin_35 ?_
        refine V_if_eq hM.c 45 dX6_readJoin_38 (by decide) (fun c16 => ?_) (fun c16 => ?_)
        · replace h := ite_p h c16
          refine V_iconst (v := 0) hM.c dX6_readJoin_45 (by decide) ?_
          exact V_zretE hM (isz_nar (by decide)) h dX6_readJoin_46
        · replace h := ite_n h c16
          refine V_iconst (v := 1) hM.c dX6_readJoin_41 (by decide) ?_
          refine V_goto hM.c 46 dX6_readJoin_42 (by decide) ?_
          exact V_zretE hM (isz_nar (by decide)) h dX6_readJoin_46
  · replace h := ite_n h c4
    refine V_iconst (v := 0) hM.c dX6_readJoin_10 (by decide) ?_
    exact V_zretE hM (isz_nar (by decide)) h dX6_readJoin_11
def f_X6_readHead_l38 (n : Nat) (Z : Zt) (a : Nat) (x1 : Int32) (g : Mem) : Option (Int32 × Mem) := if x1 = 106 then (bnd (f_X6_readJoin n Z a (sI g a 7 ((gI g a 7) + (1 : Int32)))) (fun r14 g15 => grd (isz r14) (some (r14, g15)))) else (if x1 = 112 then (bnd (f_X6_readProject n Z a (sI g a 7 ((gI g a 7) + (1 : Int32)))) (fun r18 g19 => grd (isz r18) (some (r18, g19)))) else (if x1 = 115 then (bnd (f_X6_readSelect n Z a (sI g a 7 ((gI g a 7) + (1 : Int32)))) (fun r22 g23 => grd (isz r22) (some (r22, g23)))) else (if x1 = 117 then (bnd (f_X6_take n Z a (40 : Int32) (sI g a 7 ((gI g a 7) + (1 : Int32)))) (fun r26 g27 => if r26 = 0 then (some ((0 : Int32), g27)) else (bnd (f_X6_addNode n Z a (5 : Int32) (0 : Int32) (0 : Int32) g27) (fun r30 g31 => if r30 = 0 then (some ((0 : Int32), g31)) else (some ((1 : Int32), g31)))))) else (some ((0 : Int32), g)))))
set_option maxHeartbeats 4000000 in
set_option maxRecDepth 100000 in
theorem vl_X6_readHead_l38 {x : Cq} {n : Nat} {Z : Zt} {a : Nat} {x1 : Int32} {g : Mem} {rr : Int32} {gg : Mem} (hM : Cm x cX6_readHead RX6 2 (some .boolean) 4 Z (some (.int rr)) gg) (hz0 : zk Z a = 5) (h : f_X6_readHead_l38 n Z a x1 g = some (rr, gg)) : V x Z 0 0 38 [(0, va_rf (some a)), (1, .int x1)] [] g := by
  unfold f_X6_readHead_l38 at h
  refine V_iload_n hM.c 1 dX6_readHead_38 rfl rfl ?_
  by_cases c10 : x1 = 106
  · replace h := ite_p h c10
    refine V_lookK (off := 71) hM.c 110 c10 dX6_readHead_39 (by decide) (by decide +kernel) (by decide) ?_
    refine V_aload_n hM.c 0 dX6_readHead_110 rfl rfl ?_
    refine V_dup hM.c dX6_readHead_111 (rf_cat _) ?_
    refine G4_7 hM.c tw_596 hz0 dX6_readHead_112 ?_
    refine V_iconst (v := 1) hM.c dX6_readHead_115 (by decide) ?_
    refine V_iadd hM.c dX6_readHead_116 ?_
    refine P4_7 hM.c tw_596 hz0 hM.a dX6_readHead_117 ?_
    refine V_aload_n hM.c 0 dX6_readHead_120 rfl rfl ?_
    replace h := bnd_some h
    obtain ⟨r14, g15, e16, h⟩ := h
    refine V_callV (As := []) (c := 4) (T := TX6) (N := 10) hM.c hM.a mq_X6_readJoin mi_X6_readJoin tw_650 (hM.d (by decide)) hM.z rfl (by omega) (zc_X6_readJoin e16) (vm_X6_readJoin e16) rfl (Nat.le_of_ble_eq_true rfl) dX6_readHead_121 ?_
    replace h := grd_some h
    obtain ⟨c17, h⟩ := h
    exact V_zretE hM (isz_nar c17) h dX6_readHead_124
  replace h := ite_n h c10
  by_cases c11 : x1 = 112
  · replace h := ite_p h c11
    refine V_lookK (off := 56) hM.c 95 c11 dX6_readHead_39 (by decide) (by decide +kernel) (by decide) ?_
    refine V_aload_n hM.c 0 dX6_readHead_95 rfl rfl ?_
    refine V_dup hM.c dX6_readHead_96 (rf_cat _) ?_
    refine G4_7 hM.c tw_596 hz0 dX6_readHead_97 ?_
    refine V_iconst (v := 1) hM.c dX6_readHead_100 (by decide) ?_
    refine V_iadd hM.c dX6_readHead_101 ?_
    refine P4_7 hM.c tw_596 hz0 hM.a dX6_readHead_102 ?_
    refine V_aload_n hM.c 0 dX6_readHead_105 rfl rfl ?_
    replace h := bnd_some h
    obtain ⟨r18, g19, e20, h⟩ := h
    refine V_callV (As := []) (c := 4) (T := TX6) (N := 10) hM.c hM.a mq_X6_readProject mi_X6_readProject tw_642 (hM.d (by decide)) hM.z rfl (by omega) (zc_X6_readProject e20) (vm_X6_readProject e20) rfl (Nat.le_of_ble_eq_true rfl) dX6_readHead_106 ?_
    replace h := grd_some h
    obtain ⟨c21, h⟩ := h
    exact V_zretE hM (isz_nar c21) h dX6_readHead_109
  replace h := ite_n h c11
  by_cases c12 : x1 = 115
  · replace h := ite_p h c12
    refine V_lookK (off := 41) hM.c 80 c12 dX6_readHead_39 (by decide) (by decide +kernel) (by decide) ?_
    refine V_aload_n hM.c 0 dX6_readHead_80 rfl rfl ?_
    refine V_dup hM.c dX6_readHead_81 (rf_cat _) ?_
    refine G4_7 hM.c tw_596 hz0 dX6_readHead_82 ?_
    refine V_iconst (v := 1) hM.c dX6_readHead_85 (by decide) ?_
    refine V_iadd hM.c dX6_readHead_86 ?_
    refine P4_7 hM.c tw_596 hz0 hM.a dX6_readHead_87 ?_
    refine V_aload_n hM.c 0 dX6_readHead_90 rfl rfl ?_
    replace h := bnd_some h
    obtain ⟨r22, g23, e24, h⟩ := h
    refine V_callV (As := []) (c := 4) (T := TX6) (N := 10) hM.c hM.a mq_X6_readSelect mi_X6_readSelect tw_630 (hM.d (by decide)) hM.z rfl (by omega) (zc_X6_readSelect e24) (vm_X6_readSelect e24) rfl (Nat.le_of_ble_eq_true rfl) dX6_readHead_91 ?_
    replace h := grd_some h
    obtain ⟨c25, h⟩ := h
    exact V_zretE hM (isz_nar c25) h dX6_readHead_94
  replace h := ite_n h c12
  by_cases c13 : x1 = 117
  · replace h := ite_p h c13
    refine V_lookK (off := 86) hM.c 125 c13 dX6_readHead_39 (by decide) (by decide +kernel) (by decide) ?_
    refine V_aload_n hM.c 0 dX6_readHead_125 rfl rfl ?_
    refine V_dup hM.c dX6_readHead_126 (rf_cat _) ?_
    refine G4_7 hM.c tw_596 hz0 dX6_readHead_127 ?_
    refine V_iconst (v := 1) hM.c dX6_readHead_130 (by decide) ?_
    refine V_iadd hM.c dX6_readHead_131 ?_
    refine P4_7 hM.c tw_596 hz0 hM.a dX6_readHead_132 ?_
    refine V_aload_n hM.c 0 dX6_readHead_135 rfl rfl ?_
    refine V_bipush (v := 40) hM.c dX6_readHead_136 (by decide) ?_
    replace h := bnd_some h
    obtain ⟨r26, g27, e28, h⟩ := h
    refine V_callV (As := [.int (40 : Int32)]) (c := 4) (T := TX6) (N := 10) hM.c hM.a mq_X6_take mi_X6_take tw_638 (hM.d (by decide)) hM.z rfl (by omega) (zc_X6_take e28) (vm_X6_take e28) rfl (Nat.le_of_ble_eq_true rfl) dX6_readHead_138 ?_
    refine V_if_eq hM.c 158 dX6_readHead_141 (by decide) (fun c29 => ?_) (fun c29 => ?_)
    · replace h := ite_p h c29
      refine V_iconst (v := 0) hM.c dX6_readHead_158 (by decide) ?_
      exact V_zretE hM (isz_nar (by decide)) h dX6_readHead_159
    · replace h := ite_n h c29
      refine V_aload_n hM.c 0 dX6_readHead_144 rfl rfl ?_
      refine V_iconst (v := 5) hM.c dX6_readHead_145 (by decide) ?_
      refine V_iconst (v := 0) hM.c dX6_readHead_146 (by decide) ?_
      refine V_iconst (v := 0) hM.c dX6_readHead_147 (by decide) ?_
      replace h := bnd_some h
      obtain ⟨r30, g31, e32, h⟩ := h
      refine V_callV (As := [.int (5 : Int32), .int (0 : Int32), .int (0 : Int32)]) (c := 4) (T := TX6) (N := 10) hM.c hM.a mq_X6_addNode mi_X6_addNode tw_620 (hM.d (by decide)) hM.z rfl (by omega) (zc_X6_addNode e32) (vm_X6_addNode e32) rfl (Nat.le_of_ble_eq_true rfl) dX6_readHead_148 ?_
      refine V_if_eq hM.c 158 dX6_readHead_151 (by decide) (fun c33 => ?_) (fun c33 => ?_)
      · replace h := ite_p h c33
        refine V_iconst (v := 0) hM.c dX6_readHead_158 (by decide) ?_
        exact V_zretE hM (isz_nar (by decide)) h dX6_readHead_159
      · replace h := ite_n h c33
        refine V_iconst (v := 1) hM.c dX6_readHead_154 (by decide) ?_
        refine V_goto hM.c 159 dX6_readHead_155 (by decide) ?_
        exact V_zretE hM (isz_nar (by decide)) h dX6_readHead_159
  replace h := ite_n h c13
  refine V_lookD hM.c 160 dX6_readHead_39 (by decide) ((lv_osw c10 (by decide)).trans ((lv_osw c11 (by decide)).trans ((lv_osw c12 (by decide)).trans ((lv_osw c13 (by decide)).trans (rfl))))) (by decide) ?_
  refine V_iconst (v := 0) hM.c dX6_readHead_160 (by decide) ?_
  exact V_zretE hM (isz_nar (by decide)) h dX6_readHead_161
def f_X6_readHead (n : Nat) (Z : Zt) (a : Nat) (g : Mem) : Option (Int32 × Mem) := grd (zk Z a = 5) (bnd (f_X6_nextCode n Z a g) (fun r1 g2 => if r1 < (65 : Int32) then (f_X6_readHead_l38 n Z a r1 g2) else (if (69 : Int32) ≤ r1 then (f_X6_readHead_l38 n Z a r1 g2) else (bnd (f_X6_addNode n Z a (0 : Int32) (r1 - (65 : Int32)) (0 : Int32) (sI g2 a 7 ((gI g2 a 7) + (1 : Int32)))) (fun r6 g7 => grd (isz r6) (some (r6, g7)))))))
theorem mq_X6_readHead : Mq yX6_readHead cX6_readHead 2 (some .boolean) 0 := ⟨tw_611, tw_592, ⟨by decide +kernel, by decide +kernel, by decide +kernel⟩, by decide⟩
theorem mi_X6_readHead : Cond.instanceMethod yX6_readHead ∈ TB ∧ Cond.selects yX6_readHead.cls yX6_readHead yX6_readHead ∈ TB := ⟨tw_609, tw_610⟩
theorem zc_X6_readHead {n : Nat} {Z : Zt} {a : Nat} {g : Mem} {q : Int32 × Mem} (h : f_X6_readHead n Z a g = some q) : zk Z a = 5 := (grd_some h).1
set_option maxHeartbeats 4000000 in
set_option maxRecDepth 100000 in
theorem vm_X6_readHead {n : Nat} {Z : Zt} {a : Nat} {g : Mem} {rr : Int32} {gg : Mem} (h : f_X6_readHead n Z a g = some (rr, gg)) : VM yX6_readHead cX6_readHead 2 (some .boolean) 4 [.ref a] Z g (some (.int rr)) gg := by
  unfold f_X6_readHead at h
  replace h := grd_some h
  obtain ⟨hz0, h⟩ := h
  refine VM.of (by decide +kernel) (Nat.le_of_ble_eq_true rfl) (fun x hM => ?_)
  have hM : Cm x cX6_readHead RX6 2 (some .boolean) 4 Z (some (.int rr)) gg := hM
  show V x Z 0 0 0 [(0, va_rf (some a))] [] g
  refine V_aload_n hM.c 0 dX6_readHead_0 rfl rfl ?_
  replace h := bnd_some h
  obtain ⟨r1, g2, e3, h⟩ := h
  refine V_callV (As := []) (c := 4) (T := TX6) (N := 10) hM.c hM.a mq_X6_nextCode mi_X6_nextCode tw_612 (hM.d (by decide)) hM.z rfl (by omega) (zc_X6_nextCode e3) (vm_X6_nextCode e3) rfl (Nat.le_of_ble_eq_true rfl) dX6_readHead_1 ?_
  refine V_istore_n (i := 1) (L' := [(1, .int r1), (0, va_rf (some a))]) hM.c dX6_readHead_4 rfl (by decide) rfl ?_
  refine V_iload_n hM.c 0 dX6_readHead_5 rfl rfl ?_
  refine V_bipush (v := 65) hM.c dX6_readHead_6 (by decide) ?_
  refine V_icmp_lt hM.c 38 dX6_readHead_8 (by decide) (fun c4 => ?_) (fun c4 => ?_)
  · replace h := ite_p h c4
    refine V_sub [1, 0] rfl ?_
    exact vl_X6_readHead_l38 hM hz0  h
  · replace h := ite_n h c4
    refine V_iload_n hM.c 0 dX6_readHead_11 rfl rfl ?_
    refine V_bipush (v := 69) hM.c dX6_readHead_12 (by decide) ?_
    refine V_icmp_ge hM.c 38 dX6_readHead_14 (by decide) (fun c5 => ?_) (fun c5 => ?_)
    · replace h := ite_p h c5
      refine V_sub [1, 0] rfl ?_
      exact vl_X6_readHead_l38 hM hz0  h
    · replace h := ite_n h c5
      refine V_aload_n hM.c 1 dX6_readHead_17 rfl rfl ?_
      refine V_dup hM.c dX6_readHead_18 (rf_cat _) ?_
      refine G4_7 hM.c tw_596 hz0 dX6_readHead_19 ?_
      refine V_iconst (v := 1) hM.c dX6_readHead_22 (by decide) ?_
      refine V_iadd hM.c dX6_readHead_23 ?_
      refine P4_7 hM.c tw_596 hz0 hM.a dX6_readHead_24 ?_
      refine V_aload_n hM.c 1 dX6_readHead_27 rfl rfl ?_
      refine V_iconst (v := 0) hM.c dX6_readHead_28 (by decide) ?_
      refine V_iload_n hM.c 0 dX6_readHead_29 rfl rfl ?_
      refine V_bipush (v := 65) hM.c dX6_readHead_30 (by decide) ?_
      refine V_isub hM.c dX6_readHead_32 ?_
      refine V_iconst (v := 0) hM.c dX6_readHead_33 (by decide) ?_
      replace h := bnd_some h
      obtain ⟨r6, g7, e8, h⟩ := h
      refine V_callV (As := [.int (0 : Int32), .int (r1 - (65 : Int32)), .int (0 : Int32)]) (c := 4) (T := TX6) (N := 10) hM.c hM.a mq_X6_addNode mi_X6_addNode tw_620 (hM.d (by decide)) hM.z rfl (by omega) (zc_X6_addNode e8) (vm_X6_addNode e8) rfl (Nat.le_of_ble_eq_true rfl) dX6_readHead_34 ?_
      replace h := grd_some h
      obtain ⟨c9, h⟩ := h
      exact V_zretE hM (isz_nar c9) h dX6_readHead_37
def f_X6_read_l107 (n : Nat) (Z : Zt) (a : Nat) (s0 : Nat) (g : Mem) : Option (Int32 × Mem) := grd (zk Z s0 = 5) (grd (isz (gI (sI g s0 9 (0 : Int32)) a 9)) (some ((gI (sI g s0 9 (0 : Int32)) a 9), (sI g s0 9 (0 : Int32)))))
set_option maxHeartbeats 4000000 in
set_option maxRecDepth 100000 in
theorem vl_X6_read_l107 {x : Cq} {n : Nat} {Z : Zt} {a : Nat} {s0 : Nat} {g : Mem} {rr : Int32} {gg : Mem} (hM : Cm x cX6_read RX6 5 (some .boolean) 5 Z (some (.int rr)) gg) (hz0 : zk Z a = 5) (h : f_X6_read_l107 n Z a s0 g = some (rr, gg)) : V x Z 0 0 107 [(0, va_rf (some a))] [va_rf (some s0)] g := by
  unfold f_X6_read_l107 at h
  refine V_iconst (v := 0) hM.c dX6_read_107 (by decide) ?_
  replace h := grd_some h
  obtain ⟨z24, h⟩ := h
  refine P4_9 hM.c tw_598 z24 (by decide) hM.a dX6_read_108 ?_
  refine V_aload_n hM.c 0 dX6_read_111 rfl rfl ?_
  refine G4_9 hM.c tw_598 hz0 dX6_read_112 ?_
  replace h := grd_some h
  obtain ⟨c25, h⟩ := h
  exact V_zretE hM (isz_nar c25) h dX6_read_115
def f_X6_read_l80 (n : Nat) (Z : Zt) (a : Nat) (x1 : Nat) (x2 : Int32) (g : Mem) : Option (Int32 × Mem) := if x2 = 0 then (f_X6_read_l107 n Z a a g) else (if (gI g a 8) = 0 then (bnd (f_X3_length n Z x1 g) (fun r19 g20 => if (gI g a 7) = r19 then (grd (isz (gI (sI g20 a 9 (1 : Int32)) a 9)) (some ((gI (sI g20 a 9 (1 : Int32)) a 9), (sI g20 a 9 (1 : Int32))))) else (f_X6_read_l107 n Z a a g20))) else (f_X6_read_l107 n Z a a g))
set_option maxHeartbeats 4000000 in
set_option maxRecDepth 100000 in
theorem vl_X6_read_l80 {x : Cq} {n : Nat} {Z : Zt} {a : Nat} {x1 : Nat} {x2 : Int32} {g : Mem} {rr : Int32} {gg : Mem} (hM : Cm x cX6_read RX6 5 (some .boolean) 5 Z (some (.int rr)) gg) (hz0 : zk Z a = 5) (h : f_X6_read_l80 n Z a x1 x2 g = some (rr, gg)) : V x Z 0 0 80 [(0, va_rf (some a)), (1, va_rf (some x1)), (2, .int x2)] [] g := by
  unfold f_X6_read_l80 at h
  refine V_aload_n hM.c 0 dX6_read_80 rfl rfl ?_
  refine V_iload_n hM.c 2 dX6_read_81 rfl rfl ?_
  refine V_if_eq hM.c 107 dX6_read_82 (by decide) (fun c17 => ?_) (fun c17 => ?_)
  · replace h := ite_p h c17
    refine V_sub [0] rfl ?_
    exact vl_X6_read_l107 hM hz0  h
  · replace h := ite_n h c17
    refine V_aload_n hM.c 0 dX6_read_85 rfl rfl ?_
    refine G4_8 hM.c tw_597 hz0 dX6_read_86 ?_
    refine V_if_ne hM.c 107 dX6_read_89 (by decide) (fun c18 => ?_) (fun c18 => ?_)
    · replace h := ite_n h c18
      refine V_sub [0] rfl ?_
      exact vl_X6_read_l107 hM hz0  h
    · replace h := ite_p h c18
      refine V_aload_n hM.c 0 dX6_read_92 rfl rfl ?_
      refine G4_7 hM.c tw_596 hz0 dX6_read_93 ?_
      refine V_aload_n hM.c 1 dX6_read_96 rfl rfl ?_
      replace h := bnd_some h
      obtain ⟨r19, g20, e21, h⟩ := h
      refine V_callV (As := []) (c := 2) (T := TX3) (N := 2) hM.c hM.a mq_X3_length mi_X3_length tw_654 (hM.d (by decide)) hM.z rfl (by omega) (zc_X3_length e21) (vm_X3_length e21) rfl (Nat.le_of_ble_eq_true rfl) dX6_read_97 ?_
      refine V_icmp_ne hM.c 107 dX6_read_100 (by decide) (fun c22 => ?_) (fun c22 => ?_)
      · replace h := ite_n h c22
        refine V_sub [0] rfl ?_
        exact vl_X6_read_l107 hM hz0  h
      · replace h := ite_p h c22
        refine V_iconst (v := 1) hM.c dX6_read_103 (by decide) ?_
        refine V_goto hM.c 108 dX6_read_104 (by decide) ?_
        refine P4_9 hM.c tw_598 hz0 (by decide) hM.a dX6_read_108 ?_
        refine V_aload_n hM.c 0 dX6_read_111 rfl rfl ?_
        refine G4_9 hM.c tw_598 hz0 dX6_read_112 ?_
        replace h := grd_some h
        obtain ⟨c23, h⟩ := h
        exact V_zretE hM (isz_nar c23) h dX6_read_115
def f_X6_read_l30 (n : Nat) (Z : Zt) (a : Nat) : Nat → Nat → Int32 → Int32 → Mem → Option (Int32 × Mem)
  | 0, _, _, _, _ => none
  | fu + 1, x1, x2, x3, g => if (60 : Int32) < x3 then (f_X6_read_l80 n Z a x1 x2 g) else (if x2 = 0 then (f_X6_read_l80 n Z a x1 x2 g) else (if (gI g a 8) ≤ 0 then (f_X6_read_l80 n Z a x1 x2 g) else (bnd (f_X6_pop n Z a g) (fun r7 g8 => if r7 = (113 : Int32) then (bnd (f_X6_readHead n Z a g8) (fun r14 g15 => f_X6_read_l30 n Z a fu x1 r14 (x3 + 1) g15)) else (bnd (f_X6_take n Z a r7 g8) (fun r11 g12 => f_X6_read_l30 n Z a fu x1 r11 (x3 + 1) g12))))))
set_option maxHeartbeats 4000000 in
set_option maxRecDepth 100000 in
theorem vl_X6_read_l30 {x : Cq} {n : Nat} {Z : Zt} {a : Nat} {rr : Int32} {gg : Mem} (hM : Cm x cX6_read RX6 5 (some .boolean) 5 Z (some (.int rr)) gg) (hz0 : zk Z a = 5) : ∀ (fu : Nat) (x1 : Nat) (x2 : Int32) (x3 : Int32) (g : Mem), f_X6_read_l30 n Z a fu x1 x2 x3 g = some (rr, gg) → V x Z 0 0 30 [(0, va_rf (some a)), (1, va_rf (some x1)), (2, .int x2), (3, .int x3)] [] g := by
  intro fu
  induction fu with
  | zero => intro x1 x2 x3 g h; cases h
  | succ fu ih =>
    intro x1 x2 x3 g h
    unfold f_X6_read_l30 at h
    refine V_iload_n hM.c 3 dX6_read_30 rfl rfl ?_
    refine V_bipush (v := 60) hM.c dX6_read_31 (by decide) ?_
    refine V_icmp_gt hM.c 80 dX6_read_33 (by decide) (fun c4 => ?_) (fun c4 => ?_)
    · replace h := ite_p h c4
      refine V_sub [0, 1, 2] rfl ?_
      exact vl_X6_read_l80 hM hz0  h
    · replace h := ite_n h c4
      refine V_iload_n hM.c 2 dX6_read_36 rfl rfl ?_
      refine V_if_eq hM.c 80 dX6_read_37 (by decide) (fun c5 => ?_) (fun c5 => ?_)
      · replace h := ite_p h c5
        refine V_sub [0, 1, 2] rfl ?_
        exact vl_X6_read_l80 hM hz0  h
      · replace h := ite_n h c5
        refine V_aload_n hM.c 0 dX6_read_40 rfl rfl ?_
        refine G4_8 hM.c tw_597 hz0 dX6_read_41 ?_
        refine V_if_le hM.c 80 dX6_read_44 (by decide) (fun c6 => ?_) (fun c6 => ?_)
        · replace h := ite_p h c6
          refine V_sub [0, 1, 2] rfl ?_
          exact vl_X6_read_l80 hM hz0  h
        · replace h := ite_n h c6
          refine V_aload_n hM.c 0 dX6_read_47 rfl rfl ?_
          replace h := bnd_some h
          obtain ⟨r7, g8, e9, h⟩ := h
          refine V_callV (As := []) (c := 4) (T := TX6) (N := 10) hM.c hM.a mq_X6_pop mi_X6_pop tw_604 (hM.d (by decide)) hM.z rfl (by omega) (zc_X6_pop e9) (vm_X6_pop e9) rfl (Nat.le_of_ble_eq_true rfl) dX6_read_48 ?_
          refine V_istore (L' := [(4, .int r7), (0, va_rf (some a)), (1, va_rf (some x1)), (2, .int x2), (3, .int x3)]) hM.c dX6_read_51 (by decide) rfl ?_
          refine V_iload hM.c 0 dX6_read_53 rfl ?_
          refine V_bipush (v := 113) hM.c dX6_read_55 (by decide) ?_
          refine V_icmp_ne hM.c 67 dX6_read_57 (by decide) (fun c10 => ?_) (fun c10 => ?_)
          · replace h := ite_n h c10
            refine V_aload_n hM.c 1 dX6_read_67 rfl rfl ?_
            refine V_iload hM.c 0 dX6_read_68 rfl ?_
            replace h := bnd_some h
            obtain ⟨r11, g12, e13, h⟩ := h
            refine V_callV (As := [.int r7]) (c := 4) (T := TX6) (N := 10) hM.c hM.a mq_X6_take mi_X6_take tw_638 (hM.d (by decide)) hM.z rfl (by omega) (zc_X6_take e13) (vm_X6_take e13) rfl (Nat.le_of_ble_eq_true rfl) dX6_read_70 ?_
            refine V_istore_n (i := 2) (L' := [(2, .int r11), (4, .int r7), (0, va_rf (some a)), (1, va_rf (some x1)), (3, .int x3)]) hM.c dX6_read_73 rfl (by decide) rfl ?_
            refine V_iinc (v := (x3 + 1)) (L' := [(3, .int (x3 + 1)), (2, .int r11), (4, .int r7), (0, va_rf (some a)), (1, va_rf (some x1))]) hM.c 4 dX6_read_74 rfl rfl (by decide) rfl ?_
            refine V_goto hM.c 30 dX6_read_77 (by decide) ?_
            refine V_sub [3, 4, 1, 0] rfl ?_
            exact ih _ _ _ _ h
          · replace h := ite_p h c10
            refine V_aload_n hM.c 1 dX6_read_60 rfl rfl ?_
            replace h := bnd_some h
            obtain ⟨r14, g15, e16, h⟩ := h
            refine V_callV (As := []) (c := 4) (T := TX6) (N := 10) hM.c hM.a mq_X6_readHead mi_X6_readHead tw_608 (hM.d (by decide)) hM.z rfl (by omega) (zc_X6_readHead e16) (vm_X6_readHead e16) rfl (Nat.le_of_ble_eq_true rfl) dX6_read_61 ?_
            refine V_goto hM.c 73 dX6_read_64 (by decide) ?_
            refine V_istore_n (i := 2) (L' := [(2, .int r14), (4, .int r7), (0, va_rf (some a)), (1, va_rf (some x1)), (3, .int x3)]) hM.c dX6_read_73 rfl (by decide) rfl ?_
            refine V_iinc (v := (x3 + 1)) (L' := [(3, .int (x3 + 1)), (2, .int r14), (4, .int r7), (0, va_rf (some a)), (1, va_rf (some x1))]) hM.c 4 dX6_read_74 rfl rfl (by decide) rfl ?_
            refine V_goto hM.c 30 dX6_read_77 (by decide) ?_
            refine V_sub [3, 4, 1, 0] rfl ?_
            exact ih _ _ _ _ h
def f_X6_read (n : Nat) (Z : Zt) (a : Nat) (x1 : Nat) (g : Mem) : Option (Int32 × Mem) := grd (zk Z a = 5) (bnd (f_X6_push n Z a (113 : Int32) (sI (sI (sI (sP g a 5 (some x1)) a 6 (0 : Int32)) a 7 (0 : Int32)) a 8 (0 : Int32))) (fun r1 g2 => f_X6_read_l30 n Z a n x1 (1 : Int32) (0 : Int32) g2))
theorem mq_X6_read : Mq yX6_read cX6_read 5 (some .boolean) 1 := ⟨tw_593, tw_592, ⟨by decide +kernel, by decide +kernel, by decide +kernel⟩, by decide⟩
theorem mi_X6_read : Cond.instanceMethod yX6_read ∈ TB ∧ Cond.selects yX6_read.cls yX6_read yX6_read ∈ TB := ⟨tw_590, tw_591⟩
theorem zc_X6_read {n : Nat} {Z : Zt} {a : Nat} {x1 : Nat} {g : Mem} {q : Int32 × Mem} (h : f_X6_read n Z a x1 g = some q) : zk Z a = 5 := (grd_some h).1
set_option maxHeartbeats 4000000 in
set_option maxRecDepth 100000 in
theorem vm_X6_read {n : Nat} {Z : Zt} {a : Nat} {x1 : Nat} {g : Mem} {rr : Int32} {gg : Mem} (h : f_X6_read n Z a x1 g = some (rr, gg)) : VM yX6_read cX6_read 5 (some .boolean) 5 [.ref a, va_rf (some x1)] Z g (some (.int rr)) gg := by
  unfold f_X6_read at h
  replace h := grd_some h
  obtain ⟨hz0, h⟩ := h
  refine VM.of (by decide +kernel) (Nat.le_of_ble_eq_true rfl) (fun x hM => ?_)
  have hM : Cm x cX6_read RX6 5 (some .boolean) 5 Z (some (.int rr)) gg := hM
  show V x Z 0 0 0 [(0, va_rf (some a)), (1, va_rf (some x1))] [] g
  refine V_aload_n hM.c 0 dX6_read_0 rfl rfl ?_
  refine V_aload_n hM.c 1 dX6_read_1 rfl rfl ?_
  refine P4_5 hM.c tw_594 hz0 hM.a dX6_read_2 ?_
  refine V_aload_n hM.c 0 dX6_read_5 rfl rfl ?_
  refine V_iconst (v := 0) hM.c dX6_read_6 (by decide) ?_
  refine P4_6 hM.c tw_595 hz0 hM.a dX6_read_7 ?_
  refine V_aload_n hM.c 0 dX6_read_10 rfl rfl ?_
  refine V_iconst (v := 0) hM.c dX6_read_11 (by decide) ?_
  refine P4_7 hM.c tw_596 hz0 hM.a dX6_read_12 ?_
  refine V_aload_n hM.c 0 dX6_read_15 rfl rfl ?_
  refine V_iconst (v := 0) hM.c dX6_read_16 (by decide) ?_
  refine P4_8 hM.c tw_597 hz0 hM.a dX6_read_17 ?_
  refine V_aload_n hM.c 0 dX6_read_20 rfl rfl ?_
  refine V_bipush (v := 113) hM.c dX6_read_21 (by decide) ?_
  replace h := bnd_some h
  obtain ⟨r1, g2, e3, h⟩ := h
  refine V_callV (As := [.int (113 : Int32)]) (c := 4) (T := TX6) (N := 10) hM.c hM.a mq_X6_push mi_X6_push tw_599 (hM.d (by decide)) hM.z rfl (by omega) (zc_X6_push e3) (vm_X6_push e3) rfl (Nat.le_of_ble_eq_true rfl) dX6_read_23 ?_
  refine V_iconst (v := 1) hM.c dX6_read_26 (by decide) ?_
  refine V_istore_n (i := 2) (L' := [(2, .int (1 : Int32)), (0, va_rf (some a)), (1, va_rf (some x1))]) hM.c dX6_read_27 rfl (by decide) rfl ?_
  refine V_iconst (v := 0) hM.c dX6_read_28 (by decide) ?_
  refine V_istore_n (i := 3) (L' := [(3, .int (0 : Int32)), (2, .int (1 : Int32)), (0, va_rf (some a)), (1, va_rf (some x1))]) hM.c dX6_read_29 rfl (by decide) rfl ?_
  refine V_sub [2, 3, 1, 0] rfl ?_
  exact vl_X6_read_l30 hM hz0  _ _ _ _ _ h
def f_X6_namesColumnsBelow_l2 (n : Nat) (Z : Zt) : Nat → Int32 → Int32 → Int32 → Int32 → Mem → Option (Int32 × Mem)
  | 0, _, _, _, _, _ => none
  | fu + 1, x0, x1, x2, x3, g => if x1 ≤ x3 then (some ((1 : Int32), g)) else (if (4 : Int32) ≤ x3 then (some ((1 : Int32), g)) else (bnd (f_X2_digit n Z x2 x1 x3 g) (fun r3 g4 => if r3 < x0 then (f_X6_namesColumnsBelow_l2 n Z fu x0 x1 x2 (x3 + 1) g4) else (some ((0 : Int32), g4)))))
set_option maxHeartbeats 4000000 in
set_option maxRecDepth 100000 in
theorem vl_X6_namesColumnsBelow_l2 {x : Cq} {n : Nat} {Z : Zt} {rr : Int32} {gg : Mem} (hM : Cm x cX6_namesColumnsBelow RX6 4 (some .boolean) 1 Z (some (.int rr)) gg) : ∀ (fu : Nat) (x0 : Int32) (x1 : Int32) (x2 : Int32) (x3 : Int32) (g : Mem), f_X6_namesColumnsBelow_l2 n Z fu x0 x1 x2 x3 g = some (rr, gg) → V x Z 0 0 2 [(0, .int x0), (1, .int x1), (2, .int x2), (3, .int x3)] [] g := by
  intro fu
  induction fu with
  | zero => intro x0 x1 x2 x3 g h; cases h
  | succ fu ih =>
    intro x0 x1 x2 x3 g h
    unfold f_X6_namesColumnsBelow_l2 at h
    refine V_iload_n hM.c 3 dX6_namesColumnsBelow_2 rfl rfl ?_
    refine V_iload_n hM.c 1 dX6_namesColumnsBelow_3 rfl rfl ?_
    refine V_icmp_ge hM.c 30 dX6_namesColumnsBelow_4 (by decide) (fun c1 => ?_) (fun c1 => ?_)
    · replace h := ite_p h c1
      refine V_iconst (v := 1) hM.c dX6_namesColumnsBelow_30 (by decide) ?_
      exact V_zretE hM (isz_nar (by decide)) h dX6_namesColumnsBelow_31
    · replace h := ite_n h c1
      refine V_iload_n hM.c 3 dX6_namesColumnsBelow_7 rfl rfl ?_
      refine V_iconst (v := 4) hM.c dX6_namesColumnsBelow_8 (by decide) ?_
      refine V_icmp_ge hM.c 30 dX6_namesColumnsBelow_9 (by decide) (fun c2 => ?_) (fun c2 => ?_)
      · replace h := ite_p h c2
        refine V_iconst (v := 1) hM.c dX6_namesColumnsBelow_30 (by decide) ?_
        exact V_zretE hM (isz_nar (by decide)) h dX6_namesColumnsBelow_31
      · replace h := ite_n h c2
        refine V_iload_n hM.c 2 dX6_namesColumnsBelow_12 rfl rfl ?_
        refine V_iload_n hM.c 1 dX6_namesColumnsBelow_13 rfl rfl ?_
        refine V_iload_n hM.c 3 dX6_namesColumnsBelow_14 rfl rfl ?_
        replace h := bnd_some h
        obtain ⟨r3, g4, e5, h⟩ := h
        refine V_callS (As := [.int x2, .int x1, .int x3]) hM.c hM.a mq_X2_digit mi_X2_digit tw_701 (hM.d (by decide)) hM.z (vm_X2_digit e5) rfl (Nat.le_of_ble_eq_true rfl) dX6_namesColumnsBelow_15 ?_
        refine V_iload_n hM.c 0 dX6_namesColumnsBelow_18 rfl rfl ?_
        refine V_icmp_lt hM.c 24 dX6_namesColumnsBelow_19 (by decide) (fun c6 => ?_) (fun c6 => ?_)
        · replace h := ite_p h c6
          refine V_iinc (v := (x3 + 1)) (L' := [(3, .int (x3 + 1)), (0, .int x0), (1, .int x1), (2, .int x2)]) hM.c 3 dX6_namesColumnsBelow_24 rfl rfl (by decide) rfl ?_
          refine V_goto hM.c 2 dX6_namesColumnsBelow_27 (by decide) ?_
          refine V_sub [1, 2, 3, 0] rfl ?_
          exact ih _ _ _ _ _ h
        · replace h := ite_n h c6
          refine V_iconst (v := 0) hM.c dX6_namesColumnsBelow_22 (by decide) ?_
          exact V_zretE hM (isz_nar (by decide)) h dX6_namesColumnsBelow_23
def f_X6_namesColumnsBelow (n : Nat) (Z : Zt) (x0 : Int32) (x1 : Int32) (x2 : Int32) (g : Mem) : Option (Int32 × Mem) := f_X6_namesColumnsBelow_l2 n Z n x0 x1 x2 (0 : Int32) g
theorem mq_X6_namesColumnsBelow : Mq yX6_namesColumnsBelow cX6_namesColumnsBelow 4 (some .boolean) 3 := ⟨tw_700, tw_592, ⟨by decide +kernel, by decide +kernel, by decide +kernel⟩, by decide⟩
theorem mi_X6_namesColumnsBelow : Cond.static yX6_namesColumnsBelow ∈ TB := tw_699
set_option maxHeartbeats 4000000 in
set_option maxRecDepth 100000 in
theorem vm_X6_namesColumnsBelow {n : Nat} {Z : Zt} {x0 : Int32} {x1 : Int32} {x2 : Int32} {g : Mem} {rr : Int32} {gg : Mem} (h : f_X6_namesColumnsBelow n Z x0 x1 x2 g = some (rr, gg)) : VM yX6_namesColumnsBelow cX6_namesColumnsBelow 4 (some .boolean) 1 [.int x0, .int x1, .int x2] Z g (some (.int rr)) gg := by
  unfold f_X6_namesColumnsBelow at h
  refine VM.of (by decide +kernel) (Nat.le_of_ble_eq_true rfl) (fun x hM => ?_)
  have hM : Cm x cX6_namesColumnsBelow RX6 4 (some .boolean) 1 Z (some (.int rr)) gg := hM
  show V x Z 0 0 0 [(0, .int x0), (1, .int x1), (2, .int x2)] [] g
  refine V_iconst (v := 0) hM.c dX6_namesColumnsBelow_0 (by decide) ?_
  refine V_istore_n (i := 3) (L' := [(3, .int (0 : Int32)), (0, .int x0), (1, .int x1), (2, .int x2)]) hM.c dX6_namesColumnsBelow_1 rfl (by decide) rfl ?_
  refine V_sub [1, 2, 3, 0] rfl ?_
  exact vl_X6_namesColumnsBelow_l2 hM  _ _ _ _ _ _ h
def f_X6_widthOfNode (n : Nat) (Z : Zt) (a : Nat) (x1 : Int32) (x2 : Int32) (x3 : Int32) (x4 : Nat) (g : Mem) : Option (Int32 × Mem) := grd (zk Z a = 5) (bnd (f_X6_firstAt n Z a x1 g) (fun r1 g2 => bnd (f_X6_secondAt n Z a x1 g2) (fun r4 g5 => bnd (f_X6_kindAt n Z a x1 g5) (fun r7 g8 => if r7 = 0 then (bnd (f_X8_widthOf n Z x4 r1 g8) (fun r16 g17 => some (r16, g17))) else (if r7 = 1 then (if x2 ≤ r1 then (some ((0 : Int32), g8)) else (some (x2, g8))) else (if r7 = 2 then (if x2 ≤ r1 then (some ((0 : Int32), g8)) else (if x2 ≤ r4 then (some ((0 : Int32), g8)) else (some (x2, g8)))) else (if r7 = 3 then (bnd (f_X6_namesColumnsBelow n Z x2 r1 r4 g8) (fun r22 g23 => if r22 = 0 then (some ((0 : Int32), g23)) else (some (r1, g23)))) else (if r7 = 4 then (if x2 ≤ r1 then (some ((0 : Int32), g8)) else (if x3 ≤ r4 then (some ((0 : Int32), g8)) else (some ((x2 + x3), g8)))) else (if r7 = 5 then (if x2 = x3 then (some (x2, g8)) else (some ((0 : Int32), g8))) else (some ((0 : Int32), g8)))))))))))
theorem mq_X6_widthOfNode : Mq yX6_widthOfNode cX6_widthOfNode 7 (some .int) 4 := ⟨tw_674, tw_592, ⟨by decide +kernel, by decide +kernel, by decide +kernel⟩, by decide⟩
theorem mi_X6_widthOfNode : Cond.instanceMethod yX6_widthOfNode ∈ TB ∧ Cond.selects yX6_widthOfNode.cls yX6_widthOfNode yX6_widthOfNode ∈ TB := ⟨tw_672, tw_673⟩
theorem zc_X6_widthOfNode {n : Nat} {Z : Zt} {a : Nat} {x1 : Int32} {x2 : Int32} {x3 : Int32} {x4 : Nat} {g : Mem} {q : Int32 × Mem} (h : f_X6_widthOfNode n Z a x1 x2 x3 x4 g = some q) : zk Z a = 5 := (grd_some h).1
set_option maxHeartbeats 4000000 in
set_option maxRecDepth 100000 in
theorem vm_X6_widthOfNode {n : Nat} {Z : Zt} {a : Nat} {x1 : Int32} {x2 : Int32} {x3 : Int32} {x4 : Nat} {g : Mem} {rr : Int32} {gg : Mem} (h : f_X6_widthOfNode n Z a x1 x2 x3 x4 g = some (rr, gg)) : VM yX6_widthOfNode cX6_widthOfNode 7 (some .int) 2 [.ref a, .int x1, .int x2, .int x3, va_rf (some x4)] Z g (some (.int rr)) gg := by
  unfold f_X6_widthOfNode at h
  replace h := grd_some h
  obtain ⟨hz0, h⟩ := h
  refine VM.of (by decide +kernel) (Nat.le_of_ble_eq_true rfl) (fun x hM => ?_)
  have hM : Cm x cX6_widthOfNode RX6 7 (some .int) 2 Z (some (.int rr)) gg := hM
  show V x Z 0 0 0 [(0, va_rf (some a)), (1, .int x1), (2, .int x2), (3, .int x3), (4, va_rf (some x4))] [] g
  refine V_aload_n hM.c 0 dX6_widthOfNode_0 rfl rfl ?_
  refine V_iload_n hM.c 1 dX6_widthOfNode_1 rfl rfl ?_
  replace h := bnd_some h
  obtain ⟨r1, g2, e3, h⟩ := h
  refine V_callV (As := [.int x1]) (c := 4) (T := TX6) (N := 10) hM.c hM.a mq_X6_firstAt mi_X6_firstAt tw_675 (hM.d (by decide)) hM.z rfl (by omega) (zc_X6_firstAt e3) (vm_X6_firstAt e3) rfl (Nat.le_of_ble_eq_true rfl) dX6_widthOfNode_2 ?_
  refine V_istore (L' := [(5, .int r1), (0, va_rf (some a)), (1, .int x1), (2, .int x2), (3, .int x3), (4, va_rf (some x4))]) hM.c dX6_widthOfNode_5 (by decide) rfl ?_
  refine V_aload_n hM.c 1 dX6_widthOfNode_7 rfl rfl ?_
  refine V_iload_n hM.c 2 dX6_widthOfNode_8 rfl rfl ?_
  replace h := bnd_some h
  obtain ⟨r4, g5, e6, h⟩ := h
  refine V_callV (As := [.int x1]) (c := 4) (T := TX6) (N := 10) hM.c hM.a mq_X6_secondAt mi_X6_secondAt tw_683 (hM.d (by decide)) hM.z rfl (by omega) (zc_X6_secondAt e6) (vm_X6_secondAt e6) rfl (Nat.le_of_ble_eq_true rfl) dX6_widthOfNode_9 ?_
  refine V_istore (L' := [(6, .int r4), (5, .int r1), (0, va_rf (some a)), (1, .int x1), (2, .int x2), (3, .int x3), (4, va_rf (some x4))]) hM.c dX6_widthOfNode_12 (by decide) rfl ?_
  refine V_aload_n hM.c 2 dX6_widthOfNode_14 rfl rfl ?_
  refine V_iload_n hM.c 3 dX6_widthOfNode_15 rfl rfl ?_
  replace h := bnd_some h
  obtain ⟨r7, g8, e9, h⟩ := h
  refine V_callV (As := [.int x1]) (c := 4) (T := TX6) (N := 10) hM.c hM.a mq_X6_kindAt mi_X6_kindAt tw_687 (hM.d (by decide)) hM.z rfl (by omega) (zc_X6_kindAt e9) (vm_X6_kindAt e9) rfl (Nat.le_of_ble_eq_true rfl) dX6_widthOfNode_16 ?_
  by_cases c10 : r7 = 0
  · replace h := ite_p h c10
    refine V_tblK (off := 37) hM.c 56 c10 dX6_widthOfNode_19 (by decide) (by decide) (by decide) (by decide) ?_
    refine V_aload hM.c 6 dX6_widthOfNode_56 rfl ?_
    refine V_iload hM.c 1 dX6_widthOfNode_58 rfl ?_
    replace h := bnd_some h
    obtain ⟨r16, g17, e18, h⟩ := h
    refine V_callV (As := [.int r1]) (c := 6) (T := TX8) (N := 8) hM.c hM.a mq_X8_widthOf mi_X8_widthOf tw_691 (hM.d (by decide)) hM.z rfl (by omega) (zc_X8_widthOf e18) (vm_X8_widthOf e18) rfl (Nat.le_of_ble_eq_true rfl) dX6_widthOfNode_60 ?_
    exact V_iretE hM h dX6_widthOfNode_63
  replace h := ite_n h c10
  by_cases c11 : r7 = 1
  · replace h := ite_p h c11
    refine V_tblK (off := 45) hM.c 64 c11 dX6_widthOfNode_19 (by decide) (by decide) (by decide) (by decide) ?_
    refine V_iload hM.c 1 dX6_widthOfNode_64 rfl ?_
    refine V_iload_n hM.c 4 dX6_widthOfNode_66 rfl rfl ?_
    refine V_icmp_ge hM.c 74 dX6_widthOfNode_67 (by decide) (fun c19 => ?_) (fun c19 => ?_)
    · replace h := ite_p h c19
      refine V_iconst (v := 0) hM.c dX6_widthOfNode_74 (by decide) ?_
      exact V_iretE hM h dX6_widthOfNode_75
    · replace h := ite_n h c19
      refine V_iload_n hM.c 4 dX6_widthOfNode_70 rfl rfl ?_
      refine V_goto hM.c 75 dX6_widthOfNode_71 (by decide) ?_
      exact V_iretE hM h dX6_widthOfNode_75
  replace h := ite_n h c11
  by_cases c12 : r7 = 2
  · replace h := ite_p h c12
    refine V_tblK (off := 57) hM.c 76 c12 dX6_widthOfNode_19 (by decide) (by decide) (by decide) (by decide) ?_
    refine V_iload hM.c 1 dX6_widthOfNode_76 rfl ?_
    refine V_iload_n hM.c 4 dX6_widthOfNode_78 rfl rfl ?_
    refine V_icmp_ge hM.c 92 dX6_widthOfNode_79 (by decide) (fun c20 => ?_) (fun c20 => ?_)
    · replace h := ite_p h c20
      refine V_iconst (v := 0) hM.c dX6_widthOfNode_92 (by decide) ?_
      exact V_iretE hM h dX6_widthOfNode_93
    · replace h := ite_n h c20
      refine V_iload hM.c 0 dX6_widthOfNode_82 rfl ?_
      refine V_iload_n hM.c 4 dX6_widthOfNode_84 rfl rfl ?_
      refine V_icmp_ge hM.c 92 dX6_widthOfNode_85 (by decide) (fun c21 => ?_) (fun c21 => ?_)
      · replace h := ite_p h c21
        refine V_iconst (v := 0) hM.c dX6_widthOfNode_92 (by decide) ?_
        exact V_iretE hM h dX6_widthOfNode_93
      · replace h := ite_n h c21
        refine V_iload_n hM.c 4 dX6_widthOfNode_88 rfl rfl ?_
        refine V_goto hM.c 93 dX6_widthOfNode_89 (by decide) ?_
        exact V_iretE hM h dX6_widthOfNode_93
  replace h := ite_n h c12
  by_cases c13 : r7 = 3
  · replace h := ite_p h c13
    refine V_tblK (off := 75) hM.c 94 c13 dX6_widthOfNode_19 (by decide) (by decide) (by decide) (by decide) ?_
    refine V_iload_n hM.c 4 dX6_widthOfNode_94 rfl rfl ?_
    refine V_iload hM.c 1 dX6_widthOfNode_95 rfl ?_
    refine V_iload hM.c 0 dX6_widthOfNode_97 rfl ?_
    replace h := bnd_some h
    obtain ⟨r22, g23, e24, h⟩ := h
    refine V_callS (As := [.int x2, .int r1, .int r4]) hM.c hM.a mq_X6_namesColumnsBelow mi_X6_namesColumnsBelow tw_698 (hM.d (by decide)) hM.z (vm_X6_namesColumnsBelow e24) rfl (Nat.le_of_ble_eq_true rfl) dX6_widthOfNode_99 ?_
    refine V_if_eq hM.c 110 dX6_widthOfNode_102 (by decide) (fun c25 => ?_) (fun c25 => ?_)
    · replace h := ite_p h c25
      refine V_iconst (v := 0) hM.c dX6_widthOfNode_110 (by decide) ?_
      exact V_iretE hM h dX6_widthOfNode_111
    · replace h := ite_n h c25
      refine V_iload hM.c 1 dX6_widthOfNode_105 rfl ?_
      refine V_goto hM.c 111 dX6_widthOfNode_107 (by decide) ?_
      exact V_iretE hM h dX6_widthOfNode_111
  replace h := ite_n h c13
  by_cases c14 : r7 = 4
  · replace h := ite_p h c14
    refine V_tblK (off := 93) hM.c 112 c14 dX6_widthOfNode_19 (by decide) (by decide) (by decide) (by decide) ?_
    refine V_iload hM.c 1 dX6_widthOfNode_112 rfl ?_
    refine V_iload_n hM.c 4 dX6_widthOfNode_114 rfl rfl ?_
    refine V_icmp_ge hM.c 130 dX6_widthOfNode_115 (by decide) (fun c26 => ?_) (fun c26 => ?_)
    · replace h := ite_p h c26
      refine V_iconst (v := 0) hM.c dX6_widthOfNode_130 (by decide) ?_
      exact V_iretE hM h dX6_widthOfNode_131
    · replace h := ite_n h c26
      refine V_iload hM.c 0 dX6_widthOfNode_118 rfl ?_
      refine V_iload_n hM.c 5 dX6_widthOfNode_120 rfl rfl ?_
      refine V_icmp_ge hM.c 130 dX6_widthOfNode_121 (by decide) (fun c27 => ?_) (fun c27 => ?_)
      · replace h := ite_p h c27
        refine V_iconst (v := 0) hM.c dX6_widthOfNode_130 (by decide) ?_
        exact V_iretE hM h dX6_widthOfNode_131
      · replace h := ite_n h c27
        refine V_iload_n hM.c 4 dX6_widthOfNode_124 rfl rfl ?_
        refine V_iload_n hM.c 5 dX6_widthOfNode_125 rfl rfl ?_
        refine V_iadd hM.c dX6_widthOfNode_126 ?_
        refine V_goto hM.c 131 dX6_widthOfNode_127 (by decide) ?_
        exact V_iretE hM h dX6_widthOfNode_131
  replace h := ite_n h c14
  by_cases c15 : r7 = 5
  · replace h := ite_p h c15
    refine V_tblK (off := 113) hM.c 132 c15 dX6_widthOfNode_19 (by decide) (by decide) (by decide) (by decide) ?_
    refine V_iload_n hM.c 4 dX6_widthOfNode_132 rfl rfl ?_
    refine V_iload_n hM.c 5 dX6_widthOfNode_133 rfl rfl ?_
    refine V_icmp_ne hM.c 141 dX6_widthOfNode_134 (by decide) (fun c28 => ?_) (fun c28 => ?_)
    · replace h := ite_n h c28
      refine V_iconst (v := 0) hM.c dX6_widthOfNode_141 (by decide) ?_
      exact V_iretE hM h dX6_widthOfNode_142
    · replace h := ite_p h c28
      refine V_iload_n hM.c 4 dX6_widthOfNode_137 rfl rfl ?_
      refine V_goto hM.c 142 dX6_widthOfNode_138 (by decide) ?_
      exact V_iretE hM h dX6_widthOfNode_142
  replace h := ite_n h c15
  refine V_tblD hM.c 143 dX6_widthOfNode_19 (by have q0 := lv_neT (a := 0) c10 (by decide); have q1 := lv_neT (a := 1) c11 (by decide); have q2 := lv_neT (a := 2) c12 (by decide); have q3 := lv_neT (a := 3) c13 (by decide); have q4 := lv_neT (a := 4) c14 (by decide); have q5 := lv_neT (a := 5) c15 (by decide); omega) (by decide) ?_
  refine V_iconst (v := 0) hM.c dX6_widthOfNode_143 (by decide) ?_
  exact V_iretE hM h dX6_widthOfNode_144
def f_X6_fits_l48 (n : Nat) (Z : Zt) (κ9 : Nat → Int32 → Int32 → Mem → Option (Int32 × Mem)) (a : Nat) (x1 : Nat) (x2 : Int32) (x3 : Int32) (x4 : Int32) (s0 : Int32) (g : Mem) : Option (Int32 × Mem) := bnd (f_X6_widthOfNode n Z a x3 x4 s0 x1 g) (fun r12 g13 => bnd (f_X6_kindAt n Z a x3 g13) (fun r15 g16 => bnd (f_X6_partsOf n Z r15 g16) (fun r18 g19 => if r12 < (1 : Int32) then (some ((0 : Int32), g19)) else (if (4 : Int32) < r12 then (some ((0 : Int32), g19)) else (if (x2 - r18) < 0 then (some ((0 : Int32), g19)) else (if (x2 - r18) < (60 : Int32) then (drf (zf Z a 3) (fun b25 => grd (zk Z b25 = 12) (grd (inr (x2 - r18) (zl Z b25)) (κ9 x1 ((x2 - r18) + 1) (x3 + (-1 : Int32)) (sI g19 b25 (x2 - r18).toNatClampNeg r12))))) else (some ((0 : Int32), g19))))))))
set_option maxHeartbeats 4000000 in
set_option maxRecDepth 100000 in
theorem vl_X6_fits_l48 {x : Cq} {n : Nat} {Z : Zt} {κ9 : Nat → Int32 → Int32 → Mem → Option (Int32 × Mem)} {a : Nat} {x1 : Nat} {x2 : Int32} {x3 : Int32} {x4 : Int32} {s0 : Int32} {g : Mem} {rr : Int32} {gg : Mem} (hM : Cm x cX6_fits RX6 7 (some .boolean) 3 Z (some (.int rr)) gg) (hz0 : zk Z a = 5) (hκ9 : ∀ (y1 : Nat) (y2 : Int32) (y3 : Int32) (y : Mem), κ9 y1 y2 y3 y = some (rr, gg) → V x Z 0 0 9 [(0, va_rf (some a)), (1, va_rf (some y1)), (2, .int y2), (3, .int y3)] [] y) (h : f_X6_fits_l48 n Z κ9 a x1 x2 x3 x4 s0 g = some (rr, gg)) : V x Z 0 0 48 [(0, va_rf (some a)), (1, va_rf (some x1)), (2, .int x2), (3, .int x3), (4, .int x4)] [.int s0] g := by
  unfold f_X6_fits_l48 at h
  refine V_istore (L' := [(5, .int s0), (0, va_rf (some a)), (1, va_rf (some x1)), (2, .int x2), (3, .int x3), (4, .int x4)]) hM.c dX6_fits_48 (by decide) rfl ?_
  refine V_aload_n hM.c 1 dX6_fits_50 rfl rfl ?_
  refine V_iload_n hM.c 4 dX6_fits_51 rfl rfl ?_
  refine V_iload hM.c 5 dX6_fits_52 rfl ?_
  refine V_iload hM.c 0 dX6_fits_54 rfl ?_
  refine V_aload_n hM.c 2 dX6_fits_56 rfl rfl ?_
  replace h := bnd_some h
  obtain ⟨r12, g13, e14, h⟩ := h
  refine V_callV (As := [.int x3, .int x4, .int s0, va_rf (some x1)]) (c := 4) (T := TX6) (N := 10) hM.c hM.a mq_X6_widthOfNode mi_X6_widthOfNode tw_671 (hM.d (by decide)) hM.z rfl (by omega) (zc_X6_widthOfNode e14) (vm_X6_widthOfNode e14) rfl (Nat.le_of_ble_eq_true rfl) dX6_fits_57 ?_
  refine V_istore (L' := [(6, .int r12), (5, .int s0), (0, va_rf (some a)), (1, va_rf (some x1)), (2, .int x2), (3, .int x3), (4, .int x4)]) hM.c dX6_fits_60 (by decide) rfl ?_
  refine V_iload_n hM.c 4 dX6_fits_62 rfl rfl ?_
  refine V_aload_n hM.c 2 dX6_fits_63 rfl rfl ?_
  refine V_iload_n hM.c 5 dX6_fits_64 rfl rfl ?_
  replace h := bnd_some h
  obtain ⟨r15, g16, e17, h⟩ := h
  refine V_callV (As := [.int x3]) (c := 4) (T := TX6) (N := 10) hM.c hM.a mq_X6_kindAt mi_X6_kindAt tw_687 (hM.d (by decide)) hM.z rfl (by omega) (zc_X6_kindAt e17) (vm_X6_kindAt e17) rfl (Nat.le_of_ble_eq_true rfl) dX6_fits_65 ?_
  replace h := bnd_some h
  obtain ⟨r18, g19, e20, h⟩ := h
  refine V_callS (As := [.int r15]) hM.c hM.a mq_X6_partsOf mi_X6_partsOf tw_627 (hM.d (by decide)) hM.z (vm_X6_partsOf e20) rfl (Nat.le_of_ble_eq_true rfl) dX6_fits_68 ?_
  refine V_isub hM.c dX6_fits_71 ?_
  refine V_istore_n (i := 2) (L' := [(2, .int (x2 - r18)), (6, .int r12), (5, .int s0), (0, va_rf (some a)), (1, va_rf (some x1)), (3, .int x3), (4, .int x4)]) hM.c dX6_fits_72 rfl (by decide) rfl ?_
  refine V_iload hM.c 1 dX6_fits_73 rfl ?_
  refine V_iconst (v := 1) hM.c dX6_fits_75 (by decide) ?_
  refine V_icmp_lt hM.c 95 dX6_fits_76 (by decide) (fun c21 => ?_) (fun c21 => ?_)
  · replace h := ite_p h c21
    refine V_iconst (v := 0) hM.c dX6_fits_95 (by decide) ?_
    exact V_zretE hM (isz_nar (by decide)) h dX6_fits_96
  · replace h := ite_n h c21
    refine V_iload hM.c 1 dX6_fits_79 rfl ?_
    refine V_iconst (v := 4) hM.c dX6_fits_81 (by decide) ?_
    refine V_icmp_gt hM.c 95 dX6_fits_82 (by decide) (fun c22 => ?_) (fun c22 => ?_)
    · replace h := ite_p h c22
      refine V_iconst (v := 0) hM.c dX6_fits_95 (by decide) ?_
      exact V_zretE hM (isz_nar (by decide)) h dX6_fits_96
    · replace h := ite_n h c22
      refine V_iload_n hM.c 0 dX6_fits_85 rfl rfl ?_
      refine V_if_lt hM.c 95 dX6_fits_86 (by decide) (fun c23 => ?_) (fun c23 => ?_)
      · replace h := ite_p h c23
        refine V_iconst (v := 0) hM.c dX6_fits_95 (by decide) ?_
        exact V_zretE hM (isz_nar (by decide)) h dX6_fits_96
      · replace h := ite_n h c23
        refine V_iload_n hM.c 0 dX6_fits_89 rfl rfl ?_
        refine V_bipush (v := 60) hM.c dX6_fits_90 (by decide) ?_
        refine V_icmp_lt hM.c 97 dX6_fits_92 (by decide) (fun c24 => ?_) (fun c24 => ?_)
        · replace h := ite_p h c24
          refine V_aload_n hM.c 3 dX6_fits_97 rfl rfl ?_
          replace h := drf_some h
          obtain ⟨b25, e26, h⟩ := h
          refine G4_3 hM.c tw_670 hz0 e26 dX6_fits_98 ?_
          refine V_iload_n hM.c 0 dX6_fits_101 rfl rfl ?_
          refine V_iload hM.c 1 dX6_fits_102 rfl ?_
          replace h := grd_some h
          obtain ⟨z27, h⟩ := h
          replace h := grd_some h
          obtain ⟨c28, h⟩ := h
          refine V_iast hM.c z27 c28 hM.a dX6_fits_104 ?_
          refine V_iinc (v := ((x2 - r18) + 1)) (L' := [(2, .int ((x2 - r18) + 1)), (6, .int r12), (5, .int s0), (0, va_rf (some a)), (1, va_rf (some x1)), (3, .int x3), (4, .int x4)]) hM.c 0 dX6_fits_105 rfl rfl (by decide) rfl ?_
          refine V_iinc (v := (x3 + (-1 : Int32))) (L' := [(3, .int (x3 + (-1 : Int32))), (2, .int ((x2 - r18) + 1)), (6, .int r12), (5, .int s0), (0, va_rf (some a)), (1, va_rf (some x1)), (4, .int x4)]) hM.c 5 dX6_fits_108 rfl rfl (by decide) rfl ?_
          refine V_goto hM.c 9 dX6_fits_111 (by decide) ?_
          refine V_sub [4, 5, 1, 0] rfl ?_
          exact hκ9 _ _ _ _ h
        · replace h := ite_n h c24
          refine V_iconst (v := 0) hM.c dX6_fits_95 (by decide) ?_
          exact V_zretE hM (isz_nar (by decide)) h dX6_fits_96
def f_X6_fits_l29 (n : Nat) (Z : Zt) (κ9 : Nat → Int32 → Int32 → Mem → Option (Int32 × Mem)) (a : Nat) (x1 : Nat) (x2 : Int32) (x3 : Int32) (s0 : Int32) (g : Mem) : Option (Int32 × Mem) := if x2 ≤ (1 : Int32) then (f_X6_fits_l48 n Z κ9 a x1 x2 x3 s0 (0 : Int32) g) else (drf (zf Z a 3) (fun b8 => grd (zk Z b8 = 12) (grd (inr (x2 - (2 : Int32)) (zl Z b8)) (f_X6_fits_l48 n Z κ9 a x1 x2 x3 s0 (gI g b8 (x2 - (2 : Int32)).toNatClampNeg) g))))
set_option maxHeartbeats 4000000 in
set_option maxRecDepth 100000 in
theorem vl_X6_fits_l29 {x : Cq} {n : Nat} {Z : Zt} {κ9 : Nat → Int32 → Int32 → Mem → Option (Int32 × Mem)} {a : Nat} {x1 : Nat} {x2 : Int32} {x3 : Int32} {s0 : Int32} {g : Mem} {rr : Int32} {gg : Mem} (hM : Cm x cX6_fits RX6 7 (some .boolean) 3 Z (some (.int rr)) gg) (hz0 : zk Z a = 5) (hκ9 : ∀ (y1 : Nat) (y2 : Int32) (y3 : Int32) (y : Mem), κ9 y1 y2 y3 y = some (rr, gg) → V x Z 0 0 9 [(0, va_rf (some a)), (1, va_rf (some y1)), (2, .int y2), (3, .int y3)] [] y) (h : f_X6_fits_l29 n Z κ9 a x1 x2 x3 s0 g = some (rr, gg)) : V x Z 0 0 29 [(0, va_rf (some a)), (1, va_rf (some x1)), (2, .int x2), (3, .int x3)] [.int s0] g := by
  unfold f_X6_fits_l29 at h
  refine V_istore (L' := [(4, .int s0), (0, va_rf (some a)), (1, va_rf (some x1)), (2, .int x2), (3, .int x3)]) hM.c dX6_fits_29 (by decide) rfl ?_
  refine V_iload_n hM.c 3 dX6_fits_31 rfl rfl ?_
  refine V_iconst (v := 1) hM.c dX6_fits_32 (by decide) ?_
  refine V_icmp_le hM.c 47 dX6_fits_33 (by decide) (fun c7 => ?_) (fun c7 => ?_)
  · replace h := ite_p h c7
    refine V_iconst (v := 0) hM.c dX6_fits_47 (by decide) ?_
    refine V_sub [1, 2, 3, 4, 0] rfl ?_
    exact vl_X6_fits_l48 hM hz0 hκ9 h
  · replace h := ite_n h c7
    refine V_aload_n hM.c 1 dX6_fits_36 rfl rfl ?_
    replace h := drf_some h
    obtain ⟨b8, e9, h⟩ := h
    refine G4_3 hM.c tw_670 hz0 e9 dX6_fits_37 ?_
    refine V_iload_n hM.c 3 dX6_fits_40 rfl rfl ?_
    refine V_iconst (v := 2) hM.c dX6_fits_41 (by decide) ?_
    refine V_isub hM.c dX6_fits_42 ?_
    replace h := grd_some h
    obtain ⟨z10, h⟩ := h
    replace h := grd_some h
    obtain ⟨c11, h⟩ := h
    refine V_iald hM.c z10 c11 dX6_fits_43 ?_
    refine V_goto hM.c 48 dX6_fits_44 (by decide) ?_
    refine V_sub [1, 2, 3, 4, 0] rfl ?_
    exact vl_X6_fits_l48 hM hz0 hκ9 h
def f_X6_fits_l9 (n : Nat) (Z : Zt) (a : Nat) : Nat → Nat → Int32 → Int32 → Mem → Option (Int32 × Mem)
  | 0, _, _, _, _ => none
  | fu + 1, x1, x2, x3, g => if x3 < 0 then (some ((1 : Int32), g)) else (if x2 ≤ 0 then (f_X6_fits_l29 n Z (fun y0 y1 y2 y => f_X6_fits_l9 n Z a fu y0 y1 y2 y) a x1 x2 x3 (0 : Int32) g) else (drf (zf Z a 3) (fun b3 => grd (zk Z b3 = 12) (grd (inr (x2 - (1 : Int32)) (zl Z b3)) (f_X6_fits_l29 n Z (fun y0 y1 y2 y => f_X6_fits_l9 n Z a fu y0 y1 y2 y) a x1 x2 x3 (gI g b3 (x2 - (1 : Int32)).toNatClampNeg) g)))))
set_option maxHeartbeats 4000000 in
set_option maxRecDepth 100000 in
theorem vl_X6_fits_l9 {x : Cq} {n : Nat} {Z : Zt} {a : Nat} {rr : Int32} {gg : Mem} (hM : Cm x cX6_fits RX6 7 (some .boolean) 3 Z (some (.int rr)) gg) (hz0 : zk Z a = 5) : ∀ (fu : Nat) (x1 : Nat) (x2 : Int32) (x3 : Int32) (g : Mem), f_X6_fits_l9 n Z a fu x1 x2 x3 g = some (rr, gg) → V x Z 0 0 9 [(0, va_rf (some a)), (1, va_rf (some x1)), (2, .int x2), (3, .int x3)] [] g := by
  intro fu
  induction fu with
  | zero => intro x1 x2 x3 g h; cases h
  | succ fu ih =>
    intro x1 x2 x3 g h
    unfold f_X6_fits_l9 at h
    refine V_iload_n hM.c 3 dX6_fits_9 rfl rfl ?_
    refine V_if_lt hM.c 114 dX6_fits_10 (by decide) (fun c1 => ?_) (fun c1 => ?_)
    · replace h := ite_p h c1
      refine V_iconst (v := 1) hM.c dX6_fits_114 (by decide) ?_
      exact V_zretE hM (isz_nar (by decide)) h dX6_fits_115
    · replace h := ite_n h c1
      refine V_iload_n hM.c 2 dX6_fits_13 rfl rfl ?_
      refine V_if_le hM.c 28 dX6_fits_14 (by decide) (fun c2 => ?_) (fun c2 => ?_)
      · replace h := ite_p h c2
        refine V_iconst (v := 0) hM.c dX6_fits_28 (by decide) ?_
        refine V_sub [0, 1, 2, 3] rfl ?_
        exact vl_X6_fits_l29 hM hz0 ih h
      · replace h := ite_n h c2
        refine V_aload_n hM.c 0 dX6_fits_17 rfl rfl ?_
        replace h := drf_some h
        obtain ⟨b3, e4, h⟩ := h
        refine G4_3 hM.c tw_670 hz0 e4 dX6_fits_18 ?_
        refine V_iload_n hM.c 2 dX6_fits_21 rfl rfl ?_
        refine V_iconst (v := 1) hM.c dX6_fits_22 (by decide) ?_
        refine V_isub hM.c dX6_fits_23 ?_
        replace h := grd_some h
        obtain ⟨z5, h⟩ := h
        replace h := grd_some h
        obtain ⟨c6, h⟩ := h
        refine V_iald hM.c z5 c6 dX6_fits_24 ?_
        refine V_goto hM.c 29 dX6_fits_25 (by decide) ?_
        refine V_sub [0, 1, 2, 3] rfl ?_
        exact vl_X6_fits_l29 hM hz0 ih h
def f_X6_fits (n : Nat) (Z : Zt) (a : Nat) (x1 : Nat) (g : Mem) : Option (Int32 × Mem) := grd (zk Z a = 5) (f_X6_fits_l9 n Z a n x1 (0 : Int32) ((gI g a 6) - (1 : Int32)) g)
theorem mq_X6_fits : Mq yX6_fits cX6_fits 7 (some .boolean) 1 := ⟨tw_669, tw_592, ⟨by decide +kernel, by decide +kernel, by decide +kernel⟩, by decide⟩
theorem mi_X6_fits : Cond.instanceMethod yX6_fits ∈ TB ∧ Cond.selects yX6_fits.cls yX6_fits yX6_fits ∈ TB := ⟨tw_667, tw_668⟩
theorem zc_X6_fits {n : Nat} {Z : Zt} {a : Nat} {x1 : Nat} {g : Mem} {q : Int32 × Mem} (h : f_X6_fits n Z a x1 g = some q) : zk Z a = 5 := (grd_some h).1
set_option maxHeartbeats 4000000 in
set_option maxRecDepth 100000 in
theorem vm_X6_fits {n : Nat} {Z : Zt} {a : Nat} {x1 : Nat} {g : Mem} {rr : Int32} {gg : Mem} (h : f_X6_fits n Z a x1 g = some (rr, gg)) : VM yX6_fits cX6_fits 7 (some .boolean) 3 [.ref a, va_rf (some x1)] Z g (some (.int rr)) gg := by
  unfold f_X6_fits at h
  replace h := grd_some h
  obtain ⟨hz0, h⟩ := h
  refine VM.of (by decide +kernel) (Nat.le_of_ble_eq_true rfl) (fun x hM => ?_)
  have hM : Cm x cX6_fits RX6 7 (some .boolean) 3 Z (some (.int rr)) gg := hM
  show V x Z 0 0 0 [(0, va_rf (some a)), (1, va_rf (some x1))] [] g
  refine V_iconst (v := 0) hM.c dX6_fits_0 (by decide) ?_
  refine V_istore_n (i := 2) (L' := [(2, .int (0 : Int32)), (0, va_rf (some a)), (1, va_rf (some x1))]) hM.c dX6_fits_1 rfl (by decide) rfl ?_
  refine V_aload_n hM.c 1 dX6_fits_2 rfl rfl ?_
  refine G4_6 hM.c tw_595 hz0 dX6_fits_3 ?_
  refine V_iconst (v := 1) hM.c dX6_fits_6 (by decide) ?_
  refine V_isub hM.c dX6_fits_7 ?_
  refine V_istore_n (i := 3) (L' := [(3, .int ((gI g a 6) - (1 : Int32))), (2, .int (0 : Int32)), (0, va_rf (some a)), (1, va_rf (some x1))]) hM.c dX6_fits_8 rfl (by decide) rfl ?_
  refine V_sub [2, 3, 1, 0] rfl ?_
  exact vl_X6_fits_l9 hM hz0  _ _ _ _ _ h
def f_X8_queryLine (n : Nat) (Z : Zt) (a : Nat) (g : Mem) : Option (Option Nat × Mem) := grd (zk Z a = 7) (drf (zf Z a 5) (fun b1 => some ((some b1), g)))
theorem mq_X8_queryLine : Mq yX8_queryLine cX8_queryLine 1 (some (.object "ProvenanceTables$Line")) 0 := ⟨tw_79, tw_14, ⟨by decide +kernel, by decide +kernel, by decide +kernel⟩, by decide⟩
theorem mi_X8_queryLine : Cond.instanceMethod yX8_queryLine ∈ TB ∧ Cond.selects yX8_queryLine.cls yX8_queryLine yX8_queryLine ∈ TB := ⟨tw_77, tw_78⟩
theorem zc_X8_queryLine {n : Nat} {Z : Zt} {a : Nat} {g : Mem} {q : Option Nat × Mem} (h : f_X8_queryLine n Z a g = some q) : zk Z a = 7 := (grd_some h).1
set_option maxHeartbeats 4000000 in
set_option maxRecDepth 100000 in
theorem vm_X8_queryLine {n : Nat} {Z : Zt} {a : Nat} {g : Mem} {rr : Option Nat} {gg : Mem} (h : f_X8_queryLine n Z a g = some (rr, gg)) : VM yX8_queryLine cX8_queryLine 1 (some (.object "ProvenanceTables$Line")) 0 [.ref a] Z g (some (va_rf rr)) gg := by
  unfold f_X8_queryLine at h
  replace h := grd_some h
  obtain ⟨hz0, h⟩ := h
  refine VM.of (by decide +kernel) (Nat.le_of_ble_eq_true rfl) (fun x hM => ?_)
  have hM : Cm x cX8_queryLine RX8 1 (some (.object "ProvenanceTables$Line")) 0 Z (some (va_rf rr)) gg := hM
  show V x Z 0 0 0 [(0, va_rf (some a))] [] g
  refine V_aload_n hM.c 0 dX8_queryLine_0 rfl rfl ?_
  replace h := drf_some h
  obtain ⟨b1, e2, h⟩ := h
  refine G6_5 hM.c tw_80 hz0 e2 dX8_queryLine_1 ?_
  exact V_aretE hM h dX8_queryLine_4
def f_X10_answerRows (n : Nat) (Z : Zt) (a : Nat) (g : Mem) : Option (Int32 × Mem) := grd (zk Z a = 9) (drf (zf Z a 7) (fun b1 => bnd (f_X0_answer n Z b1 g) (fun r3 g4 => drf r3 (fun b6 => bnd (f_X7_size n Z b6 g4) (fun r8 g9 => some (r8, g9))))))
theorem mq_X10_answerRows : Mq yX10_answerRows cX10_answerRows 1 (some .int) 0 := ⟨tw_99, tw_5, ⟨by decide +kernel, by decide +kernel, by decide +kernel⟩, by decide⟩
theorem mi_X10_answerRows : Cond.instanceMethod yX10_answerRows ∈ TB ∧ Cond.selects yX10_answerRows.cls yX10_answerRows yX10_answerRows ∈ TB := ⟨tw_97, tw_98⟩
theorem zc_X10_answerRows {n : Nat} {Z : Zt} {a : Nat} {g : Mem} {q : Int32 × Mem} (h : f_X10_answerRows n Z a g = some q) : zk Z a = 9 := (grd_some h).1
set_option maxHeartbeats 4000000 in
set_option maxRecDepth 100000 in
theorem vm_X10_answerRows {n : Nat} {Z : Zt} {a : Nat} {g : Mem} {rr : Int32} {gg : Mem} (h : f_X10_answerRows n Z a g = some (rr, gg)) : VM yX10_answerRows cX10_answerRows 1 (some .int) 1 [.ref a] Z g (some (.int rr)) gg := by
  unfold f_X10_answerRows at h
  replace h := grd_some h
  obtain ⟨hz0, h⟩ := h
  refine VM.of (by decide +kernel) (Nat.le_of_ble_eq_true rfl) (fun x hM => ?_)
  have hM : Cm x cX10_answerRows RX10 1 (some .int) 1 Z (some (.int rr)) gg := hM
  show V x Z 0 0 0 [(0, va_rf (some a))] [] g
  refine V_aload_n hM.c 0 dX10_answerRows_0 rfl rfl ?_
  replace h := drf_some h
  obtain ⟨b1, e2, h⟩ := h
  refine G8_7 hM.c tw_100 hz0 e2 dX10_answerRows_1 ?_
  replace h := bnd_some h
  obtain ⟨r3, g4, e5, h⟩ := h
  refine V_callV (As := []) (c := 0) (T := TX0) (N := 4) hM.c hM.a mq_X0_answer mi_X0_answer tw_101 (hM.d (by decide)) hM.z rfl (by omega) (zc_X0_answer e5) (vm_X0_answer e5) rfl (Nat.le_of_ble_eq_true rfl) dX10_answerRows_4 ?_
  replace h := drf_some h
  obtain ⟨b6, rfl, h⟩ := h
  replace h := bnd_some h
  obtain ⟨r8, g9, e10, h⟩ := h
  refine V_callV (As := []) (c := 5) (T := TX7) (N := 4) hM.c hM.a mq_X7_size mi_X7_size tw_107 (hM.d (by decide)) hM.z rfl (by omega) (zc_X7_size e10) (vm_X7_size e10) rfl (Nat.le_of_ble_eq_true rfl) dX10_answerRows_7 ?_
  exact V_iretE hM h dX10_answerRows_10
def f_X10_setQuery (n : Nat) (Z : Zt) (a : Nat) (g : Mem) : Option (Int32 × Mem) := grd (zk Z a = 9) (drf (zf Z a 5) (fun b1 => drf (zf Z a 3) (fun b3 => bnd (f_X6_read n Z b1 b3 g) (fun r5 g6 => if r5 = 0 then (some ((-3 : Int32), g6)) else (drf (zf Z a 5) (fun b9 => drf (zf Z a 0) (fun b11 => bnd (f_X6_fits n Z b9 b11 g6) (fun r13 g14 => if r13 = 0 then (some ((-5 : Int32), g14)) else (drf (zf Z a 7) (fun b17 => drf (zf Z a 5) (fun b19 => drf (zf Z a 0) (fun b21 => bnd (f_X0_compute n Z b17 b19 b21 g14) (fun r23 g24 => if r23 = 0 then (some ((-4 : Int32), g24)) else (drf (zf Z a 2) (fun b27 => drf (zf Z a 0) (fun b29 => bnd (f_X1_record n Z b27 b29 g24) (fun r31 g32 => drf (zf Z a 0) (fun b34 => bnd (f_X8_queryLine n Z b34 g32) (fun r36 g37 => drf (zf Z a 3) (fun b39 => drf r36 (fun b41 => bnd (f_X3_copy n Z b41 b39 g37) (fun r43 g44 => drf (zf Z a 6) (fun b46 => drf (zf Z a 0) (fun b48 => bnd (f_X8_queryLine n Z b48 g44) (fun r50 g51 => drf r50 (fun b53 => bnd (f_X6_read n Z b46 b53 g51) (fun r55 g56 => drf (zf Z a 7) (fun b58 => bnd (f_X0_keepResult n Z b58 g56) (fun r60 g61 => bnd (f_X10_answerRows n Z a g61) (fun r63 g64 => some (r63, g64)))))))))))))))))))))))))))))))
theorem mq_X10_setQuery : Mq yX10_setQuery cX10_setQuery 1 (some .int) 0 := ⟨tw_662, tw_5, ⟨by decide +kernel, by decide +kernel, by decide +kernel⟩, by decide⟩
theorem mi_X10_setQuery : Cond.instanceMethod yX10_setQuery ∈ TB ∧ Cond.selects yX10_setQuery.cls yX10_setQuery yX10_setQuery ∈ TB := ⟨tw_660, tw_661⟩
theorem zc_X10_setQuery {n : Nat} {Z : Zt} {a : Nat} {g : Mem} {q : Int32 × Mem} (h : f_X10_setQuery n Z a g = some q) : zk Z a = 9 := (grd_some h).1
set_option maxHeartbeats 4000000 in
set_option maxRecDepth 100000 in
theorem vm_X10_setQuery {n : Nat} {Z : Zt} {a : Nat} {g : Mem} {rr : Int32} {gg : Mem} (h : f_X10_setQuery n Z a g = some (rr, gg)) : VM yX10_setQuery cX10_setQuery 1 (some .int) 6 [.ref a] Z g (some (.int rr)) gg := by
  unfold f_X10_setQuery at h
  replace h := grd_some h
  obtain ⟨hz0, h⟩ := h
  refine VM.of (by decide +kernel) (Nat.le_of_ble_eq_true rfl) (fun x hM => ?_)
  have hM : Cm x cX10_setQuery RX10 1 (some .int) 6 Z (some (.int rr)) gg := hM
  show V x Z 0 0 0 [(0, va_rf (some a))] [] g
  refine V_aload_n hM.c 0 dX10_setQuery_0 rfl rfl ?_
  replace h := drf_some h
  obtain ⟨b1, e2, h⟩ := h
  refine G8_5 hM.c tw_588 hz0 e2 dX10_setQuery_1 ?_
  refine V_aload_n hM.c 0 dX10_setQuery_4 rfl rfl ?_
  replace h := drf_some h
  obtain ⟨b3, e4, h⟩ := h
  refine G8_3 hM.c tw_515 hz0 e4 dX10_setQuery_5 ?_
  replace h := bnd_some h
  obtain ⟨r5, g6, e7, h⟩ := h
  refine V_callV (As := [va_rf (some b3)]) (c := 4) (T := TX6) (N := 10) hM.c hM.a mq_X6_read mi_X6_read tw_589 (hM.d (by decide)) hM.z rfl (by omega) (zc_X6_read e7) (vm_X6_read e7) rfl (Nat.le_of_ble_eq_true rfl) dX10_setQuery_8 ?_
  refine V_if_ne hM.c 17 dX10_setQuery_11 (by decide) (fun c8 => ?_) (fun c8 => ?_)
  · replace h := ite_n h c8
    refine V_aload_n hM.c 0 dX10_setQuery_17 rfl rfl ?_
    replace h := drf_some h
    obtain ⟨b9, e10, h⟩ := h
    refine G8_5 hM.c tw_588 hz0 e10 dX10_setQuery_18 ?_
    refine V_aload_n hM.c 0 dX10_setQuery_21 rfl rfl ?_
    replace h := drf_some h
    obtain ⟨b11, e12, h⟩ := h
    refine G8_0 hM.c tw_7 hz0 e12 dX10_setQuery_22 ?_
    replace h := bnd_some h
    obtain ⟨r13, g14, e15, h⟩ := h
    refine V_callV (As := [va_rf (some b11)]) (c := 4) (T := TX6) (N := 10) hM.c hM.a mq_X6_fits mi_X6_fits tw_666 (hM.d (by decide)) hM.z rfl (by omega) (zc_X6_fits e15) (vm_X6_fits e15) rfl (Nat.le_of_ble_eq_true rfl) dX10_setQuery_25 ?_
    refine V_if_ne hM.c 34 dX10_setQuery_28 (by decide) (fun c16 => ?_) (fun c16 => ?_)
    · replace h := ite_n h c16
      refine V_aload_n hM.c 0 dX10_setQuery_34 rfl rfl ?_
      replace h := drf_some h
      obtain ⟨b17, e18, h⟩ := h
      refine G8_7 hM.c tw_100 hz0 e18 dX10_setQuery_35 ?_
      refine V_aload_n hM.c 0 dX10_setQuery_38 rfl rfl ?_
      replace h := drf_some h
      obtain ⟨b19, e20, h⟩ := h
      refine G8_5 hM.c tw_588 hz0 e20 dX10_setQuery_39 ?_
      refine V_aload_n hM.c 0 dX10_setQuery_42 rfl rfl ?_
      replace h := drf_some h
      obtain ⟨b21, e22, h⟩ := h
      refine G8_0 hM.c tw_7 hz0 e22 dX10_setQuery_43 ?_
      replace h := bnd_some h
      obtain ⟨r23, g24, e25, h⟩ := h
      refine V_callV (As := [va_rf (some b19), va_rf (some b21)]) (c := 0) (T := TX0) (N := 4) hM.c hM.a mq_X0_compute mi_X0_compute tw_704 (hM.d (by decide)) hM.z rfl (by omega) (zc_X0_compute e25) (vm_X0_compute e25) rfl (Nat.le_of_ble_eq_true rfl) dX10_setQuery_46 ?_
      refine V_if_ne hM.c 55 dX10_setQuery_49 (by decide) (fun c26 => ?_) (fun c26 => ?_)
      · replace h := ite_n h c26
        refine V_aload_n hM.c 0 dX10_setQuery_55 rfl rfl ?_
        replace h := drf_some h
        obtain ⟨b27, e28, h⟩ := h
        refine G8_2 hM.c tw_664 hz0 e28 dX10_setQuery_56 ?_
        refine V_aload_n hM.c 0 dX10_setQuery_59 rfl rfl ?_
        replace h := drf_some h
        obtain ⟨b29, e30, h⟩ := h
        refine G8_0 hM.c tw_7 hz0 e30 dX10_setQuery_60 ?_
        replace h := bnd_some h
        obtain ⟨r31, g32, e33, h⟩ := h
        refine V_callV (As := [va_rf (some b29)]) (c := 1) (T := TX1) (N := 2) hM.c hM.a mq_X1_record mi_X1_record tw_837 (hM.d (by decide)) hM.z rfl (by omega) (zc_X1_record e33) (vm_X1_record e33) rfl (Nat.le_of_ble_eq_true rfl) dX10_setQuery_63 ?_
        refine V_aload_n hM.c 0 dX10_setQuery_66 rfl rfl ?_
        replace h := drf_some h
        obtain ⟨b34, e35, h⟩ := h
        refine G8_0 hM.c tw_7 hz0 e35 dX10_setQuery_67 ?_
        replace h := bnd_some h
        obtain ⟨r36, g37, e38, h⟩ := h
        refine V_callV (As := []) (c := 6) (T := TX8) (N := 8) hM.c hM.a mq_X8_queryLine mi_X8_queryLine tw_76 (hM.d (by decide)) hM.z rfl (by omega) (zc_X8_queryLine e38) (vm_X8_queryLine e38) rfl (Nat.le_of_ble_eq_true rfl) dX10_setQuery_70 ?_
        refine V_aload_n hM.c 0 dX10_setQuery_73 rfl rfl ?_
        replace h := drf_some h
        obtain ⟨b39, e40, h⟩ := h
        refine G8_3 hM.c tw_515 hz0 e40 dX10_setQuery_74 ?_
        replace h := drf_some h
        obtain ⟨b41, rfl, h⟩ := h
        replace h := bnd_some h
        obtain ⟨r43, g44, e45, h⟩ := h
        refine V_callV (As := [va_rf (some b39)]) (c := 2) (T := TX3) (N := 2) hM.c hM.a mq_X3_copy mi_X3_copy tw_866 (hM.d (by decide)) hM.z rfl (by omega) (zc_X3_copy e45) (vm_X3_copy e45) rfl (Nat.le_of_ble_eq_true rfl) dX10_setQuery_77 ?_
        refine V_aload_n hM.c 0 dX10_setQuery_80 rfl rfl ?_
        replace h := drf_some h
        obtain ⟨b46, e47, h⟩ := h
        refine G8_6 hM.c tw_665 hz0 e47 dX10_setQuery_81 ?_
        refine V_aload_n hM.c 0 dX10_setQuery_84 rfl rfl ?_
        replace h := drf_some h
        obtain ⟨b48, e49, h⟩ := h
        refine G8_0 hM.c tw_7 hz0 e49 dX10_setQuery_85 ?_
        replace h := bnd_some h
        obtain ⟨r50, g51, e52, h⟩ := h
        refine V_callV (As := []) (c := 6) (T := TX8) (N := 8) hM.c hM.a mq_X8_queryLine mi_X8_queryLine tw_76 (hM.d (by decide)) hM.z rfl (by omega) (zc_X8_queryLine e52) (vm_X8_queryLine e52) rfl (Nat.le_of_ble_eq_true rfl) dX10_setQuery_88 ?_
        replace h := drf_some h
        obtain ⟨b53, rfl, h⟩ := h
        replace h := bnd_some h
        obtain ⟨r55, g56, e57, h⟩ := h
        refine V_callV (As := [va_rf (some b53)]) (c := 4) (T := TX6) (N := 10) hM.c hM.a mq_X6_read mi_X6_read tw_589 (hM.d (by decide)) hM.z rfl (by omega) (zc_X6_read e57) (vm_X6_read e57) rfl (Nat.le_of_ble_eq_true rfl) dX10_setQuery_91 ?_
        refine V_pop hM.c dX10_setQuery_94 rfl ?_
        refine V_aload_n hM.c 0 dX10_setQuery_95 rfl rfl ?_
        replace h := drf_some h
        obtain ⟨b58, e59, h⟩ := h
        refine G8_7 hM.c tw_100 hz0 e59 dX10_setQuery_96 ?_
        replace h := bnd_some h
        obtain ⟨r60, g61, e62, h⟩ := h
        refine V_callV (As := []) (c := 0) (T := TX0) (N := 4) hM.c hM.a mq_X0_keepResult mi_X0_keepResult tw_867 (hM.d (by decide)) hM.z rfl (by omega) (zc_X0_keepResult e62) (vm_X0_keepResult e62) rfl (Nat.le_of_ble_eq_true rfl) dX10_setQuery_99 ?_
        refine V_aload_n hM.c 0 dX10_setQuery_102 rfl rfl ?_
        replace h := bnd_some h
        obtain ⟨r63, g64, e65, h⟩ := h
        refine V_callV (As := []) (c := 8) (T := TX10) (N := 10) hM.c hM.a mq_X10_answerRows mi_X10_answerRows tw_872 (hM.d (by decide)) hM.z rfl (by omega) (zc_X10_answerRows e65) (vm_X10_answerRows e65) rfl (Nat.le_of_ble_eq_true rfl) dX10_setQuery_103 ?_
        exact V_iretE hM h dX10_setQuery_106
      · replace h := ite_p h c26
        refine V_bipush (v := -4) hM.c dX10_setQuery_52 (by decide) ?_
        exact V_iretE hM h dX10_setQuery_54
    · replace h := ite_p h c16
      refine V_bipush (v := -5) hM.c dX10_setQuery_31 (by decide) ?_
      exact V_iretE hM h dX10_setQuery_33
  · replace h := ite_p h c8
    refine V_bipush (v := -3) hM.c dX10_setQuery_14 (by decide) ?_
    exact V_iretE hM h dX10_setQuery_16
def f_X10_dropQuery (n : Nat) (Z : Zt) (a : Nat) (g : Mem) : Option (Int32 × Mem) := grd (zk Z a = 9) (drf (zf Z a 0) (fun b1 => bnd (f_X8_queryLine n Z b1 g) (fun r3 g4 => drf r3 (fun b6 => bnd (f_X3_length n Z b6 g4) (fun r8 g9 => if r8 = 0 then (some ((-5 : Int32), g9)) else (bnd (f_X10_answerRows n Z a g9) (fun r12 g13 => drf (zf Z a 2) (fun b15 => drf (zf Z a 0) (fun b17 => bnd (f_X1_record n Z b15 b17 g13) (fun r19 g20 => drf (zf Z a 0) (fun b22 => bnd (f_X8_queryLine n Z b22 g20) (fun r24 g25 => drf r24 (fun b27 => bnd (f_X3_clear n Z b27 g25) (fun r29 g30 => drf (zf Z a 6) (fun b32 => drf (zf Z a 0) (fun b34 => bnd (f_X8_queryLine n Z b34 g30) (fun r36 g37 => drf r36 (fun b39 => bnd (f_X6_read n Z b32 b39 g37) (fun r41 g42 => bnd (f_X10_refreshAnswer n Z a g42) (fun r44 g45 => some (r12, g45)))))))))))))))))))))
theorem mq_X10_dropQuery : Mq yX10_dropQuery cX10_dropQuery 2 (some .int) 0 := ⟨tw_1739, tw_5, ⟨by decide +kernel, by decide +kernel, by decide +kernel⟩, by decide⟩
theorem mi_X10_dropQuery : Cond.instanceMethod yX10_dropQuery ∈ TB ∧ Cond.selects yX10_dropQuery.cls yX10_dropQuery yX10_dropQuery ∈ TB := ⟨tw_1737, tw_1738⟩
theorem zc_X10_dropQuery {n : Nat} {Z : Zt} {a : Nat} {g : Mem} {q : Int32 × Mem} (h : f_X10_dropQuery n Z a g = some q) : zk Z a = 9 := (grd_some h).1
set_option maxHeartbeats 4000000 in
set_option maxRecDepth 100000 in
theorem vm_X10_dropQuery {n : Nat} {Z : Zt} {a : Nat} {g : Mem} {rr : Int32} {gg : Mem} (h : f_X10_dropQuery n Z a g = some (rr, gg)) : VM yX10_dropQuery cX10_dropQuery 2 (some .int) 7 [.ref a] Z g (some (.int rr)) gg := by
  unfold f_X10_dropQuery at h
  replace h := grd_some h
  obtain ⟨hz0, h⟩ := h
  refine VM.of (by decide +kernel) (Nat.le_of_ble_eq_true rfl) (fun x hM => ?_)
  have hM : Cm x cX10_dropQuery RX10 2 (some .int) 7 Z (some (.int rr)) gg := hM
  show V x Z 0 0 0 [(0, va_rf (some a))] [] g
  refine V_aload_n hM.c 0 dX10_dropQuery_0 rfl rfl ?_
  replace h := drf_some h
  obtain ⟨b1, e2, h⟩ := h
  refine G8_0 hM.c tw_7 hz0 e2 dX10_dropQuery_1 ?_
  replace h := bnd_some h
  obtain ⟨r3, g4, e5, h⟩ := h
  refine V_callV (As := []) (c := 6) (T := TX8) (N := 8) hM.c hM.a mq_X8_queryLine mi_X8_queryLine tw_76 (hM.d (by decide)) hM.z rfl (by omega) (zc_X8_queryLine e5) (vm_X8_queryLine e5) rfl (Nat.le_of_ble_eq_true rfl) dX10_dropQuery_4 ?_
  replace h := drf_some h
  obtain ⟨b6, rfl, h⟩ := h
  replace h := bnd_some h
  obtain ⟨r8, g9, e10, h⟩ := h
  refine V_callV (As := []) (c := 2) (T := TX3) (N := 2) hM.c hM.a mq_X3_length mi_X3_length tw_81 (hM.d (by decide)) hM.z rfl (by omega) (zc_X3_length e10) (vm_X3_length e10) rfl (Nat.le_of_ble_eq_true rfl) dX10_dropQuery_7 ?_
  refine V_if_ne hM.c 16 dX10_dropQuery_10 (by decide) (fun c11 => ?_) (fun c11 => ?_)
  · replace h := ite_n h c11
    refine V_aload_n hM.c 0 dX10_dropQuery_16 rfl rfl ?_
    replace h := bnd_some h
    obtain ⟨r12, g13, e14, h⟩ := h
    refine V_callV (As := []) (c := 8) (T := TX10) (N := 10) hM.c hM.a mq_X10_answerRows mi_X10_answerRows tw_872 (hM.d (by decide)) hM.z rfl (by omega) (zc_X10_answerRows e14) (vm_X10_answerRows e14) rfl (Nat.le_of_ble_eq_true rfl) dX10_dropQuery_17 ?_
    refine V_istore_n (i := 1) (L' := [(1, .int r12), (0, va_rf (some a))]) hM.c dX10_dropQuery_20 rfl (by decide) rfl ?_
    refine V_aload_n hM.c 1 dX10_dropQuery_21 rfl rfl ?_
    replace h := drf_some h
    obtain ⟨b15, e16, h⟩ := h
    refine G8_2 hM.c tw_664 hz0 e16 dX10_dropQuery_22 ?_
    refine V_aload_n hM.c 1 dX10_dropQuery_25 rfl rfl ?_
    replace h := drf_some h
    obtain ⟨b17, e18, h⟩ := h
    refine G8_0 hM.c tw_7 hz0 e18 dX10_dropQuery_26 ?_
    replace h := bnd_some h
    obtain ⟨r19, g20, e21, h⟩ := h
    refine V_callV (As := [va_rf (some b17)]) (c := 1) (T := TX1) (N := 2) hM.c hM.a mq_X1_record mi_X1_record tw_837 (hM.d (by decide)) hM.z rfl (by omega) (zc_X1_record e21) (vm_X1_record e21) rfl (Nat.le_of_ble_eq_true rfl) dX10_dropQuery_29 ?_
    refine V_aload_n hM.c 1 dX10_dropQuery_32 rfl rfl ?_
    replace h := drf_some h
    obtain ⟨b22, e23, h⟩ := h
    refine G8_0 hM.c tw_7 hz0 e23 dX10_dropQuery_33 ?_
    replace h := bnd_some h
    obtain ⟨r24, g25, e26, h⟩ := h
    refine V_callV (As := []) (c := 6) (T := TX8) (N := 8) hM.c hM.a mq_X8_queryLine mi_X8_queryLine tw_76 (hM.d (by decide)) hM.z rfl (by omega) (zc_X8_queryLine e26) (vm_X8_queryLine e26) rfl (Nat.le_of_ble_eq_true rfl) dX10_dropQuery_36 ?_
    replace h := drf_some h
    obtain ⟨b27, rfl, h⟩ := h
    replace h := bnd_some h
    obtain ⟨r29, g30, e31, h⟩ := h
    refine V_callV (As := []) (c := 2) (T := TX3) (N := 2) hM.c hM.a mq_X3_clear mi_X3_clear tw_522 (hM.d (by decide)) hM.z rfl (by omega) (zc_X3_clear e31) (vm_X3_clear e31) rfl (Nat.le_of_ble_eq_true rfl) dX10_dropQuery_39 ?_
    refine V_aload_n hM.c 1 dX10_dropQuery_42 rfl rfl ?_
    replace h := drf_some h
    obtain ⟨b32, e33, h⟩ := h
    refine G8_6 hM.c tw_665 hz0 e33 dX10_dropQuery_43 ?_
    refine V_aload_n hM.c 1 dX10_dropQuery_46 rfl rfl ?_
    replace h := drf_some h
    obtain ⟨b34, e35, h⟩ := h
    refine G8_0 hM.c tw_7 hz0 e35 dX10_dropQuery_47 ?_
    replace h := bnd_some h
    obtain ⟨r36, g37, e38, h⟩ := h
    refine V_callV (As := []) (c := 6) (T := TX8) (N := 8) hM.c hM.a mq_X8_queryLine mi_X8_queryLine tw_76 (hM.d (by decide)) hM.z rfl (by omega) (zc_X8_queryLine e38) (vm_X8_queryLine e38) rfl (Nat.le_of_ble_eq_true rfl) dX10_dropQuery_50 ?_
    replace h := drf_some h
    obtain ⟨b39, rfl, h⟩ := h
    replace h := bnd_some h
    obtain ⟨r41, g42, e43, h⟩ := h
    refine V_callV (As := [va_rf (some b39)]) (c := 4) (T := TX6) (N := 10) hM.c hM.a mq_X6_read mi_X6_read tw_589 (hM.d (by decide)) hM.z rfl (by omega) (zc_X6_read e43) (vm_X6_read e43) rfl (Nat.le_of_ble_eq_true rfl) dX10_dropQuery_53 ?_
    refine V_pop hM.c dX10_dropQuery_56 rfl ?_
    refine V_aload_n hM.c 1 dX10_dropQuery_57 rfl rfl ?_
    replace h := bnd_some h
    obtain ⟨r44, g45, e46, h⟩ := h
    refine V_callV (As := []) (c := 8) (T := TX10) (N := 10) hM.c hM.a mq_X10_refreshAnswer mi_X10_refreshAnswer tw_1198 (hM.d (by decide)) hM.z rfl (by omega) (zc_X10_refreshAnswer e46) (vm_X10_refreshAnswer e46) rfl (Nat.le_of_ble_eq_true rfl) dX10_dropQuery_58 ?_
    refine V_iload_n hM.c 0 dX10_dropQuery_61 rfl rfl ?_
    exact V_iretE hM h dX10_dropQuery_62
  · replace h := ite_p h c11
    refine V_bipush (v := -5) hM.c dX10_dropQuery_13 (by decide) ?_
    exact V_iretE hM h dX10_dropQuery_15
def f_X10_append (n : Nat) (Z : Zt) (a : Nat) (x1 : Int32) (g : Mem) : Option (Int32 × Mem) := grd (zk Z a = 9) (if x1 < (32 : Int32) then (some ((-2 : Int32), g)) else (if x1 ≤ (126 : Int32) then (drf (zf Z a 3) (fun b3 => bnd (f_X3_add n Z b3 ((x1.toUInt32 % 65536).toInt32) g) (fun r5 g6 => if r5 = 0 then (some ((-4 : Int32), g6)) else (drf (zf Z a 3) (fun b9 => bnd (f_X3_length n Z b9 g6) (fun r11 g12 => some (r11, g12))))))) else (some ((-2 : Int32), g))))
theorem mq_X10_append : Mq yX10_append cX10_append 2 (some .int) 1 := ⟨tw_534, tw_5, ⟨by decide +kernel, by decide +kernel, by decide +kernel⟩, by decide⟩
theorem mi_X10_append : Cond.instanceMethod yX10_append ∈ TB ∧ Cond.selects yX10_append.cls yX10_append yX10_append ∈ TB := ⟨tw_532, tw_533⟩
theorem zc_X10_append {n : Nat} {Z : Zt} {a : Nat} {x1 : Int32} {g : Mem} {q : Int32 × Mem} (h : f_X10_append n Z a x1 g = some q) : zk Z a = 9 := (grd_some h).1
set_option maxHeartbeats 4000000 in
set_option maxRecDepth 100000 in
theorem vm_X10_append {n : Nat} {Z : Zt} {a : Nat} {x1 : Int32} {g : Mem} {rr : Int32} {gg : Mem} (h : f_X10_append n Z a x1 g = some (rr, gg)) : VM yX10_append cX10_append 2 (some .int) 1 [.ref a, .int x1] Z g (some (.int rr)) gg := by
  unfold f_X10_append at h
  replace h := grd_some h
  obtain ⟨hz0, h⟩ := h
  refine VM.of (by decide +kernel) (Nat.le_of_ble_eq_true rfl) (fun x hM => ?_)
  have hM : Cm x cX10_append RX10 2 (some .int) 1 Z (some (.int rr)) gg := hM
  show V x Z 0 0 0 [(0, va_rf (some a)), (1, .int x1)] [] g
  refine V_iload_n hM.c 1 dX10_append_0 rfl rfl ?_
  refine V_bipush (v := 32) hM.c dX10_append_1 (by decide) ?_
  refine V_icmp_lt hM.c 12 dX10_append_3 (by decide) (fun c1 => ?_) (fun c1 => ?_)
  · replace h := ite_p h c1
    refine V_bipush (v := -2) hM.c dX10_append_12 (by decide) ?_
    exact V_iretE hM h dX10_append_14
  · replace h := ite_n h c1
    refine V_iload_n hM.c 1 dX10_append_6 rfl rfl ?_
    refine V_bipush (v := 126) hM.c dX10_append_7 (by decide) ?_
    refine V_icmp_le hM.c 15 dX10_append_9 (by decide) (fun c2 => ?_) (fun c2 => ?_)
    · replace h := ite_p h c2
      refine V_aload_n hM.c 0 dX10_append_15 rfl rfl ?_
      replace h := drf_some h
      obtain ⟨b3, e4, h⟩ := h
      refine G8_3 hM.c tw_515 hz0 e4 dX10_append_16 ?_
      refine V_iload_n hM.c 1 dX10_append_19 rfl rfl ?_
      refine V_i2c hM.c dX10_append_20 ?_
      replace h := bnd_some h
      obtain ⟨r5, g6, e7, h⟩ := h
      refine V_callV (As := [.int ((x1.toUInt32 % 65536).toInt32)]) (c := 2) (T := TX3) (N := 2) hM.c hM.a mq_X3_add mi_X3_add tw_535 (hM.d (by decide)) hM.z rfl (by omega) (zc_X3_add e7) (vm_X3_add e7) rfl (Nat.le_of_ble_eq_true rfl) dX10_append_21 ?_
      refine V_if_ne hM.c 30 dX10_append_24 (by decide) (fun c8 => ?_) (fun c8 => ?_)
      · replace h := ite_n h c8
        refine V_aload_n hM.c 0 dX10_append_30 rfl rfl ?_
        replace h := drf_some h
        obtain ⟨b9, e10, h⟩ := h
        refine G8_3 hM.c tw_515 hz0 e10 dX10_append_31 ?_
        replace h := bnd_some h
        obtain ⟨r11, g12, e13, h⟩ := h
        refine V_callV (As := []) (c := 2) (T := TX3) (N := 2) hM.c hM.a mq_X3_length mi_X3_length tw_81 (hM.d (by decide)) hM.z rfl (by omega) (zc_X3_length e13) (vm_X3_length e13) rfl (Nat.le_of_ble_eq_true rfl) dX10_append_34 ?_
        exact V_iretE hM h dX10_append_37
      · replace h := ite_p h c8
        refine V_bipush (v := -4) hM.c dX10_append_27 (by decide) ?_
        exact V_iretE hM h dX10_append_29
    · replace h := ite_n h c2
      refine V_bipush (v := -2) hM.c dX10_append_12 (by decide) ?_
      exact V_iretE hM h dX10_append_14
def f_X10_clearText (n : Nat) (Z : Zt) (a : Nat) (g : Mem) : Option (Int32 × Mem) := grd (zk Z a = 9) (drf (zf Z a 3) (fun b1 => bnd (f_X3_length n Z b1 g) (fun r3 g4 => drf (zf Z a 3) (fun b6 => bnd (f_X3_clear n Z b6 g4) (fun r8 g9 => some (r3, g9))))))
theorem mq_X10_clearText : Mq yX10_clearText cX10_clearText 2 (some .int) 0 := ⟨tw_514, tw_5, ⟨by decide +kernel, by decide +kernel, by decide +kernel⟩, by decide⟩
theorem mi_X10_clearText : Cond.instanceMethod yX10_clearText ∈ TB ∧ Cond.selects yX10_clearText.cls yX10_clearText yX10_clearText ∈ TB := ⟨tw_511, tw_512⟩
theorem zc_X10_clearText {n : Nat} {Z : Zt} {a : Nat} {g : Mem} {q : Int32 × Mem} (h : f_X10_clearText n Z a g = some q) : zk Z a = 9 := (grd_some h).1
set_option maxHeartbeats 4000000 in
set_option maxRecDepth 100000 in
theorem vm_X10_clearText {n : Nat} {Z : Zt} {a : Nat} {g : Mem} {rr : Int32} {gg : Mem} (h : f_X10_clearText n Z a g = some (rr, gg)) : VM yX10_clearText cX10_clearText 2 (some .int) 1 [.ref a] Z g (some (.int rr)) gg := by
  unfold f_X10_clearText at h
  replace h := grd_some h
  obtain ⟨hz0, h⟩ := h
  refine VM.of (by decide +kernel) (Nat.le_of_ble_eq_true rfl) (fun x hM => ?_)
  have hM : Cm x cX10_clearText RX10 2 (some .int) 1 Z (some (.int rr)) gg := hM
  show V x Z 0 0 0 [(0, va_rf (some a))] [] g
  refine V_aload_n hM.c 0 dX10_clearText_0 rfl rfl ?_
  replace h := drf_some h
  obtain ⟨b1, e2, h⟩ := h
  refine G8_3 hM.c tw_515 hz0 e2 dX10_clearText_1 ?_
  replace h := bnd_some h
  obtain ⟨r3, g4, e5, h⟩ := h
  refine V_callV (As := []) (c := 2) (T := TX3) (N := 2) hM.c hM.a mq_X3_length mi_X3_length tw_81 (hM.d (by decide)) hM.z rfl (by omega) (zc_X3_length e5) (vm_X3_length e5) rfl (Nat.le_of_ble_eq_true rfl) dX10_clearText_4 ?_
  refine V_istore_n (i := 1) (L' := [(1, .int r3), (0, va_rf (some a))]) hM.c dX10_clearText_7 rfl (by decide) rfl ?_
  refine V_aload_n hM.c 1 dX10_clearText_8 rfl rfl ?_
  replace h := drf_some h
  obtain ⟨b6, e7, h⟩ := h
  refine G8_3 hM.c tw_515 hz0 e7 dX10_clearText_9 ?_
  replace h := bnd_some h
  obtain ⟨r8, g9, e10, h⟩ := h
  refine V_callV (As := []) (c := 2) (T := TX3) (N := 2) hM.c hM.a mq_X3_clear mi_X3_clear tw_522 (hM.d (by decide)) hM.z rfl (by omega) (zc_X3_clear e10) (vm_X3_clear e10) rfl (Nat.le_of_ble_eq_true rfl) dX10_clearText_12 ?_
  refine V_iload_n hM.c 0 dX10_clearText_15 rfl rfl ?_
  exact V_iretE hM h dX10_clearText_16
def f_X6_stoppedAt (n : Nat) (Z : Zt) (a : Nat) (g : Mem) : Option (Int32 × Mem) := grd (zk Z a = 5) (some ((gI g a 7), g))
theorem mq_X6_stoppedAt : Mq yX6_stoppedAt cX6_stoppedAt 1 (some .int) 0 := ⟨tw_658, tw_592, ⟨by decide +kernel, by decide +kernel, by decide +kernel⟩, by decide⟩
theorem mi_X6_stoppedAt : Cond.instanceMethod yX6_stoppedAt ∈ TB ∧ Cond.selects yX6_stoppedAt.cls yX6_stoppedAt yX6_stoppedAt ∈ TB := ⟨tw_656, tw_657⟩
theorem zc_X6_stoppedAt {n : Nat} {Z : Zt} {a : Nat} {g : Mem} {q : Int32 × Mem} (h : f_X6_stoppedAt n Z a g = some q) : zk Z a = 5 := (grd_some h).1
set_option maxHeartbeats 4000000 in
set_option maxRecDepth 100000 in
theorem vm_X6_stoppedAt {n : Nat} {Z : Zt} {a : Nat} {g : Mem} {rr : Int32} {gg : Mem} (h : f_X6_stoppedAt n Z a g = some (rr, gg)) : VM yX6_stoppedAt cX6_stoppedAt 1 (some .int) 0 [.ref a] Z g (some (.int rr)) gg := by
  unfold f_X6_stoppedAt at h
  replace h := grd_some h
  obtain ⟨hz0, h⟩ := h
  refine VM.of (by decide +kernel) (Nat.le_of_ble_eq_true rfl) (fun x hM => ?_)
  have hM : Cm x cX6_stoppedAt RX6 1 (some .int) 0 Z (some (.int rr)) gg := hM
  show V x Z 0 0 0 [(0, va_rf (some a))] [] g
  refine V_aload_n hM.c 0 dX6_stoppedAt_0 rfl rfl ?_
  refine G4_7 hM.c tw_596 hz0 dX6_stoppedAt_1 ?_
  exact V_iretE hM h dX6_stoppedAt_4
def f_X10_fault (n : Nat) (Z : Zt) (a : Nat) (g : Mem) : Option (Int32 × Mem) := grd (zk Z a = 9) (drf (zf Z a 5) (fun b1 => drf (zf Z a 3) (fun b3 => bnd (f_X6_read n Z b1 b3 g) (fun r5 g6 => if r5 = 0 then (drf (zf Z a 5) (fun b9 => bnd (f_X6_stoppedAt n Z b9 g6) (fun r11 g12 => some (r11, g12)))) else (some ((-6 : Int32), g6))))))
theorem mq_X10_fault : Mq yX10_fault cX10_fault 1 (some .int) 0 := ⟨tw_587, tw_5, ⟨by decide +kernel, by decide +kernel, by decide +kernel⟩, by decide⟩
theorem mi_X10_fault : Cond.instanceMethod yX10_fault ∈ TB ∧ Cond.selects yX10_fault.cls yX10_fault yX10_fault ∈ TB := ⟨tw_585, tw_586⟩
theorem zc_X10_fault {n : Nat} {Z : Zt} {a : Nat} {g : Mem} {q : Int32 × Mem} (h : f_X10_fault n Z a g = some q) : zk Z a = 9 := (grd_some h).1
set_option maxHeartbeats 4000000 in
set_option maxRecDepth 100000 in
theorem vm_X10_fault {n : Nat} {Z : Zt} {a : Nat} {g : Mem} {rr : Int32} {gg : Mem} (h : f_X10_fault n Z a g = some (rr, gg)) : VM yX10_fault cX10_fault 1 (some .int) 6 [.ref a] Z g (some (.int rr)) gg := by
  unfold f_X10_fault at h
  replace h := grd_some h
  obtain ⟨hz0, h⟩ := h
  refine VM.of (by decide +kernel) (Nat.le_of_ble_eq_true rfl) (fun x hM => ?_)
  have hM : Cm x cX10_fault RX10 1 (some .int) 6 Z (some (.int rr)) gg := hM
  show V x Z 0 0 0 [(0, va_rf (some a))] [] g
  refine V_aload_n hM.c 0 dX10_fault_0 rfl rfl ?_
  replace h := drf_some h
  obtain ⟨b1, e2, h⟩ := h
  refine G8_5 hM.c tw_588 hz0 e2 dX10_fault_1 ?_
  refine V_aload_n hM.c 0 dX10_fault_4 rfl rfl ?_
  replace h := drf_some h
  obtain ⟨b3, e4, h⟩ := h
  refine G8_3 hM.c tw_515 hz0 e4 dX10_fault_5 ?_
  replace h := bnd_some h
  obtain ⟨r5, g6, e7, h⟩ := h
  refine V_callV (As := [va_rf (some b3)]) (c := 4) (T := TX6) (N := 10) hM.c hM.a mq_X6_read mi_X6_read tw_589 (hM.d (by decide)) hM.z rfl (by omega) (zc_X6_read e7) (vm_X6_read e7) rfl (Nat.le_of_ble_eq_true rfl) dX10_fault_8 ?_
  refine V_if_eq hM.c 19 dX10_fault_11 (by decide) (fun c8 => ?_) (fun c8 => ?_)
  · replace h := ite_p h c8
    refine V_aload_n hM.c 0 dX10_fault_19 rfl rfl ?_
    replace h := drf_some h
    obtain ⟨b9, e10, h⟩ := h
    refine G8_5 hM.c tw_588 hz0 e10 dX10_fault_20 ?_
    replace h := bnd_some h
    obtain ⟨r11, g12, e13, h⟩ := h
    refine V_callV (As := []) (c := 4) (T := TX6) (N := 10) hM.c hM.a mq_X6_stoppedAt mi_X6_stoppedAt tw_655 (hM.d (by decide)) hM.z rfl (by omega) (zc_X6_stoppedAt e13) (vm_X6_stoppedAt e13) rfl (Nat.le_of_ble_eq_true rfl) dX10_fault_23 ?_
    exact V_iretE hM h dX10_fault_26
  · replace h := ite_n h c8
    refine V_bipush (v := -6) hM.c dX10_fault_14 (by decide) ?_
    refine V_goto hM.c 26 dX10_fault_16 (by decide) ?_
    exact V_iretE hM h dX10_fault_26
def f_X1_takeLatest (n : Nat) (Z : Zt) (a : Nat) (g : Mem) : Option (Option Nat × Mem) := grd (zk Z a = 2) (if (gI g a 1) ≤ 0 then (some (none, g)) else (if (gI g a 1) ≤ (4 : Int32) then (drf (zf Z a 0) (fun b3 => grd (zk Z b3 = 17) (grd (inr (gI (sI g a 1 ((gI g a 1) - (1 : Int32))) a 1) (zl Z b3)) (nam (gP (sI g a 1 ((gI g a 1) - (1 : Int32))) b3 (gI (sI g a 1 ((gI g a 1) - (1 : Int32))) a 1).toNatClampNeg) (fun q7 => some (q7, (sI g a 1 ((gI g a 1) - (1 : Int32))))))))) else (some (none, g))))
theorem mq_X1_takeLatest : Mq yX1_takeLatest cX1_takeLatest 1 (some (.object "ProvenanceTables$State")) 0 := ⟨tw_2166, tw_840, ⟨by decide +kernel, by decide +kernel, by decide +kernel⟩, by decide⟩
theorem mi_X1_takeLatest : Cond.instanceMethod yX1_takeLatest ∈ TB ∧ Cond.selects yX1_takeLatest.cls yX1_takeLatest yX1_takeLatest ∈ TB := ⟨tw_2164, tw_2165⟩
theorem zc_X1_takeLatest {n : Nat} {Z : Zt} {a : Nat} {g : Mem} {q : Option Nat × Mem} (h : f_X1_takeLatest n Z a g = some q) : zk Z a = 2 := (grd_some h).1
set_option maxHeartbeats 4000000 in
set_option maxRecDepth 100000 in
theorem vm_X1_takeLatest {n : Nat} {Z : Zt} {a : Nat} {g : Mem} {rr : Option Nat} {gg : Mem} (h : f_X1_takeLatest n Z a g = some (rr, gg)) : VM yX1_takeLatest cX1_takeLatest 1 (some (.object "ProvenanceTables$State")) 0 [.ref a] Z g (some (va_rf rr)) gg := by
  unfold f_X1_takeLatest at h
  replace h := grd_some h
  obtain ⟨hz0, h⟩ := h
  refine VM.of (by decide +kernel) (Nat.le_of_ble_eq_true rfl) (fun x hM => ?_)
  have hM : Cm x cX1_takeLatest RX1 1 (some (.object "ProvenanceTables$State")) 0 Z (some (va_rf rr)) gg := hM
  show V x Z 0 0 0 [(0, va_rf (some a))] [] g
  refine V_aload_n hM.c 0 dX1_takeLatest_0 rfl rfl ?_
  refine G1_1 hM.c tw_842 hz0 dX1_takeLatest_1 ?_
  refine V_if_le hM.c 15 dX1_takeLatest_4 (by decide) (fun c1 => ?_) (fun c1 => ?_)
  · replace h := ite_p h c1
    refine V_null hM.c dX1_takeLatest_15 ?_
    exact V_aretE hM h dX1_takeLatest_16
  · replace h := ite_n h c1
    refine V_aload_n hM.c 0 dX1_takeLatest_7 rfl rfl ?_
    refine G1_1 hM.c tw_842 hz0 dX1_takeLatest_8 ?_
    refine V_iconst (v := 4) hM.c dX1_takeLatest_11 (by decide) ?_
    refine V_icmp_le hM.c 17 dX1_takeLatest_12 (by decide) (fun c2 => ?_) (fun c2 => ?_)
    · replace h := ite_p h c2
      refine V_aload_n hM.c 0 dX1_takeLatest_17 rfl rfl ?_
      refine V_dup hM.c dX1_takeLatest_18 (rf_cat _) ?_
      refine G1_1 hM.c tw_842 hz0 dX1_takeLatest_19 ?_
      refine V_iconst (v := 1) hM.c dX1_takeLatest_22 (by decide) ?_
      refine V_isub hM.c dX1_takeLatest_23 ?_
      refine P1_1 hM.c tw_842 hz0 hM.a dX1_takeLatest_24 ?_
      refine V_aload_n hM.c 0 dX1_takeLatest_27 rfl rfl ?_
      replace h := drf_some h
      obtain ⟨b3, e4, h⟩ := h
      refine G1_0 hM.c tw_843 hz0 e4 dX1_takeLatest_28 ?_
      refine V_aload_n hM.c 0 dX1_takeLatest_31 rfl rfl ?_
      refine G1_1 hM.c tw_842 hz0 dX1_takeLatest_32 ?_
      replace h := grd_some h
      obtain ⟨z5, h⟩ := h
      replace h := grd_some h
      obtain ⟨c6, h⟩ := h
      refine V_qald6 hM.c z5 c6 dX1_takeLatest_35 ?_
      replace h := nam_some h
      obtain ⟨q7, e8, h⟩ := h
      rw [← e8]
      exact V_aretE hM h dX1_takeLatest_36
    · replace h := ite_n h c2
      refine V_null hM.c dX1_takeLatest_15 ?_
      exact V_aretE hM h dX1_takeLatest_16
def f_X1_size (n : Nat) (Z : Zt) (a : Nat) (g : Mem) : Option (Int32 × Mem) := grd (zk Z a = 2) (some ((gI g a 1), g))
theorem mq_X1_size : Mq yX1_size cX1_size 1 (some .int) 0 := ⟨tw_2364, tw_840, ⟨by decide +kernel, by decide +kernel, by decide +kernel⟩, by decide⟩
theorem mi_X1_size : Cond.instanceMethod yX1_size ∈ TB ∧ Cond.selects yX1_size.cls yX1_size yX1_size ∈ TB := ⟨tw_2362, tw_2363⟩
theorem zc_X1_size {n : Nat} {Z : Zt} {a : Nat} {g : Mem} {q : Int32 × Mem} (h : f_X1_size n Z a g = some q) : zk Z a = 2 := (grd_some h).1
set_option maxHeartbeats 4000000 in
set_option maxRecDepth 100000 in
theorem vm_X1_size {n : Nat} {Z : Zt} {a : Nat} {g : Mem} {rr : Int32} {gg : Mem} (h : f_X1_size n Z a g = some (rr, gg)) : VM yX1_size cX1_size 1 (some .int) 0 [.ref a] Z g (some (.int rr)) gg := by
  unfold f_X1_size at h
  replace h := grd_some h
  obtain ⟨hz0, h⟩ := h
  refine VM.of (by decide +kernel) (Nat.le_of_ble_eq_true rfl) (fun x hM => ?_)
  have hM : Cm x cX1_size RX1 1 (some .int) 0 Z (some (.int rr)) gg := hM
  show V x Z 0 0 0 [(0, va_rf (some a))] [] g
  refine V_aload_n hM.c 0 dX1_size_0 rfl rfl ?_
  refine G1_1 hM.c tw_842 hz0 dX1_size_1 ?_
  exact V_iretE hM h dX1_size_4
def f_X10_undo (n : Nat) (Z : Zt) (a : Nat) (g : Mem) : Option (Int32 × Mem) := grd (zk Z a = 9) (drf (zf Z a 2) (fun b1 => bnd (f_X1_takeLatest n Z b1 g) (fun r3 g4 => if r3 = none then (some ((-6 : Int32), g4)) else (drf (zf Z a 0) (fun b7 => drf r3 (fun b9 => bnd (f_X8_copy n Z b7 b9 g4) (fun r11 g12 => drf (zf Z a 6) (fun b14 => drf (zf Z a 0) (fun b16 => bnd (f_X8_queryLine n Z b16 g12) (fun r18 g19 => drf r18 (fun b21 => bnd (f_X6_read n Z b14 b21 g19) (fun r23 g24 => bnd (f_X10_refreshAnswer n Z a g24) (fun r26 g27 => drf (zf Z a 2) (fun b29 => bnd (f_X1_size n Z b29 g27) (fun r31 g32 => some (r31, g32))))))))))))))))
theorem mq_X10_undo : Mq yX10_undo cX10_undo 2 (some .int) 0 := ⟨tw_2162, tw_5, ⟨by decide +kernel, by decide +kernel, by decide +kernel⟩, by decide⟩
theorem mi_X10_undo : Cond.instanceMethod yX10_undo ∈ TB ∧ Cond.selects yX10_undo.cls yX10_undo yX10_undo ∈ TB := ⟨tw_2160, tw_2161⟩
theorem zc_X10_undo {n : Nat} {Z : Zt} {a : Nat} {g : Mem} {q : Int32 × Mem} (h : f_X10_undo n Z a g = some q) : zk Z a = 9 := (grd_some h).1
set_option maxHeartbeats 4000000 in
set_option maxRecDepth 100000 in
theorem vm_X10_undo {n : Nat} {Z : Zt} {a : Nat} {g : Mem} {rr : Int32} {gg : Mem} (h : f_X10_undo n Z a g = some (rr, gg)) : VM yX10_undo cX10_undo 2 (some .int) 7 [.ref a] Z g (some (.int rr)) gg := by
  unfold f_X10_undo at h
  replace h := grd_some h
  obtain ⟨hz0, h⟩ := h
  refine VM.of (by decide +kernel) (Nat.le_of_ble_eq_true rfl) (fun x hM => ?_)
  have hM : Cm x cX10_undo RX10 2 (some .int) 7 Z (some (.int rr)) gg := hM
  show V x Z 0 0 0 [(0, va_rf (some a))] [] g
  refine V_aload_n hM.c 0 dX10_undo_0 rfl rfl ?_
  replace h := drf_some h
  obtain ⟨b1, e2, h⟩ := h
  refine G8_2 hM.c tw_664 hz0 e2 dX10_undo_1 ?_
  replace h := bnd_some h
  obtain ⟨r3, g4, e5, h⟩ := h
  refine V_callV (As := []) (c := 1) (T := TX1) (N := 2) hM.c hM.a mq_X1_takeLatest mi_X1_takeLatest tw_2163 (hM.d (by decide)) hM.z rfl (by omega) (zc_X1_takeLatest e5) (vm_X1_takeLatest e5) rfl (Nat.le_of_ble_eq_true rfl) dX10_undo_4 ?_
  refine V_astore_n (i := 1) (L' := [(1, va_rf r3), (0, va_rf (some a))]) hM.c dX10_undo_7 rfl (by decide) rfl ?_
  refine V_aload_n hM.c 0 dX10_undo_8 rfl rfl ?_
  refine V_ifnonnull hM.c 15 dX10_undo_9 (by decide) (fun c6 => ?_) (fun c6 => ?_)
  · replace h := ite_n h c6
    refine V_aload_n hM.c 1 dX10_undo_15 rfl rfl ?_
    replace h := drf_some h
    obtain ⟨b7, e8, h⟩ := h
    refine G8_0 hM.c tw_7 hz0 e8 dX10_undo_16 ?_
    refine V_aload_n hM.c 0 dX10_undo_19 rfl rfl ?_
    replace h := drf_some h
    obtain ⟨b9, rfl, h⟩ := h
    replace h := bnd_some h
    obtain ⟨r11, g12, e13, h⟩ := h
    refine V_callV (As := [va_rf (some b9)]) (c := 6) (T := TX8) (N := 8) hM.c hM.a mq_X8_copy mi_X8_copy tw_947 (hM.d (by decide)) hM.z rfl (by omega) (zc_X8_copy e13) (vm_X8_copy e13) rfl (Nat.le_of_ble_eq_true rfl) dX10_undo_20 ?_
    refine V_aload_n hM.c 1 dX10_undo_23 rfl rfl ?_
    replace h := drf_some h
    obtain ⟨b14, e15, h⟩ := h
    refine G8_6 hM.c tw_665 hz0 e15 dX10_undo_24 ?_
    refine V_aload_n hM.c 1 dX10_undo_27 rfl rfl ?_
    replace h := drf_some h
    obtain ⟨b16, e17, h⟩ := h
    refine G8_0 hM.c tw_7 hz0 e17 dX10_undo_28 ?_
    replace h := bnd_some h
    obtain ⟨r18, g19, e20, h⟩ := h
    refine V_callV (As := []) (c := 6) (T := TX8) (N := 8) hM.c hM.a mq_X8_queryLine mi_X8_queryLine tw_76 (hM.d (by decide)) hM.z rfl (by omega) (zc_X8_queryLine e20) (vm_X8_queryLine e20) rfl (Nat.le_of_ble_eq_true rfl) dX10_undo_31 ?_
    replace h := drf_some h
    obtain ⟨b21, rfl, h⟩ := h
    replace h := bnd_some h
    obtain ⟨r23, g24, e25, h⟩ := h
    refine V_callV (As := [va_rf (some b21)]) (c := 4) (T := TX6) (N := 10) hM.c hM.a mq_X6_read mi_X6_read tw_589 (hM.d (by decide)) hM.z rfl (by omega) (zc_X6_read e25) (vm_X6_read e25) rfl (Nat.le_of_ble_eq_true rfl) dX10_undo_34 ?_
    refine V_pop hM.c dX10_undo_37 rfl ?_
    refine V_aload_n hM.c 1 dX10_undo_38 rfl rfl ?_
    replace h := bnd_some h
    obtain ⟨r26, g27, e28, h⟩ := h
    refine V_callV (As := []) (c := 8) (T := TX10) (N := 10) hM.c hM.a mq_X10_refreshAnswer mi_X10_refreshAnswer tw_1198 (hM.d (by decide)) hM.z rfl (by omega) (zc_X10_refreshAnswer e28) (vm_X10_refreshAnswer e28) rfl (Nat.le_of_ble_eq_true rfl) dX10_undo_39 ?_
    refine V_aload_n hM.c 1 dX10_undo_42 rfl rfl ?_
    replace h := drf_some h
    obtain ⟨b29, e30, h⟩ := h
    refine G8_2 hM.c tw_664 hz0 e30 dX10_undo_43 ?_
    replace h := bnd_some h
    obtain ⟨r31, g32, e33, h⟩ := h
    refine V_callV (As := []) (c := 1) (T := TX1) (N := 2) hM.c hM.a mq_X1_size mi_X1_size tw_2361 (hM.d (by decide)) hM.z rfl (by omega) (zc_X1_size e33) (vm_X1_size e33) rfl (Nat.le_of_ble_eq_true rfl) dX10_undo_46 ?_
    exact V_iretE hM h dX10_undo_49
  · replace h := ite_p h c6
    refine V_bipush (v := -6) hM.c dX10_undo_12 (by decide) ?_
    exact V_iretE hM h dX10_undo_14
def f_X10_columns (n : Nat) (Z : Zt) (a : Nat) (x1 : Int32) (g : Mem) : Option (Int32 × Mem) := grd (zk Z a = 9) (bnd (f_X10_isTable n Z x1 g) (fun r1 g2 => if r1 = 0 then (some ((-1 : Int32), g2)) else (drf (zf Z a 0) (fun b5 => bnd (f_X8_widthOf n Z b5 x1 g2) (fun r7 g8 => some (r7, g8))))))
theorem mq_X10_columns : Mq yX10_columns cX10_columns 2 (some .int) 1 := ⟨tw_6, tw_5, ⟨by decide +kernel, by decide +kernel, by decide +kernel⟩, by decide⟩
theorem mi_X10_columns : Cond.instanceMethod yX10_columns ∈ TB ∧ Cond.selects yX10_columns.cls yX10_columns yX10_columns ∈ TB := ⟨tw_3, tw_4⟩
theorem zc_X10_columns {n : Nat} {Z : Zt} {a : Nat} {x1 : Int32} {g : Mem} {q : Int32 × Mem} (h : f_X10_columns n Z a x1 g = some q) : zk Z a = 9 := (grd_some h).1
set_option maxHeartbeats 4000000 in
set_option maxRecDepth 100000 in
theorem vm_X10_columns {n : Nat} {Z : Zt} {a : Nat} {x1 : Int32} {g : Mem} {rr : Int32} {gg : Mem} (h : f_X10_columns n Z a x1 g = some (rr, gg)) : VM yX10_columns cX10_columns 2 (some .int) 2 [.ref a, .int x1] Z g (some (.int rr)) gg := by
  unfold f_X10_columns at h
  replace h := grd_some h
  obtain ⟨hz0, h⟩ := h
  refine VM.of (by decide +kernel) (Nat.le_of_ble_eq_true rfl) (fun x hM => ?_)
  have hM : Cm x cX10_columns RX10 2 (some .int) 2 Z (some (.int rr)) gg := hM
  show V x Z 0 0 0 [(0, va_rf (some a)), (1, .int x1)] [] g
  refine V_iload_n hM.c 1 dX10_columns_0 rfl rfl ?_
  replace h := bnd_some h
  obtain ⟨r1, g2, e3, h⟩ := h
  refine V_callS (As := [.int x1]) hM.c hM.a mq_X10_isTable mi_X10_isTable tw_8 (hM.d (by decide)) hM.z (vm_X10_isTable e3) rfl (Nat.le_of_ble_eq_true rfl) dX10_columns_1 ?_
  refine V_if_eq hM.c 18 dX10_columns_4 (by decide) (fun c4 => ?_) (fun c4 => ?_)
  · replace h := ite_p h c4
    refine V_iconst (v := -1) hM.c dX10_columns_18 (by decide) ?_
    exact V_iretE hM h dX10_columns_19
  · replace h := ite_n h c4
    refine V_aload_n hM.c 0 dX10_columns_7 rfl rfl ?_
    replace h := drf_some h
    obtain ⟨b5, e6, h⟩ := h
    refine G8_0 hM.c tw_7 hz0 e6 dX10_columns_8 ?_
    refine V_iload_n hM.c 1 dX10_columns_11 rfl rfl ?_
    replace h := bnd_some h
    obtain ⟨r7, g8, e9, h⟩ := h
    refine V_callV (As := [.int x1]) (c := 6) (T := TX8) (N := 8) hM.c hM.a mq_X8_widthOf mi_X8_widthOf tw_11 (hM.d (by decide)) hM.z rfl (by omega) (zc_X8_widthOf e9) (vm_X8_widthOf e9) rfl (Nat.le_of_ble_eq_true rfl) dX10_columns_12 ?_
    refine V_goto hM.c 19 dX10_columns_15 (by decide) ?_
    exact V_iretE hM h dX10_columns_19
def f_X10_tags (n : Nat) (Z : Zt) (a : Nat) (g : Mem) : Option (Int32 × Mem) := grd (zk Z a = 9) (drf (zf Z a 0) (fun b1 => bnd (f_X8_tagMask n Z b1 g) (fun r3 g4 => some (r3, g4))))
theorem mq_X10_tags : Mq yX10_tags cX10_tags 1 (some .int) 0 := ⟨tw_262, tw_5, ⟨by decide +kernel, by decide +kernel, by decide +kernel⟩, by decide⟩
theorem mi_X10_tags : Cond.instanceMethod yX10_tags ∈ TB ∧ Cond.selects yX10_tags.cls yX10_tags yX10_tags ∈ TB := ⟨tw_260, tw_261⟩
theorem zc_X10_tags {n : Nat} {Z : Zt} {a : Nat} {g : Mem} {q : Int32 × Mem} (h : f_X10_tags n Z a g = some q) : zk Z a = 9 := (grd_some h).1
set_option maxHeartbeats 4000000 in
set_option maxRecDepth 100000 in
theorem vm_X10_tags {n : Nat} {Z : Zt} {a : Nat} {g : Mem} {rr : Int32} {gg : Mem} (h : f_X10_tags n Z a g = some (rr, gg)) : VM yX10_tags cX10_tags 1 (some .int) 1 [.ref a] Z g (some (.int rr)) gg := by
  unfold f_X10_tags at h
  replace h := grd_some h
  obtain ⟨hz0, h⟩ := h
  refine VM.of (by decide +kernel) (Nat.le_of_ble_eq_true rfl) (fun x hM => ?_)
  have hM : Cm x cX10_tags RX10 1 (some .int) 1 Z (some (.int rr)) gg := hM
  show V x Z 0 0 0 [(0, va_rf (some a))] [] g
  refine V_aload_n hM.c 0 dX10_tags_0 rfl rfl ?_
  replace h := drf_some h
  obtain ⟨b1, e2, h⟩ := h
  refine G8_0 hM.c tw_7 hz0 e2 dX10_tags_1 ?_
  replace h := bnd_some h
  obtain ⟨r3, g4, e5, h⟩ := h
  refine V_callV (As := []) (c := 6) (T := TX8) (N := 8) hM.c hM.a mq_X8_tagMask mi_X8_tagMask tw_263 (hM.d (by decide)) hM.z rfl (by omega) (zc_X8_tagMask e5) (vm_X8_tagMask e5) rfl (Nat.le_of_ble_eq_true rfl) dX10_tags_4 ?_
  exact V_iretE hM h dX10_tags_7
def f_X10_withdrawn (n : Nat) (Z : Zt) (a : Nat) (g : Mem) : Option (Int32 × Mem) := grd (zk Z a = 9) (drf (zf Z a 0) (fun b1 => bnd (f_X8_withdrawnMask n Z b1 g) (fun r3 g4 => some (r3, g4))))
theorem mq_X10_withdrawn : Mq yX10_withdrawn cX10_withdrawn 1 (some .int) 0 := ⟨tw_66, tw_5, ⟨by decide +kernel, by decide +kernel, by decide +kernel⟩, by decide⟩
theorem mi_X10_withdrawn : Cond.instanceMethod yX10_withdrawn ∈ TB ∧ Cond.selects yX10_withdrawn.cls yX10_withdrawn yX10_withdrawn ∈ TB := ⟨tw_64, tw_65⟩
theorem zc_X10_withdrawn {n : Nat} {Z : Zt} {a : Nat} {g : Mem} {q : Int32 × Mem} (h : f_X10_withdrawn n Z a g = some q) : zk Z a = 9 := (grd_some h).1
set_option maxHeartbeats 4000000 in
set_option maxRecDepth 100000 in
theorem vm_X10_withdrawn {n : Nat} {Z : Zt} {a : Nat} {g : Mem} {rr : Int32} {gg : Mem} (h : f_X10_withdrawn n Z a g = some (rr, gg)) : VM yX10_withdrawn cX10_withdrawn 1 (some .int) 1 [.ref a] Z g (some (.int rr)) gg := by
  unfold f_X10_withdrawn at h
  replace h := grd_some h
  obtain ⟨hz0, h⟩ := h
  refine VM.of (by decide +kernel) (Nat.le_of_ble_eq_true rfl) (fun x hM => ?_)
  have hM : Cm x cX10_withdrawn RX10 1 (some .int) 1 Z (some (.int rr)) gg := hM
  show V x Z 0 0 0 [(0, va_rf (some a))] [] g
  refine V_aload_n hM.c 0 dX10_withdrawn_0 rfl rfl ?_
  replace h := drf_some h
  obtain ⟨b1, e2, h⟩ := h
  refine G8_0 hM.c tw_7 hz0 e2 dX10_withdrawn_1 ?_
  replace h := bnd_some h
  obtain ⟨r3, g4, e5, h⟩ := h
  refine V_callV (As := []) (c := 6) (T := TX8) (N := 8) hM.c hM.a mq_X8_withdrawnMask mi_X8_withdrawnMask tw_67 (hM.d (by decide)) hM.z rfl (by omega) (zc_X8_withdrawnMask e5) (vm_X8_withdrawnMask e5) rfl (Nat.le_of_ble_eq_true rfl) dX10_withdrawn_4 ?_
  exact V_iretE hM h dX10_withdrawn_7
def f_X10_tableOf (n : Nat) (Z : Zt) (a : Nat) (x1 : Int32) (g : Mem) : Option (Int32 × Mem) := grd (zk Z a = 9) (drf (zf Z a 0) (fun b1 => bnd (f_X8_hasTag n Z b1 x1 g) (fun r3 g4 => if r3 = 0 then (some ((-1 : Int32), g4)) else (drf (zf Z a 0) (fun b7 => bnd (f_X8_tableAt n Z b7 x1 g4) (fun r9 g10 => some (r9, g10)))))))
theorem mq_X10_tableOf : Mq yX10_tableOf cX10_tableOf 2 (some .int) 1 := ⟨tw_20, tw_5, ⟨by decide +kernel, by decide +kernel, by decide +kernel⟩, by decide⟩
theorem mi_X10_tableOf : Cond.instanceMethod yX10_tableOf ∈ TB ∧ Cond.selects yX10_tableOf.cls yX10_tableOf yX10_tableOf ∈ TB := ⟨tw_18, tw_19⟩
theorem zc_X10_tableOf {n : Nat} {Z : Zt} {a : Nat} {x1 : Int32} {g : Mem} {q : Int32 × Mem} (h : f_X10_tableOf n Z a x1 g = some q) : zk Z a = 9 := (grd_some h).1
set_option maxHeartbeats 4000000 in
set_option maxRecDepth 100000 in
theorem vm_X10_tableOf {n : Nat} {Z : Zt} {a : Nat} {x1 : Int32} {g : Mem} {rr : Int32} {gg : Mem} (h : f_X10_tableOf n Z a x1 g = some (rr, gg)) : VM yX10_tableOf cX10_tableOf 2 (some .int) 2 [.ref a, .int x1] Z g (some (.int rr)) gg := by
  unfold f_X10_tableOf at h
  replace h := grd_some h
  obtain ⟨hz0, h⟩ := h
  refine VM.of (by decide +kernel) (Nat.le_of_ble_eq_true rfl) (fun x hM => ?_)
  have hM : Cm x cX10_tableOf RX10 2 (some .int) 2 Z (some (.int rr)) gg := hM
  show V x Z 0 0 0 [(0, va_rf (some a)), (1, .int x1)] [] g
  refine V_aload_n hM.c 0 dX10_tableOf_0 rfl rfl ?_
  replace h := drf_some h
  obtain ⟨b1, e2, h⟩ := h
  refine G8_0 hM.c tw_7 hz0 e2 dX10_tableOf_1 ?_
  refine V_iload_n hM.c 1 dX10_tableOf_4 rfl rfl ?_
  replace h := bnd_some h
  obtain ⟨r3, g4, e5, h⟩ := h
  refine V_callV (As := [.int x1]) (c := 6) (T := TX8) (N := 8) hM.c hM.a mq_X8_hasTag mi_X8_hasTag tw_21 (hM.d (by decide)) hM.z rfl (by omega) (zc_X8_hasTag e5) (vm_X8_hasTag e5) rfl (Nat.le_of_ble_eq_true rfl) dX10_tableOf_5 ?_
  refine V_if_eq hM.c 22 dX10_tableOf_8 (by decide) (fun c6 => ?_) (fun c6 => ?_)
  · replace h := ite_p h c6
    refine V_iconst (v := -1) hM.c dX10_tableOf_22 (by decide) ?_
    exact V_iretE hM h dX10_tableOf_23
  · replace h := ite_n h c6
    refine V_aload_n hM.c 0 dX10_tableOf_11 rfl rfl ?_
    replace h := drf_some h
    obtain ⟨b7, e8, h⟩ := h
    refine G8_0 hM.c tw_7 hz0 e8 dX10_tableOf_12 ?_
    refine V_iload_n hM.c 1 dX10_tableOf_15 rfl rfl ?_
    replace h := bnd_some h
    obtain ⟨r9, g10, e11, h⟩ := h
    refine V_callV (As := [.int x1]) (c := 6) (T := TX8) (N := 8) hM.c hM.a mq_X8_tableAt mi_X8_tableAt tw_26 (hM.d (by decide)) hM.z rfl (by omega) (zc_X8_tableAt e11) (vm_X8_tableAt e11) rfl (Nat.le_of_ble_eq_true rfl) dX10_tableOf_16 ?_
    refine V_goto hM.c 23 dX10_tableOf_19 (by decide) ?_
    exact V_iretE hM h dX10_tableOf_23
def f_X10_value (n : Nat) (Z : Zt) (a : Nat) (x1 : Int32) (x2 : Int32) (g : Mem) : Option (Int32 × Mem) := grd (zk Z a = 9) (drf (zf Z a 0) (fun b1 => bnd (f_X8_hasTag n Z b1 x1 g) (fun r3 g4 => if r3 = 0 then (some ((-1 : Int32), g4)) else (drf (zf Z a 0) (fun b7 => drf (zf Z a 0) (fun b9 => bnd (f_X8_tableAt n Z b9 x1 g4) (fun r11 g12 => bnd (f_X8_widthOf n Z b7 r11 g12) (fun r14 g15 => if x2 < 0 then (some ((-1 : Int32), g15)) else (if x2 < r14 then (drf (zf Z a 0) (fun b19 => bnd (f_X8_keyOf n Z b19 x1 g15) (fun r21 g22 => bnd (f_X2_digit n Z r21 r14 x2 g22) (fun r24 g25 => some (r24, g25))))) else (some ((-1 : Int32), g15)))))))))))
theorem mq_X10_value : Mq yX10_value cX10_value 4 (some .int) 2 := ⟨tw_53, tw_5, ⟨by decide +kernel, by decide +kernel, by decide +kernel⟩, by decide⟩
theorem mi_X10_value : Cond.instanceMethod yX10_value ∈ TB ∧ Cond.selects yX10_value.cls yX10_value yX10_value ∈ TB := ⟨tw_51, tw_52⟩
theorem zc_X10_value {n : Nat} {Z : Zt} {a : Nat} {x1 : Int32} {x2 : Int32} {g : Mem} {q : Int32 × Mem} (h : f_X10_value n Z a x1 x2 g = some q) : zk Z a = 9 := (grd_some h).1
set_option maxHeartbeats 4000000 in
set_option maxRecDepth 100000 in
theorem vm_X10_value {n : Nat} {Z : Zt} {a : Nat} {x1 : Int32} {x2 : Int32} {g : Mem} {rr : Int32} {gg : Mem} (h : f_X10_value n Z a x1 x2 g = some (rr, gg)) : VM yX10_value cX10_value 4 (some .int) 2 [.ref a, .int x1, .int x2] Z g (some (.int rr)) gg := by
  unfold f_X10_value at h
  replace h := grd_some h
  obtain ⟨hz0, h⟩ := h
  refine VM.of (by decide +kernel) (Nat.le_of_ble_eq_true rfl) (fun x hM => ?_)
  have hM : Cm x cX10_value RX10 4 (some .int) 2 Z (some (.int rr)) gg := hM
  show V x Z 0 0 0 [(0, va_rf (some a)), (1, .int x1), (2, .int x2)] [] g
  refine V_aload_n hM.c 0 dX10_value_0 rfl rfl ?_
  replace h := drf_some h
  obtain ⟨b1, e2, h⟩ := h
  refine G8_0 hM.c tw_7 hz0 e2 dX10_value_1 ?_
  refine V_iload_n hM.c 1 dX10_value_4 rfl rfl ?_
  replace h := bnd_some h
  obtain ⟨r3, g4, e5, h⟩ := h
  refine V_callV (As := [.int x1]) (c := 6) (T := TX8) (N := 8) hM.c hM.a mq_X8_hasTag mi_X8_hasTag tw_21 (hM.d (by decide)) hM.z rfl (by omega) (zc_X8_hasTag e5) (vm_X8_hasTag e5) rfl (Nat.le_of_ble_eq_true rfl) dX10_value_5 ?_
  refine V_if_ne hM.c 13 dX10_value_8 (by decide) (fun c6 => ?_) (fun c6 => ?_)
  · replace h := ite_n h c6
    refine V_aload_n hM.c 0 dX10_value_13 rfl rfl ?_
    replace h := drf_some h
    obtain ⟨b7, e8, h⟩ := h
    refine G8_0 hM.c tw_7 hz0 e8 dX10_value_14 ?_
    refine V_aload_n hM.c 0 dX10_value_17 rfl rfl ?_
    replace h := drf_some h
    obtain ⟨b9, e10, h⟩ := h
    refine G8_0 hM.c tw_7 hz0 e10 dX10_value_18 ?_
    refine V_iload_n hM.c 1 dX10_value_21 rfl rfl ?_
    replace h := bnd_some h
    obtain ⟨r11, g12, e13, h⟩ := h
    refine V_callV (As := [.int x1]) (c := 6) (T := TX8) (N := 8) hM.c hM.a mq_X8_tableAt mi_X8_tableAt tw_26 (hM.d (by decide)) hM.z rfl (by omega) (zc_X8_tableAt e13) (vm_X8_tableAt e13) rfl (Nat.le_of_ble_eq_true rfl) dX10_value_22 ?_
    replace h := bnd_some h
    obtain ⟨r14, g15, e16, h⟩ := h
    refine V_callV (As := [.int r11]) (c := 6) (T := TX8) (N := 8) hM.c hM.a mq_X8_widthOf mi_X8_widthOf tw_11 (hM.d (by decide)) hM.z rfl (by omega) (zc_X8_widthOf e16) (vm_X8_widthOf e16) rfl (Nat.le_of_ble_eq_true rfl) dX10_value_25 ?_
    refine V_istore_n (i := 3) (L' := [(3, .int r14), (0, va_rf (some a)), (1, .int x1), (2, .int x2)]) hM.c dX10_value_28 rfl (by decide) rfl ?_
    refine V_iload_n hM.c 3 dX10_value_29 rfl rfl ?_
    refine V_if_lt hM.c 38 dX10_value_30 (by decide) (fun c17 => ?_) (fun c17 => ?_)
    · replace h := ite_p h c17
      refine V_iconst (v := -1) hM.c dX10_value_38 (by decide) ?_
      exact V_iretE hM h dX10_value_39
    · replace h := ite_n h c17
      refine V_iload_n hM.c 3 dX10_value_33 rfl rfl ?_
      refine V_iload_n hM.c 0 dX10_value_34 rfl rfl ?_
      refine V_icmp_lt hM.c 40 dX10_value_35 (by decide) (fun c18 => ?_) (fun c18 => ?_)
      · replace h := ite_p h c18
        refine V_aload_n hM.c 1 dX10_value_40 rfl rfl ?_
        replace h := drf_some h
        obtain ⟨b19, e20, h⟩ := h
        refine G8_0 hM.c tw_7 hz0 e20 dX10_value_41 ?_
        refine V_iload_n hM.c 2 dX10_value_44 rfl rfl ?_
        replace h := bnd_some h
        obtain ⟨r21, g22, e23, h⟩ := h
        refine V_callV (As := [.int x1]) (c := 6) (T := TX8) (N := 8) hM.c hM.a mq_X8_keyOf mi_X8_keyOf tw_54 (hM.d (by decide)) hM.z rfl (by omega) (zc_X8_keyOf e23) (vm_X8_keyOf e23) rfl (Nat.le_of_ble_eq_true rfl) dX10_value_45 ?_
        refine V_iload_n hM.c 0 dX10_value_48 rfl rfl ?_
        refine V_iload_n hM.c 3 dX10_value_49 rfl rfl ?_
        replace h := bnd_some h
        obtain ⟨r24, g25, e26, h⟩ := h
        refine V_callS (As := [.int r21, .int r14, .int x2]) hM.c hM.a mq_X2_digit mi_X2_digit tw_59 (hM.d (by decide)) hM.z (vm_X2_digit e26) rfl (Nat.le_of_ble_eq_true rfl) dX10_value_50 ?_
        exact V_iretE hM h dX10_value_53
      · replace h := ite_n h c18
        refine V_iconst (v := -1) hM.c dX10_value_38 (by decide) ?_
        exact V_iretE hM h dX10_value_39
  · replace h := ite_p h c6
    refine V_iconst (v := -1) hM.c dX10_value_11 (by decide) ?_
    exact V_iretE hM h dX10_value_12
def f_X10_cost (n : Nat) (Z : Zt) (a : Nat) (x1 : Int32) (g : Mem) : Option (Int32 × Mem) := grd (zk Z a = 9) (drf (zf Z a 0) (fun b1 => bnd (f_X8_hasTag n Z b1 x1 g) (fun r3 g4 => if r3 = 0 then (some ((-1 : Int32), g4)) else (drf (zf Z a 0) (fun b7 => bnd (f_X8_costOf n Z b7 x1 g4) (fun r9 g10 => some (r9, g10)))))))
theorem mq_X10_cost : Mq yX10_cost cX10_cost 2 (some .int) 1 := ⟨tw_35, tw_5, ⟨by decide +kernel, by decide +kernel, by decide +kernel⟩, by decide⟩
theorem mi_X10_cost : Cond.instanceMethod yX10_cost ∈ TB ∧ Cond.selects yX10_cost.cls yX10_cost yX10_cost ∈ TB := ⟨tw_33, tw_34⟩
theorem zc_X10_cost {n : Nat} {Z : Zt} {a : Nat} {x1 : Int32} {g : Mem} {q : Int32 × Mem} (h : f_X10_cost n Z a x1 g = some q) : zk Z a = 9 := (grd_some h).1
set_option maxHeartbeats 4000000 in
set_option maxRecDepth 100000 in
theorem vm_X10_cost {n : Nat} {Z : Zt} {a : Nat} {x1 : Int32} {g : Mem} {rr : Int32} {gg : Mem} (h : f_X10_cost n Z a x1 g = some (rr, gg)) : VM yX10_cost cX10_cost 2 (some .int) 2 [.ref a, .int x1] Z g (some (.int rr)) gg := by
  unfold f_X10_cost at h
  replace h := grd_some h
  obtain ⟨hz0, h⟩ := h
  refine VM.of (by decide +kernel) (Nat.le_of_ble_eq_true rfl) (fun x hM => ?_)
  have hM : Cm x cX10_cost RX10 2 (some .int) 2 Z (some (.int rr)) gg := hM
  show V x Z 0 0 0 [(0, va_rf (some a)), (1, .int x1)] [] g
  refine V_aload_n hM.c 0 dX10_cost_0 rfl rfl ?_
  replace h := drf_some h
  obtain ⟨b1, e2, h⟩ := h
  refine G8_0 hM.c tw_7 hz0 e2 dX10_cost_1 ?_
  refine V_iload_n hM.c 1 dX10_cost_4 rfl rfl ?_
  replace h := bnd_some h
  obtain ⟨r3, g4, e5, h⟩ := h
  refine V_callV (As := [.int x1]) (c := 6) (T := TX8) (N := 8) hM.c hM.a mq_X8_hasTag mi_X8_hasTag tw_21 (hM.d (by decide)) hM.z rfl (by omega) (zc_X8_hasTag e5) (vm_X8_hasTag e5) rfl (Nat.le_of_ble_eq_true rfl) dX10_cost_5 ?_
  refine V_if_eq hM.c 22 dX10_cost_8 (by decide) (fun c6 => ?_) (fun c6 => ?_)
  · replace h := ite_p h c6
    refine V_iconst (v := -1) hM.c dX10_cost_22 (by decide) ?_
    exact V_iretE hM h dX10_cost_23
  · replace h := ite_n h c6
    refine V_aload_n hM.c 0 dX10_cost_11 rfl rfl ?_
    replace h := drf_some h
    obtain ⟨b7, e8, h⟩ := h
    refine G8_0 hM.c tw_7 hz0 e8 dX10_cost_12 ?_
    refine V_iload_n hM.c 1 dX10_cost_15 rfl rfl ?_
    replace h := bnd_some h
    obtain ⟨r9, g10, e11, h⟩ := h
    refine V_callV (As := [.int x1]) (c := 6) (T := TX8) (N := 8) hM.c hM.a mq_X8_costOf mi_X8_costOf tw_36 (hM.d (by decide)) hM.z rfl (by omega) (zc_X8_costOf e11) (vm_X8_costOf e11) rfl (Nat.le_of_ble_eq_true rfl) dX10_cost_16 ?_
    refine V_goto hM.c 23 dX10_cost_19 (by decide) ?_
    exact V_iretE hM h dX10_cost_23
def f_X10_trust (n : Nat) (Z : Zt) (a : Nat) (x1 : Int32) (g : Mem) : Option (Int32 × Mem) := grd (zk Z a = 9) (drf (zf Z a 0) (fun b1 => bnd (f_X8_hasTag n Z b1 x1 g) (fun r3 g4 => if r3 = 0 then (some ((-1 : Int32), g4)) else (drf (zf Z a 0) (fun b7 => bnd (f_X8_trustOf n Z b7 x1 g4) (fun r9 g10 => some (r9, g10)))))))
theorem mq_X10_trust : Mq yX10_trust cX10_trust 2 (some .int) 1 := ⟨tw_44, tw_5, ⟨by decide +kernel, by decide +kernel, by decide +kernel⟩, by decide⟩
theorem mi_X10_trust : Cond.instanceMethod yX10_trust ∈ TB ∧ Cond.selects yX10_trust.cls yX10_trust yX10_trust ∈ TB := ⟨tw_42, tw_43⟩
theorem zc_X10_trust {n : Nat} {Z : Zt} {a : Nat} {x1 : Int32} {g : Mem} {q : Int32 × Mem} (h : f_X10_trust n Z a x1 g = some q) : zk Z a = 9 := (grd_some h).1
set_option maxHeartbeats 4000000 in
set_option maxRecDepth 100000 in
theorem vm_X10_trust {n : Nat} {Z : Zt} {a : Nat} {x1 : Int32} {g : Mem} {rr : Int32} {gg : Mem} (h : f_X10_trust n Z a x1 g = some (rr, gg)) : VM yX10_trust cX10_trust 2 (some .int) 2 [.ref a, .int x1] Z g (some (.int rr)) gg := by
  unfold f_X10_trust at h
  replace h := grd_some h
  obtain ⟨hz0, h⟩ := h
  refine VM.of (by decide +kernel) (Nat.le_of_ble_eq_true rfl) (fun x hM => ?_)
  have hM : Cm x cX10_trust RX10 2 (some .int) 2 Z (some (.int rr)) gg := hM
  show V x Z 0 0 0 [(0, va_rf (some a)), (1, .int x1)] [] g
  refine V_aload_n hM.c 0 dX10_trust_0 rfl rfl ?_
  replace h := drf_some h
  obtain ⟨b1, e2, h⟩ := h
  refine G8_0 hM.c tw_7 hz0 e2 dX10_trust_1 ?_
  refine V_iload_n hM.c 1 dX10_trust_4 rfl rfl ?_
  replace h := bnd_some h
  obtain ⟨r3, g4, e5, h⟩ := h
  refine V_callV (As := [.int x1]) (c := 6) (T := TX8) (N := 8) hM.c hM.a mq_X8_hasTag mi_X8_hasTag tw_21 (hM.d (by decide)) hM.z rfl (by omega) (zc_X8_hasTag e5) (vm_X8_hasTag e5) rfl (Nat.le_of_ble_eq_true rfl) dX10_trust_5 ?_
  refine V_if_eq hM.c 22 dX10_trust_8 (by decide) (fun c6 => ?_) (fun c6 => ?_)
  · replace h := ite_p h c6
    refine V_iconst (v := -1) hM.c dX10_trust_22 (by decide) ?_
    exact V_iretE hM h dX10_trust_23
  · replace h := ite_n h c6
    refine V_aload_n hM.c 0 dX10_trust_11 rfl rfl ?_
    replace h := drf_some h
    obtain ⟨b7, e8, h⟩ := h
    refine G8_0 hM.c tw_7 hz0 e8 dX10_trust_12 ?_
    refine V_iload_n hM.c 1 dX10_trust_15 rfl rfl ?_
    replace h := bnd_some h
    obtain ⟨r9, g10, e11, h⟩ := h
    refine V_callV (As := [.int x1]) (c := 6) (T := TX8) (N := 8) hM.c hM.a mq_X8_trustOf mi_X8_trustOf tw_45 (hM.d (by decide)) hM.z rfl (by omega) (zc_X8_trustOf e11) (vm_X8_trustOf e11) rfl (Nat.le_of_ble_eq_true rfl) dX10_trust_16 ?_
    refine V_goto hM.c 23 dX10_trust_19 (by decide) ?_
    exact V_iretE hM h dX10_trust_23
def f_X10_queryLength (n : Nat) (Z : Zt) (a : Nat) (g : Mem) : Option (Int32 × Mem) := grd (zk Z a = 9) (drf (zf Z a 0) (fun b1 => bnd (f_X8_queryLine n Z b1 g) (fun r3 g4 => drf r3 (fun b6 => bnd (f_X3_length n Z b6 g4) (fun r8 g9 => some (r8, g9))))))
theorem mq_X10_queryLength : Mq yX10_queryLength cX10_queryLength 1 (some .int) 0 := ⟨tw_75, tw_5, ⟨by decide +kernel, by decide +kernel, by decide +kernel⟩, by decide⟩
theorem mi_X10_queryLength : Cond.instanceMethod yX10_queryLength ∈ TB ∧ Cond.selects yX10_queryLength.cls yX10_queryLength yX10_queryLength ∈ TB := ⟨tw_73, tw_74⟩
theorem zc_X10_queryLength {n : Nat} {Z : Zt} {a : Nat} {g : Mem} {q : Int32 × Mem} (h : f_X10_queryLength n Z a g = some q) : zk Z a = 9 := (grd_some h).1
set_option maxHeartbeats 4000000 in
set_option maxRecDepth 100000 in
theorem vm_X10_queryLength {n : Nat} {Z : Zt} {a : Nat} {g : Mem} {rr : Int32} {gg : Mem} (h : f_X10_queryLength n Z a g = some (rr, gg)) : VM yX10_queryLength cX10_queryLength 1 (some .int) 1 [.ref a] Z g (some (.int rr)) gg := by
  unfold f_X10_queryLength at h
  replace h := grd_some h
  obtain ⟨hz0, h⟩ := h
  refine VM.of (by decide +kernel) (Nat.le_of_ble_eq_true rfl) (fun x hM => ?_)
  have hM : Cm x cX10_queryLength RX10 1 (some .int) 1 Z (some (.int rr)) gg := hM
  show V x Z 0 0 0 [(0, va_rf (some a))] [] g
  refine V_aload_n hM.c 0 dX10_queryLength_0 rfl rfl ?_
  replace h := drf_some h
  obtain ⟨b1, e2, h⟩ := h
  refine G8_0 hM.c tw_7 hz0 e2 dX10_queryLength_1 ?_
  replace h := bnd_some h
  obtain ⟨r3, g4, e5, h⟩ := h
  refine V_callV (As := []) (c := 6) (T := TX8) (N := 8) hM.c hM.a mq_X8_queryLine mi_X8_queryLine tw_76 (hM.d (by decide)) hM.z rfl (by omega) (zc_X8_queryLine e5) (vm_X8_queryLine e5) rfl (Nat.le_of_ble_eq_true rfl) dX10_queryLength_4 ?_
  replace h := drf_some h
  obtain ⟨b6, rfl, h⟩ := h
  replace h := bnd_some h
  obtain ⟨r8, g9, e10, h⟩ := h
  refine V_callV (As := []) (c := 2) (T := TX3) (N := 2) hM.c hM.a mq_X3_length mi_X3_length tw_81 (hM.d (by decide)) hM.z rfl (by omega) (zc_X3_length e10) (vm_X3_length e10) rfl (Nat.le_of_ble_eq_true rfl) dX10_queryLength_7 ?_
  exact V_iretE hM h dX10_queryLength_10
def f_X10_queryAt (n : Nat) (Z : Zt) (a : Nat) (x1 : Int32) (g : Mem) : Option (Int32 × Mem) := grd (zk Z a = 9) (drf (zf Z a 0) (fun b1 => bnd (f_X8_queryLine n Z b1 g) (fun r3 g4 => drf r3 (fun b6 => bnd (f_X3_codeAt n Z b6 x1 g4) (fun r8 g9 => some (r8, g9))))))
theorem mq_X10_queryAt : Mq yX10_queryAt cX10_queryAt 2 (some .int) 1 := ⟨tw_90, tw_5, ⟨by decide +kernel, by decide +kernel, by decide +kernel⟩, by decide⟩
theorem mi_X10_queryAt : Cond.instanceMethod yX10_queryAt ∈ TB ∧ Cond.selects yX10_queryAt.cls yX10_queryAt yX10_queryAt ∈ TB := ⟨tw_88, tw_89⟩
theorem zc_X10_queryAt {n : Nat} {Z : Zt} {a : Nat} {x1 : Int32} {g : Mem} {q : Int32 × Mem} (h : f_X10_queryAt n Z a x1 g = some q) : zk Z a = 9 := (grd_some h).1
set_option maxHeartbeats 4000000 in
set_option maxRecDepth 100000 in
theorem vm_X10_queryAt {n : Nat} {Z : Zt} {a : Nat} {x1 : Int32} {g : Mem} {rr : Int32} {gg : Mem} (h : f_X10_queryAt n Z a x1 g = some (rr, gg)) : VM yX10_queryAt cX10_queryAt 2 (some .int) 1 [.ref a, .int x1] Z g (some (.int rr)) gg := by
  unfold f_X10_queryAt at h
  replace h := grd_some h
  obtain ⟨hz0, h⟩ := h
  refine VM.of (by decide +kernel) (Nat.le_of_ble_eq_true rfl) (fun x hM => ?_)
  have hM : Cm x cX10_queryAt RX10 2 (some .int) 1 Z (some (.int rr)) gg := hM
  show V x Z 0 0 0 [(0, va_rf (some a)), (1, .int x1)] [] g
  refine V_aload_n hM.c 0 dX10_queryAt_0 rfl rfl ?_
  replace h := drf_some h
  obtain ⟨b1, e2, h⟩ := h
  refine G8_0 hM.c tw_7 hz0 e2 dX10_queryAt_1 ?_
  replace h := bnd_some h
  obtain ⟨r3, g4, e5, h⟩ := h
  refine V_callV (As := []) (c := 6) (T := TX8) (N := 8) hM.c hM.a mq_X8_queryLine mi_X8_queryLine tw_76 (hM.d (by decide)) hM.z rfl (by omega) (zc_X8_queryLine e5) (vm_X8_queryLine e5) rfl (Nat.le_of_ble_eq_true rfl) dX10_queryAt_4 ?_
  refine V_iload_n hM.c 1 dX10_queryAt_7 rfl rfl ?_
  replace h := drf_some h
  obtain ⟨b6, rfl, h⟩ := h
  replace h := bnd_some h
  obtain ⟨r8, g9, e10, h⟩ := h
  refine V_callV (As := [.int x1]) (c := 2) (T := TX3) (N := 2) hM.c hM.a mq_X3_codeAt mi_X3_codeAt tw_91 (hM.d (by decide)) hM.z rfl (by omega) (zc_X3_codeAt e10) (vm_X3_codeAt e10) rfl (Nat.le_of_ble_eq_true rfl) dX10_queryAt_8 ?_
  exact V_iretE hM h dX10_queryAt_11
def f_X10_answerColumns (n : Nat) (Z : Zt) (a : Nat) (g : Mem) : Option (Int32 × Mem) := grd (zk Z a = 9) (drf (zf Z a 7) (fun b1 => bnd (f_X0_answer n Z b1 g) (fun r3 g4 => drf r3 (fun b6 => bnd (f_X7_width n Z b6 g4) (fun r8 g9 => some (r8, g9))))))
theorem mq_X10_answerColumns : Mq yX10_answerColumns cX10_answerColumns 1 (some .int) 0 := ⟨tw_116, tw_5, ⟨by decide +kernel, by decide +kernel, by decide +kernel⟩, by decide⟩
theorem mi_X10_answerColumns : Cond.instanceMethod yX10_answerColumns ∈ TB ∧ Cond.selects yX10_answerColumns.cls yX10_answerColumns yX10_answerColumns ∈ TB := ⟨tw_114, tw_115⟩
theorem zc_X10_answerColumns {n : Nat} {Z : Zt} {a : Nat} {g : Mem} {q : Int32 × Mem} (h : f_X10_answerColumns n Z a g = some q) : zk Z a = 9 := (grd_some h).1
set_option maxHeartbeats 4000000 in
set_option maxRecDepth 100000 in
theorem vm_X10_answerColumns {n : Nat} {Z : Zt} {a : Nat} {g : Mem} {rr : Int32} {gg : Mem} (h : f_X10_answerColumns n Z a g = some (rr, gg)) : VM yX10_answerColumns cX10_answerColumns 1 (some .int) 1 [.ref a] Z g (some (.int rr)) gg := by
  unfold f_X10_answerColumns at h
  replace h := grd_some h
  obtain ⟨hz0, h⟩ := h
  refine VM.of (by decide +kernel) (Nat.le_of_ble_eq_true rfl) (fun x hM => ?_)
  have hM : Cm x cX10_answerColumns RX10 1 (some .int) 1 Z (some (.int rr)) gg := hM
  show V x Z 0 0 0 [(0, va_rf (some a))] [] g
  refine V_aload_n hM.c 0 dX10_answerColumns_0 rfl rfl ?_
  replace h := drf_some h
  obtain ⟨b1, e2, h⟩ := h
  refine G8_7 hM.c tw_100 hz0 e2 dX10_answerColumns_1 ?_
  replace h := bnd_some h
  obtain ⟨r3, g4, e5, h⟩ := h
  refine V_callV (As := []) (c := 0) (T := TX0) (N := 4) hM.c hM.a mq_X0_answer mi_X0_answer tw_101 (hM.d (by decide)) hM.z rfl (by omega) (zc_X0_answer e5) (vm_X0_answer e5) rfl (Nat.le_of_ble_eq_true rfl) dX10_answerColumns_4 ?_
  replace h := drf_some h
  obtain ⟨b6, rfl, h⟩ := h
  replace h := bnd_some h
  obtain ⟨r8, g9, e10, h⟩ := h
  refine V_callV (As := []) (c := 5) (T := TX7) (N := 4) hM.c hM.a mq_X7_width mi_X7_width tw_117 (hM.d (by decide)) hM.z rfl (by omega) (zc_X7_width e10) (vm_X7_width e10) rfl (Nat.le_of_ble_eq_true rfl) dX10_answerColumns_7 ?_
  exact V_iretE hM h dX10_answerColumns_10
def f_X10_answerValue (n : Nat) (Z : Zt) (a : Nat) (x1 : Int32) (x2 : Int32) (g : Mem) : Option (Int32 × Mem) := grd (zk Z a = 9) (drf (zf Z a 7) (fun b1 => bnd (f_X0_answer n Z b1 g) (fun r3 g4 => drf r3 (fun b6 => bnd (f_X7_hasRow n Z b6 x1 g4) (fun r8 g9 => if r8 = 0 then (some ((-1 : Int32), g9)) else (if x2 < 0 then (some ((-1 : Int32), g9)) else (bnd (f_X7_width n Z b6 g9) (fun r13 g14 => if x2 < r13 then (bnd (f_X7_keyAt n Z b6 x1 g14) (fun r17 g18 => bnd (f_X7_width n Z b6 g18) (fun r20 g21 => bnd (f_X2_digit n Z r17 r20 x2 g21) (fun r23 g24 => some (r23, g24))))) else (some ((-1 : Int32), g14))))))))))
theorem mq_X10_answerValue : Mq yX10_answerValue cX10_answerValue 4 (some .int) 2 := ⟨tw_125, tw_5, ⟨by decide +kernel, by decide +kernel, by decide +kernel⟩, by decide⟩
theorem mi_X10_answerValue : Cond.instanceMethod yX10_answerValue ∈ TB ∧ Cond.selects yX10_answerValue.cls yX10_answerValue yX10_answerValue ∈ TB := ⟨tw_123, tw_124⟩
theorem zc_X10_answerValue {n : Nat} {Z : Zt} {a : Nat} {x1 : Int32} {x2 : Int32} {g : Mem} {q : Int32 × Mem} (h : f_X10_answerValue n Z a x1 x2 g = some q) : zk Z a = 9 := (grd_some h).1
set_option maxHeartbeats 4000000 in
set_option maxRecDepth 100000 in
theorem vm_X10_answerValue {n : Nat} {Z : Zt} {a : Nat} {x1 : Int32} {x2 : Int32} {g : Mem} {rr : Int32} {gg : Mem} (h : f_X10_answerValue n Z a x1 x2 g = some (rr, gg)) : VM yX10_answerValue cX10_answerValue 4 (some .int) 2 [.ref a, .int x1, .int x2] Z g (some (.int rr)) gg := by
  unfold f_X10_answerValue at h
  replace h := grd_some h
  obtain ⟨hz0, h⟩ := h
  refine VM.of (by decide +kernel) (Nat.le_of_ble_eq_true rfl) (fun x hM => ?_)
  have hM : Cm x cX10_answerValue RX10 4 (some .int) 2 Z (some (.int rr)) gg := hM
  show V x Z 0 0 0 [(0, va_rf (some a)), (1, .int x1), (2, .int x2)] [] g
  refine V_aload_n hM.c 0 dX10_answerValue_0 rfl rfl ?_
  replace h := drf_some h
  obtain ⟨b1, e2, h⟩ := h
  refine G8_7 hM.c tw_100 hz0 e2 dX10_answerValue_1 ?_
  replace h := bnd_some h
  obtain ⟨r3, g4, e5, h⟩ := h
  refine V_callV (As := []) (c := 0) (T := TX0) (N := 4) hM.c hM.a mq_X0_answer mi_X0_answer tw_101 (hM.d (by decide)) hM.z rfl (by omega) (zc_X0_answer e5) (vm_X0_answer e5) rfl (Nat.le_of_ble_eq_true rfl) dX10_answerValue_4 ?_
  refine V_astore_n (i := 3) (L' := [(3, va_rf r3), (0, va_rf (some a)), (1, .int x1), (2, .int x2)]) hM.c dX10_answerValue_7 rfl (by decide) rfl ?_
  refine V_aload_n hM.c 0 dX10_answerValue_8 rfl rfl ?_
  refine V_iload_n hM.c 2 dX10_answerValue_9 rfl rfl ?_
  replace h := drf_some h
  obtain ⟨b6, rfl, h⟩ := h
  replace h := bnd_some h
  obtain ⟨r8, g9, e10, h⟩ := h
  refine V_callV (As := [.int x1]) (c := 5) (T := TX7) (N := 4) hM.c hM.a mq_X7_hasRow mi_X7_hasRow tw_126 (hM.d (by decide)) hM.z rfl (by omega) (zc_X7_hasRow e10) (vm_X7_hasRow e10) rfl (Nat.le_of_ble_eq_true rfl) dX10_answerValue_10 ?_
  refine V_if_eq hM.c 28 dX10_answerValue_13 (by decide) (fun c11 => ?_) (fun c11 => ?_)
  · replace h := ite_p h c11
    refine V_iconst (v := -1) hM.c dX10_answerValue_28 (by decide) ?_
    exact V_iretE hM h dX10_answerValue_29
  · replace h := ite_n h c11
    refine V_iload_n hM.c 3 dX10_answerValue_16 rfl rfl ?_
    refine V_if_lt hM.c 28 dX10_answerValue_17 (by decide) (fun c12 => ?_) (fun c12 => ?_)
    · replace h := ite_p h c12
      refine V_iconst (v := -1) hM.c dX10_answerValue_28 (by decide) ?_
      exact V_iretE hM h dX10_answerValue_29
    · replace h := ite_n h c12
      refine V_iload_n hM.c 3 dX10_answerValue_20 rfl rfl ?_
      refine V_aload_n hM.c 0 dX10_answerValue_21 rfl rfl ?_
      replace h := bnd_some h
      obtain ⟨r13, g14, e15, h⟩ := h
      refine V_callV (As := []) (c := 5) (T := TX7) (N := 4) hM.c hM.a mq_X7_width mi_X7_width tw_117 (hM.d (by decide)) hM.z rfl (by omega) (zc_X7_width e15) (vm_X7_width e15) rfl (Nat.le_of_ble_eq_true rfl) dX10_answerValue_22 ?_
      refine V_icmp_lt hM.c 30 dX10_answerValue_25 (by decide) (fun c16 => ?_) (fun c16 => ?_)
      · replace h := ite_p h c16
        refine V_aload_n hM.c 0 dX10_answerValue_30 rfl rfl ?_
        refine V_iload_n hM.c 2 dX10_answerValue_31 rfl rfl ?_
        replace h := bnd_some h
        obtain ⟨r17, g18, e19, h⟩ := h
        refine V_callV (As := [.int x1]) (c := 5) (T := TX7) (N := 4) hM.c hM.a mq_X7_keyAt mi_X7_keyAt tw_130 (hM.d (by decide)) hM.z rfl (by omega) (zc_X7_keyAt e19) (vm_X7_keyAt e19) rfl (Nat.le_of_ble_eq_true rfl) dX10_answerValue_32 ?_
        refine V_aload_n hM.c 0 dX10_answerValue_35 rfl rfl ?_
        replace h := bnd_some h
        obtain ⟨r20, g21, e22, h⟩ := h
        refine V_callV (As := []) (c := 5) (T := TX7) (N := 4) hM.c hM.a mq_X7_width mi_X7_width tw_117 (hM.d (by decide)) hM.z rfl (by omega) (zc_X7_width e22) (vm_X7_width e22) rfl (Nat.le_of_ble_eq_true rfl) dX10_answerValue_36 ?_
        refine V_iload_n hM.c 3 dX10_answerValue_39 rfl rfl ?_
        replace h := bnd_some h
        obtain ⟨r23, g24, e25, h⟩ := h
        refine V_callS (As := [.int r17, .int r20, .int x2]) hM.c hM.a mq_X2_digit mi_X2_digit tw_59 (hM.d (by decide)) hM.z (vm_X2_digit e25) rfl (Nat.le_of_ble_eq_true rfl) dX10_answerValue_40 ?_
        exact V_iretE hM h dX10_answerValue_43
      · replace h := ite_n h c16
        refine V_iconst (v := -1) hM.c dX10_answerValue_28 (by decide) ?_
        exact V_iretE hM h dX10_answerValue_29
def f_X10_isForm (n : Nat) (Z : Zt) (x0 : Int32) (g : Mem) : Option (Int32 × Mem) := if x0 < 0 then (some ((0 : Int32), g)) else (if (5 : Int32) ≤ x0 then (some ((0 : Int32), g)) else (some ((1 : Int32), g)))
theorem mq_X10_isForm : Mq yX10_isForm cX10_isForm 1 (some .boolean) 1 := ⟨tw_284, tw_5, ⟨by decide +kernel, by decide +kernel, by decide +kernel⟩, by decide⟩
theorem mi_X10_isForm : Cond.static yX10_isForm ∈ TB := tw_283
set_option maxHeartbeats 4000000 in
set_option maxRecDepth 100000 in
theorem vm_X10_isForm {n : Nat} {Z : Zt} {x0 : Int32} {g : Mem} {rr : Int32} {gg : Mem} (h : f_X10_isForm n Z x0 g = some (rr, gg)) : VM yX10_isForm cX10_isForm 1 (some .boolean) 0 [.int x0] Z g (some (.int rr)) gg := by
  unfold f_X10_isForm at h
  refine VM.of (by decide +kernel) (Nat.le_of_ble_eq_true rfl) (fun x hM => ?_)
  have hM : Cm x cX10_isForm RX10 1 (some .boolean) 0 Z (some (.int rr)) gg := hM
  show V x Z 0 0 0 [(0, .int x0)] [] g
  refine V_iload_n hM.c 0 dX10_isForm_0 rfl rfl ?_
  refine V_if_lt hM.c 13 dX10_isForm_1 (by decide) (fun c1 => ?_) (fun c1 => ?_)
  · replace h := ite_p h c1
    refine V_iconst (v := 0) hM.c dX10_isForm_13 (by decide) ?_
    exact V_zretE hM (isz_nar (by decide)) h dX10_isForm_14
  · replace h := ite_n h c1
    refine V_iload_n hM.c 0 dX10_isForm_4 rfl rfl ?_
    refine V_iconst (v := 5) hM.c dX10_isForm_5 (by decide) ?_
    refine V_icmp_ge hM.c 13 dX10_isForm_6 (by decide) (fun c2 => ?_) (fun c2 => ?_)
    · replace h := ite_p h c2
      refine V_iconst (v := 0) hM.c dX10_isForm_13 (by decide) ?_
      exact V_zretE hM (isz_nar (by decide)) h dX10_isForm_14
    · replace h := ite_n h c2
      refine V_iconst (v := 1) hM.c dX10_isForm_9 (by decide) ?_
      refine V_goto hM.c 14 dX10_isForm_10 (by decide) ?_
      exact V_zretE hM (isz_nar (by decide)) h dX10_isForm_14
def f_X5_size (n : Nat) (Z : Zt) (a : Nat) (g : Mem) : Option (Int32 × Mem) := grd (zk Z a = 4) (some ((gI g a 2), g))
theorem mq_X5_size : Mq yX5_size cX5_size 1 (some .int) 0 := ⟨tw_192, tw_148, ⟨by decide +kernel, by decide +kernel, by decide +kernel⟩, by decide⟩
theorem mi_X5_size : Cond.instanceMethod yX5_size ∈ TB ∧ Cond.selects yX5_size.cls yX5_size yX5_size ∈ TB := ⟨tw_190, tw_191⟩
theorem zc_X5_size {n : Nat} {Z : Zt} {a : Nat} {g : Mem} {q : Int32 × Mem} (h : f_X5_size n Z a g = some q) : zk Z a = 4 := (grd_some h).1
set_option maxHeartbeats 4000000 in
set_option maxRecDepth 100000 in
theorem vm_X5_size {n : Nat} {Z : Zt} {a : Nat} {g : Mem} {rr : Int32} {gg : Mem} (h : f_X5_size n Z a g = some (rr, gg)) : VM yX5_size cX5_size 1 (some .int) 0 [.ref a] Z g (some (.int rr)) gg := by
  unfold f_X5_size at h
  replace h := grd_some h
  obtain ⟨hz0, h⟩ := h
  refine VM.of (by decide +kernel) (Nat.le_of_ble_eq_true rfl) (fun x hM => ?_)
  have hM : Cm x cX5_size RX5 1 (some .int) 0 Z (some (.int rr)) gg := hM
  show V x Z 0 0 0 [(0, va_rf (some a))] [] g
  refine V_aload_n hM.c 0 dX5_size_0 rfl rfl ?_
  refine G3_2 hM.c tw_150 hz0 dX5_size_1 ?_
  exact V_iretE hM h dX5_size_4
def f_X5_factorAt (n : Nat) (Z : Zt) (a : Nat) (x1 : Int32) (g : Mem) : Option (Int64 × Mem) := grd (zk Z a = 4) (bnd (f_X5_hasTerm n Z a x1 g) (fun r1 g2 => if r1 = 0 then (some ((0 : Int64), g2)) else (drf (zf Z a 1) (fun b5 => grd (zk Z b5 = 13) (grd (inr x1 (zl Z b5)) (some ((gJ g2 b5 x1.toNatClampNeg), g2)))))))
theorem mq_X5_factorAt : Mq yX5_factorAt cX5_factorAt 2 (some .long) 1 := ⟨tw_196, tw_148, ⟨by decide +kernel, by decide +kernel, by decide +kernel⟩, by decide⟩
theorem mi_X5_factorAt : Cond.instanceMethod yX5_factorAt ∈ TB ∧ Cond.selects yX5_factorAt.cls yX5_factorAt yX5_factorAt ∈ TB := ⟨tw_194, tw_195⟩
theorem zc_X5_factorAt {n : Nat} {Z : Zt} {a : Nat} {x1 : Int32} {g : Mem} {q : Int64 × Mem} (h : f_X5_factorAt n Z a x1 g = some q) : zk Z a = 4 := (grd_some h).1
set_option maxHeartbeats 4000000 in
set_option maxRecDepth 100000 in
theorem vm_X5_factorAt {n : Nat} {Z : Zt} {a : Nat} {x1 : Int32} {g : Mem} {rr : Int64} {gg : Mem} (h : f_X5_factorAt n Z a x1 g = some (rr, gg)) : VM yX5_factorAt cX5_factorAt 2 (some .long) 1 [.ref a, .int x1] Z g (some (.long rr)) gg := by
  unfold f_X5_factorAt at h
  replace h := grd_some h
  obtain ⟨hz0, h⟩ := h
  refine VM.of (by decide +kernel) (Nat.le_of_ble_eq_true rfl) (fun x hM => ?_)
  have hM : Cm x cX5_factorAt RX5 2 (some .long) 1 Z (some (.long rr)) gg := hM
  show V x Z 0 0 0 [(0, va_rf (some a)), (1, .int x1)] [] g
  refine V_aload_n hM.c 0 dX5_factorAt_0 rfl rfl ?_
  refine V_iload_n hM.c 1 dX5_factorAt_1 rfl rfl ?_
  replace h := bnd_some h
  obtain ⟨r1, g2, e3, h⟩ := h
  refine V_callV (As := [.int x1]) (c := 3) (T := TX5) (N := 3) hM.c hM.a mq_X5_hasTerm mi_X5_hasTerm tw_156 (hM.d (by decide)) hM.z rfl (by omega) (zc_X5_hasTerm e3) (vm_X5_hasTerm e3) rfl (Nat.le_of_ble_eq_true rfl) dX5_factorAt_2 ?_
  refine V_if_eq hM.c 17 dX5_factorAt_5 (by decide) (fun c4 => ?_) (fun c4 => ?_)
  · replace h := ite_p h c4
    refine V_lconst (v := 0) hM.c dX5_factorAt_17 (by decide) ?_
    exact V_lretE hM h dX5_factorAt_18
  · replace h := ite_n h c4
    refine V_aload_n hM.c 0 dX5_factorAt_8 rfl rfl ?_
    replace h := drf_some h
    obtain ⟨b5, e6, h⟩ := h
    refine G3_1 hM.c tw_197 hz0 e6 dX5_factorAt_9 ?_
    refine V_iload_n hM.c 1 dX5_factorAt_12 rfl rfl ?_
    replace h := grd_some h
    obtain ⟨z7, h⟩ := h
    replace h := grd_some h
    obtain ⟨c8, h⟩ := h
    refine V_lald hM.c z7 c8 dX5_factorAt_13 ?_
    refine V_goto hM.c 18 dX5_factorAt_14 (by decide) ?_
    exact V_lretE hM h dX5_factorAt_18
def f_X5_containsAnother_l9 (n : Nat) (Z : Zt) (a : Nat) : Nat → Int32 → Int64 → Int32 → Mem → Option (Int32 × Mem)
  | 0, _, _, _, _ => none
  | fu + 1, x1, x2, x4, g => if (gI g a 2) ≤ x4 then (some ((0 : Int32), g)) else (bnd (f_X5_monomialAt n Z a x4 g) (fun r5 g6 => if x4 = x1 then (f_X5_containsAnother_l9 n Z a fu x1 x2 (x4 + 1) g6) else (if (lg_cmp (x2 &&& r5) r5) = 0 then (some ((1 : Int32), g6)) else (f_X5_containsAnother_l9 n Z a fu x1 x2 (x4 + 1) g6))))
set_option maxHeartbeats 4000000 in
set_option maxRecDepth 100000 in
theorem vl_X5_containsAnother_l9 {x : Cq} {n : Nat} {Z : Zt} {a : Nat} {rr : Int32} {gg : Mem} (hM : Cm x cX5_containsAnother RX5 7 (some .boolean) 2 Z (some (.int rr)) gg) (hz0 : zk Z a = 4) : ∀ (fu : Nat) (x1 : Int32) (x2 : Int64) (x4 : Int32) (g : Mem), f_X5_containsAnother_l9 n Z a fu x1 x2 x4 g = some (rr, gg) → V x Z 0 0 9 [(0, va_rf (some a)), (1, .int x1), (2, .long x2), (4, .int x4)] [] g := by
  intro fu
  induction fu with
  | zero => intro x1 x2 x4 g h; cases h
  | succ fu ih =>
    intro x1 x2 x4 g h
    unfold f_X5_containsAnother_l9 at h
    refine V_iload hM.c 3 dX5_containsAnother_9 rfl ?_
    refine V_aload_n hM.c 0 dX5_containsAnother_11 rfl rfl ?_
    refine G3_2 hM.c tw_150 hz0 dX5_containsAnother_12 ?_
    refine V_icmp_ge hM.c 50 dX5_containsAnother_15 (by decide) (fun c4 => ?_) (fun c4 => ?_)
    · replace h := ite_p h c4
      refine V_iconst (v := 0) hM.c dX5_containsAnother_50 (by decide) ?_
      exact V_zretE hM (isz_nar (by decide)) h dX5_containsAnother_51
    · replace h := ite_n h c4
      refine V_aload_n hM.c 0 dX5_containsAnother_18 rfl rfl ?_
      refine V_iload hM.c 3 dX5_containsAnother_19 rfl ?_
      replace h := bnd_some h
      obtain ⟨r5, g6, e7, h⟩ := h
      refine V_callV (As := [.int x4]) (c := 3) (T := TX5) (N := 3) hM.c hM.a mq_X5_monomialAt mi_X5_monomialAt tw_151 (hM.d (by decide)) hM.z rfl (by omega) (zc_X5_monomialAt e7) (vm_X5_monomialAt e7) rfl (Nat.le_of_ble_eq_true rfl) dX5_containsAnother_21 ?_
      refine V_lstore (L' := [(5, .long r5), (0, va_rf (some a)), (1, .int x1), (2, .long x2), (4, .int x4)]) hM.c dX5_containsAnother_24 (by decide) rfl ?_
      refine V_iload hM.c 4 dX5_containsAnother_26 rfl ?_
      refine V_iload_n hM.c 2 dX5_containsAnother_28 rfl rfl ?_
      refine V_icmp_eq hM.c 44 dX5_containsAnother_29 (by decide) (fun c8 => ?_) (fun c8 => ?_)
      · replace h := ite_p h c8
        refine V_iinc (v := (x4 + 1)) (L' := [(4, .int (x4 + 1)), (5, .long r5), (0, va_rf (some a)), (1, .int x1), (2, .long x2)]) hM.c 4 dX5_containsAnother_44 rfl rfl (by decide) rfl ?_
        refine V_goto hM.c 9 dX5_containsAnother_47 (by decide) ?_
        refine V_sub [2, 3, 4, 0] rfl ?_
        exact ih _ _ _ _ h
      · replace h := ite_n h c8
        refine V_lload_n hM.c 3 dX5_containsAnother_32 rfl rfl ?_
        refine V_lload hM.c 0 dX5_containsAnother_33 rfl ?_
        refine V_land hM.c dX5_containsAnother_35 ?_
        refine V_lload hM.c 0 dX5_containsAnother_36 rfl ?_
        refine V_lcmp hM.c dX5_containsAnother_38 ?_
        refine V_if_ne hM.c 44 dX5_containsAnother_39 (by decide) (fun c9 => ?_) (fun c9 => ?_)
        · replace h := ite_n h c9
          refine V_iinc (v := (x4 + 1)) (L' := [(4, .int (x4 + 1)), (5, .long r5), (0, va_rf (some a)), (1, .int x1), (2, .long x2)]) hM.c 4 dX5_containsAnother_44 rfl rfl (by decide) rfl ?_
          refine V_goto hM.c 9 dX5_containsAnother_47 (by decide) ?_
          refine V_sub [2, 3, 4, 0] rfl ?_
          exact ih _ _ _ _ h
        · replace h := ite_p h c9
          refine V_iconst (v := 1) hM.c dX5_containsAnother_42 (by decide) ?_
          exact V_zretE hM (isz_nar (by decide)) h dX5_containsAnother_43
def f_X5_containsAnother (n : Nat) (Z : Zt) (a : Nat) (x1 : Int32) (g : Mem) : Option (Int32 × Mem) := grd (zk Z a = 4) (bnd (f_X5_monomialAt n Z a x1 g) (fun r1 g2 => f_X5_containsAnother_l9 n Z a n x1 r1 (0 : Int32) g2))
theorem mq_X5_containsAnother : Mq yX5_containsAnother cX5_containsAnother 7 (some .boolean) 1 := ⟨tw_330, tw_148, ⟨by decide +kernel, by decide +kernel, by decide +kernel⟩, by decide⟩
theorem mi_X5_containsAnother : Cond.instanceMethod yX5_containsAnother ∈ TB ∧ Cond.selects yX5_containsAnother.cls yX5_containsAnother yX5_containsAnother ∈ TB := ⟨tw_328, tw_329⟩
theorem zc_X5_containsAnother {n : Nat} {Z : Zt} {a : Nat} {x1 : Int32} {g : Mem} {q : Int32 × Mem} (h : f_X5_containsAnother n Z a x1 g = some q) : zk Z a = 4 := (grd_some h).1
set_option maxHeartbeats 4000000 in
set_option maxRecDepth 100000 in
theorem vm_X5_containsAnother {n : Nat} {Z : Zt} {a : Nat} {x1 : Int32} {g : Mem} {rr : Int32} {gg : Mem} (h : f_X5_containsAnother n Z a x1 g = some (rr, gg)) : VM yX5_containsAnother cX5_containsAnother 7 (some .boolean) 2 [.ref a, .int x1] Z g (some (.int rr)) gg := by
  unfold f_X5_containsAnother at h
  replace h := grd_some h
  obtain ⟨hz0, h⟩ := h
  refine VM.of (by decide +kernel) (Nat.le_of_ble_eq_true rfl) (fun x hM => ?_)
  have hM : Cm x cX5_containsAnother RX5 7 (some .boolean) 2 Z (some (.int rr)) gg := hM
  show V x Z 0 0 0 [(0, va_rf (some a)), (1, .int x1)] [] g
  refine V_aload_n hM.c 0 dX5_containsAnother_0 rfl rfl ?_
  refine V_iload_n hM.c 1 dX5_containsAnother_1 rfl rfl ?_
  replace h := bnd_some h
  obtain ⟨r1, g2, e3, h⟩ := h
  refine V_callV (As := [.int x1]) (c := 3) (T := TX5) (N := 3) hM.c hM.a mq_X5_monomialAt mi_X5_monomialAt tw_151 (hM.d (by decide)) hM.z rfl (by omega) (zc_X5_monomialAt e3) (vm_X5_monomialAt e3) rfl (Nat.le_of_ble_eq_true rfl) dX5_containsAnother_2 ?_
  refine V_lstore_n (i := 2) (L' := [(2, .long r1), (0, va_rf (some a)), (1, .int x1)]) hM.c dX5_containsAnother_5 rfl (by decide) rfl ?_
  refine V_iconst (v := 0) hM.c dX5_containsAnother_6 (by decide) ?_
  refine V_istore (L' := [(4, .int (0 : Int32)), (2, .long r1), (0, va_rf (some a)), (1, .int x1)]) hM.c dX5_containsAnother_7 (by decide) rfl ?_
  refine V_sub [2, 3, 1, 0] rfl ?_
  exact vl_X5_containsAnother_l9 hM hz0  _ _ _ _ _ h
def f_X5_dropContaining_l36 (n : Nat) (Z : Zt) (a : Nat) : Nat → Int32 → Int32 → Int32 → Mem → Option (Unit × Mem)
  | 0, _, _, _, _ => none
  | fu + 1, x1, x2, x3, g => if (gI g a 2) ≤ x3 then (some ((), (sI g a 2 x2))) else (if (32 : Int32) ≤ x3 then (some ((), (sI g a 2 x2))) else (if ((x1 >>> (x3 &&& 31)) &&& (1 : Int32)) = 0 then (if x3 < x2 then (f_X5_dropContaining_l36 n Z a fu x1 x2 (x3 + 1) g) else (drf (zf Z a 0) (fun b10 => drf (zf Z a 0) (fun b12 => grd (zk Z b12 = 13) (grd (inr x3 (zl Z b12)) (grd (zk Z b10 = 13) (grd (inr x2 (zl Z b10)) (drf (zf Z a 1) (fun b18 => drf (zf Z a 1) (fun b20 => grd (zk Z b20 = 13) (grd (inr x3 (zl Z b20)) (grd (zk Z b18 = 13) (grd (inr x2 (zl Z b18)) (f_X5_dropContaining_l36 n Z a fu x1 (x2 + 1) (x3 + 1) (sJ (sJ g b10 x2.toNatClampNeg (gJ g b12 x3.toNatClampNeg)) b18 x2.toNatClampNeg (gJ (sJ g b10 x2.toNatClampNeg (gJ g b12 x3.toNatClampNeg)) b20 x3.toNatClampNeg)))))))))))))))) else (f_X5_dropContaining_l36 n Z a fu x1 x2 (x3 + 1) g)))
set_option maxHeartbeats 4000000 in
set_option maxRecDepth 100000 in
theorem vl_X5_dropContaining_l36 {x : Cq} {n : Nat} {Z : Zt} {a : Nat} {rr : Unit} {gg : Mem} (hM : Cm x cX5_dropContaining RX5 4 none 3 Z none gg) (hz0 : zk Z a = 4) : ∀ (fu : Nat) (x1 : Int32) (x2 : Int32) (x3 : Int32) (g : Mem), f_X5_dropContaining_l36 n Z a fu x1 x2 x3 g = some (rr, gg) → V x Z 0 0 36 [(0, va_rf (some a)), (1, .int x1), (2, .int x2), (3, .int x3)] [] g := by
  intro fu
  induction fu with
  | zero => intro x1 x2 x3 g h; cases h
  | succ fu ih =>
    intro x1 x2 x3 g h
    unfold f_X5_dropContaining_l36 at h
    refine V_iload_n hM.c 3 dX5_dropContaining_36 rfl rfl ?_
    refine V_aload_n hM.c 0 dX5_dropContaining_37 rfl rfl ?_
    refine G3_2 hM.c tw_150 hz0 dX5_dropContaining_38 ?_
    refine V_icmp_ge hM.c 96 dX5_dropContaining_41 (by decide) (fun c6 => ?_) (fun c6 => ?_)
    · replace h := ite_p h c6
      refine V_aload_n hM.c 0 dX5_dropContaining_96 rfl rfl ?_
      refine V_iload_n hM.c 2 dX5_dropContaining_97 rfl rfl ?_
      refine P3_2 hM.c tw_150 hz0 hM.a dX5_dropContaining_98 ?_
      exact V_vretE hM h dX5_dropContaining_101
    · replace h := ite_n h c6
      refine V_iload_n hM.c 3 dX5_dropContaining_44 rfl rfl ?_
      refine V_bipush (v := 32) hM.c dX5_dropContaining_45 (by decide) ?_
      refine V_icmp_ge hM.c 96 dX5_dropContaining_47 (by decide) (fun c7 => ?_) (fun c7 => ?_)
      · replace h := ite_p h c7
        refine V_aload_n hM.c 0 dX5_dropContaining_96 rfl rfl ?_
        refine V_iload_n hM.c 2 dX5_dropContaining_97 rfl rfl ?_
        refine P3_2 hM.c tw_150 hz0 hM.a dX5_dropContaining_98 ?_
        exact V_vretE hM h dX5_dropContaining_101
      · replace h := ite_n h c7
        refine V_iload_n hM.c 1 dX5_dropContaining_50 rfl rfl ?_
        refine V_iload_n hM.c 3 dX5_dropContaining_51 rfl rfl ?_
        refine V_ishr hM.c dX5_dropContaining_52 ?_
        refine V_iconst (v := 1) hM.c dX5_dropContaining_53 (by decide) ?_
        refine V_iand hM.c dX5_dropContaining_54 ?_
        refine V_if_ne hM.c 90 dX5_dropContaining_55 (by decide) (fun c8 => ?_) (fun c8 => ?_)
        · replace h := ite_n h c8
          refine V_iinc (v := (x3 + 1)) (L' := [(3, .int (x3 + 1)), (0, va_rf (some a)), (1, .int x1), (2, .int x2)]) hM.c 3 dX5_dropContaining_90 rfl rfl (by decide) rfl ?_
          refine V_goto hM.c 36 dX5_dropContaining_93 (by decide) ?_
          refine V_sub [1, 2, 3, 0] rfl ?_
          exact ih _ _ _ _ h
        · replace h := ite_p h c8
          refine V_iload_n hM.c 2 dX5_dropContaining_58 rfl rfl ?_
          refine V_iload_n hM.c 3 dX5_dropContaining_59 rfl rfl ?_
          refine V_icmp_gt hM.c 90 dX5_dropContaining_60 (by decide) (fun c9 => ?_) (fun c9 => ?_)
          · replace h := ite_p h c9
            refine V_iinc (v := (x3 + 1)) (L' := [(3, .int (x3 + 1)), (0, va_rf (some a)), (1, .int x1), (2, .int x2)]) hM.c 3 dX5_dropContaining_90 rfl rfl (by decide) rfl ?_
            refine V_goto hM.c 36 dX5_dropContaining_93 (by decide) ?_
            refine V_sub [1, 2, 3, 0] rfl ?_
            exact ih _ _ _ _ h
          · replace h := ite_n h c9
            refine V_aload_n hM.c 0 dX5_dropContaining_63 rfl rfl ?_
            replace h := drf_some h
            obtain ⟨b10, e11, h⟩ := h
            refine G3_0 hM.c tw_155 hz0 e11 dX5_dropContaining_64 ?_
            refine V_iload_n hM.c 2 dX5_dropContaining_67 rfl rfl ?_
            refine V_aload_n hM.c 0 dX5_dropContaining_68 rfl rfl ?_
            replace h := drf_some h
            obtain ⟨b12, e13, h⟩ := h
            refine G3_0 hM.c tw_155 hz0 e13 dX5_dropContaining_69 ?_
            refine V_iload_n hM.c 3 dX5_dropContaining_72 rfl rfl ?_
            replace h := grd_some h
            obtain ⟨z14, h⟩ := h
            replace h := grd_some h
            obtain ⟨c15, h⟩ := h
            refine V_lald hM.c z14 c15 dX5_dropContaining_73 ?_
            replace h := grd_some h
            obtain ⟨z16, h⟩ := h
            replace h := grd_some h
            obtain ⟨c17, h⟩ := h
            refine V_last hM.c z16 c17 hM.a dX5_dropContaining_74 ?_
            refine V_aload_n hM.c 0 dX5_dropContaining_75 rfl rfl ?_
            replace h := drf_some h
            obtain ⟨b18, e19, h⟩ := h
            refine G3_1 hM.c tw_197 hz0 e19 dX5_dropContaining_76 ?_
            refine V_iload_n hM.c 2 dX5_dropContaining_79 rfl rfl ?_
            refine V_aload_n hM.c 0 dX5_dropContaining_80 rfl rfl ?_
            replace h := drf_some h
            obtain ⟨b20, e21, h⟩ := h
            refine G3_1 hM.c tw_197 hz0 e21 dX5_dropContaining_81 ?_
            refine V_iload_n hM.c 3 dX5_dropContaining_84 rfl rfl ?_
            replace h := grd_some h
            obtain ⟨z22, h⟩ := h
            replace h := grd_some h
            obtain ⟨c23, h⟩ := h
            refine V_lald hM.c z22 c23 dX5_dropContaining_85 ?_
            replace h := grd_some h
            obtain ⟨z24, h⟩ := h
            replace h := grd_some h
            obtain ⟨c25, h⟩ := h
            refine V_last hM.c z24 c25 hM.a dX5_dropContaining_86 ?_
            refine V_iinc (v := (x2 + 1)) (L' := [(2, .int (x2 + 1)), (0, va_rf (some a)), (1, .int x1), (3, .int x3)]) hM.c 2 dX5_dropContaining_87 rfl rfl (by decide) rfl ?_
            refine V_iinc (v := (x3 + 1)) (L' := [(3, .int (x3 + 1)), (2, .int (x2 + 1)), (0, va_rf (some a)), (1, .int x1)]) hM.c 3 dX5_dropContaining_90 rfl rfl (by decide) rfl ?_
            refine V_goto hM.c 36 dX5_dropContaining_93 (by decide) ?_
            refine V_sub [2, 3, 1, 0] rfl ?_
            exact ih _ _ _ _ h
def f_X5_dropContaining_l4 (n : Nat) (Z : Zt) (a : Nat) : Nat → Int32 → Int32 → Mem → Option (Unit × Mem)
  | 0, _, _, _ => none
  | fu + 1, x1, x2, g => if (gI g a 2) ≤ x2 then (f_X5_dropContaining_l36 n Z a n x1 (0 : Int32) (0 : Int32) g) else (bnd (f_X5_containsAnother n Z a x2 g) (fun r2 g3 => if r2 = 0 then (f_X5_dropContaining_l4 n Z a fu x1 (x2 + 1) g3) else (f_X5_dropContaining_l4 n Z a fu (x1 ||| ((1 : Int32) <<< (x2 &&& 31))) (x2 + 1) g3)))
set_option maxHeartbeats 4000000 in
set_option maxRecDepth 100000 in
theorem vl_X5_dropContaining_l4 {x : Cq} {n : Nat} {Z : Zt} {a : Nat} {rr : Unit} {gg : Mem} (hM : Cm x cX5_dropContaining RX5 4 none 3 Z none gg) (hz0 : zk Z a = 4) : ∀ (fu : Nat) (x1 : Int32) (x2 : Int32) (g : Mem), f_X5_dropContaining_l4 n Z a fu x1 x2 g = some (rr, gg) → V x Z 0 0 4 [(0, va_rf (some a)), (1, .int x1), (2, .int x2)] [] g := by
  intro fu
  induction fu with
  | zero => intro x1 x2 g h; cases h
  | succ fu ih =>
    intro x1 x2 g h
    unfold f_X5_dropContaining_l4 at h
    refine V_iload_n hM.c 2 dX5_dropContaining_4 rfl rfl ?_
    refine V_aload_n hM.c 0 dX5_dropContaining_5 rfl rfl ?_
    refine G3_2 hM.c tw_150 hz0 dX5_dropContaining_6 ?_
    refine V_icmp_ge hM.c 32 dX5_dropContaining_9 (by decide) (fun c1 => ?_) (fun c1 => ?_)
    · replace h := ite_p h c1
      refine V_iconst (v := 0) hM.c dX5_dropContaining_32 (by decide) ?_
      refine V_istore_n (i := 2) (L' := [(2, .int (0 : Int32)), (0, va_rf (some a)), (1, .int x1)]) hM.c dX5_dropContaining_33 rfl (by decide) rfl ?_
      refine V_iconst (v := 0) hM.c dX5_dropContaining_34 (by decide) ?_
      refine V_istore_n (i := 3) (L' := [(3, .int (0 : Int32)), (2, .int (0 : Int32)), (0, va_rf (some a)), (1, .int x1)]) hM.c dX5_dropContaining_35 rfl (by decide) rfl ?_
      refine V_sub [2, 3, 1, 0] rfl ?_
      exact vl_X5_dropContaining_l36 hM hz0  _ _ _ _ _ h
    · replace h := ite_n h c1
      refine V_aload_n hM.c 0 dX5_dropContaining_12 rfl rfl ?_
      refine V_iload_n hM.c 2 dX5_dropContaining_13 rfl rfl ?_
      replace h := bnd_some h
      obtain ⟨r2, g3, e4, h⟩ := h
      refine V_callV (As := [.int x2]) (c := 3) (T := TX5) (N := 3) hM.c hM.a mq_X5_containsAnother mi_X5_containsAnother tw_327 (hM.d (by decide)) hM.z rfl (by omega) (zc_X5_containsAnother e4) (vm_X5_containsAnother e4) rfl (Nat.le_of_ble_eq_true rfl) dX5_dropContaining_14 ?_
      refine V_if_eq hM.c 26 dX5_dropContaining_17 (by decide) (fun c5 => ?_) (fun c5 => ?_)
      · replace h := ite_p h c5
        refine V_iinc (v := (x2 + 1)) (L' := [(2, .int (x2 + 1)), (0, va_rf (some a)), (1, .int x1)]) hM.c 2 dX5_dropContaining_26 rfl rfl (by decide) rfl ?_
        refine V_goto hM.c 4 dX5_dropContaining_29 (by decide) ?_
        refine V_sub [1, 2, 0] rfl ?_
        exact ih _ _ _ h
      · replace h := ite_n h c5
        refine V_iload_n hM.c 1 dX5_dropContaining_20 rfl rfl ?_
        refine V_iconst (v := 1) hM.c dX5_dropContaining_21 (by decide) ?_
        refine V_iload_n hM.c 2 dX5_dropContaining_22 rfl rfl ?_
        refine V_ishl hM.c dX5_dropContaining_23 ?_
        refine V_ior hM.c dX5_dropContaining_24 ?_
        refine V_istore_n (i := 1) (L' := [(1, .int (x1 ||| ((1 : Int32) <<< (x2 &&& 31)))), (0, va_rf (some a)), (2, .int x2)]) hM.c dX5_dropContaining_25 rfl (by decide) rfl ?_
        refine V_iinc (v := (x2 + 1)) (L' := [(2, .int (x2 + 1)), (1, .int (x1 ||| ((1 : Int32) <<< (x2 &&& 31)))), (0, va_rf (some a))]) hM.c 2 dX5_dropContaining_26 rfl rfl (by decide) rfl ?_
        refine V_goto hM.c 4 dX5_dropContaining_29 (by decide) ?_
        refine V_sub [2, 1, 0] rfl ?_
        exact ih _ _ _ h
def f_X5_dropContaining (n : Nat) (Z : Zt) (a : Nat) (g : Mem) : Option (Unit × Mem) := grd (zk Z a = 4) (f_X5_dropContaining_l4 n Z a n (0 : Int32) (0 : Int32) g)
theorem mq_X5_dropContaining : Mq yX5_dropContaining cX5_dropContaining 4 none 0 := ⟨tw_326, tw_148, ⟨by decide +kernel, by decide +kernel, by decide +kernel⟩, by decide⟩
theorem mi_X5_dropContaining : Cond.instanceMethod yX5_dropContaining ∈ TB ∧ Cond.selects yX5_dropContaining.cls yX5_dropContaining yX5_dropContaining ∈ TB := ⟨tw_324, tw_325⟩
theorem zc_X5_dropContaining {n : Nat} {Z : Zt} {a : Nat} {g : Mem} {q : Unit × Mem} (h : f_X5_dropContaining n Z a g = some q) : zk Z a = 4 := (grd_some h).1
set_option maxHeartbeats 4000000 in
set_option maxRecDepth 100000 in
theorem vm_X5_dropContaining {n : Nat} {Z : Zt} {a : Nat} {g : Mem} {rr : Unit} {gg : Mem} (h : f_X5_dropContaining n Z a g = some (rr, gg)) : VM yX5_dropContaining cX5_dropContaining 4 none 3 [.ref a] Z g none gg := by
  unfold f_X5_dropContaining at h
  replace h := grd_some h
  obtain ⟨hz0, h⟩ := h
  refine VM.of (by decide +kernel) (Nat.le_of_ble_eq_true rfl) (fun x hM => ?_)
  have hM : Cm x cX5_dropContaining RX5 4 none 3 Z none gg := hM
  show V x Z 0 0 0 [(0, va_rf (some a))] [] g
  refine V_iconst (v := 0) hM.c dX5_dropContaining_0 (by decide) ?_
  refine V_istore_n (i := 1) (L' := [(1, .int (0 : Int32)), (0, va_rf (some a))]) hM.c dX5_dropContaining_1 rfl (by decide) rfl ?_
  refine V_iconst (v := 0) hM.c dX5_dropContaining_2 (by decide) ?_
  refine V_istore_n (i := 2) (L' := [(2, .int (0 : Int32)), (1, .int (0 : Int32)), (0, va_rf (some a))]) hM.c dX5_dropContaining_3 rfl (by decide) rfl ?_
  refine V_sub [2, 1, 0] rfl ?_
  exact vl_X5_dropContaining_l4 hM hz0  _ _ _ _ h
def f_X5_setFactorsToOne_l2 (n : Nat) (Z : Zt) (a : Nat) : Nat → Int32 → Mem → Option (Unit × Mem)
  | 0, _, _ => none
  | fu + 1, x1, g => if (gI g a 2) ≤ x1 then (some ((), g)) else (if (32 : Int32) ≤ x1 then (some ((), g)) else (drf (zf Z a 1) (fun b3 => grd (zk Z b3 = 13) (grd (inr x1 (zl Z b3)) (f_X5_setFactorsToOne_l2 n Z a fu (x1 + 1) (sJ g b3 x1.toNatClampNeg (1 : Int64)))))))
set_option maxHeartbeats 4000000 in
set_option maxRecDepth 100000 in
theorem vl_X5_setFactorsToOne_l2 {x : Cq} {n : Nat} {Z : Zt} {a : Nat} {rr : Unit} {gg : Mem} (hM : Cm x cX5_setFactorsToOne RX5 2 none 0 Z none gg) (hz0 : zk Z a = 4) : ∀ (fu : Nat) (x1 : Int32) (g : Mem), f_X5_setFactorsToOne_l2 n Z a fu x1 g = some (rr, gg) → V x Z 0 0 2 [(0, va_rf (some a)), (1, .int x1)] [] g := by
  intro fu
  induction fu with
  | zero => intro x1 g h; cases h
  | succ fu ih =>
    intro x1 g h
    unfold f_X5_setFactorsToOne_l2 at h
    refine V_iload_n hM.c 1 dX5_setFactorsToOne_2 rfl rfl ?_
    refine V_aload_n hM.c 0 dX5_setFactorsToOne_3 rfl rfl ?_
    refine G3_2 hM.c tw_150 hz0 dX5_setFactorsToOne_4 ?_
    refine V_icmp_ge hM.c 29 dX5_setFactorsToOne_7 (by decide) (fun c1 => ?_) (fun c1 => ?_)
    · replace h := ite_p h c1
      exact V_vretE hM h dX5_setFactorsToOne_29
    · replace h := ite_n h c1
      refine V_iload_n hM.c 1 dX5_setFactorsToOne_10 rfl rfl ?_
      refine V_bipush (v := 32) hM.c dX5_setFactorsToOne_11 (by decide) ?_
      refine V_icmp_ge hM.c 29 dX5_setFactorsToOne_13 (by decide) (fun c2 => ?_) (fun c2 => ?_)
      · replace h := ite_p h c2
        exact V_vretE hM h dX5_setFactorsToOne_29
      · replace h := ite_n h c2
        refine V_aload_n hM.c 0 dX5_setFactorsToOne_16 rfl rfl ?_
        replace h := drf_some h
        obtain ⟨b3, e4, h⟩ := h
        refine G3_1 hM.c tw_197 hz0 e4 dX5_setFactorsToOne_17 ?_
        refine V_iload_n hM.c 1 dX5_setFactorsToOne_20 rfl rfl ?_
        refine V_lconst (v := 1) hM.c dX5_setFactorsToOne_21 (by decide) ?_
        replace h := grd_some h
        obtain ⟨z5, h⟩ := h
        replace h := grd_some h
        obtain ⟨c6, h⟩ := h
        refine V_last hM.c z5 c6 hM.a dX5_setFactorsToOne_22 ?_
        refine V_iinc (v := (x1 + 1)) (L' := [(1, .int (x1 + 1)), (0, va_rf (some a))]) hM.c 1 dX5_setFactorsToOne_23 rfl rfl (by decide) rfl ?_
        refine V_goto hM.c 2 dX5_setFactorsToOne_26 (by decide) ?_
        refine V_sub [1, 0] rfl ?_
        exact ih _ _ h
def f_X5_setFactorsToOne (n : Nat) (Z : Zt) (a : Nat) (g : Mem) : Option (Unit × Mem) := grd (zk Z a = 4) (f_X5_setFactorsToOne_l2 n Z a n (0 : Int32) g)
theorem mq_X5_setFactorsToOne : Mq yX5_setFactorsToOne cX5_setFactorsToOne 2 none 0 := ⟨tw_334, tw_148, ⟨by decide +kernel, by decide +kernel, by decide +kernel⟩, by decide⟩
theorem mi_X5_setFactorsToOne : Cond.instanceMethod yX5_setFactorsToOne ∈ TB ∧ Cond.selects yX5_setFactorsToOne.cls yX5_setFactorsToOne yX5_setFactorsToOne ∈ TB := ⟨tw_332, tw_333⟩
theorem zc_X5_setFactorsToOne {n : Nat} {Z : Zt} {a : Nat} {g : Mem} {q : Unit × Mem} (h : f_X5_setFactorsToOne n Z a g = some q) : zk Z a = 4 := (grd_some h).1
set_option maxHeartbeats 4000000 in
set_option maxRecDepth 100000 in
theorem vm_X5_setFactorsToOne {n : Nat} {Z : Zt} {a : Nat} {g : Mem} {rr : Unit} {gg : Mem} (h : f_X5_setFactorsToOne n Z a g = some (rr, gg)) : VM yX5_setFactorsToOne cX5_setFactorsToOne 2 none 0 [.ref a] Z g none gg := by
  unfold f_X5_setFactorsToOne at h
  replace h := grd_some h
  obtain ⟨hz0, h⟩ := h
  refine VM.of (by decide +kernel) (Nat.le_of_ble_eq_true rfl) (fun x hM => ?_)
  have hM : Cm x cX5_setFactorsToOne RX5 2 none 0 Z none gg := hM
  show V x Z 0 0 0 [(0, va_rf (some a))] [] g
  refine V_iconst (v := 0) hM.c dX5_setFactorsToOne_0 (by decide) ?_
  refine V_istore_n (i := 1) (L' := [(1, .int (0 : Int32)), (0, va_rf (some a))]) hM.c dX5_setFactorsToOne_1 rfl (by decide) rfl ?_
  refine V_sub [1, 0] rfl ?_
  exact vl_X5_setFactorsToOne_l2 hM hz0  _ _ _ h
def f_X5_setToForm_l37 (n : Nat) (Z : Zt) (κ6 : Nat → Int32 → Int32 → Mem → Option (Unit × Mem)) (a : Nat) (x1 : Nat) (x2 : Int32) (x3 : Int32) (s0 : Int64) (s1 : Nat) (g : Mem) : Option (Unit × Mem) := bnd (f_X5_factorAt n Z x1 x3 g) (fun r24 g25 => bnd (f_X5_addTerm n Z s1 s0 r24 g25) (fun r27 g28 => κ6 x1 x2 (x3 + 1) g28))
set_option maxHeartbeats 4000000 in
set_option maxRecDepth 100000 in
theorem vl_X5_setToForm_l37 {x : Cq} {n : Nat} {Z : Zt} {κ6 : Nat → Int32 → Int32 → Mem → Option (Unit × Mem)} {a : Nat} {x1 : Nat} {x2 : Int32} {x3 : Int32} {s0 : Int64} {s1 : Nat} {g : Mem} {rr : Unit} {gg : Mem} (hM : Cm x cX5_setToForm RX5 6 none 4 Z none gg) (hz0 : zk Z a = 4) (hκ6 : ∀ (y1 : Nat) (y2 : Int32) (y3 : Int32) (y : Mem), κ6 y1 y2 y3 y = some (rr, gg) → V x Z 0 0 6 [(0, va_rf (some a)), (1, va_rf (some y1)), (2, .int y2), (3, .int y3)] [] y) (h : f_X5_setToForm_l37 n Z κ6 a x1 x2 x3 s0 s1 g = some (rr, gg)) : V x Z 0 0 37 [(0, va_rf (some a)), (1, va_rf (some x1)), (2, .int x2), (3, .int x3)] [.long s0, va_rf (some s1)] g := by
  unfold f_X5_setToForm_l37 at h
  refine V_aload_n hM.c 1 dX5_setToForm_37 rfl rfl ?_
  refine V_iload_n hM.c 3 dX5_setToForm_38 rfl rfl ?_
  replace h := bnd_some h
  obtain ⟨r24, g25, e26, h⟩ := h
  refine V_callV (As := [.int x3]) (c := 3) (T := TX5) (N := 3) hM.c hM.a mq_X5_factorAt mi_X5_factorAt tw_193 (hM.d (by decide)) hM.z rfl (by omega) (zc_X5_factorAt e26) (vm_X5_factorAt e26) rfl (Nat.le_of_ble_eq_true rfl) dX5_setToForm_39 ?_
  replace h := bnd_some h
  obtain ⟨r27, g28, e29, h⟩ := h
  refine V_callV (As := [.long s0, .long r24]) (c := 3) (T := TX5) (N := 3) hM.c hM.a mq_X5_addTerm mi_X5_addTerm tw_198 (hM.d (by decide)) hM.z rfl (by omega) (zc_X5_addTerm e29) (vm_X5_addTerm e29) rfl (Nat.le_of_ble_eq_true rfl) dX5_setToForm_42 ?_
  refine V_pop hM.c dX5_setToForm_45 rfl ?_
  refine V_iinc (v := (x3 + 1)) (L' := [(3, .int (x3 + 1)), (0, va_rf (some a)), (1, va_rf (some x1)), (2, .int x2)]) hM.c 3 dX5_setToForm_46 rfl rfl (by decide) rfl ?_
  refine V_goto hM.c 6 dX5_setToForm_49 (by decide) ?_
  refine V_sub [1, 2, 3, 0] rfl ?_
  exact hκ6 _ _ _ _ h
def f_X5_setToForm_l61 (n : Nat) (Z : Zt) (a : Nat) (x2 : Int32) (g : Mem) : Option (Unit × Mem) := if x2 = 0 then (some ((), g)) else (if x2 = (2 : Int32) then (some ((), g)) else (bnd (f_X5_setFactorsToOne n Z a g) (fun r21 g22 => some ((), g22))))
set_option maxHeartbeats 4000000 in
set_option maxRecDepth 100000 in
theorem vl_X5_setToForm_l61 {x : Cq} {n : Nat} {Z : Zt} {a : Nat} {x2 : Int32} {g : Mem} {rr : Unit} {gg : Mem} (hM : Cm x cX5_setToForm RX5 6 none 4 Z none gg) (hz0 : zk Z a = 4) (h : f_X5_setToForm_l61 n Z a x2 g = some (rr, gg)) : V x Z 0 0 61 [(0, va_rf (some a)), (2, .int x2)] [] g := by
  unfold f_X5_setToForm_l61 at h
  refine V_iload_n hM.c 1 dX5_setToForm_61 rfl rfl ?_
  refine V_if_eq hM.c 74 dX5_setToForm_62 (by decide) (fun c19 => ?_) (fun c19 => ?_)
  · replace h := ite_p h c19
    exact V_vretE hM h dX5_setToForm_74
  · replace h := ite_n h c19
    refine V_iload_n hM.c 1 dX5_setToForm_65 rfl rfl ?_
    refine V_iconst (v := 2) hM.c dX5_setToForm_66 (by decide) ?_
    refine V_icmp_eq hM.c 74 dX5_setToForm_67 (by decide) (fun c20 => ?_) (fun c20 => ?_)
    · replace h := ite_p h c20
      exact V_vretE hM h dX5_setToForm_74
    · replace h := ite_n h c20
      refine V_aload_n hM.c 0 dX5_setToForm_70 rfl rfl ?_
      replace h := bnd_some h
      obtain ⟨r21, g22, e23, h⟩ := h
      refine V_callV (As := []) (c := 3) (T := TX5) (N := 3) hM.c hM.a mq_X5_setFactorsToOne mi_X5_setFactorsToOne tw_331 (hM.d (by decide)) hM.z rfl (by omega) (zc_X5_setFactorsToOne e23) (vm_X5_setFactorsToOne e23) rfl (Nat.le_of_ble_eq_true rfl) dX5_setToForm_71 ?_
      exact V_vretE hM h dX5_setToForm_74
def f_X5_setToForm_l6 (n : Nat) (Z : Zt) (a : Nat) : Nat → Nat → Int32 → Int32 → Mem → Option (Unit × Mem)
  | 0, _, _, _, _ => none
  | fu + 1, x1, x2, x3, g => bnd (f_X5_size n Z x1 g) (fun r4 g5 => if r4 ≤ x3 then (if x2 = (4 : Int32) then (bnd (f_X5_dropContaining n Z a g5) (fun r9 g10 => f_X5_setToForm_l61 n Z a x2 g10)) else (f_X5_setToForm_l61 n Z a x2 g5)) else (bnd (f_X5_monomialAt n Z x1 x3 g5) (fun r12 g13 => if (2 : Int32) ≤ x2 then (bnd (f_X4_withoutPowers n Z r12 g13) (fun r16 g17 => f_X5_setToForm_l37 n Z (fun y0 y1 y2 y => f_X5_setToForm_l6 n Z a fu y0 y1 y2 y) a x1 x2 x3 r16 a g17)) else (f_X5_setToForm_l37 n Z (fun y0 y1 y2 y => f_X5_setToForm_l6 n Z a fu y0 y1 y2 y) a x1 x2 x3 r12 a g13))))
set_option maxHeartbeats 4000000 in
set_option maxRecDepth 100000 in
theorem vl_X5_setToForm_l6 {x : Cq} {n : Nat} {Z : Zt} {a : Nat} {rr : Unit} {gg : Mem} (hM : Cm x cX5_setToForm RX5 6 none 4 Z none gg) (hz0 : zk Z a = 4) : ∀ (fu : Nat) (x1 : Nat) (x2 : Int32) (x3 : Int32) (g : Mem), f_X5_setToForm_l6 n Z a fu x1 x2 x3 g = some (rr, gg) → V x Z 0 0 6 [(0, va_rf (some a)), (1, va_rf (some x1)), (2, .int x2), (3, .int x3)] [] g := by
  intro fu
  induction fu with
  | zero => intro x1 x2 x3 g h; cases h
  | succ fu ih =>
    intro x1 x2 x3 g h
    unfold f_X5_setToForm_l6 at h
    refine V_iload_n hM.c 3 dX5_setToForm_6 rfl rfl ?_
    refine V_aload_n hM.c 1 dX5_setToForm_7 rfl rfl ?_
    replace h := bnd_some h
    obtain ⟨r4, g5, e6, h⟩ := h
    refine V_callV (As := []) (c := 3) (T := TX5) (N := 3) hM.c hM.a mq_X5_size mi_X5_size tw_189 (hM.d (by decide)) hM.z rfl (by omega) (zc_X5_size e6) (vm_X5_size e6) rfl (Nat.le_of_ble_eq_true rfl) dX5_setToForm_8 ?_
    refine V_icmp_ge hM.c 52 dX5_setToForm_11 (by decide) (fun c7 => ?_) (fun c7 => ?_)
    · replace h := ite_p h c7
      refine V_iload_n hM.c 2 dX5_setToForm_52 rfl rfl ?_
      refine V_iconst (v := 4) hM.c dX5_setToForm_53 (by decide) ?_
      refine V_icmp_ne hM.c 61 dX5_setToForm_54 (by decide) (fun c8 => ?_) (fun c8 => ?_)
      · replace h := ite_n h c8
        refine V_sub [0, 2] rfl ?_
        exact vl_X5_setToForm_l61 hM hz0  h
      · replace h := ite_p h c8
        refine V_aload_n hM.c 0 dX5_setToForm_57 rfl rfl ?_
        replace h := bnd_some h
        obtain ⟨r9, g10, e11, h⟩ := h
        refine V_callV (As := []) (c := 3) (T := TX5) (N := 3) hM.c hM.a mq_X5_dropContaining mi_X5_dropContaining tw_323 (hM.d (by decide)) hM.z rfl (by omega) (zc_X5_dropContaining e11) (vm_X5_dropContaining e11) rfl (Nat.le_of_ble_eq_true rfl) dX5_setToForm_58 ?_
        refine V_sub [0, 2] rfl ?_
        exact vl_X5_setToForm_l61 hM hz0  h
    · replace h := ite_n h c7
      refine V_aload_n hM.c 1 dX5_setToForm_14 rfl rfl ?_
      refine V_iload_n hM.c 3 dX5_setToForm_15 rfl rfl ?_
      replace h := bnd_some h
      obtain ⟨r12, g13, e14, h⟩ := h
      refine V_callV (As := [.int x3]) (c := 3) (T := TX5) (N := 3) hM.c hM.a mq_X5_monomialAt mi_X5_monomialAt tw_151 (hM.d (by decide)) hM.z rfl (by omega) (zc_X5_monomialAt e14) (vm_X5_monomialAt e14) rfl (Nat.le_of_ble_eq_true rfl) dX5_setToForm_16 ?_
      refine V_lstore (L' := [(4, .long r12), (0, va_rf (some a)), (1, va_rf (some x1)), (2, .int x2), (3, .int x3)]) hM.c dX5_setToForm_19 (by decide) rfl ?_
      refine V_aload_n hM.c 1 dX5_setToForm_21 rfl rfl ?_
      refine V_iload_n hM.c 3 dX5_setToForm_22 rfl rfl ?_
      refine V_iconst (v := 2) hM.c dX5_setToForm_23 (by decide) ?_
      refine V_icmp_ge hM.c 32 dX5_setToForm_24 (by decide) (fun c15 => ?_) (fun c15 => ?_)
      · replace h := ite_p h c15
        refine V_lload hM.c 0 dX5_setToForm_32 rfl ?_
        replace h := bnd_some h
        obtain ⟨r16, g17, e18, h⟩ := h
        refine V_callS (As := [.long r12]) hM.c hM.a mq_X4_withoutPowers mi_X4_withoutPowers tw_308 (hM.d (by decide)) hM.z (vm_X4_withoutPowers e18) rfl (Nat.le_of_ble_eq_true rfl) dX5_setToForm_34 ?_
        refine V_sub [1, 2, 3, 4] rfl ?_
        exact vl_X5_setToForm_l37 hM hz0 ih h
      · replace h := ite_n h c15
        refine V_lload hM.c 0 dX5_setToForm_27 rfl ?_
        refine V_goto hM.c 37 dX5_setToForm_29 (by decide) ?_
        refine V_sub [1, 2, 3, 4] rfl ?_
        exact vl_X5_setToForm_l37 hM hz0 ih h
def f_X5_setToForm (n : Nat) (Z : Zt) (a : Nat) (x1 : Nat) (x2 : Int32) (g : Mem) : Option (Unit × Mem) := grd (zk Z a = 4) (bnd (f_X5_clear n Z a g) (fun r1 g2 => f_X5_setToForm_l6 n Z a n x1 x2 (0 : Int32) g2))
theorem mq_X5_setToForm : Mq yX5_setToForm cX5_setToForm 6 none 2 := ⟨tw_289, tw_148, ⟨by decide +kernel, by decide +kernel, by decide +kernel⟩, by decide⟩
theorem mi_X5_setToForm : Cond.instanceMethod yX5_setToForm ∈ TB ∧ Cond.selects yX5_setToForm.cls yX5_setToForm yX5_setToForm ∈ TB := ⟨tw_286, tw_287⟩
theorem zc_X5_setToForm {n : Nat} {Z : Zt} {a : Nat} {x1 : Nat} {x2 : Int32} {g : Mem} {q : Unit × Mem} (h : f_X5_setToForm n Z a x1 x2 g = some q) : zk Z a = 4 := (grd_some h).1
set_option maxHeartbeats 4000000 in
set_option maxRecDepth 100000 in
theorem vm_X5_setToForm {n : Nat} {Z : Zt} {a : Nat} {x1 : Nat} {x2 : Int32} {g : Mem} {rr : Unit} {gg : Mem} (h : f_X5_setToForm n Z a x1 x2 g = some (rr, gg)) : VM yX5_setToForm cX5_setToForm 6 none 4 [.ref a, va_rf (some x1), .int x2] Z g none gg := by
  unfold f_X5_setToForm at h
  replace h := grd_some h
  obtain ⟨hz0, h⟩ := h
  refine VM.of (by decide +kernel) (Nat.le_of_ble_eq_true rfl) (fun x hM => ?_)
  have hM : Cm x cX5_setToForm RX5 6 none 4 Z none gg := hM
  show V x Z 0 0 0 [(0, va_rf (some a)), (1, va_rf (some x1)), (2, .int x2)] [] g
  refine V_aload_n hM.c 0 dX5_setToForm_0 rfl rfl ?_
  replace h := bnd_some h
  obtain ⟨r1, g2, e3, h⟩ := h
  refine V_callV (As := []) (c := 3) (T := TX5) (N := 3) hM.c hM.a mq_X5_clear mi_X5_clear tw_185 (hM.d (by decide)) hM.z rfl (by omega) (zc_X5_clear e3) (vm_X5_clear e3) rfl (Nat.le_of_ble_eq_true rfl) dX5_setToForm_1 ?_
  refine V_iconst (v := 0) hM.c dX5_setToForm_4 (by decide) ?_
  refine V_istore_n (i := 3) (L' := [(3, .int (0 : Int32)), (0, va_rf (some a)), (1, va_rf (some x1)), (2, .int x2)]) hM.c dX5_setToForm_5 rfl (by decide) rfl ?_
  refine V_sub [1, 2, 3, 0] rfl ?_
  exact vl_X5_setToForm_l6 hM hz0  _ _ _ _ _ h
def f_X10_terms (n : Nat) (Z : Zt) (a : Nat) (x1 : Int32) (x2 : Int32) (g : Mem) : Option (Int32 × Mem) := grd (zk Z a = 9) (drf (zf Z a 7) (fun b1 => bnd (f_X0_answer n Z b1 g) (fun r3 g4 => drf r3 (fun b6 => bnd (f_X7_polynomialAt n Z b6 x1 g4) (fun r8 g9 => if r8 = none then (some ((-1 : Int32), g9)) else (bnd (f_X10_isForm n Z x2 g9) (fun r12 g13 => if r12 = 0 then (some ((-2 : Int32), g13)) else (drf (zf Z a 8) (fun b16 => drf r8 (fun b18 => bnd (f_X5_setToForm n Z b16 b18 x2 g13) (fun r20 g21 => drf (zf Z a 8) (fun b23 => bnd (f_X5_size n Z b23 g21) (fun r25 g26 => some (r25, g26))))))))))))))
theorem mq_X10_terms : Mq yX10_terms cX10_terms 4 (some .int) 2 := ⟨tw_271, tw_5, ⟨by decide +kernel, by decide +kernel, by decide +kernel⟩, by decide⟩
theorem mi_X10_terms : Cond.instanceMethod yX10_terms ∈ TB ∧ Cond.selects yX10_terms.cls yX10_terms yX10_terms ∈ TB := ⟨tw_269, tw_270⟩
theorem zc_X10_terms {n : Nat} {Z : Zt} {a : Nat} {x1 : Int32} {x2 : Int32} {g : Mem} {q : Int32 × Mem} (h : f_X10_terms n Z a x1 x2 g = some q) : zk Z a = 9 := (grd_some h).1
set_option maxHeartbeats 4000000 in
set_option maxRecDepth 100000 in
theorem vm_X10_terms {n : Nat} {Z : Zt} {a : Nat} {x1 : Int32} {x2 : Int32} {g : Mem} {rr : Int32} {gg : Mem} (h : f_X10_terms n Z a x1 x2 g = some (rr, gg)) : VM yX10_terms cX10_terms 4 (some .int) 5 [.ref a, .int x1, .int x2] Z g (some (.int rr)) gg := by
  unfold f_X10_terms at h
  replace h := grd_some h
  obtain ⟨hz0, h⟩ := h
  refine VM.of (by decide +kernel) (Nat.le_of_ble_eq_true rfl) (fun x hM => ?_)
  have hM : Cm x cX10_terms RX10 4 (some .int) 5 Z (some (.int rr)) gg := hM
  show V x Z 0 0 0 [(0, va_rf (some a)), (1, .int x1), (2, .int x2)] [] g
  refine V_aload_n hM.c 0 dX10_terms_0 rfl rfl ?_
  replace h := drf_some h
  obtain ⟨b1, e2, h⟩ := h
  refine G8_7 hM.c tw_100 hz0 e2 dX10_terms_1 ?_
  replace h := bnd_some h
  obtain ⟨r3, g4, e5, h⟩ := h
  refine V_callV (As := []) (c := 0) (T := TX0) (N := 4) hM.c hM.a mq_X0_answer mi_X0_answer tw_101 (hM.d (by decide)) hM.z rfl (by omega) (zc_X0_answer e5) (vm_X0_answer e5) rfl (Nat.le_of_ble_eq_true rfl) dX10_terms_4 ?_
  refine V_iload_n hM.c 1 dX10_terms_7 rfl rfl ?_
  replace h := drf_some h
  obtain ⟨b6, rfl, h⟩ := h
  replace h := bnd_some h
  obtain ⟨r8, g9, e10, h⟩ := h
  refine V_callV (As := [.int x1]) (c := 5) (T := TX7) (N := 4) hM.c hM.a mq_X7_polynomialAt mi_X7_polynomialAt tw_140 (hM.d (by decide)) hM.z rfl (by omega) (zc_X7_polynomialAt e10) (vm_X7_polynomialAt e10) rfl (Nat.le_of_ble_eq_true rfl) dX10_terms_8 ?_
  refine V_astore_n (i := 3) (L' := [(3, va_rf r8), (0, va_rf (some a)), (1, .int x1), (2, .int x2)]) hM.c dX10_terms_11 rfl (by decide) rfl ?_
  refine V_aload_n hM.c 0 dX10_terms_12 rfl rfl ?_
  refine V_ifnonnull hM.c 18 dX10_terms_13 (by decide) (fun c11 => ?_) (fun c11 => ?_)
  · replace h := ite_n h c11
    refine V_iload_n hM.c 3 dX10_terms_18 rfl rfl ?_
    replace h := bnd_some h
    obtain ⟨r12, g13, e14, h⟩ := h
    refine V_callS (As := [.int x2]) hM.c hM.a mq_X10_isForm mi_X10_isForm tw_282 (hM.d (by decide)) hM.z (vm_X10_isForm e14) rfl (Nat.le_of_ble_eq_true rfl) dX10_terms_19 ?_
    refine V_if_ne hM.c 28 dX10_terms_22 (by decide) (fun c15 => ?_) (fun c15 => ?_)
    · replace h := ite_n h c15
      refine V_aload_n hM.c 1 dX10_terms_28 rfl rfl ?_
      replace h := drf_some h
      obtain ⟨b16, e17, h⟩ := h
      refine G8_8 hM.c tw_172 hz0 e17 dX10_terms_29 ?_
      refine V_aload_n hM.c 0 dX10_terms_32 rfl rfl ?_
      refine V_iload_n hM.c 3 dX10_terms_33 rfl rfl ?_
      replace h := drf_some h
      obtain ⟨b18, rfl, h⟩ := h
      replace h := bnd_some h
      obtain ⟨r20, g21, e22, h⟩ := h
      refine V_callV (As := [va_rf (some b18), .int x2]) (c := 3) (T := TX5) (N := 3) hM.c hM.a mq_X5_setToForm mi_X5_setToForm tw_285 (hM.d (by decide)) hM.z rfl (by omega) (zc_X5_setToForm e22) (vm_X5_setToForm e22) rfl (Nat.le_of_ble_eq_true rfl) dX10_terms_34 ?_
      refine V_aload_n hM.c 1 dX10_terms_37 rfl rfl ?_
      replace h := drf_some h
      obtain ⟨b23, e24, h⟩ := h
      refine G8_8 hM.c tw_172 hz0 e24 dX10_terms_38 ?_
      replace h := bnd_some h
      obtain ⟨r25, g26, e27, h⟩ := h
      refine V_callV (As := []) (c := 3) (T := TX5) (N := 3) hM.c hM.a mq_X5_size mi_X5_size tw_203 (hM.d (by decide)) hM.z rfl (by omega) (zc_X5_size e27) (vm_X5_size e27) rfl (Nat.le_of_ble_eq_true rfl) dX10_terms_41 ?_
      exact V_iretE hM h dX10_terms_44
    · replace h := ite_p h c15
      refine V_bipush (v := -2) hM.c dX10_terms_25 (by decide) ?_
      exact V_iretE hM h dX10_terms_27
  · replace h := ite_p h c11
    refine V_iconst (v := -1) hM.c dX10_terms_16 (by decide) ?_
    exact V_iretE hM h dX10_terms_17
def f_X10_coefficient (n : Nat) (Z : Zt) (a : Nat) (x1 : Int32) (x2 : Int32) (x3 : Int32) (g : Mem) : Option (Int64 × Mem) := grd (zk Z a = 9) (drf (zf Z a 7) (fun b1 => bnd (f_X0_answer n Z b1 g) (fun r3 g4 => drf r3 (fun b6 => bnd (f_X7_polynomialAt n Z b6 x1 g4) (fun r8 g9 => if r8 = none then (some ((-1 : Int64), g9)) else (bnd (f_X10_isForm n Z x2 g9) (fun r12 g13 => if r12 = 0 then (some ((-2 : Int64), g13)) else (drf (zf Z a 8) (fun b16 => drf r8 (fun b18 => bnd (f_X5_setToForm n Z b16 b18 x2 g13) (fun r20 g21 => drf (zf Z a 8) (fun b23 => bnd (f_X5_hasTerm n Z b23 x3 g21) (fun r25 g26 => if r25 = 0 then (some ((-1 : Int64), g26)) else (drf (zf Z a 8) (fun b29 => bnd (f_X5_factorAt n Z b29 x3 g26) (fun r31 g32 => some (r31, g32)))))))))))))))))
theorem mq_X10_coefficient : Mq yX10_coefficient cX10_coefficient 5 (some .long) 3 := ⟨tw_421, tw_5, ⟨by decide +kernel, by decide +kernel, by decide +kernel⟩, by decide⟩
theorem mi_X10_coefficient : Cond.instanceMethod yX10_coefficient ∈ TB ∧ Cond.selects yX10_coefficient.cls yX10_coefficient yX10_coefficient ∈ TB := ⟨tw_419, tw_420⟩
theorem zc_X10_coefficient {n : Nat} {Z : Zt} {a : Nat} {x1 : Int32} {x2 : Int32} {x3 : Int32} {g : Mem} {q : Int64 × Mem} (h : f_X10_coefficient n Z a x1 x2 x3 g = some q) : zk Z a = 9 := (grd_some h).1
set_option maxHeartbeats 4000000 in
set_option maxRecDepth 100000 in
theorem vm_X10_coefficient {n : Nat} {Z : Zt} {a : Nat} {x1 : Int32} {x2 : Int32} {x3 : Int32} {g : Mem} {rr : Int64} {gg : Mem} (h : f_X10_coefficient n Z a x1 x2 x3 g = some (rr, gg)) : VM yX10_coefficient cX10_coefficient 5 (some .long) 5 [.ref a, .int x1, .int x2, .int x3] Z g (some (.long rr)) gg := by
  unfold f_X10_coefficient at h
  replace h := grd_some h
  obtain ⟨hz0, h⟩ := h
  refine VM.of (by decide +kernel) (Nat.le_of_ble_eq_true rfl) (fun x hM => ?_)
  have hM : Cm x cX10_coefficient RX10 5 (some .long) 5 Z (some (.long rr)) gg := hM
  show V x Z 0 0 0 [(0, va_rf (some a)), (1, .int x1), (2, .int x2), (3, .int x3)] [] g
  refine V_aload_n hM.c 0 dX10_coefficient_0 rfl rfl ?_
  replace h := drf_some h
  obtain ⟨b1, e2, h⟩ := h
  refine G8_7 hM.c tw_100 hz0 e2 dX10_coefficient_1 ?_
  replace h := bnd_some h
  obtain ⟨r3, g4, e5, h⟩ := h
  refine V_callV (As := []) (c := 0) (T := TX0) (N := 4) hM.c hM.a mq_X0_answer mi_X0_answer tw_101 (hM.d (by decide)) hM.z rfl (by omega) (zc_X0_answer e5) (vm_X0_answer e5) rfl (Nat.le_of_ble_eq_true rfl) dX10_coefficient_4 ?_
  refine V_iload_n hM.c 1 dX10_coefficient_7 rfl rfl ?_
  replace h := drf_some h
  obtain ⟨b6, rfl, h⟩ := h
  replace h := bnd_some h
  obtain ⟨r8, g9, e10, h⟩ := h
  refine V_callV (As := [.int x1]) (c := 5) (T := TX7) (N := 4) hM.c hM.a mq_X7_polynomialAt mi_X7_polynomialAt tw_140 (hM.d (by decide)) hM.z rfl (by omega) (zc_X7_polynomialAt e10) (vm_X7_polynomialAt e10) rfl (Nat.le_of_ble_eq_true rfl) dX10_coefficient_8 ?_
  refine V_astore (L' := [(4, va_rf r8), (0, va_rf (some a)), (1, .int x1), (2, .int x2), (3, .int x3)]) hM.c dX10_coefficient_11 (by decide) rfl ?_
  refine V_aload hM.c 0 dX10_coefficient_13 rfl ?_
  refine V_ifnonnull hM.c 22 dX10_coefficient_15 (by decide) (fun c11 => ?_) (fun c11 => ?_)
  · replace h := ite_n h c11
    refine V_iload_n hM.c 3 dX10_coefficient_22 rfl rfl ?_
    replace h := bnd_some h
    obtain ⟨r12, g13, e14, h⟩ := h
    refine V_callS (As := [.int x2]) hM.c hM.a mq_X10_isForm mi_X10_isForm tw_282 (hM.d (by decide)) hM.z (vm_X10_isForm e14) rfl (Nat.le_of_ble_eq_true rfl) dX10_coefficient_23 ?_
    refine V_if_ne hM.c 33 dX10_coefficient_26 (by decide) (fun c15 => ?_) (fun c15 => ?_)
    · replace h := ite_n h c15
      refine V_aload_n hM.c 1 dX10_coefficient_33 rfl rfl ?_
      replace h := drf_some h
      obtain ⟨b16, e17, h⟩ := h
      refine G8_8 hM.c tw_172 hz0 e17 dX10_coefficient_34 ?_
      refine V_aload hM.c 0 dX10_coefficient_37 rfl ?_
      refine V_iload_n hM.c 3 dX10_coefficient_39 rfl rfl ?_
      replace h := drf_some h
      obtain ⟨b18, rfl, h⟩ := h
      replace h := bnd_some h
      obtain ⟨r20, g21, e22, h⟩ := h
      refine V_callV (As := [va_rf (some b18), .int x2]) (c := 3) (T := TX5) (N := 3) hM.c hM.a mq_X5_setToForm mi_X5_setToForm tw_285 (hM.d (by decide)) hM.z rfl (by omega) (zc_X5_setToForm e22) (vm_X5_setToForm e22) rfl (Nat.le_of_ble_eq_true rfl) dX10_coefficient_40 ?_
      refine V_aload_n hM.c 1 dX10_coefficient_43 rfl rfl ?_
      replace h := drf_some h
      obtain ⟨b23, e24, h⟩ := h
      refine G8_8 hM.c tw_172 hz0 e24 dX10_coefficient_44 ?_
      refine V_iload_n hM.c 4 dX10_coefficient_47 rfl rfl ?_
      replace h := bnd_some h
      obtain ⟨r25, g26, e27, h⟩ := h
      refine V_callV (As := [.int x3]) (c := 3) (T := TX5) (N := 3) hM.c hM.a mq_X5_hasTerm mi_X5_hasTerm tw_416 (hM.d (by decide)) hM.z rfl (by omega) (zc_X5_hasTerm e27) (vm_X5_hasTerm e27) rfl (Nat.le_of_ble_eq_true rfl) dX10_coefficient_48 ?_
      refine V_if_eq hM.c 65 dX10_coefficient_51 (by decide) (fun c28 => ?_) (fun c28 => ?_)
      · replace h := ite_p h c28
        refine V_ldc2 (v := -1) hM.c tw_171 dX10_coefficient_65 ?_
        exact V_lretE hM h dX10_coefficient_68
      · replace h := ite_n h c28
        refine V_aload_n hM.c 1 dX10_coefficient_54 rfl rfl ?_
        replace h := drf_some h
        obtain ⟨b29, e30, h⟩ := h
        refine G8_8 hM.c tw_172 hz0 e30 dX10_coefficient_55 ?_
        refine V_iload_n hM.c 4 dX10_coefficient_58 rfl rfl ?_
        replace h := bnd_some h
        obtain ⟨r31, g32, e33, h⟩ := h
        refine V_callV (As := [.int x3]) (c := 3) (T := TX5) (N := 3) hM.c hM.a mq_X5_factorAt mi_X5_factorAt tw_204 (hM.d (by decide)) hM.z rfl (by omega) (zc_X5_factorAt e33) (vm_X5_factorAt e33) rfl (Nat.le_of_ble_eq_true rfl) dX10_coefficient_59 ?_
        refine V_goto hM.c 68 dX10_coefficient_62 (by decide) ?_
        exact V_lretE hM h dX10_coefficient_68
    · replace h := ite_p h c15
      refine V_ldc2 (v := -2) hM.c tw_423 dX10_coefficient_29 ?_
      exact V_lretE hM h dX10_coefficient_32
  · replace h := ite_p h c11
    refine V_ldc2 (v := -1) hM.c tw_171 dX10_coefficient_18 ?_
    exact V_lretE hM h dX10_coefficient_21
def f_X10_exponent (n : Nat) (Z : Zt) (a : Nat) (x1 : Int32) (x2 : Int32) (x3 : Int32) (x4 : Int32) (g : Mem) : Option (Int32 × Mem) := grd (zk Z a = 9) (drf (zf Z a 7) (fun b1 => bnd (f_X0_answer n Z b1 g) (fun r3 g4 => drf r3 (fun b6 => bnd (f_X7_polynomialAt n Z b6 x1 g4) (fun r8 g9 => if r8 = none then (some ((-1 : Int32), g9)) else (bnd (f_X10_isForm n Z x2 g9) (fun r12 g13 => if r12 = 0 then (some ((-2 : Int32), g13)) else (if x4 < 0 then (some ((-2 : Int32), g13)) else (if x4 < (16 : Int32) then (drf (zf Z a 8) (fun b18 => drf r8 (fun b20 => bnd (f_X5_setToForm n Z b18 b20 x2 g13) (fun r22 g23 => drf (zf Z a 8) (fun b25 => bnd (f_X5_hasTerm n Z b25 x3 g23) (fun r27 g28 => if r27 = 0 then (some ((-1 : Int32), g28)) else (drf (zf Z a 8) (fun b31 => bnd (f_X5_monomialAt n Z b31 x3 g28) (fun r33 g34 => bnd (f_X4_power n Z r33 x4 g34) (fun r36 g37 => some (r36, g37))))))))))) else (some ((-2 : Int32), g13)))))))))))
theorem mq_X10_exponent : Mq yX10_exponent cX10_exponent 6 (some .int) 4 := ⟨tw_415, tw_5, ⟨by decide +kernel, by decide +kernel, by decide +kernel⟩, by decide⟩
theorem mi_X10_exponent : Cond.instanceMethod yX10_exponent ∈ TB ∧ Cond.selects yX10_exponent.cls yX10_exponent yX10_exponent ∈ TB := ⟨tw_413, tw_414⟩
theorem zc_X10_exponent {n : Nat} {Z : Zt} {a : Nat} {x1 : Int32} {x2 : Int32} {x3 : Int32} {x4 : Int32} {g : Mem} {q : Int32 × Mem} (h : f_X10_exponent n Z a x1 x2 x3 x4 g = some q) : zk Z a = 9 := (grd_some h).1
set_option maxHeartbeats 4000000 in
set_option maxRecDepth 100000 in
theorem vm_X10_exponent {n : Nat} {Z : Zt} {a : Nat} {x1 : Int32} {x2 : Int32} {x3 : Int32} {x4 : Int32} {g : Mem} {rr : Int32} {gg : Mem} (h : f_X10_exponent n Z a x1 x2 x3 x4 g = some (rr, gg)) : VM yX10_exponent cX10_exponent 6 (some .int) 5 [.ref a, .int x1, .int x2, .int x3, .int x4] Z g (some (.int rr)) gg := by
  unfold f_X10_exponent at h
  replace h := grd_some h
  obtain ⟨hz0, h⟩ := h
  refine VM.of (by decide +kernel) (Nat.le_of_ble_eq_true rfl) (fun x hM => ?_)
  have hM : Cm x cX10_exponent RX10 6 (some .int) 5 Z (some (.int rr)) gg := hM
  show V x Z 0 0 0 [(0, va_rf (some a)), (1, .int x1), (2, .int x2), (3, .int x3), (4, .int x4)] [] g
  refine V_aload_n hM.c 0 dX10_exponent_0 rfl rfl ?_
  replace h := drf_some h
  obtain ⟨b1, e2, h⟩ := h
  refine G8_7 hM.c tw_100 hz0 e2 dX10_exponent_1 ?_
  replace h := bnd_some h
  obtain ⟨r3, g4, e5, h⟩ := h
  refine V_callV (As := []) (c := 0) (T := TX0) (N := 4) hM.c hM.a mq_X0_answer mi_X0_answer tw_101 (hM.d (by decide)) hM.z rfl (by omega) (zc_X0_answer e5) (vm_X0_answer e5) rfl (Nat.le_of_ble_eq_true rfl) dX10_exponent_4 ?_
  refine V_iload_n hM.c 1 dX10_exponent_7 rfl rfl ?_
  replace h := drf_some h
  obtain ⟨b6, rfl, h⟩ := h
  replace h := bnd_some h
  obtain ⟨r8, g9, e10, h⟩ := h
  refine V_callV (As := [.int x1]) (c := 5) (T := TX7) (N := 4) hM.c hM.a mq_X7_polynomialAt mi_X7_polynomialAt tw_140 (hM.d (by decide)) hM.z rfl (by omega) (zc_X7_polynomialAt e10) (vm_X7_polynomialAt e10) rfl (Nat.le_of_ble_eq_true rfl) dX10_exponent_8 ?_
  refine V_astore (L' := [(5, va_rf r8), (0, va_rf (some a)), (1, .int x1), (2, .int x2), (3, .int x3), (4, .int x4)]) hM.c dX10_exponent_11 (by decide) rfl ?_
  refine V_aload hM.c 0 dX10_exponent_13 rfl ?_
  refine V_ifnonnull hM.c 20 dX10_exponent_15 (by decide) (fun c11 => ?_) (fun c11 => ?_)
  · replace h := ite_n h c11
    refine V_iload_n hM.c 3 dX10_exponent_20 rfl rfl ?_
    replace h := bnd_some h
    obtain ⟨r12, g13, e14, h⟩ := h
    refine V_callS (As := [.int x2]) hM.c hM.a mq_X10_isForm mi_X10_isForm tw_282 (hM.d (by decide)) hM.z (vm_X10_isForm e14) rfl (Nat.le_of_ble_eq_true rfl) dX10_exponent_21 ?_
    refine V_if_eq hM.c 39 dX10_exponent_24 (by decide) (fun c15 => ?_) (fun c15 => ?_)
    · replace h := ite_p h c15
      refine V_bipush (v := -2) hM.c dX10_exponent_39 (by decide) ?_
      exact V_iretE hM h dX10_exponent_41
    · replace h := ite_n h c15
      refine V_iload hM.c 5 dX10_exponent_27 rfl ?_
      refine V_if_lt hM.c 39 dX10_exponent_29 (by decide) (fun c16 => ?_) (fun c16 => ?_)
      · replace h := ite_p h c16
        refine V_bipush (v := -2) hM.c dX10_exponent_39 (by decide) ?_
        exact V_iretE hM h dX10_exponent_41
      · replace h := ite_n h c16
        refine V_iload hM.c 5 dX10_exponent_32 rfl ?_
        refine V_bipush (v := 16) hM.c dX10_exponent_34 (by decide) ?_
        refine V_icmp_lt hM.c 42 dX10_exponent_36 (by decide) (fun c17 => ?_) (fun c17 => ?_)
        · replace h := ite_p h c17
          refine V_aload_n hM.c 1 dX10_exponent_42 rfl rfl ?_
          replace h := drf_some h
          obtain ⟨b18, e19, h⟩ := h
          refine G8_8 hM.c tw_172 hz0 e19 dX10_exponent_43 ?_
          refine V_aload hM.c 0 dX10_exponent_46 rfl ?_
          refine V_iload_n hM.c 3 dX10_exponent_48 rfl rfl ?_
          replace h := drf_some h
          obtain ⟨b20, rfl, h⟩ := h
          replace h := bnd_some h
          obtain ⟨r22, g23, e24, h⟩ := h
          refine V_callV (As := [va_rf (some b20), .int x2]) (c := 3) (T := TX5) (N := 3) hM.c hM.a mq_X5_setToForm mi_X5_setToForm tw_285 (hM.d (by decide)) hM.z rfl (by omega) (zc_X5_setToForm e24) (vm_X5_setToForm e24) rfl (Nat.le_of_ble_eq_true rfl) dX10_exponent_49 ?_
          refine V_aload_n hM.c 1 dX10_exponent_52 rfl rfl ?_
          replace h := drf_some h
          obtain ⟨b25, e26, h⟩ := h
          refine G8_8 hM.c tw_172 hz0 e26 dX10_exponent_53 ?_
          refine V_iload_n hM.c 4 dX10_exponent_56 rfl rfl ?_
          replace h := bnd_some h
          obtain ⟨r27, g28, e29, h⟩ := h
          refine V_callV (As := [.int x3]) (c := 3) (T := TX5) (N := 3) hM.c hM.a mq_X5_hasTerm mi_X5_hasTerm tw_416 (hM.d (by decide)) hM.z rfl (by omega) (zc_X5_hasTerm e29) (vm_X5_hasTerm e29) rfl (Nat.le_of_ble_eq_true rfl) dX10_exponent_57 ?_
          refine V_if_eq hM.c 79 dX10_exponent_60 (by decide) (fun c30 => ?_) (fun c30 => ?_)
          · replace h := ite_p h c30
            refine V_iconst (v := -1) hM.c dX10_exponent_79 (by decide) ?_
            exact V_iretE hM h dX10_exponent_80
          · replace h := ite_n h c30
            refine V_aload_n hM.c 1 dX10_exponent_63 rfl rfl ?_
            replace h := drf_some h
            obtain ⟨b31, e32, h⟩ := h
            refine G8_8 hM.c tw_172 hz0 e32 dX10_exponent_64 ?_
            refine V_iload_n hM.c 4 dX10_exponent_67 rfl rfl ?_
            replace h := bnd_some h
            obtain ⟨r33, g34, e35, h⟩ := h
            refine V_callV (As := [.int x3]) (c := 3) (T := TX5) (N := 3) hM.c hM.a mq_X5_monomialAt mi_X5_monomialAt tw_367 (hM.d (by decide)) hM.z rfl (by omega) (zc_X5_monomialAt e35) (vm_X5_monomialAt e35) rfl (Nat.le_of_ble_eq_true rfl) dX10_exponent_68 ?_
            refine V_iload hM.c 5 dX10_exponent_71 rfl ?_
            replace h := bnd_some h
            obtain ⟨r36, g37, e38, h⟩ := h
            refine V_callS (As := [.long r33, .int x4]) hM.c hM.a mq_X4_power mi_X4_power tw_417 (hM.d (by decide)) hM.z (vm_X4_power e38) rfl (Nat.le_of_ble_eq_true rfl) dX10_exponent_73 ?_
            refine V_goto hM.c 80 dX10_exponent_76 (by decide) ?_
            exact V_iretE hM h dX10_exponent_80
        · replace h := ite_n h c17
          refine V_bipush (v := -2) hM.c dX10_exponent_39 (by decide) ?_
          exact V_iretE hM h dX10_exponent_41
  · replace h := ite_p h c11
    refine V_iconst (v := -1) hM.c dX10_exponent_18 (by decide) ?_
    exact V_iretE hM h dX10_exponent_19
def f_X5_allTags_l4 (n : Nat) (Z : Zt) (a : Nat) : Nat → Int64 → Int32 → Mem → Option (Int32 × Mem)
  | 0, _, _, _ => none
  | fu + 1, x1, x3, g => if (gI g a 2) ≤ x3 then (bnd (f_X4_tagSet n Z x1 g) (fun r2 g3 => some (r2, g3))) else (bnd (f_X5_monomialAt n Z a x3 g) (fun r5 g6 => f_X5_allTags_l4 n Z a fu (x1 ||| r5) (x3 + 1) g6))
set_option maxHeartbeats 4000000 in
set_option maxRecDepth 100000 in
theorem vl_X5_allTags_l4 {x : Cq} {n : Nat} {Z : Zt} {a : Nat} {rr : Int32} {gg : Mem} (hM : Cm x cX5_allTags RX5 4 (some .int) 2 Z (some (.int rr)) gg) (hz0 : zk Z a = 4) : ∀ (fu : Nat) (x1 : Int64) (x3 : Int32) (g : Mem), f_X5_allTags_l4 n Z a fu x1 x3 g = some (rr, gg) → V x Z 0 0 4 [(0, va_rf (some a)), (1, .long x1), (3, .int x3)] [] g := by
  intro fu
  induction fu with
  | zero => intro x1 x3 g h; cases h
  | succ fu ih =>
    intro x1 x3 g h
    unfold f_X5_allTags_l4 at h
    refine V_iload_n hM.c 2 dX5_allTags_4 rfl rfl ?_
    refine V_aload_n hM.c 0 dX5_allTags_5 rfl rfl ?_
    refine G3_2 hM.c tw_150 hz0 dX5_allTags_6 ?_
    refine V_icmp_ge hM.c 26 dX5_allTags_9 (by decide) (fun c1 => ?_) (fun c1 => ?_)
    · replace h := ite_p h c1
      refine V_lload_n hM.c 1 dX5_allTags_26 rfl rfl ?_
      replace h := bnd_some h
      obtain ⟨r2, g3, e4, h⟩ := h
      refine V_callS (As := [.long x1]) hM.c hM.a mq_X4_tagSet mi_X4_tagSet tw_160 (hM.d (by decide)) hM.z (vm_X4_tagSet e4) rfl (Nat.le_of_ble_eq_true rfl) dX5_allTags_27 ?_
      exact V_iretE hM h dX5_allTags_30
    · replace h := ite_n h c1
      refine V_lload_n hM.c 1 dX5_allTags_12 rfl rfl ?_
      refine V_aload_n hM.c 0 dX5_allTags_13 rfl rfl ?_
      refine V_iload_n hM.c 2 dX5_allTags_14 rfl rfl ?_
      replace h := bnd_some h
      obtain ⟨r5, g6, e7, h⟩ := h
      refine V_callV (As := [.int x3]) (c := 3) (T := TX5) (N := 3) hM.c hM.a mq_X5_monomialAt mi_X5_monomialAt tw_151 (hM.d (by decide)) hM.z rfl (by omega) (zc_X5_monomialAt e7) (vm_X5_monomialAt e7) rfl (Nat.le_of_ble_eq_true rfl) dX5_allTags_15 ?_
      refine V_lor hM.c dX5_allTags_18 ?_
      refine V_lstore_n (i := 1) (L' := [(1, .long (x1 ||| r5)), (0, va_rf (some a)), (3, .int x3)]) hM.c dX5_allTags_19 rfl (by decide) rfl ?_
      refine V_iinc (v := (x3 + 1)) (L' := [(3, .int (x3 + 1)), (1, .long (x1 ||| r5)), (0, va_rf (some a))]) hM.c 2 dX5_allTags_20 rfl rfl (by decide) rfl ?_
      refine V_goto hM.c 4 dX5_allTags_23 (by decide) ?_
      refine V_sub [2, 1, 0] rfl ?_
      exact ih _ _ _ h
def f_X5_allTags (n : Nat) (Z : Zt) (a : Nat) (g : Mem) : Option (Int32 × Mem) := grd (zk Z a = 4) (f_X5_allTags_l4 n Z a n (0 : Int64) (0 : Int32) g)
theorem mq_X5_allTags : Mq yX5_allTags cX5_allTags 4 (some .int) 0 := ⟨tw_149, tw_148, ⟨by decide +kernel, by decide +kernel, by decide +kernel⟩, by decide⟩
theorem mi_X5_allTags : Cond.instanceMethod yX5_allTags ∈ TB ∧ Cond.selects yX5_allTags.cls yX5_allTags yX5_allTags ∈ TB := ⟨tw_146, tw_147⟩
theorem zc_X5_allTags {n : Nat} {Z : Zt} {a : Nat} {g : Mem} {q : Int32 × Mem} (h : f_X5_allTags n Z a g = some q) : zk Z a = 4 := (grd_some h).1
set_option maxHeartbeats 4000000 in
set_option maxRecDepth 100000 in
theorem vm_X5_allTags {n : Nat} {Z : Zt} {a : Nat} {g : Mem} {rr : Int32} {gg : Mem} (h : f_X5_allTags n Z a g = some (rr, gg)) : VM yX5_allTags cX5_allTags 4 (some .int) 2 [.ref a] Z g (some (.int rr)) gg := by
  unfold f_X5_allTags at h
  replace h := grd_some h
  obtain ⟨hz0, h⟩ := h
  refine VM.of (by decide +kernel) (Nat.le_of_ble_eq_true rfl) (fun x hM => ?_)
  have hM : Cm x cX5_allTags RX5 4 (some .int) 2 Z (some (.int rr)) gg := hM
  show V x Z 0 0 0 [(0, va_rf (some a))] [] g
  refine V_lconst (v := 0) hM.c dX5_allTags_0 (by decide) ?_
  refine V_lstore_n (i := 1) (L' := [(1, .long (0 : Int64)), (0, va_rf (some a))]) hM.c dX5_allTags_1 rfl (by decide) rfl ?_
  refine V_iconst (v := 0) hM.c dX5_allTags_2 (by decide) ?_
  refine V_istore_n (i := 3) (L' := [(3, .int (0 : Int32)), (1, .long (0 : Int64)), (0, va_rf (some a))]) hM.c dX5_allTags_3 rfl (by decide) rfl ?_
  refine V_sub [2, 1, 0] rfl ?_
  exact vl_X5_allTags_l4 hM hz0  _ _ _ _ h
def f_X10_lineage (n : Nat) (Z : Zt) (a : Nat) (x1 : Int32) (g : Mem) : Option (Int32 × Mem) := grd (zk Z a = 9) (drf (zf Z a 7) (fun b1 => bnd (f_X0_answer n Z b1 g) (fun r3 g4 => drf r3 (fun b6 => bnd (f_X7_polynomialAt n Z b6 x1 g4) (fun r8 g9 => if r8 = none then (some ((-1 : Int32), g9)) else (drf r8 (fun b12 => bnd (f_X5_allTags n Z b12 g9) (fun r14 g15 => some (r14, g15)))))))))
theorem mq_X10_lineage : Mq yX10_lineage cX10_lineage 3 (some .int) 1 := ⟨tw_139, tw_5, ⟨by decide +kernel, by decide +kernel, by decide +kernel⟩, by decide⟩
theorem mi_X10_lineage : Cond.instanceMethod yX10_lineage ∈ TB ∧ Cond.selects yX10_lineage.cls yX10_lineage yX10_lineage ∈ TB := ⟨tw_137, tw_138⟩
theorem zc_X10_lineage {n : Nat} {Z : Zt} {a : Nat} {x1 : Int32} {g : Mem} {q : Int32 × Mem} (h : f_X10_lineage n Z a x1 g = some q) : zk Z a = 9 := (grd_some h).1
set_option maxHeartbeats 4000000 in
set_option maxRecDepth 100000 in
theorem vm_X10_lineage {n : Nat} {Z : Zt} {a : Nat} {x1 : Int32} {g : Mem} {rr : Int32} {gg : Mem} (h : f_X10_lineage n Z a x1 g = some (rr, gg)) : VM yX10_lineage cX10_lineage 3 (some .int) 3 [.ref a, .int x1] Z g (some (.int rr)) gg := by
  unfold f_X10_lineage at h
  replace h := grd_some h
  obtain ⟨hz0, h⟩ := h
  refine VM.of (by decide +kernel) (Nat.le_of_ble_eq_true rfl) (fun x hM => ?_)
  have hM : Cm x cX10_lineage RX10 3 (some .int) 3 Z (some (.int rr)) gg := hM
  show V x Z 0 0 0 [(0, va_rf (some a)), (1, .int x1)] [] g
  refine V_aload_n hM.c 0 dX10_lineage_0 rfl rfl ?_
  replace h := drf_some h
  obtain ⟨b1, e2, h⟩ := h
  refine G8_7 hM.c tw_100 hz0 e2 dX10_lineage_1 ?_
  replace h := bnd_some h
  obtain ⟨r3, g4, e5, h⟩ := h
  refine V_callV (As := []) (c := 0) (T := TX0) (N := 4) hM.c hM.a mq_X0_answer mi_X0_answer tw_101 (hM.d (by decide)) hM.z rfl (by omega) (zc_X0_answer e5) (vm_X0_answer e5) rfl (Nat.le_of_ble_eq_true rfl) dX10_lineage_4 ?_
  refine V_iload_n hM.c 1 dX10_lineage_7 rfl rfl ?_
  replace h := drf_some h
  obtain ⟨b6, rfl, h⟩ := h
  replace h := bnd_some h
  obtain ⟨r8, g9, e10, h⟩ := h
  refine V_callV (As := [.int x1]) (c := 5) (T := TX7) (N := 4) hM.c hM.a mq_X7_polynomialAt mi_X7_polynomialAt tw_140 (hM.d (by decide)) hM.z rfl (by omega) (zc_X7_polynomialAt e10) (vm_X7_polynomialAt e10) rfl (Nat.le_of_ble_eq_true rfl) dX10_lineage_8 ?_
  refine V_astore_n (i := 2) (L' := [(2, va_rf r8), (0, va_rf (some a)), (1, .int x1)]) hM.c dX10_lineage_11 rfl (by decide) rfl ?_
  refine V_aload_n hM.c 0 dX10_lineage_12 rfl rfl ?_
  refine V_ifnonnull hM.c 20 dX10_lineage_13 (by decide) (fun c11 => ?_) (fun c11 => ?_)
  · replace h := ite_n h c11
    refine V_aload_n hM.c 0 dX10_lineage_20 rfl rfl ?_
    replace h := drf_some h
    obtain ⟨b12, rfl, h⟩ := h
    replace h := bnd_some h
    obtain ⟨r14, g15, e16, h⟩ := h
    refine V_callV (As := []) (c := 3) (T := TX5) (N := 3) hM.c hM.a mq_X5_allTags mi_X5_allTags tw_145 (hM.d (by decide)) hM.z rfl (by omega) (zc_X5_allTags e16) (vm_X5_allTags e16) rfl (Nat.le_of_ble_eq_true rfl) dX10_lineage_21 ?_
    exact V_iretE hM h dX10_lineage_24
  · replace h := ite_p h c11
    refine V_iconst (v := -1) hM.c dX10_lineage_16 (by decide) ?_
    refine V_goto hM.c 24 dX10_lineage_17 (by decide) ?_
    exact V_iretE hM h dX10_lineage_24
def f_X5_setToAvailable_l12 (n : Nat) (Z : Zt) (a : Nat) : Nat → Nat → Int64 → Int32 → Mem → Option (Unit × Mem)
  | 0, _, _, _, _ => none
  | fu + 1, x1, x3, x5, g => bnd (f_X5_size n Z x1 g) (fun r7 g8 => if r7 ≤ x5 then (some ((), g8)) else (bnd (f_X5_monomialAt n Z x1 x5 g8) (fun r11 g12 => if (lg_cmp (r11 &&& x3) (0 : Int64)) = 0 then (bnd (f_X5_monomialAt n Z x1 x5 g12) (fun r15 g16 => bnd (f_X5_factorAt n Z x1 x5 g16) (fun r18 g19 => bnd (f_X5_addTerm n Z a r15 r18 g19) (fun r21 g22 => f_X5_setToAvailable_l12 n Z a fu x1 x3 (x5 + 1) g22)))) else (f_X5_setToAvailable_l12 n Z a fu x1 x3 (x5 + 1) g12))))
set_option maxHeartbeats 4000000 in
set_option maxRecDepth 100000 in
theorem vl_X5_setToAvailable_l12 {x : Cq} {n : Nat} {Z : Zt} {a : Nat} {rr : Unit} {gg : Mem} (hM : Cm x cX5_setToAvailable RX5 6 none 2 Z none gg) (hz0 : zk Z a = 4) : ∀ (fu : Nat) (x1 : Nat) (x3 : Int64) (x5 : Int32) (g : Mem), f_X5_setToAvailable_l12 n Z a fu x1 x3 x5 g = some (rr, gg) → V x Z 0 0 12 [(0, va_rf (some a)), (1, va_rf (some x1)), (3, .long x3), (5, .int x5)] [] g := by
  intro fu
  induction fu with
  | zero => intro x1 x3 x5 g h; cases h
  | succ fu ih =>
    intro x1 x3 x5 g h
    unfold f_X5_setToAvailable_l12 at h
    refine V_iload hM.c 3 dX5_setToAvailable_12 rfl ?_
    refine V_aload_n hM.c 1 dX5_setToAvailable_14 rfl rfl ?_
    replace h := bnd_some h
    obtain ⟨r7, g8, e9, h⟩ := h
    refine V_callV (As := []) (c := 3) (T := TX5) (N := 3) hM.c hM.a mq_X5_size mi_X5_size tw_189 (hM.d (by decide)) hM.z rfl (by omega) (zc_X5_size e9) (vm_X5_size e9) rfl (Nat.le_of_ble_eq_true rfl) dX5_setToAvailable_15 ?_
    refine V_icmp_ge hM.c 57 dX5_setToAvailable_18 (by decide) (fun c10 => ?_) (fun c10 => ?_)
    · replace h := ite_p h c10
      exact V_vretE hM h dX5_setToAvailable_57
    · replace h := ite_n h c10
      refine V_aload_n hM.c 1 dX5_setToAvailable_21 rfl rfl ?_
      refine V_iload hM.c 3 dX5_setToAvailable_22 rfl ?_
      replace h := bnd_some h
      obtain ⟨r11, g12, e13, h⟩ := h
      refine V_callV (As := [.int x5]) (c := 3) (T := TX5) (N := 3) hM.c hM.a mq_X5_monomialAt mi_X5_monomialAt tw_151 (hM.d (by decide)) hM.z rfl (by omega) (zc_X5_monomialAt e13) (vm_X5_monomialAt e13) rfl (Nat.le_of_ble_eq_true rfl) dX5_setToAvailable_24 ?_
      refine V_lload_n hM.c 2 dX5_setToAvailable_27 rfl rfl ?_
      refine V_land hM.c dX5_setToAvailable_28 ?_
      refine V_lconst (v := 0) hM.c dX5_setToAvailable_29 (by decide) ?_
      refine V_lcmp hM.c dX5_setToAvailable_30 ?_
      refine V_if_ne hM.c 51 dX5_setToAvailable_31 (by decide) (fun c14 => ?_) (fun c14 => ?_)
      · replace h := ite_n h c14
        refine V_iinc (v := (x5 + 1)) (L' := [(5, .int (x5 + 1)), (0, va_rf (some a)), (1, va_rf (some x1)), (3, .long x3)]) hM.c 3 dX5_setToAvailable_51 rfl rfl (by decide) rfl ?_
        refine V_goto hM.c 12 dX5_setToAvailable_54 (by decide) ?_
        refine V_sub [1, 2, 3, 0] rfl ?_
        exact ih _ _ _ _ h
      · replace h := ite_p h c14
        refine V_aload_n hM.c 0 dX5_setToAvailable_34 rfl rfl ?_
        refine V_aload_n hM.c 1 dX5_setToAvailable_35 rfl rfl ?_
        refine V_iload hM.c 3 dX5_setToAvailable_36 rfl ?_
        replace h := bnd_some h
        obtain ⟨r15, g16, e17, h⟩ := h
        refine V_callV (As := [.int x5]) (c := 3) (T := TX5) (N := 3) hM.c hM.a mq_X5_monomialAt mi_X5_monomialAt tw_151 (hM.d (by decide)) hM.z rfl (by omega) (zc_X5_monomialAt e17) (vm_X5_monomialAt e17) rfl (Nat.le_of_ble_eq_true rfl) dX5_setToAvailable_38 ?_
        refine V_aload_n hM.c 1 dX5_setToAvailable_41 rfl rfl ?_
        refine V_iload hM.c 3 dX5_setToAvailable_42 rfl ?_
        replace h := bnd_some h
        obtain ⟨r18, g19, e20, h⟩ := h
        refine V_callV (As := [.int x5]) (c := 3) (T := TX5) (N := 3) hM.c hM.a mq_X5_factorAt mi_X5_factorAt tw_193 (hM.d (by decide)) hM.z rfl (by omega) (zc_X5_factorAt e20) (vm_X5_factorAt e20) rfl (Nat.le_of_ble_eq_true rfl) dX5_setToAvailable_44 ?_
        replace h := bnd_some h
        obtain ⟨r21, g22, e23, h⟩ := h
        refine V_callV (As := [.long r15, .long r18]) (c := 3) (T := TX5) (N := 3) hM.c hM.a mq_X5_addTerm mi_X5_addTerm tw_198 (hM.d (by decide)) hM.z rfl (by omega) (zc_X5_addTerm e23) (vm_X5_addTerm e23) rfl (Nat.le_of_ble_eq_true rfl) dX5_setToAvailable_47 ?_
        refine V_pop hM.c dX5_setToAvailable_50 rfl ?_
        refine V_iinc (v := (x5 + 1)) (L' := [(5, .int (x5 + 1)), (0, va_rf (some a)), (1, va_rf (some x1)), (3, .long x3)]) hM.c 3 dX5_setToAvailable_51 rfl rfl (by decide) rfl ?_
        refine V_goto hM.c 12 dX5_setToAvailable_54 (by decide) ?_
        refine V_sub [1, 2, 3, 0] rfl ?_
        exact ih _ _ _ _ h
def f_X5_setToAvailable (n : Nat) (Z : Zt) (a : Nat) (x1 : Nat) (x2 : Int32) (g : Mem) : Option (Unit × Mem) := grd (zk Z a = 4) (bnd (f_X4_maskOf n Z x2 g) (fun r1 g2 => bnd (f_X5_clear n Z a g2) (fun r4 g5 => f_X5_setToAvailable_l12 n Z a n x1 r1 (0 : Int32) g5)))
theorem mq_X5_setToAvailable : Mq yX5_setToAvailable cX5_setToAvailable 6 none 2 := ⟨tw_180, tw_148, ⟨by decide +kernel, by decide +kernel, by decide +kernel⟩, by decide⟩
theorem mi_X5_setToAvailable : Cond.instanceMethod yX5_setToAvailable ∈ TB ∧ Cond.selects yX5_setToAvailable.cls yX5_setToAvailable yX5_setToAvailable ∈ TB := ⟨tw_178, tw_179⟩
theorem zc_X5_setToAvailable {n : Nat} {Z : Zt} {a : Nat} {x1 : Nat} {x2 : Int32} {g : Mem} {q : Unit × Mem} (h : f_X5_setToAvailable n Z a x1 x2 g = some q) : zk Z a = 4 := (grd_some h).1
set_option maxHeartbeats 4000000 in
set_option maxRecDepth 100000 in
theorem vm_X5_setToAvailable {n : Nat} {Z : Zt} {a : Nat} {x1 : Nat} {x2 : Int32} {g : Mem} {rr : Unit} {gg : Mem} (h : f_X5_setToAvailable n Z a x1 x2 g = some (rr, gg)) : VM yX5_setToAvailable cX5_setToAvailable 6 none 2 [.ref a, va_rf (some x1), .int x2] Z g none gg := by
  unfold f_X5_setToAvailable at h
  replace h := grd_some h
  obtain ⟨hz0, h⟩ := h
  refine VM.of (by decide +kernel) (Nat.le_of_ble_eq_true rfl) (fun x hM => ?_)
  have hM : Cm x cX5_setToAvailable RX5 6 none 2 Z none gg := hM
  show V x Z 0 0 0 [(0, va_rf (some a)), (1, va_rf (some x1)), (2, .int x2)] [] g
  refine V_iload_n hM.c 2 dX5_setToAvailable_0 rfl rfl ?_
  replace h := bnd_some h
  obtain ⟨r1, g2, e3, h⟩ := h
  refine V_callS (As := [.int x2]) hM.c hM.a mq_X4_maskOf mi_X4_maskOf tw_181 (hM.d (by decide)) hM.z (vm_X4_maskOf e3) rfl (Nat.le_of_ble_eq_true rfl) dX5_setToAvailable_1 ?_
  refine V_lstore_n (i := 3) (L' := [(3, .long r1), (0, va_rf (some a)), (1, va_rf (some x1)), (2, .int x2)]) hM.c dX5_setToAvailable_4 rfl (by decide) rfl ?_
  refine V_aload_n hM.c 1 dX5_setToAvailable_5 rfl rfl ?_
  replace h := bnd_some h
  obtain ⟨r4, g5, e6, h⟩ := h
  refine V_callV (As := []) (c := 3) (T := TX5) (N := 3) hM.c hM.a mq_X5_clear mi_X5_clear tw_185 (hM.d (by decide)) hM.z rfl (by omega) (zc_X5_clear e6) (vm_X5_clear e6) rfl (Nat.le_of_ble_eq_true rfl) dX5_setToAvailable_6 ?_
  refine V_iconst (v := 0) hM.c dX5_setToAvailable_9 (by decide) ?_
  refine V_istore (L' := [(5, .int (0 : Int32)), (3, .long r1), (0, va_rf (some a)), (1, va_rf (some x1)), (2, .int x2)]) hM.c dX5_setToAvailable_10 (by decide) rfl ?_
  refine V_sub [2, 3, 1, 0] rfl ?_
  exact vl_X5_setToAvailable_l12 hM hz0  _ _ _ _ _ h
def f_X10_showAvailable (n : Nat) (Z : Zt) (a : Nat) (x1 : Int32) (g : Mem) : Option (Int32 × Mem) := grd (zk Z a = 9) (drf (zf Z a 7) (fun b1 => bnd (f_X0_answer n Z b1 g) (fun r3 g4 => drf r3 (fun b6 => bnd (f_X7_polynomialAt n Z b6 x1 g4) (fun r8 g9 => if r8 = none then (some ((0 : Int32), g9)) else (drf (zf Z a 8) (fun b12 => drf (zf Z a 0) (fun b14 => bnd (f_X8_withdrawnMask n Z b14 g9) (fun r16 g17 => drf r8 (fun b19 => bnd (f_X5_setToAvailable n Z b12 b19 r16 g17) (fun r21 g22 => some ((1 : Int32), g22))))))))))))
theorem mq_X10_showAvailable : Mq yX10_showAvailable cX10_showAvailable 3 (some .boolean) 1 := ⟨tw_176, tw_5, ⟨by decide +kernel, by decide +kernel, by decide +kernel⟩, by decide⟩
theorem mi_X10_showAvailable : Cond.instanceMethod yX10_showAvailable ∈ TB ∧ Cond.selects yX10_showAvailable.cls yX10_showAvailable yX10_showAvailable ∈ TB := ⟨tw_174, tw_175⟩
theorem zc_X10_showAvailable {n : Nat} {Z : Zt} {a : Nat} {x1 : Int32} {g : Mem} {q : Int32 × Mem} (h : f_X10_showAvailable n Z a x1 g = some q) : zk Z a = 9 := (grd_some h).1
set_option maxHeartbeats 4000000 in
set_option maxRecDepth 100000 in
theorem vm_X10_showAvailable {n : Nat} {Z : Zt} {a : Nat} {x1 : Int32} {g : Mem} {rr : Int32} {gg : Mem} (h : f_X10_showAvailable n Z a x1 g = some (rr, gg)) : VM yX10_showAvailable cX10_showAvailable 3 (some .boolean) 3 [.ref a, .int x1] Z g (some (.int rr)) gg := by
  unfold f_X10_showAvailable at h
  replace h := grd_some h
  obtain ⟨hz0, h⟩ := h
  refine VM.of (by decide +kernel) (Nat.le_of_ble_eq_true rfl) (fun x hM => ?_)
  have hM : Cm x cX10_showAvailable RX10 3 (some .boolean) 3 Z (some (.int rr)) gg := hM
  show V x Z 0 0 0 [(0, va_rf (some a)), (1, .int x1)] [] g
  refine V_aload_n hM.c 0 dX10_showAvailable_0 rfl rfl ?_
  replace h := drf_some h
  obtain ⟨b1, e2, h⟩ := h
  refine G8_7 hM.c tw_100 hz0 e2 dX10_showAvailable_1 ?_
  replace h := bnd_some h
  obtain ⟨r3, g4, e5, h⟩ := h
  refine V_callV (As := []) (c := 0) (T := TX0) (N := 4) hM.c hM.a mq_X0_answer mi_X0_answer tw_101 (hM.d (by decide)) hM.z rfl (by omega) (zc_X0_answer e5) (vm_X0_answer e5) rfl (Nat.le_of_ble_eq_true rfl) dX10_showAvailable_4 ?_
  refine V_iload_n hM.c 1 dX10_showAvailable_7 rfl rfl ?_
  replace h := drf_some h
  obtain ⟨b6, rfl, h⟩ := h
  replace h := bnd_some h
  obtain ⟨r8, g9, e10, h⟩ := h
  refine V_callV (As := [.int x1]) (c := 5) (T := TX7) (N := 4) hM.c hM.a mq_X7_polynomialAt mi_X7_polynomialAt tw_140 (hM.d (by decide)) hM.z rfl (by omega) (zc_X7_polynomialAt e10) (vm_X7_polynomialAt e10) rfl (Nat.le_of_ble_eq_true rfl) dX10_showAvailable_8 ?_
  refine V_astore_n (i := 2) (L' := [(2, va_rf r8), (0, va_rf (some a)), (1, .int x1)]) hM.c dX10_showAvailable_11 rfl (by decide) rfl ?_
  refine V_aload_n hM.c 0 dX10_showAvailable_12 rfl rfl ?_
  refine V_ifnonnull hM.c 18 dX10_showAvailable_13 (by decide) (fun c11 => ?_) (fun c11 => ?_)
  · replace h := ite_n h c11
    refine V_aload_n hM.c 1 dX10_showAvailable_18 rfl rfl ?_
    replace h := drf_some h
    obtain ⟨b12, e13, h⟩ := h
    refine G8_8 hM.c tw_172 hz0 e13 dX10_showAvailable_19 ?_
    refine V_aload_n hM.c 0 dX10_showAvailable_22 rfl rfl ?_
    refine V_aload_n hM.c 1 dX10_showAvailable_23 rfl rfl ?_
    replace h := drf_some h
    obtain ⟨b14, e15, h⟩ := h
    refine G8_0 hM.c tw_7 hz0 e15 dX10_showAvailable_24 ?_
    replace h := bnd_some h
    obtain ⟨r16, g17, e18, h⟩ := h
    refine V_callV (As := []) (c := 6) (T := TX8) (N := 8) hM.c hM.a mq_X8_withdrawnMask mi_X8_withdrawnMask tw_67 (hM.d (by decide)) hM.z rfl (by omega) (zc_X8_withdrawnMask e18) (vm_X8_withdrawnMask e18) rfl (by simp [rf_cat, cat_i, cat_l]) dX10_showAvailable_27 ?_
    replace h := drf_some h
    obtain ⟨b19, rfl, h⟩ := h
    replace h := bnd_some h
    obtain ⟨r21, g22, e23, h⟩ := h
    refine V_callV (As := [va_rf (some b19), .int r16]) (c := 3) (T := TX5) (N := 3) hM.c hM.a mq_X5_setToAvailable mi_X5_setToAvailable tw_177 (hM.d (by decide)) hM.z rfl (by omega) (zc_X5_setToAvailable e23) (vm_X5_setToAvailable e23) rfl (Nat.le_of_ble_eq_true rfl) dX10_showAvailable_30 ?_
    refine V_iconst (v := 1) hM.c dX10_showAvailable_33 (by decide) ?_
    exact V_zretE hM (isz_nar (by decide)) h dX10_showAvailable_34
  · replace h := ite_p h c11
    refine V_iconst (v := 0) hM.c dX10_showAvailable_16 (by decide) ?_
    exact V_zretE hM (isz_nar (by decide)) h dX10_showAvailable_17
def f_X10_derivations_l17 (n : Nat) (Z : Zt) (a : Nat) : Nat → Int64 → Int32 → Mem → Option (Int64 × Mem)
  | 0, _, _, _ => none
  | fu + 1, x2, x4, g => drf (zf Z a 8) (fun b5 => bnd (f_X5_size n Z b5 g) (fun r7 g8 => if r7 ≤ x4 then (some (x2, g8)) else (drf (zf Z a 8) (fun b11 => bnd (f_X5_factorAt n Z b11 x4 g8) (fun r13 g14 => f_X10_derivations_l17 n Z a fu (x2 + r13) (x4 + 1) g14)))))
set_option maxHeartbeats 4000000 in
set_option maxRecDepth 100000 in
theorem vl_X10_derivations_l17 {x : Cq} {n : Nat} {Z : Zt} {a : Nat} {rr : Int64} {gg : Mem} (hM : Cm x cX10_derivations RX10 5 (some .long) 4 Z (some (.long rr)) gg) (hz0 : zk Z a = 9) : ∀ (fu : Nat) (x2 : Int64) (x4 : Int32) (g : Mem), f_X10_derivations_l17 n Z a fu x2 x4 g = some (rr, gg) → V x Z 0 0 17 [(0, va_rf (some a)), (2, .long x2), (4, .int x4)] [] g := by
  intro fu
  induction fu with
  | zero => intro x2 x4 g h; cases h
  | succ fu ih =>
    intro x2 x4 g h
    unfold f_X10_derivations_l17 at h
    refine V_iload hM.c 2 dX10_derivations_17 rfl ?_
    refine V_aload_n hM.c 0 dX10_derivations_19 rfl rfl ?_
    replace h := drf_some h
    obtain ⟨b5, e6, h⟩ := h
    refine G8_8 hM.c tw_172 hz0 e6 dX10_derivations_20 ?_
    replace h := bnd_some h
    obtain ⟨r7, g8, e9, h⟩ := h
    refine V_callV (As := []) (c := 3) (T := TX5) (N := 3) hM.c hM.a mq_X5_size mi_X5_size tw_203 (hM.d (by decide)) hM.z rfl (by omega) (zc_X5_size e9) (vm_X5_size e9) rfl (Nat.le_of_ble_eq_true rfl) dX10_derivations_23 ?_
    refine V_icmp_ge hM.c 47 dX10_derivations_26 (by decide) (fun c10 => ?_) (fun c10 => ?_)
    · replace h := ite_p h c10
      refine V_lload_n hM.c 1 dX10_derivations_47 rfl rfl ?_
      exact V_lretE hM h dX10_derivations_48
    · replace h := ite_n h c10
      refine V_lload_n hM.c 1 dX10_derivations_29 rfl rfl ?_
      refine V_aload_n hM.c 0 dX10_derivations_30 rfl rfl ?_
      replace h := drf_some h
      obtain ⟨b11, e12, h⟩ := h
      refine G8_8 hM.c tw_172 hz0 e12 dX10_derivations_31 ?_
      refine V_iload hM.c 2 dX10_derivations_34 rfl ?_
      replace h := bnd_some h
      obtain ⟨r13, g14, e15, h⟩ := h
      refine V_callV (As := [.int x4]) (c := 3) (T := TX5) (N := 3) hM.c hM.a mq_X5_factorAt mi_X5_factorAt tw_204 (hM.d (by decide)) hM.z rfl (by omega) (zc_X5_factorAt e15) (vm_X5_factorAt e15) rfl (Nat.le_of_ble_eq_true rfl) dX10_derivations_36 ?_
      refine V_ladd hM.c dX10_derivations_39 ?_
      refine V_lstore_n (i := 2) (L' := [(2, .long (x2 + r13)), (0, va_rf (some a)), (4, .int x4)]) hM.c dX10_derivations_40 rfl (by decide) rfl ?_
      refine V_iinc (v := (x4 + 1)) (L' := [(4, .int (x4 + 1)), (2, .long (x2 + r13)), (0, va_rf (some a))]) hM.c 2 dX10_derivations_41 rfl rfl (by decide) rfl ?_
      refine V_goto hM.c 17 dX10_derivations_44 (by decide) ?_
      refine V_sub [2, 1, 0] rfl ?_
      exact ih _ _ _ h
def f_X10_derivations (n : Nat) (Z : Zt) (a : Nat) (x1 : Int32) (g : Mem) : Option (Int64 × Mem) := grd (zk Z a = 9) (bnd (f_X10_showAvailable n Z a x1 g) (fun r1 g2 => if r1 = 0 then (some ((-1 : Int64), g2)) else (f_X10_derivations_l17 n Z a n (0 : Int64) (0 : Int32) g2)))
theorem mq_X10_derivations : Mq yX10_derivations cX10_derivations 5 (some .long) 1 := ⟨tw_170, tw_5, ⟨by decide +kernel, by decide +kernel, by decide +kernel⟩, by decide⟩
theorem mi_X10_derivations : Cond.instanceMethod yX10_derivations ∈ TB ∧ Cond.selects yX10_derivations.cls yX10_derivations yX10_derivations ∈ TB := ⟨tw_168, tw_169⟩
theorem zc_X10_derivations {n : Nat} {Z : Zt} {a : Nat} {x1 : Int32} {g : Mem} {q : Int64 × Mem} (h : f_X10_derivations n Z a x1 g = some q) : zk Z a = 9 := (grd_some h).1
set_option maxHeartbeats 4000000 in
set_option maxRecDepth 100000 in
theorem vm_X10_derivations {n : Nat} {Z : Zt} {a : Nat} {x1 : Int32} {g : Mem} {rr : Int64} {gg : Mem} (h : f_X10_derivations n Z a x1 g = some (rr, gg)) : VM yX10_derivations cX10_derivations 5 (some .long) 4 [.ref a, .int x1] Z g (some (.long rr)) gg := by
  unfold f_X10_derivations at h
  replace h := grd_some h
  obtain ⟨hz0, h⟩ := h
  refine VM.of (by decide +kernel) (Nat.le_of_ble_eq_true rfl) (fun x hM => ?_)
  have hM : Cm x cX10_derivations RX10 5 (some .long) 4 Z (some (.long rr)) gg := hM
  show V x Z 0 0 0 [(0, va_rf (some a)), (1, .int x1)] [] g
  refine V_aload_n hM.c 0 dX10_derivations_0 rfl rfl ?_
  refine V_iload_n hM.c 1 dX10_derivations_1 rfl rfl ?_
  replace h := bnd_some h
  obtain ⟨r1, g2, e3, h⟩ := h
  refine V_callV (As := [.int x1]) (c := 8) (T := TX10) (N := 10) hM.c hM.a mq_X10_showAvailable mi_X10_showAvailable tw_173 (hM.d (by decide)) hM.z rfl (by omega) (zc_X10_showAvailable e3) (vm_X10_showAvailable e3) rfl (Nat.le_of_ble_eq_true rfl) dX10_derivations_2 ?_
  refine V_if_ne hM.c 12 dX10_derivations_5 (by decide) (fun c4 => ?_) (fun c4 => ?_)
  · replace h := ite_n h c4
    refine V_lconst (v := 0) hM.c dX10_derivations_12 (by decide) ?_
    refine V_lstore_n (i := 2) (L' := [(2, .long (0 : Int64)), (0, va_rf (some a)), (1, .int x1)]) hM.c dX10_derivations_13 rfl (by decide) rfl ?_
    refine V_iconst (v := 0) hM.c dX10_derivations_14 (by decide) ?_
    refine V_istore (L' := [(4, .int (0 : Int32)), (2, .long (0 : Int64)), (0, va_rf (some a)), (1, .int x1)]) hM.c dX10_derivations_15 (by decide) rfl ?_
    refine V_sub [2, 1, 0] rfl ?_
    exact vl_X10_derivations_l17 hM hz0  _ _ _ _ h
  · replace h := ite_p h c4
    refine V_ldc2 (v := -1) hM.c tw_171 dX10_derivations_8 ?_
    exact V_lretE hM h dX10_derivations_11
def f_X8_costOfTerm_l5 (n : Nat) (Z : Zt) (a : Nat) : Nat → Int64 → Int32 → Int32 → Mem → Option (Int32 × Mem)
  | 0, _, _, _, _ => none
  | fu + 1, x1, x3, x4, g => if (16 : Int32) ≤ x4 then (some (x3, g)) else (bnd (f_X4_power n Z x1 x4 g) (fun r2 g3 => bnd (f_X8_costOf n Z a x4 g3) (fun r5 g6 => f_X8_costOfTerm_l5 n Z a fu x1 (x3 + (r2 * r5)) (x4 + 1) g6)))
set_option maxHeartbeats 4000000 in
set_option maxRecDepth 100000 in
theorem vl_X8_costOfTerm_l5 {x : Cq} {n : Nat} {Z : Zt} {a : Nat} {rr : Int32} {gg : Mem} (hM : Cm x cX8_costOfTerm RX8 5 (some .int) 2 Z (some (.int rr)) gg) (hz0 : zk Z a = 7) : ∀ (fu : Nat) (x1 : Int64) (x3 : Int32) (x4 : Int32) (g : Mem), f_X8_costOfTerm_l5 n Z a fu x1 x3 x4 g = some (rr, gg) → V x Z 0 0 5 [(0, va_rf (some a)), (1, .long x1), (3, .int x3), (4, .int x4)] [] g := by
  intro fu
  induction fu with
  | zero => intro x1 x3 x4 g h; cases h
  | succ fu ih =>
    intro x1 x3 x4 g h
    unfold f_X8_costOfTerm_l5 at h
    refine V_iload hM.c 3 dX8_costOfTerm_5 rfl ?_
    refine V_bipush (v := 16) hM.c dX8_costOfTerm_7 (by decide) ?_
    refine V_icmp_ge hM.c 34 dX8_costOfTerm_9 (by decide) (fun c1 => ?_) (fun c1 => ?_)
    · replace h := ite_p h c1
      refine V_iload_n hM.c 2 dX8_costOfTerm_34 rfl rfl ?_
      exact V_iretE hM h dX8_costOfTerm_35
    · replace h := ite_n h c1
      refine V_iload_n hM.c 2 dX8_costOfTerm_12 rfl rfl ?_
      refine V_lload_n hM.c 1 dX8_costOfTerm_13 rfl rfl ?_
      refine V_iload hM.c 3 dX8_costOfTerm_14 rfl ?_
      replace h := bnd_some h
      obtain ⟨r2, g3, e4, h⟩ := h
      refine V_callS (As := [.long x1, .int x4]) hM.c hM.a mq_X4_power mi_X4_power tw_382 (hM.d (by decide)) hM.z (vm_X4_power e4) rfl (Nat.le_of_ble_eq_true rfl) dX8_costOfTerm_16 ?_
      refine V_aload_n hM.c 0 dX8_costOfTerm_19 rfl rfl ?_
      refine V_iload hM.c 3 dX8_costOfTerm_20 rfl ?_
      replace h := bnd_some h
      obtain ⟨r5, g6, e7, h⟩ := h
      refine V_callV (As := [.int x4]) (c := 6) (T := TX8) (N := 8) hM.c hM.a mq_X8_costOf mi_X8_costOf tw_441 (hM.d (by decide)) hM.z rfl (by omega) (zc_X8_costOf e7) (vm_X8_costOf e7) rfl (Nat.le_of_ble_eq_true rfl) dX8_costOfTerm_22 ?_
      refine V_imul hM.c dX8_costOfTerm_25 ?_
      refine V_iadd hM.c dX8_costOfTerm_26 ?_
      refine V_istore_n (i := 3) (L' := [(3, .int (x3 + (r2 * r5))), (0, va_rf (some a)), (1, .long x1), (4, .int x4)]) hM.c dX8_costOfTerm_27 rfl (by decide) rfl ?_
      refine V_iinc (v := (x4 + 1)) (L' := [(4, .int (x4 + 1)), (3, .int (x3 + (r2 * r5))), (0, va_rf (some a)), (1, .long x1)]) hM.c 3 dX8_costOfTerm_28 rfl rfl (by decide) rfl ?_
      refine V_goto hM.c 5 dX8_costOfTerm_31 (by decide) ?_
      refine V_sub [2, 3, 1, 0] rfl ?_
      exact ih _ _ _ _ h
def f_X8_costOfTerm (n : Nat) (Z : Zt) (a : Nat) (x1 : Int64) (g : Mem) : Option (Int32 × Mem) := grd (zk Z a = 7) (f_X8_costOfTerm_l5 n Z a n x1 (0 : Int32) (0 : Int32) g)
theorem mq_X8_costOfTerm : Mq yX8_costOfTerm cX8_costOfTerm 5 (some .int) 1 := ⟨tw_440, tw_14, ⟨by decide +kernel, by decide +kernel, by decide +kernel⟩, by decide⟩
theorem mi_X8_costOfTerm : Cond.instanceMethod yX8_costOfTerm ∈ TB ∧ Cond.selects yX8_costOfTerm.cls yX8_costOfTerm yX8_costOfTerm ∈ TB := ⟨tw_438, tw_439⟩
theorem zc_X8_costOfTerm {n : Nat} {Z : Zt} {a : Nat} {x1 : Int64} {g : Mem} {q : Int32 × Mem} (h : f_X8_costOfTerm n Z a x1 g = some q) : zk Z a = 7 := (grd_some h).1
set_option maxHeartbeats 4000000 in
set_option maxRecDepth 100000 in
theorem vm_X8_costOfTerm {n : Nat} {Z : Zt} {a : Nat} {x1 : Int64} {g : Mem} {rr : Int32} {gg : Mem} (h : f_X8_costOfTerm n Z a x1 g = some (rr, gg)) : VM yX8_costOfTerm cX8_costOfTerm 5 (some .int) 2 [.ref a, .long x1] Z g (some (.int rr)) gg := by
  unfold f_X8_costOfTerm at h
  replace h := grd_some h
  obtain ⟨hz0, h⟩ := h
  refine VM.of (by decide +kernel) (Nat.le_of_ble_eq_true rfl) (fun x hM => ?_)
  have hM : Cm x cX8_costOfTerm RX8 5 (some .int) 2 Z (some (.int rr)) gg := hM
  show V x Z 0 0 0 [(0, va_rf (some a)), (1, .long x1)] [] g
  refine V_iconst (v := 0) hM.c dX8_costOfTerm_0 (by decide) ?_
  refine V_istore_n (i := 3) (L' := [(3, .int (0 : Int32)), (0, va_rf (some a)), (1, .long x1)]) hM.c dX8_costOfTerm_1 rfl (by decide) rfl ?_
  refine V_iconst (v := 0) hM.c dX8_costOfTerm_2 (by decide) ?_
  refine V_istore (L' := [(4, .int (0 : Int32)), (3, .int (0 : Int32)), (0, va_rf (some a)), (1, .long x1)]) hM.c dX8_costOfTerm_3 (by decide) rfl ?_
  refine V_sub [2, 3, 1, 0] rfl ?_
  exact vl_X8_costOfTerm_l5 hM hz0  _ _ _ _ _ h
def f_X10_cheapestShown_l20 (n : Nat) (Z : Zt) (a : Nat) : Nat → Int32 → Int32 → Int32 → Mem → Option (Int32 × Mem)
  | 0, _, _, _, _ => none
  | fu + 1, x1, x2, x3, g => drf (zf Z a 8) (fun b11 => bnd (f_X5_size n Z b11 g) (fun r13 g14 => if r13 ≤ x3 then (some (x1, g14)) else (drf (zf Z a 0) (fun b17 => drf (zf Z a 8) (fun b19 => bnd (f_X5_monomialAt n Z b19 x3 g14) (fun r21 g22 => bnd (f_X8_costOfTerm n Z b17 r21 g22) (fun r24 g25 => if x2 ≤ r24 then (f_X10_cheapestShown_l20 n Z a fu x1 x2 (x3 + 1) g25) else (f_X10_cheapestShown_l20 n Z a fu x3 r24 (x3 + 1) g25))))))))
set_option maxHeartbeats 4000000 in
set_option maxRecDepth 100000 in
theorem vl_X10_cheapestShown_l20 {x : Cq} {n : Nat} {Z : Zt} {a : Nat} {rr : Int32} {gg : Mem} (hM : Cm x cX10_cheapestShown RX10 5 (some .int) 3 Z (some (.int rr)) gg) (hz0 : zk Z a = 9) : ∀ (fu : Nat) (x1 : Int32) (x2 : Int32) (x3 : Int32) (g : Mem), f_X10_cheapestShown_l20 n Z a fu x1 x2 x3 g = some (rr, gg) → V x Z 0 0 20 [(0, va_rf (some a)), (1, .int x1), (2, .int x2), (3, .int x3)] [] g := by
  intro fu
  induction fu with
  | zero => intro x1 x2 x3 g h; cases h
  | succ fu ih =>
    intro x1 x2 x3 g h
    unfold f_X10_cheapestShown_l20 at h
    refine V_iload_n hM.c 3 dX10_cheapestShown_20 rfl rfl ?_
    refine V_aload_n hM.c 0 dX10_cheapestShown_21 rfl rfl ?_
    replace h := drf_some h
    obtain ⟨b11, e12, h⟩ := h
    refine G8_8 hM.c tw_172 hz0 e12 dX10_cheapestShown_22 ?_
    replace h := bnd_some h
    obtain ⟨r13, g14, e15, h⟩ := h
    refine V_callV (As := []) (c := 3) (T := TX5) (N := 3) hM.c hM.a mq_X5_size mi_X5_size tw_203 (hM.d (by decide)) hM.z rfl (by omega) (zc_X5_size e15) (vm_X5_size e15) rfl (Nat.le_of_ble_eq_true rfl) dX10_cheapestShown_25 ?_
    refine V_icmp_ge hM.c 65 dX10_cheapestShown_28 (by decide) (fun c16 => ?_) (fun c16 => ?_)
    · replace h := ite_p h c16
      refine V_iload_n hM.c 1 dX10_cheapestShown_65 rfl rfl ?_
      exact V_iretE hM h dX10_cheapestShown_66
    · replace h := ite_n h c16
      refine V_aload_n hM.c 0 dX10_cheapestShown_31 rfl rfl ?_
      replace h := drf_some h
      obtain ⟨b17, e18, h⟩ := h
      refine G8_0 hM.c tw_7 hz0 e18 dX10_cheapestShown_32 ?_
      refine V_aload_n hM.c 0 dX10_cheapestShown_35 rfl rfl ?_
      replace h := drf_some h
      obtain ⟨b19, e20, h⟩ := h
      refine G8_8 hM.c tw_172 hz0 e20 dX10_cheapestShown_36 ?_
      refine V_iload_n hM.c 3 dX10_cheapestShown_39 rfl rfl ?_
      replace h := bnd_some h
      obtain ⟨r21, g22, e23, h⟩ := h
      refine V_callV (As := [.int x3]) (c := 3) (T := TX5) (N := 3) hM.c hM.a mq_X5_monomialAt mi_X5_monomialAt tw_367 (hM.d (by decide)) hM.z rfl (by omega) (zc_X5_monomialAt e23) (vm_X5_monomialAt e23) rfl (Nat.le_of_ble_eq_true rfl) dX10_cheapestShown_40 ?_
      replace h := bnd_some h
      obtain ⟨r24, g25, e26, h⟩ := h
      refine V_callV (As := [.long r21]) (c := 6) (T := TX8) (N := 8) hM.c hM.a mq_X8_costOfTerm mi_X8_costOfTerm tw_437 (hM.d (by decide)) hM.z rfl (by omega) (zc_X8_costOfTerm e26) (vm_X8_costOfTerm e26) rfl (Nat.le_of_ble_eq_true rfl) dX10_cheapestShown_43 ?_
      refine V_istore (L' := [(4, .int r24), (0, va_rf (some a)), (1, .int x1), (2, .int x2), (3, .int x3)]) hM.c dX10_cheapestShown_46 (by decide) rfl ?_
      refine V_iload hM.c 0 dX10_cheapestShown_48 rfl ?_
      refine V_iload_n hM.c 3 dX10_cheapestShown_50 rfl rfl ?_
      refine V_icmp_ge hM.c 59 dX10_cheapestShown_51 (by decide) (fun c27 => ?_) (fun c27 => ?_)
      · replace h := ite_p h c27
        refine V_iinc (v := (x3 + 1)) (L' := [(3, .int (x3 + 1)), (4, .int r24), (0, va_rf (some a)), (1, .int x1), (2, .int x2)]) hM.c 4 dX10_cheapestShown_59 rfl rfl (by decide) rfl ?_
        refine V_goto hM.c 20 dX10_cheapestShown_62 (by decide) ?_
        refine V_sub [2, 3, 4, 0] rfl ?_
        exact ih _ _ _ _ h
      · replace h := ite_n h c27
        refine V_iload_n hM.c 4 dX10_cheapestShown_54 rfl rfl ?_
        refine V_istore_n (i := 1) (L' := [(1, .int x3), (4, .int r24), (0, va_rf (some a)), (2, .int x2), (3, .int x3)]) hM.c dX10_cheapestShown_55 rfl (by decide) rfl ?_
        refine V_iload hM.c 1 dX10_cheapestShown_56 rfl ?_
        refine V_istore_n (i := 2) (L' := [(2, .int r24), (1, .int x3), (4, .int r24), (0, va_rf (some a)), (3, .int x3)]) hM.c dX10_cheapestShown_58 rfl (by decide) rfl ?_
        refine V_iinc (v := (x3 + 1)) (L' := [(3, .int (x3 + 1)), (2, .int r24), (1, .int x3), (4, .int r24), (0, va_rf (some a))]) hM.c 4 dX10_cheapestShown_59 rfl rfl (by decide) rfl ?_
        refine V_goto hM.c 20 dX10_cheapestShown_62 (by decide) ?_
        refine V_sub [4, 2, 1, 0] rfl ?_
        exact ih _ _ _ _ h
def f_X10_cheapestShown (n : Nat) (Z : Zt) (a : Nat) (g : Mem) : Option (Int32 × Mem) := grd (zk Z a = 9) (drf (zf Z a 0) (fun b1 => drf (zf Z a 8) (fun b3 => bnd (f_X5_monomialAt n Z b3 (0 : Int32) g) (fun r5 g6 => bnd (f_X8_costOfTerm n Z b1 r5 g6) (fun r8 g9 => f_X10_cheapestShown_l20 n Z a n (0 : Int32) r8 (1 : Int32) g9)))))
theorem mq_X10_cheapestShown : Mq yX10_cheapestShown cX10_cheapestShown 5 (some .int) 0 := ⟨tw_436, tw_5, ⟨by decide +kernel, by decide +kernel, by decide +kernel⟩, by decide⟩
theorem mi_X10_cheapestShown : Cond.instanceMethod yX10_cheapestShown ∈ TB ∧ Cond.selects yX10_cheapestShown.cls yX10_cheapestShown yX10_cheapestShown ∈ TB := ⟨tw_434, tw_435⟩
theorem zc_X10_cheapestShown {n : Nat} {Z : Zt} {a : Nat} {g : Mem} {q : Int32 × Mem} (h : f_X10_cheapestShown n Z a g = some q) : zk Z a = 9 := (grd_some h).1
set_option maxHeartbeats 4000000 in
set_option maxRecDepth 100000 in
theorem vm_X10_cheapestShown {n : Nat} {Z : Zt} {a : Nat} {g : Mem} {rr : Int32} {gg : Mem} (h : f_X10_cheapestShown n Z a g = some (rr, gg)) : VM yX10_cheapestShown cX10_cheapestShown 5 (some .int) 3 [.ref a] Z g (some (.int rr)) gg := by
  unfold f_X10_cheapestShown at h
  replace h := grd_some h
  obtain ⟨hz0, h⟩ := h
  refine VM.of (by decide +kernel) (Nat.le_of_ble_eq_true rfl) (fun x hM => ?_)
  have hM : Cm x cX10_cheapestShown RX10 5 (some .int) 3 Z (some (.int rr)) gg := hM
  show V x Z 0 0 0 [(0, va_rf (some a))] [] g
  refine V_iconst (v := 0) hM.c dX10_cheapestShown_0 (by decide) ?_
  refine V_istore_n (i := 1) (L' := [(1, .int (0 : Int32)), (0, va_rf (some a))]) hM.c dX10_cheapestShown_1 rfl (by decide) rfl ?_
  refine V_aload_n hM.c 1 dX10_cheapestShown_2 rfl rfl ?_
  replace h := drf_some h
  obtain ⟨b1, e2, h⟩ := h
  refine G8_0 hM.c tw_7 hz0 e2 dX10_cheapestShown_3 ?_
  refine V_aload_n hM.c 1 dX10_cheapestShown_6 rfl rfl ?_
  replace h := drf_some h
  obtain ⟨b3, e4, h⟩ := h
  refine G8_8 hM.c tw_172 hz0 e4 dX10_cheapestShown_7 ?_
  refine V_iconst (v := 0) hM.c dX10_cheapestShown_10 (by decide) ?_
  replace h := bnd_some h
  obtain ⟨r5, g6, e7, h⟩ := h
  refine V_callV (As := [.int (0 : Int32)]) (c := 3) (T := TX5) (N := 3) hM.c hM.a mq_X5_monomialAt mi_X5_monomialAt tw_367 (hM.d (by decide)) hM.z rfl (by omega) (zc_X5_monomialAt e7) (vm_X5_monomialAt e7) rfl (Nat.le_of_ble_eq_true rfl) dX10_cheapestShown_11 ?_
  replace h := bnd_some h
  obtain ⟨r8, g9, e10, h⟩ := h
  refine V_callV (As := [.long r5]) (c := 6) (T := TX8) (N := 8) hM.c hM.a mq_X8_costOfTerm mi_X8_costOfTerm tw_437 (hM.d (by decide)) hM.z rfl (by omega) (zc_X8_costOfTerm e10) (vm_X8_costOfTerm e10) rfl (Nat.le_of_ble_eq_true rfl) dX10_cheapestShown_14 ?_
  refine V_istore_n (i := 2) (L' := [(2, .int r8), (1, .int (0 : Int32)), (0, va_rf (some a))]) hM.c dX10_cheapestShown_17 rfl (by decide) rfl ?_
  refine V_iconst (v := 1) hM.c dX10_cheapestShown_18 (by decide) ?_
  refine V_istore_n (i := 3) (L' := [(3, .int (1 : Int32)), (2, .int r8), (1, .int (0 : Int32)), (0, va_rf (some a))]) hM.c dX10_cheapestShown_19 rfl (by decide) rfl ?_
  refine V_sub [3, 2, 1, 0] rfl ?_
  exact vl_X10_cheapestShown_l20 hM hz0  _ _ _ _ _ h
def f_X10_leastCost (n : Nat) (Z : Zt) (a : Nat) (x1 : Int32) (g : Mem) : Option (Int32 × Mem) := grd (zk Z a = 9) (bnd (f_X10_showAvailable n Z a x1 g) (fun r1 g2 => if r1 = 0 then (some ((-1 : Int32), g2)) else (drf (zf Z a 8) (fun b5 => bnd (f_X5_size n Z b5 g2) (fun r7 g8 => if r7 = 0 then (some ((-6 : Int32), g8)) else (drf (zf Z a 0) (fun b11 => drf (zf Z a 8) (fun b13 => bnd (f_X10_cheapestShown n Z a g8) (fun r15 g16 => bnd (f_X5_monomialAt n Z b13 r15 g16) (fun r18 g19 => bnd (f_X8_costOfTerm n Z b11 r18 g19) (fun r21 g22 => some (r21, g22))))))))))))
theorem mq_X10_leastCost : Mq yX10_leastCost cX10_leastCost 2 (some .int) 1 := ⟨tw_432, tw_5, ⟨by decide +kernel, by decide +kernel, by decide +kernel⟩, by decide⟩
theorem mi_X10_leastCost : Cond.instanceMethod yX10_leastCost ∈ TB ∧ Cond.selects yX10_leastCost.cls yX10_leastCost yX10_leastCost ∈ TB := ⟨tw_430, tw_431⟩
theorem zc_X10_leastCost {n : Nat} {Z : Zt} {a : Nat} {x1 : Int32} {g : Mem} {q : Int32 × Mem} (h : f_X10_leastCost n Z a x1 g = some q) : zk Z a = 9 := (grd_some h).1
set_option maxHeartbeats 4000000 in
set_option maxRecDepth 100000 in
theorem vm_X10_leastCost {n : Nat} {Z : Zt} {a : Nat} {x1 : Int32} {g : Mem} {rr : Int32} {gg : Mem} (h : f_X10_leastCost n Z a x1 g = some (rr, gg)) : VM yX10_leastCost cX10_leastCost 2 (some .int) 4 [.ref a, .int x1] Z g (some (.int rr)) gg := by
  unfold f_X10_leastCost at h
  replace h := grd_some h
  obtain ⟨hz0, h⟩ := h
  refine VM.of (by decide +kernel) (Nat.le_of_ble_eq_true rfl) (fun x hM => ?_)
  have hM : Cm x cX10_leastCost RX10 2 (some .int) 4 Z (some (.int rr)) gg := hM
  show V x Z 0 0 0 [(0, va_rf (some a)), (1, .int x1)] [] g
  refine V_aload_n hM.c 0 dX10_leastCost_0 rfl rfl ?_
  refine V_iload_n hM.c 1 dX10_leastCost_1 rfl rfl ?_
  replace h := bnd_some h
  obtain ⟨r1, g2, e3, h⟩ := h
  refine V_callV (As := [.int x1]) (c := 8) (T := TX10) (N := 10) hM.c hM.a mq_X10_showAvailable mi_X10_showAvailable tw_173 (hM.d (by decide)) hM.z rfl (by omega) (zc_X10_showAvailable e3) (vm_X10_showAvailable e3) rfl (Nat.le_of_ble_eq_true rfl) dX10_leastCost_2 ?_
  refine V_if_ne hM.c 10 dX10_leastCost_5 (by decide) (fun c4 => ?_) (fun c4 => ?_)
  · replace h := ite_n h c4
    refine V_aload_n hM.c 0 dX10_leastCost_10 rfl rfl ?_
    replace h := drf_some h
    obtain ⟨b5, e6, h⟩ := h
    refine G8_8 hM.c tw_172 hz0 e6 dX10_leastCost_11 ?_
    replace h := bnd_some h
    obtain ⟨r7, g8, e9, h⟩ := h
    refine V_callV (As := []) (c := 3) (T := TX5) (N := 3) hM.c hM.a mq_X5_size mi_X5_size tw_203 (hM.d (by decide)) hM.z rfl (by omega) (zc_X5_size e9) (vm_X5_size e9) rfl (Nat.le_of_ble_eq_true rfl) dX10_leastCost_14 ?_
    refine V_if_ne hM.c 23 dX10_leastCost_17 (by decide) (fun c10 => ?_) (fun c10 => ?_)
    · replace h := ite_n h c10
      refine V_aload_n hM.c 0 dX10_leastCost_23 rfl rfl ?_
      replace h := drf_some h
      obtain ⟨b11, e12, h⟩ := h
      refine G8_0 hM.c tw_7 hz0 e12 dX10_leastCost_24 ?_
      refine V_aload_n hM.c 0 dX10_leastCost_27 rfl rfl ?_
      replace h := drf_some h
      obtain ⟨b13, e14, h⟩ := h
      refine G8_8 hM.c tw_172 hz0 e14 dX10_leastCost_28 ?_
      refine V_aload_n hM.c 0 dX10_leastCost_31 rfl rfl ?_
      replace h := bnd_some h
      obtain ⟨r15, g16, e17, h⟩ := h
      refine V_callV (As := []) (c := 8) (T := TX10) (N := 10) hM.c hM.a mq_X10_cheapestShown mi_X10_cheapestShown tw_433 (hM.d (by decide)) hM.z rfl (by omega) (zc_X10_cheapestShown e17) (vm_X10_cheapestShown e17) rfl (Nat.le_of_ble_eq_true rfl) dX10_leastCost_32 ?_
      replace h := bnd_some h
      obtain ⟨r18, g19, e20, h⟩ := h
      refine V_callV (As := [.int r15]) (c := 3) (T := TX5) (N := 3) hM.c hM.a mq_X5_monomialAt mi_X5_monomialAt tw_367 (hM.d (by decide)) hM.z rfl (by omega) (zc_X5_monomialAt e20) (vm_X5_monomialAt e20) rfl (Nat.le_of_ble_eq_true rfl) dX10_leastCost_35 ?_
      replace h := bnd_some h
      obtain ⟨r21, g22, e23, h⟩ := h
      refine V_callV (As := [.long r18]) (c := 6) (T := TX8) (N := 8) hM.c hM.a mq_X8_costOfTerm mi_X8_costOfTerm tw_437 (hM.d (by decide)) hM.z rfl (by omega) (zc_X8_costOfTerm e23) (vm_X8_costOfTerm e23) rfl (Nat.le_of_ble_eq_true rfl) dX10_leastCost_38 ?_
      exact V_iretE hM h dX10_leastCost_41
    · replace h := ite_p h c10
      refine V_bipush (v := -6) hM.c dX10_leastCost_20 (by decide) ?_
      exact V_iretE hM h dX10_leastCost_22
  · replace h := ite_p h c4
    refine V_iconst (v := -1) hM.c dX10_leastCost_8 (by decide) ?_
    exact V_iretE hM h dX10_leastCost_9
def f_X10_cheapestTags (n : Nat) (Z : Zt) (a : Nat) (x1 : Int32) (g : Mem) : Option (Int32 × Mem) := grd (zk Z a = 9) (bnd (f_X10_showAvailable n Z a x1 g) (fun r1 g2 => if r1 = 0 then (some ((-1 : Int32), g2)) else (drf (zf Z a 8) (fun b5 => bnd (f_X5_size n Z b5 g2) (fun r7 g8 => if r7 = 0 then (some ((-6 : Int32), g8)) else (drf (zf Z a 8) (fun b11 => bnd (f_X10_cheapestShown n Z a g8) (fun r13 g14 => bnd (f_X5_monomialAt n Z b11 r13 g14) (fun r16 g17 => bnd (f_X4_tagSet n Z r16 g17) (fun r19 g20 => some (r19, g20)))))))))))
theorem mq_X10_cheapestTags : Mq yX10_cheapestTags cX10_cheapestTags 2 (some .int) 1 := ⟨tw_464, tw_5, ⟨by decide +kernel, by decide +kernel, by decide +kernel⟩, by decide⟩
theorem mi_X10_cheapestTags : Cond.instanceMethod yX10_cheapestTags ∈ TB ∧ Cond.selects yX10_cheapestTags.cls yX10_cheapestTags yX10_cheapestTags ∈ TB := ⟨tw_462, tw_463⟩
theorem zc_X10_cheapestTags {n : Nat} {Z : Zt} {a : Nat} {x1 : Int32} {g : Mem} {q : Int32 × Mem} (h : f_X10_cheapestTags n Z a x1 g = some q) : zk Z a = 9 := (grd_some h).1
set_option maxHeartbeats 4000000 in
set_option maxRecDepth 100000 in
theorem vm_X10_cheapestTags {n : Nat} {Z : Zt} {a : Nat} {x1 : Int32} {g : Mem} {rr : Int32} {gg : Mem} (h : f_X10_cheapestTags n Z a x1 g = some (rr, gg)) : VM yX10_cheapestTags cX10_cheapestTags 2 (some .int) 4 [.ref a, .int x1] Z g (some (.int rr)) gg := by
  unfold f_X10_cheapestTags at h
  replace h := grd_some h
  obtain ⟨hz0, h⟩ := h
  refine VM.of (by decide +kernel) (Nat.le_of_ble_eq_true rfl) (fun x hM => ?_)
  have hM : Cm x cX10_cheapestTags RX10 2 (some .int) 4 Z (some (.int rr)) gg := hM
  show V x Z 0 0 0 [(0, va_rf (some a)), (1, .int x1)] [] g
  refine V_aload_n hM.c 0 dX10_cheapestTags_0 rfl rfl ?_
  refine V_iload_n hM.c 1 dX10_cheapestTags_1 rfl rfl ?_
  replace h := bnd_some h
  obtain ⟨r1, g2, e3, h⟩ := h
  refine V_callV (As := [.int x1]) (c := 8) (T := TX10) (N := 10) hM.c hM.a mq_X10_showAvailable mi_X10_showAvailable tw_173 (hM.d (by decide)) hM.z rfl (by omega) (zc_X10_showAvailable e3) (vm_X10_showAvailable e3) rfl (Nat.le_of_ble_eq_true rfl) dX10_cheapestTags_2 ?_
  refine V_if_ne hM.c 10 dX10_cheapestTags_5 (by decide) (fun c4 => ?_) (fun c4 => ?_)
  · replace h := ite_n h c4
    refine V_aload_n hM.c 0 dX10_cheapestTags_10 rfl rfl ?_
    replace h := drf_some h
    obtain ⟨b5, e6, h⟩ := h
    refine G8_8 hM.c tw_172 hz0 e6 dX10_cheapestTags_11 ?_
    replace h := bnd_some h
    obtain ⟨r7, g8, e9, h⟩ := h
    refine V_callV (As := []) (c := 3) (T := TX5) (N := 3) hM.c hM.a mq_X5_size mi_X5_size tw_203 (hM.d (by decide)) hM.z rfl (by omega) (zc_X5_size e9) (vm_X5_size e9) rfl (Nat.le_of_ble_eq_true rfl) dX10_cheapestTags_14 ?_
    refine V_if_ne hM.c 23 dX10_cheapestTags_17 (by decide) (fun c10 => ?_) (fun c10 => ?_)
    · replace h := ite_n h c10
      refine V_aload_n hM.c 0 dX10_cheapestTags_23 rfl rfl ?_
      replace h := drf_some h
      obtain ⟨b11, e12, h⟩ := h
      refine G8_8 hM.c tw_172 hz0 e12 dX10_cheapestTags_24 ?_
      refine V_aload_n hM.c 0 dX10_cheapestTags_27 rfl rfl ?_
      replace h := bnd_some h
      obtain ⟨r13, g14, e15, h⟩ := h
      refine V_callV (As := []) (c := 8) (T := TX10) (N := 10) hM.c hM.a mq_X10_cheapestShown mi_X10_cheapestShown tw_433 (hM.d (by decide)) hM.z rfl (by omega) (zc_X10_cheapestShown e15) (vm_X10_cheapestShown e15) rfl (Nat.le_of_ble_eq_true rfl) dX10_cheapestTags_28 ?_
      replace h := bnd_some h
      obtain ⟨r16, g17, e18, h⟩ := h
      refine V_callV (As := [.int r13]) (c := 3) (T := TX5) (N := 3) hM.c hM.a mq_X5_monomialAt mi_X5_monomialAt tw_367 (hM.d (by decide)) hM.z rfl (by omega) (zc_X5_monomialAt e18) (vm_X5_monomialAt e18) rfl (Nat.le_of_ble_eq_true rfl) dX10_cheapestTags_31 ?_
      replace h := bnd_some h
      obtain ⟨r19, g20, e21, h⟩ := h
      refine V_callS (As := [.long r16]) hM.c hM.a mq_X4_tagSet mi_X4_tagSet tw_465 (hM.d (by decide)) hM.z (vm_X4_tagSet e21) rfl (Nat.le_of_ble_eq_true rfl) dX10_cheapestTags_34 ?_
      exact V_iretE hM h dX10_cheapestTags_37
    · replace h := ite_p h c10
      refine V_bipush (v := -6) hM.c dX10_cheapestTags_20 (by decide) ?_
      exact V_iretE hM h dX10_cheapestTags_22
  · replace h := ite_p h c4
    refine V_iconst (v := -1) hM.c dX10_cheapestTags_8 (by decide) ?_
    exact V_iretE hM h dX10_cheapestTags_9
def f_X8_trustOfTerm_l6 (n : Nat) (Z : Zt) (a : Nat) : Nat → Int64 → Int32 → Int32 → Mem → Option (Int32 × Mem)
  | 0, _, _, _, _ => none
  | fu + 1, x1, x3, x4, g => if (16 : Int32) ≤ x4 then (some (x3, g)) else (bnd (f_X4_power n Z x1 x4 g) (fun r2 g3 => if r2 ≤ 0 then (f_X8_trustOfTerm_l6 n Z a fu x1 x3 (x4 + 1) g3) else (bnd (f_X8_trustOf n Z a x4 g3) (fun r6 g7 => f_X8_trustOfTerm_l6 n Z a fu x1 (if r6 < x3 then r6 else x3) (x4 + 1) g7))))
set_option maxHeartbeats 4000000 in
set_option maxRecDepth 100000 in
theorem vl_X8_trustOfTerm_l6 {x : Cq} {n : Nat} {Z : Zt} {a : Nat} {rr : Int32} {gg : Mem} (hM : Cm x cX8_trustOfTerm RX8 5 (some .int) 2 Z (some (.int rr)) gg) (hz0 : zk Z a = 7) : ∀ (fu : Nat) (x1 : Int64) (x3 : Int32) (x4 : Int32) (g : Mem), f_X8_trustOfTerm_l6 n Z a fu x1 x3 x4 g = some (rr, gg) → V x Z 0 0 6 [(0, va_rf (some a)), (1, .long x1), (3, .int x3), (4, .int x4)] [] g := by
  intro fu
  induction fu with
  | zero => intro x1 x3 x4 g h; cases h
  | succ fu ih =>
    intro x1 x3 x4 g h
    unfold f_X8_trustOfTerm_l6 at h
    refine V_iload hM.c 3 dX8_trustOfTerm_6 rfl ?_
    refine V_bipush (v := 16) hM.c dX8_trustOfTerm_8 (by decide) ?_
    refine V_icmp_ge hM.c 39 dX8_trustOfTerm_10 (by decide) (fun c1 => ?_) (fun c1 => ?_)
    · replace h := ite_p h c1
      refine V_iload_n hM.c 2 dX8_trustOfTerm_39 rfl rfl ?_
      exact V_iretE hM h dX8_trustOfTerm_40
    · replace h := ite_n h c1
      refine V_lload_n hM.c 1 dX8_trustOfTerm_13 rfl rfl ?_
      refine V_iload hM.c 3 dX8_trustOfTerm_14 rfl ?_
      replace h := bnd_some h
      obtain ⟨r2, g3, e4, h⟩ := h
      refine V_callS (As := [.long x1, .int x4]) hM.c hM.a mq_X4_power mi_X4_power tw_382 (hM.d (by decide)) hM.z (vm_X4_power e4) rfl (Nat.le_of_ble_eq_true rfl) dX8_trustOfTerm_16 ?_
      refine V_if_le hM.c 33 dX8_trustOfTerm_19 (by decide) (fun c5 => ?_) (fun c5 => ?_)
      · replace h := ite_p h c5
        refine V_iinc (v := (x4 + 1)) (L' := [(4, .int (x4 + 1)), (0, va_rf (some a)), (1, .long x1), (3, .int x3)]) hM.c 3 dX8_trustOfTerm_33 rfl rfl (by decide) rfl ?_
        refine V_goto hM.c 6 dX8_trustOfTerm_36 (by decide) ?_
        refine V_sub [1, 2, 3, 0] rfl ?_
        exact ih _ _ _ _ h
      · replace h := ite_n h c5
        refine V_iload_n hM.c 2 dX8_trustOfTerm_22 rfl rfl ?_
        refine V_aload_n hM.c 0 dX8_trustOfTerm_23 rfl rfl ?_
        refine V_iload hM.c 3 dX8_trustOfTerm_24 rfl ?_
        replace h := bnd_some h
        obtain ⟨r6, g7, e8, h⟩ := h
        refine V_callV (As := [.int x4]) (c := 6) (T := TX8) (N := 8) hM.c hM.a mq_X8_trustOf mi_X8_trustOf tw_373 (hM.d (by decide)) hM.z rfl (by omega) (zc_X8_trustOf e8) (vm_X8_trustOf e8) rfl (Nat.le_of_ble_eq_true rfl) dX8_trustOfTerm_26 ?_
        refine V_min hM.c tw_458 tw_459 tw_452 tw_460 (hM.d (d' := 0) (by decide)) hM.z (Nat.le_of_ble_eq_true rfl) dX8_trustOfTerm_29 ?_
        refine V_istore_n (i := 3) (L' := [(3, .int (if r6 < x3 then r6 else x3)), (0, va_rf (some a)), (1, .long x1), (4, .int x4)]) hM.c dX8_trustOfTerm_32 rfl (by decide) rfl ?_
        refine V_iinc (v := (x4 + 1)) (L' := [(4, .int (x4 + 1)), (3, .int (if r6 < x3 then r6 else x3)), (0, va_rf (some a)), (1, .long x1)]) hM.c 3 dX8_trustOfTerm_33 rfl rfl (by decide) rfl ?_
        refine V_goto hM.c 6 dX8_trustOfTerm_36 (by decide) ?_
        refine V_sub [2, 3, 1, 0] rfl ?_
        exact ih _ _ _ _ h
def f_X8_trustOfTerm (n : Nat) (Z : Zt) (a : Nat) (x1 : Int64) (g : Mem) : Option (Int32 × Mem) := grd (zk Z a = 7) (f_X8_trustOfTerm_l6 n Z a n x1 (100 : Int32) (0 : Int32) g)
theorem mq_X8_trustOfTerm : Mq yX8_trustOfTerm cX8_trustOfTerm 5 (some .int) 1 := ⟨tw_457, tw_14, ⟨by decide +kernel, by decide +kernel, by decide +kernel⟩, by decide⟩
theorem mi_X8_trustOfTerm : Cond.instanceMethod yX8_trustOfTerm ∈ TB ∧ Cond.selects yX8_trustOfTerm.cls yX8_trustOfTerm yX8_trustOfTerm ∈ TB := ⟨tw_455, tw_456⟩
theorem zc_X8_trustOfTerm {n : Nat} {Z : Zt} {a : Nat} {x1 : Int64} {g : Mem} {q : Int32 × Mem} (h : f_X8_trustOfTerm n Z a x1 g = some q) : zk Z a = 7 := (grd_some h).1
set_option maxHeartbeats 4000000 in
set_option maxRecDepth 100000 in
theorem vm_X8_trustOfTerm {n : Nat} {Z : Zt} {a : Nat} {x1 : Int64} {g : Mem} {rr : Int32} {gg : Mem} (h : f_X8_trustOfTerm n Z a x1 g = some (rr, gg)) : VM yX8_trustOfTerm cX8_trustOfTerm 5 (some .int) 2 [.ref a, .long x1] Z g (some (.int rr)) gg := by
  unfold f_X8_trustOfTerm at h
  replace h := grd_some h
  obtain ⟨hz0, h⟩ := h
  refine VM.of (by decide +kernel) (Nat.le_of_ble_eq_true rfl) (fun x hM => ?_)
  have hM : Cm x cX8_trustOfTerm RX8 5 (some .int) 2 Z (some (.int rr)) gg := hM
  show V x Z 0 0 0 [(0, va_rf (some a)), (1, .long x1)] [] g
  refine V_bipush (v := 100) hM.c dX8_trustOfTerm_0 (by decide) ?_
  refine V_istore_n (i := 3) (L' := [(3, .int (100 : Int32)), (0, va_rf (some a)), (1, .long x1)]) hM.c dX8_trustOfTerm_2 rfl (by decide) rfl ?_
  refine V_iconst (v := 0) hM.c dX8_trustOfTerm_3 (by decide) ?_
  refine V_istore (L' := [(4, .int (0 : Int32)), (3, .int (100 : Int32)), (0, va_rf (some a)), (1, .long x1)]) hM.c dX8_trustOfTerm_4 (by decide) rfl ?_
  refine V_sub [2, 3, 1, 0] rfl ?_
  exact vl_X8_trustOfTerm_l6 hM hz0  _ _ _ _ _ h
def f_X10_answerTrust_l27 (n : Nat) (Z : Zt) (a : Nat) : Nat → Int32 → Int32 → Mem → Option (Int32 × Mem)
  | 0, _, _, _ => none
  | fu + 1, x2, x3, g => drf (zf Z a 8) (fun b11 => bnd (f_X5_size n Z b11 g) (fun r13 g14 => if r13 ≤ x3 then (some (x2, g14)) else (drf (zf Z a 0) (fun b17 => drf (zf Z a 8) (fun b19 => bnd (f_X5_monomialAt n Z b19 x3 g14) (fun r21 g22 => bnd (f_X8_trustOfTerm n Z b17 r21 g22) (fun r24 g25 => f_X10_answerTrust_l27 n Z a fu (if x2 < r24 then r24 else x2) (x3 + 1) g25)))))))
set_option maxHeartbeats 4000000 in
set_option maxRecDepth 100000 in
theorem vl_X10_answerTrust_l27 {x : Cq} {n : Nat} {Z : Zt} {a : Nat} {rr : Int32} {gg : Mem} (hM : Cm x cX10_answerTrust RX10 4 (some .int) 4 Z (some (.int rr)) gg) (hz0 : zk Z a = 9) : ∀ (fu : Nat) (x2 : Int32) (x3 : Int32) (g : Mem), f_X10_answerTrust_l27 n Z a fu x2 x3 g = some (rr, gg) → V x Z 0 0 27 [(0, va_rf (some a)), (2, .int x2), (3, .int x3)] [] g := by
  intro fu
  induction fu with
  | zero => intro x2 x3 g h; cases h
  | succ fu ih =>
    intro x2 x3 g h
    unfold f_X10_answerTrust_l27 at h
    refine V_iload_n hM.c 2 dX10_answerTrust_27 rfl rfl ?_
    refine V_aload_n hM.c 0 dX10_answerTrust_28 rfl rfl ?_
    replace h := drf_some h
    obtain ⟨b11, e12, h⟩ := h
    refine G8_8 hM.c tw_172 hz0 e12 dX10_answerTrust_29 ?_
    replace h := bnd_some h
    obtain ⟨r13, g14, e15, h⟩ := h
    refine V_callV (As := []) (c := 3) (T := TX5) (N := 3) hM.c hM.a mq_X5_size mi_X5_size tw_203 (hM.d (by decide)) hM.z rfl (by omega) (zc_X5_size e15) (vm_X5_size e15) rfl (Nat.le_of_ble_eq_true rfl) dX10_answerTrust_32 ?_
    refine V_icmp_ge hM.c 64 dX10_answerTrust_35 (by decide) (fun c16 => ?_) (fun c16 => ?_)
    · replace h := ite_p h c16
      refine V_iload_n hM.c 1 dX10_answerTrust_64 rfl rfl ?_
      exact V_iretE hM h dX10_answerTrust_65
    · replace h := ite_n h c16
      refine V_iload_n hM.c 1 dX10_answerTrust_38 rfl rfl ?_
      refine V_aload_n hM.c 0 dX10_answerTrust_39 rfl rfl ?_
      replace h := drf_some h
      obtain ⟨b17, e18, h⟩ := h
      refine G8_0 hM.c tw_7 hz0 e18 dX10_answerTrust_40 ?_
      refine V_aload_n hM.c 0 dX10_answerTrust_43 rfl rfl ?_
      replace h := drf_some h
      obtain ⟨b19, e20, h⟩ := h
      refine G8_8 hM.c tw_172 hz0 e20 dX10_answerTrust_44 ?_
      refine V_iload_n hM.c 2 dX10_answerTrust_47 rfl rfl ?_
      replace h := bnd_some h
      obtain ⟨r21, g22, e23, h⟩ := h
      refine V_callV (As := [.int x3]) (c := 3) (T := TX5) (N := 3) hM.c hM.a mq_X5_monomialAt mi_X5_monomialAt tw_367 (hM.d (by decide)) hM.z rfl (by omega) (zc_X5_monomialAt e23) (vm_X5_monomialAt e23) rfl (Nat.le_of_ble_eq_true rfl) dX10_answerTrust_48 ?_
      replace h := bnd_some h
      obtain ⟨r24, g25, e26, h⟩ := h
      refine V_callV (As := [.long r21]) (c := 6) (T := TX8) (N := 8) hM.c hM.a mq_X8_trustOfTerm mi_X8_trustOfTerm tw_454 (hM.d (by decide)) hM.z rfl (by omega) (zc_X8_trustOfTerm e26) (vm_X8_trustOfTerm e26) rfl (Nat.le_of_ble_eq_true rfl) dX10_answerTrust_51 ?_
      refine V_max hM.c tw_450 tw_451 tw_452 tw_453 (hM.d (d' := 0) (by decide)) hM.z (Nat.le_of_ble_eq_true rfl) dX10_answerTrust_54 ?_
      refine V_istore_n (i := 2) (L' := [(2, .int (if x2 < r24 then r24 else x2)), (0, va_rf (some a)), (3, .int x3)]) hM.c dX10_answerTrust_57 rfl (by decide) rfl ?_
      refine V_iinc (v := (x3 + 1)) (L' := [(3, .int (x3 + 1)), (2, .int (if x2 < r24 then r24 else x2)), (0, va_rf (some a))]) hM.c 2 dX10_answerTrust_58 rfl rfl (by decide) rfl ?_
      refine V_goto hM.c 27 dX10_answerTrust_61 (by decide) ?_
      refine V_sub [2, 1, 0] rfl ?_
      exact ih _ _ _ h
def f_X10_answerTrust (n : Nat) (Z : Zt) (a : Nat) (x1 : Int32) (g : Mem) : Option (Int32 × Mem) := grd (zk Z a = 9) (bnd (f_X10_showAvailable n Z a x1 g) (fun r1 g2 => if r1 = 0 then (some ((-1 : Int32), g2)) else (drf (zf Z a 8) (fun b5 => bnd (f_X5_size n Z b5 g2) (fun r7 g8 => if r7 = 0 then (some ((-6 : Int32), g8)) else (f_X10_answerTrust_l27 n Z a n (0 : Int32) (0 : Int32) g8))))))
theorem mq_X10_answerTrust : Mq yX10_answerTrust cX10_answerTrust 4 (some .int) 1 := ⟨tw_449, tw_5, ⟨by decide +kernel, by decide +kernel, by decide +kernel⟩, by decide⟩
theorem mi_X10_answerTrust : Cond.instanceMethod yX10_answerTrust ∈ TB ∧ Cond.selects yX10_answerTrust.cls yX10_answerTrust yX10_answerTrust ∈ TB := ⟨tw_447, tw_448⟩
theorem zc_X10_answerTrust {n : Nat} {Z : Zt} {a : Nat} {x1 : Int32} {g : Mem} {q : Int32 × Mem} (h : f_X10_answerTrust n Z a x1 g = some q) : zk Z a = 9 := (grd_some h).1
set_option maxHeartbeats 4000000 in
set_option maxRecDepth 100000 in
theorem vm_X10_answerTrust {n : Nat} {Z : Zt} {a : Nat} {x1 : Int32} {g : Mem} {rr : Int32} {gg : Mem} (h : f_X10_answerTrust n Z a x1 g = some (rr, gg)) : VM yX10_answerTrust cX10_answerTrust 4 (some .int) 4 [.ref a, .int x1] Z g (some (.int rr)) gg := by
  unfold f_X10_answerTrust at h
  replace h := grd_some h
  obtain ⟨hz0, h⟩ := h
  refine VM.of (by decide +kernel) (Nat.le_of_ble_eq_true rfl) (fun x hM => ?_)
  have hM : Cm x cX10_answerTrust RX10 4 (some .int) 4 Z (some (.int rr)) gg := hM
  show V x Z 0 0 0 [(0, va_rf (some a)), (1, .int x1)] [] g
  refine V_aload_n hM.c 0 dX10_answerTrust_0 rfl rfl ?_
  refine V_iload_n hM.c 1 dX10_answerTrust_1 rfl rfl ?_
  replace h := bnd_some h
  obtain ⟨r1, g2, e3, h⟩ := h
  refine V_callV (As := [.int x1]) (c := 8) (T := TX10) (N := 10) hM.c hM.a mq_X10_showAvailable mi_X10_showAvailable tw_173 (hM.d (by decide)) hM.z rfl (by omega) (zc_X10_showAvailable e3) (vm_X10_showAvailable e3) rfl (Nat.le_of_ble_eq_true rfl) dX10_answerTrust_2 ?_
  refine V_if_ne hM.c 10 dX10_answerTrust_5 (by decide) (fun c4 => ?_) (fun c4 => ?_)
  · replace h := ite_n h c4
    refine V_aload_n hM.c 0 dX10_answerTrust_10 rfl rfl ?_
    replace h := drf_some h
    obtain ⟨b5, e6, h⟩ := h
    refine G8_8 hM.c tw_172 hz0 e6 dX10_answerTrust_11 ?_
    replace h := bnd_some h
    obtain ⟨r7, g8, e9, h⟩ := h
    refine V_callV (As := []) (c := 3) (T := TX5) (N := 3) hM.c hM.a mq_X5_size mi_X5_size tw_203 (hM.d (by decide)) hM.z rfl (by omega) (zc_X5_size e9) (vm_X5_size e9) rfl (Nat.le_of_ble_eq_true rfl) dX10_answerTrust_14 ?_
    refine V_if_ne hM.c 23 dX10_answerTrust_17 (by decide) (fun c10 => ?_) (fun c10 => ?_)
    · replace h := ite_n h c10
      refine V_iconst (v := 0) hM.c dX10_answerTrust_23 (by decide) ?_
      refine V_istore_n (i := 2) (L' := [(2, .int (0 : Int32)), (0, va_rf (some a)), (1, .int x1)]) hM.c dX10_answerTrust_24 rfl (by decide) rfl ?_
      refine V_iconst (v := 0) hM.c dX10_answerTrust_25 (by decide) ?_
      refine V_istore_n (i := 3) (L' := [(3, .int (0 : Int32)), (2, .int (0 : Int32)), (0, va_rf (some a)), (1, .int x1)]) hM.c dX10_answerTrust_26 rfl (by decide) rfl ?_
      refine V_sub [2, 1, 0] rfl ?_
      exact vl_X10_answerTrust_l27 hM hz0  _ _ _ _ h
    · replace h := ite_p h c10
      refine V_bipush (v := -6) hM.c dX10_answerTrust_20 (by decide) ?_
      exact V_iretE hM h dX10_answerTrust_22
  · replace h := ite_p h c4
    refine V_iconst (v := -1) hM.c dX10_answerTrust_8 (by decide) ?_
    exact V_iretE hM h dX10_answerTrust_9
def f_X8_confidenceOfTerm_l32 (n : Nat) (Z : Zt) (κ5 : Int64 → UInt32 → Int32 → Mem → Option (UInt32 × Mem)) (a : Nat) : Nat → Int64 → UInt32 → Int32 → UInt32 → Int32 → Mem → Option (UInt32 × Mem)
  | 0, _, _, _, _, _, _ => none
  | fu + 1, x1, x3, x4, x5, x6, g => if x6 ≤ 0 then (κ5 x1 x3 (x4 + 1) g) else (grd (nn32 (FP.fmul x3 x5)) (f_X8_confidenceOfTerm_l32 n Z κ5 a fu x1 (FP.fmul x3 x5) x4 x5 (x6 + (-1 : Int32)) g))
set_option maxHeartbeats 4000000 in
set_option maxRecDepth 100000 in
theorem vl_X8_confidenceOfTerm_l32 {x : Cq} {n : Nat} {Z : Zt} {κ5 : Int64 → UInt32 → Int32 → Mem → Option (UInt32 × Mem)} {a : Nat} {rr : UInt32} {gg : Mem} (hM : Cm x cX8_confidenceOfTerm RX8 7 (some .float) 2 Z (some (.float rr)) gg) (hz0 : zk Z a = 7) (hκ5 : ∀ (y1 : Int64) (y3 : UInt32) (y4 : Int32) (y : Mem), κ5 y1 y3 y4 y = some (rr, gg) → V x Z 0 0 5 [(0, va_rf (some a)), (1, .long y1), (3, .float y3), (4, .int y4)] [] y) : ∀ (fu : Nat) (x1 : Int64) (x3 : UInt32) (x4 : Int32) (x5 : UInt32) (x6 : Int32) (g : Mem), f_X8_confidenceOfTerm_l32 n Z κ5 a fu x1 x3 x4 x5 x6 g = some (rr, gg) → V x Z 0 0 32 [(0, va_rf (some a)), (1, .long x1), (3, .float x3), (4, .int x4), (5, .float x5), (6, .int x6)] [] g := by
  intro fu
  induction fu with
  | zero => intro x1 x3 x4 x5 x6 g h; cases h
  | succ fu ih =>
    intro x1 x3 x4 x5 x6 g h
    unfold f_X8_confidenceOfTerm_l32 at h
    refine V_iload hM.c 5 dX8_confidenceOfTerm_32 rfl ?_
    refine V_if_le hM.c 48 dX8_confidenceOfTerm_34 (by decide) (fun c9 => ?_) (fun c9 => ?_)
    · replace h := ite_p h c9
      refine V_iinc (v := (x4 + 1)) (L' := [(4, .int (x4 + 1)), (0, va_rf (some a)), (1, .long x1), (3, .float x3), (5, .float x5), (6, .int x6)]) hM.c 3 dX8_confidenceOfTerm_48 rfl rfl (by decide) rfl ?_
      refine V_goto hM.c 5 dX8_confidenceOfTerm_51 (by decide) ?_
      refine V_sub [1, 2, 3, 0] rfl ?_
      exact hκ5 _ _ _ _ h
    · replace h := ite_n h c9
      refine V_fload_n hM.c 2 dX8_confidenceOfTerm_37 rfl rfl ?_
      refine V_fload hM.c 4 dX8_confidenceOfTerm_38 rfl ?_
      replace h := grd_some h
      obtain ⟨c10, h⟩ := h
      refine V_fmul hM.c c10 dX8_confidenceOfTerm_40 ?_
      refine V_fstore_n (i := 3) (L' := [(3, .float (FP.fmul x3 x5)), (0, va_rf (some a)), (1, .long x1), (4, .int x4), (5, .float x5), (6, .int x6)]) hM.c dX8_confidenceOfTerm_41 rfl (by decide) rfl ?_
      refine V_iinc (v := (x6 + (-1 : Int32))) (L' := [(6, .int (x6 + (-1 : Int32))), (3, .float (FP.fmul x3 x5)), (0, va_rf (some a)), (1, .long x1), (4, .int x4), (5, .float x5)]) hM.c 5 dX8_confidenceOfTerm_42 rfl rfl (by decide) rfl ?_
      refine V_goto hM.c 32 dX8_confidenceOfTerm_45 (by decide) ?_
      refine V_sub [2, 3, 1, 4, 5, 0] rfl ?_
      exact ih _ _ _ _ _ _ h
def f_X8_confidenceOfTerm_l5 (n : Nat) (Z : Zt) (a : Nat) : Nat → Int64 → UInt32 → Int32 → Mem → Option (UInt32 × Mem)
  | 0, _, _, _, _ => none
  | fu + 1, x1, x3, x4, g => if (16 : Int32) ≤ x4 then (some (x3, g)) else (bnd (f_X8_trustOf n Z a x4 g) (fun r2 g3 => grd (nn32 (FP.fdiv (FP.i2f r2) (1120403456 : UInt32))) (bnd (f_X4_power n Z x1 x4 g3) (fun r6 g7 => f_X8_confidenceOfTerm_l32 n Z (fun y0 y1 y2 y => f_X8_confidenceOfTerm_l5 n Z a fu y0 y1 y2 y) a n x1 x3 x4 (FP.fdiv (FP.i2f r2) (1120403456 : UInt32)) r6 g7))))
set_option maxHeartbeats 4000000 in
set_option maxRecDepth 100000 in
theorem vl_X8_confidenceOfTerm_l5 {x : Cq} {n : Nat} {Z : Zt} {a : Nat} {rr : UInt32} {gg : Mem} (hM : Cm x cX8_confidenceOfTerm RX8 7 (some .float) 2 Z (some (.float rr)) gg) (hz0 : zk Z a = 7) : ∀ (fu : Nat) (x1 : Int64) (x3 : UInt32) (x4 : Int32) (g : Mem), f_X8_confidenceOfTerm_l5 n Z a fu x1 x3 x4 g = some (rr, gg) → V x Z 0 0 5 [(0, va_rf (some a)), (1, .long x1), (3, .float x3), (4, .int x4)] [] g := by
  intro fu
  induction fu with
  | zero => intro x1 x3 x4 g h; cases h
  | succ fu ih =>
    intro x1 x3 x4 g h
    unfold f_X8_confidenceOfTerm_l5 at h
    refine V_iload hM.c 3 dX8_confidenceOfTerm_5 rfl ?_
    refine V_bipush (v := 16) hM.c dX8_confidenceOfTerm_7 (by decide) ?_
    refine V_icmp_ge hM.c 54 dX8_confidenceOfTerm_9 (by decide) (fun c1 => ?_) (fun c1 => ?_)
    · replace h := ite_p h c1
      refine V_fload_n hM.c 2 dX8_confidenceOfTerm_54 rfl rfl ?_
      exact V_fretE hM h dX8_confidenceOfTerm_55
    · replace h := ite_n h c1
      refine V_aload_n hM.c 0 dX8_confidenceOfTerm_12 rfl rfl ?_
      refine V_iload hM.c 3 dX8_confidenceOfTerm_13 rfl ?_
      replace h := bnd_some h
      obtain ⟨r2, g3, e4, h⟩ := h
      refine V_callV (As := [.int x4]) (c := 6) (T := TX8) (N := 8) hM.c hM.a mq_X8_trustOf mi_X8_trustOf tw_373 (hM.d (by decide)) hM.z rfl (by omega) (zc_X8_trustOf e4) (vm_X8_trustOf e4) rfl (Nat.le_of_ble_eq_true rfl) dX8_confidenceOfTerm_15 ?_
      refine V_i2f hM.c dX8_confidenceOfTerm_18 ?_
      refine V_ldcf (v := 1120403456) hM.c tw_372 dX8_confidenceOfTerm_19 ?_
      replace h := grd_some h
      obtain ⟨c5, h⟩ := h
      refine V_fdiv hM.c c5 dX8_confidenceOfTerm_21 ?_
      refine V_fstore (L' := [(5, .float (FP.fdiv (FP.i2f r2) (1120403456 : UInt32))), (0, va_rf (some a)), (1, .long x1), (3, .float x3), (4, .int x4)]) hM.c dX8_confidenceOfTerm_22 (by decide) rfl ?_
      refine V_lload_n hM.c 2 dX8_confidenceOfTerm_24 rfl rfl ?_
      refine V_iload hM.c 4 dX8_confidenceOfTerm_25 rfl ?_
      replace h := bnd_some h
      obtain ⟨r6, g7, e8, h⟩ := h
      refine V_callS (As := [.long x1, .int x4]) hM.c hM.a mq_X4_power mi_X4_power tw_382 (hM.d (by decide)) hM.z (vm_X4_power e8) rfl (Nat.le_of_ble_eq_true rfl) dX8_confidenceOfTerm_27 ?_
      refine V_istore (L' := [(6, .int r6), (5, .float (FP.fdiv (FP.i2f r2) (1120403456 : UInt32))), (0, va_rf (some a)), (1, .long x1), (3, .float x3), (4, .int x4)]) hM.c dX8_confidenceOfTerm_30 (by decide) rfl ?_
      refine V_sub [2, 3, 4, 5, 1, 0] rfl ?_
      exact vl_X8_confidenceOfTerm_l32 hM hz0 ih _ _ _ _ _ _ _ h
def f_X8_confidenceOfTerm (n : Nat) (Z : Zt) (a : Nat) (x1 : Int64) (g : Mem) : Option (UInt32 × Mem) := grd (zk Z a = 7) (f_X8_confidenceOfTerm_l5 n Z a n x1 FP.fconst1 (0 : Int32) g)
theorem mq_X8_confidenceOfTerm : Mq yX8_confidenceOfTerm cX8_confidenceOfTerm 7 (some .float) 1 := ⟨tw_371, tw_14, ⟨by decide +kernel, by decide +kernel, by decide +kernel⟩, by decide⟩
theorem mi_X8_confidenceOfTerm : Cond.instanceMethod yX8_confidenceOfTerm ∈ TB ∧ Cond.selects yX8_confidenceOfTerm.cls yX8_confidenceOfTerm yX8_confidenceOfTerm ∈ TB := ⟨tw_369, tw_370⟩
theorem zc_X8_confidenceOfTerm {n : Nat} {Z : Zt} {a : Nat} {x1 : Int64} {g : Mem} {q : UInt32 × Mem} (h : f_X8_confidenceOfTerm n Z a x1 g = some q) : zk Z a = 7 := (grd_some h).1
set_option maxHeartbeats 4000000 in
set_option maxRecDepth 100000 in
theorem vm_X8_confidenceOfTerm {n : Nat} {Z : Zt} {a : Nat} {x1 : Int64} {g : Mem} {rr : UInt32} {gg : Mem} (h : f_X8_confidenceOfTerm n Z a x1 g = some (rr, gg)) : VM yX8_confidenceOfTerm cX8_confidenceOfTerm 7 (some .float) 2 [.ref a, .long x1] Z g (some (.float rr)) gg := by
  unfold f_X8_confidenceOfTerm at h
  replace h := grd_some h
  obtain ⟨hz0, h⟩ := h
  refine VM.of (by decide +kernel) (Nat.le_of_ble_eq_true rfl) (fun x hM => ?_)
  have hM : Cm x cX8_confidenceOfTerm RX8 7 (some .float) 2 Z (some (.float rr)) gg := hM
  show V x Z 0 0 0 [(0, va_rf (some a)), (1, .long x1)] [] g
  refine V_fconst1 hM.c dX8_confidenceOfTerm_0 ?_
  refine V_fstore_n (i := 3) (L' := [(3, .float FP.fconst1), (0, va_rf (some a)), (1, .long x1)]) hM.c dX8_confidenceOfTerm_1 rfl (by decide) rfl ?_
  refine V_iconst (v := 0) hM.c dX8_confidenceOfTerm_2 (by decide) ?_
  refine V_istore (L' := [(4, .int (0 : Int32)), (3, .float FP.fconst1), (0, va_rf (some a)), (1, .long x1)]) hM.c dX8_confidenceOfTerm_3 (by decide) rfl ?_
  refine V_sub [2, 3, 1, 0] rfl ?_
  exact vl_X8_confidenceOfTerm_l5 hM hz0  _ _ _ _ _ h
def f_X10_confidence_l16 (n : Nat) (Z : Zt) (a : Nat) : Nat → UInt32 → Int32 → Mem → Option (UInt32 × Mem)
  | 0, _, _, _ => none
  | fu + 1, x2, x3, g => drf (zf Z a 8) (fun b5 => bnd (f_X5_size n Z b5 g) (fun r7 g8 => if r7 ≤ x3 then (some (x2, g8)) else (drf (zf Z a 0) (fun b11 => drf (zf Z a 8) (fun b13 => bnd (f_X5_monomialAt n Z b13 x3 g8) (fun r15 g16 => bnd (f_X8_confidenceOfTerm n Z b11 r15 g16) (fun r18 g19 => if (Op.cmpValue (FP.fcmp r18 x2) .l) ≤ 0 then (f_X10_confidence_l16 n Z a fu x2 (x3 + 1) g19) else (f_X10_confidence_l16 n Z a fu r18 (x3 + 1) g19))))))))
set_option maxHeartbeats 4000000 in
set_option maxRecDepth 100000 in
theorem vl_X10_confidence_l16 {x : Cq} {n : Nat} {Z : Zt} {a : Nat} {rr : UInt32} {gg : Mem} (hM : Cm x cX10_confidence RX10 5 (some .float) 4 Z (some (.float rr)) gg) (hz0 : zk Z a = 9) : ∀ (fu : Nat) (x2 : UInt32) (x3 : Int32) (g : Mem), f_X10_confidence_l16 n Z a fu x2 x3 g = some (rr, gg) → V x Z 0 0 16 [(0, va_rf (some a)), (2, .float x2), (3, .int x3)] [] g := by
  intro fu
  induction fu with
  | zero => intro x2 x3 g h; cases h
  | succ fu ih =>
    intro x2 x3 g h
    unfold f_X10_confidence_l16 at h
    refine V_iload_n hM.c 2 dX10_confidence_16 rfl rfl ?_
    refine V_aload_n hM.c 0 dX10_confidence_17 rfl rfl ?_
    replace h := drf_some h
    obtain ⟨b5, e6, h⟩ := h
    refine G8_8 hM.c tw_172 hz0 e6 dX10_confidence_18 ?_
    replace h := bnd_some h
    obtain ⟨r7, g8, e9, h⟩ := h
    refine V_callV (As := []) (c := 3) (T := TX5) (N := 3) hM.c hM.a mq_X5_size mi_X5_size tw_203 (hM.d (by decide)) hM.z rfl (by omega) (zc_X5_size e9) (vm_X5_size e9) rfl (Nat.le_of_ble_eq_true rfl) dX10_confidence_21 ?_
    refine V_icmp_ge hM.c 64 dX10_confidence_24 (by decide) (fun c10 => ?_) (fun c10 => ?_)
    · replace h := ite_p h c10
      refine V_fload_n hM.c 1 dX10_confidence_64 rfl rfl ?_
      exact V_fretE hM h dX10_confidence_65
    · replace h := ite_n h c10
      refine V_aload_n hM.c 0 dX10_confidence_27 rfl rfl ?_
      replace h := drf_some h
      obtain ⟨b11, e12, h⟩ := h
      refine G8_0 hM.c tw_7 hz0 e12 dX10_confidence_28 ?_
      refine V_aload_n hM.c 0 dX10_confidence_31 rfl rfl ?_
      replace h := drf_some h
      obtain ⟨b13, e14, h⟩ := h
      refine G8_8 hM.c tw_172 hz0 e14 dX10_confidence_32 ?_
      refine V_iload_n hM.c 2 dX10_confidence_35 rfl rfl ?_
      replace h := bnd_some h
      obtain ⟨r15, g16, e17, h⟩ := h
      refine V_callV (As := [.int x3]) (c := 3) (T := TX5) (N := 3) hM.c hM.a mq_X5_monomialAt mi_X5_monomialAt tw_367 (hM.d (by decide)) hM.z rfl (by omega) (zc_X5_monomialAt e17) (vm_X5_monomialAt e17) rfl (Nat.le_of_ble_eq_true rfl) dX10_confidence_36 ?_
      replace h := bnd_some h
      obtain ⟨r18, g19, e20, h⟩ := h
      refine V_callV (As := [.long r15]) (c := 6) (T := TX8) (N := 8) hM.c hM.a mq_X8_confidenceOfTerm mi_X8_confidenceOfTerm tw_368 (hM.d (by decide)) hM.z rfl (by omega) (zc_X8_confidenceOfTerm e20) (vm_X8_confidenceOfTerm e20) rfl (Nat.le_of_ble_eq_true rfl) dX10_confidence_39 ?_
      refine V_fstore (L' := [(4, .float r18), (0, va_rf (some a)), (2, .float x2), (3, .int x3)]) hM.c dX10_confidence_42 (by decide) rfl ?_
      refine V_fload hM.c 0 dX10_confidence_44 rfl ?_
      refine V_fload_n hM.c 2 dX10_confidence_46 rfl rfl ?_
      refine V_fcmpl hM.c dX10_confidence_47 ?_
      refine V_if_le hM.c 56 dX10_confidence_48 (by decide) (fun c21 => ?_) (fun c21 => ?_)
      · replace h := ite_p h c21
        refine V_fload_n hM.c 2 dX10_confidence_56 rfl rfl ?_
        refine V_fstore_n (i := 2) (L' := [(2, .float x2), (4, .float r18), (0, va_rf (some a)), (3, .int x3)]) hM.c dX10_confidence_57 rfl (by decide) rfl ?_
        refine V_iinc (v := (x3 + 1)) (L' := [(3, .int (x3 + 1)), (2, .float x2), (4, .float r18), (0, va_rf (some a))]) hM.c 3 dX10_confidence_58 rfl rfl (by decide) rfl ?_
        refine V_goto hM.c 16 dX10_confidence_61 (by decide) ?_
        refine V_sub [3, 1, 0] rfl ?_
        exact ih _ _ _ h
      · replace h := ite_n h c21
        refine V_fload hM.c 0 dX10_confidence_51 rfl ?_
        refine V_goto hM.c 57 dX10_confidence_53 (by decide) ?_
        refine V_fstore_n (i := 2) (L' := [(2, .float r18), (4, .float r18), (0, va_rf (some a)), (3, .int x3)]) hM.c dX10_confidence_57 rfl (by decide) rfl ?_
        refine V_iinc (v := (x3 + 1)) (L' := [(3, .int (x3 + 1)), (2, .float r18), (4, .float r18), (0, va_rf (some a))]) hM.c 3 dX10_confidence_58 rfl rfl (by decide) rfl ?_
        refine V_goto hM.c 16 dX10_confidence_61 (by decide) ?_
        refine V_sub [3, 1, 0] rfl ?_
        exact ih _ _ _ h
def f_X10_confidence (n : Nat) (Z : Zt) (a : Nat) (x1 : Int32) (g : Mem) : Option (UInt32 × Mem) := grd (zk Z a = 9) (bnd (f_X10_showAvailable n Z a x1 g) (fun r1 g2 => if r1 = 0 then (some ((3212836864 : UInt32), g2)) else (f_X10_confidence_l16 n Z a n FP.fconst0 (0 : Int32) g2)))
theorem mq_X10_confidence : Mq yX10_confidence cX10_confidence 5 (some .float) 1 := ⟨tw_353, tw_5, ⟨by decide +kernel, by decide +kernel, by decide +kernel⟩, by decide⟩
theorem mi_X10_confidence : Cond.instanceMethod yX10_confidence ∈ TB ∧ Cond.selects yX10_confidence.cls yX10_confidence yX10_confidence ∈ TB := ⟨tw_351, tw_352⟩
theorem zc_X10_confidence {n : Nat} {Z : Zt} {a : Nat} {x1 : Int32} {g : Mem} {q : UInt32 × Mem} (h : f_X10_confidence n Z a x1 g = some q) : zk Z a = 9 := (grd_some h).1
set_option maxHeartbeats 4000000 in
set_option maxRecDepth 100000 in
theorem vm_X10_confidence {n : Nat} {Z : Zt} {a : Nat} {x1 : Int32} {g : Mem} {rr : UInt32} {gg : Mem} (h : f_X10_confidence n Z a x1 g = some (rr, gg)) : VM yX10_confidence cX10_confidence 5 (some .float) 4 [.ref a, .int x1] Z g (some (.float rr)) gg := by
  unfold f_X10_confidence at h
  replace h := grd_some h
  obtain ⟨hz0, h⟩ := h
  refine VM.of (by decide +kernel) (Nat.le_of_ble_eq_true rfl) (fun x hM => ?_)
  have hM : Cm x cX10_confidence RX10 5 (some .float) 4 Z (some (.float rr)) gg := hM
  show V x Z 0 0 0 [(0, va_rf (some a)), (1, .int x1)] [] g
  refine V_aload_n hM.c 0 dX10_confidence_0 rfl rfl ?_
  refine V_iload_n hM.c 1 dX10_confidence_1 rfl rfl ?_
  replace h := bnd_some h
  obtain ⟨r1, g2, e3, h⟩ := h
  refine V_callV (As := [.int x1]) (c := 8) (T := TX10) (N := 10) hM.c hM.a mq_X10_showAvailable mi_X10_showAvailable tw_173 (hM.d (by decide)) hM.z rfl (by omega) (zc_X10_showAvailable e3) (vm_X10_showAvailable e3) rfl (Nat.le_of_ble_eq_true rfl) dX10_confidence_2 ?_
  refine V_if_ne hM.c 12 dX10_confidence_5 (by decide) (fun c4 => ?_) (fun c4 => ?_)
  · replace h := ite_n h c4
    refine V_fconst0 hM.c dX10_confidence_12 ?_
    refine V_fstore_n (i := 2) (L' := [(2, .float FP.fconst0), (0, va_rf (some a)), (1, .int x1)]) hM.c dX10_confidence_13 rfl (by decide) rfl ?_
    refine V_iconst (v := 0) hM.c dX10_confidence_14 (by decide) ?_
    refine V_istore_n (i := 3) (L' := [(3, .int (0 : Int32)), (2, .float FP.fconst0), (0, va_rf (some a)), (1, .int x1)]) hM.c dX10_confidence_15 rfl (by decide) rfl ?_
    refine V_sub [2, 1, 0] rfl ?_
    exact vl_X10_confidence_l16 hM hz0  _ _ _ _ h
  · replace h := ite_p h c4
    refine V_ldcwf (v := 3212836864) hM.c tw_354 dX10_confidence_8 ?_
    exact V_fretE hM h dX10_confidence_11
def f_X10_needed_l33 (n : Nat) (Z : Zt) (a : Nat) : Nat → Int32 → Int32 → Mem → Option (Int32 × Mem)
  | 0, _, _, _ => none
  | fu + 1, x2, x3, g => drf (zf Z a 8) (fun b16 => bnd (f_X5_size n Z b16 g) (fun r18 g19 => if r18 ≤ x3 then (some (x2, g19)) else (drf (zf Z a 8) (fun b22 => bnd (f_X5_monomialAt n Z b22 x3 g19) (fun r24 g25 => bnd (f_X4_tagSet n Z r24 g25) (fun r27 g28 => f_X10_needed_l33 n Z a fu (x2 &&& r27) (x3 + 1) g28))))))
set_option maxHeartbeats 4000000 in
set_option maxRecDepth 100000 in
theorem vl_X10_needed_l33 {x : Cq} {n : Nat} {Z : Zt} {a : Nat} {rr : Int32} {gg : Mem} (hM : Cm x cX10_needed RX10 4 (some .int) 4 Z (some (.int rr)) gg) (hz0 : zk Z a = 9) : ∀ (fu : Nat) (x2 : Int32) (x3 : Int32) (g : Mem), f_X10_needed_l33 n Z a fu x2 x3 g = some (rr, gg) → V x Z 0 0 33 [(0, va_rf (some a)), (2, .int x2), (3, .int x3)] [] g := by
  intro fu
  induction fu with
  | zero => intro x2 x3 g h; cases h
  | succ fu ih =>
    intro x2 x3 g h
    unfold f_X10_needed_l33 at h
    refine V_iload_n hM.c 2 dX10_needed_33 rfl rfl ?_
    refine V_aload_n hM.c 0 dX10_needed_34 rfl rfl ?_
    replace h := drf_some h
    obtain ⟨b16, e17, h⟩ := h
    refine G8_8 hM.c tw_172 hz0 e17 dX10_needed_35 ?_
    replace h := bnd_some h
    obtain ⟨r18, g19, e20, h⟩ := h
    refine V_callV (As := []) (c := 3) (T := TX5) (N := 3) hM.c hM.a mq_X5_size mi_X5_size tw_203 (hM.d (by decide)) hM.z rfl (by omega) (zc_X5_size e20) (vm_X5_size e20) rfl (Nat.le_of_ble_eq_true rfl) dX10_needed_38 ?_
    refine V_icmp_ge hM.c 64 dX10_needed_41 (by decide) (fun c21 => ?_) (fun c21 => ?_)
    · replace h := ite_p h c21
      refine V_iload_n hM.c 1 dX10_needed_64 rfl rfl ?_
      exact V_iretE hM h dX10_needed_65
    · replace h := ite_n h c21
      refine V_iload_n hM.c 1 dX10_needed_44 rfl rfl ?_
      refine V_aload_n hM.c 0 dX10_needed_45 rfl rfl ?_
      replace h := drf_some h
      obtain ⟨b22, e23, h⟩ := h
      refine G8_8 hM.c tw_172 hz0 e23 dX10_needed_46 ?_
      refine V_iload_n hM.c 2 dX10_needed_49 rfl rfl ?_
      replace h := bnd_some h
      obtain ⟨r24, g25, e26, h⟩ := h
      refine V_callV (As := [.int x3]) (c := 3) (T := TX5) (N := 3) hM.c hM.a mq_X5_monomialAt mi_X5_monomialAt tw_367 (hM.d (by decide)) hM.z rfl (by omega) (zc_X5_monomialAt e26) (vm_X5_monomialAt e26) rfl (Nat.le_of_ble_eq_true rfl) dX10_needed_50 ?_
      replace h := bnd_some h
      obtain ⟨r27, g28, e29, h⟩ := h
      refine V_callS (As := [.long r24]) hM.c hM.a mq_X4_tagSet mi_X4_tagSet tw_465 (hM.d (by decide)) hM.z (vm_X4_tagSet e29) rfl (Nat.le_of_ble_eq_true rfl) dX10_needed_53 ?_
      refine V_iand hM.c dX10_needed_56 ?_
      refine V_istore_n (i := 2) (L' := [(2, .int (x2 &&& r27)), (0, va_rf (some a)), (3, .int x3)]) hM.c dX10_needed_57 rfl (by decide) rfl ?_
      refine V_iinc (v := (x3 + 1)) (L' := [(3, .int (x3 + 1)), (2, .int (x2 &&& r27)), (0, va_rf (some a))]) hM.c 2 dX10_needed_58 rfl rfl (by decide) rfl ?_
      refine V_goto hM.c 33 dX10_needed_61 (by decide) ?_
      refine V_sub [2, 1, 0] rfl ?_
      exact ih _ _ _ h
def f_X10_needed (n : Nat) (Z : Zt) (a : Nat) (x1 : Int32) (g : Mem) : Option (Int32 × Mem) := grd (zk Z a = 9) (bnd (f_X10_showAvailable n Z a x1 g) (fun r1 g2 => if r1 = 0 then (some ((-1 : Int32), g2)) else (drf (zf Z a 8) (fun b5 => bnd (f_X5_size n Z b5 g2) (fun r7 g8 => if r7 = 0 then (some ((-6 : Int32), g8)) else (drf (zf Z a 0) (fun b11 => bnd (f_X8_tagMask n Z b11 g8) (fun r13 g14 => f_X10_needed_l33 n Z a n r13 (0 : Int32) g14))))))))
theorem mq_X10_needed : Mq yX10_needed cX10_needed 4 (some .int) 1 := ⟨tw_469, tw_5, ⟨by decide +kernel, by decide +kernel, by decide +kernel⟩, by decide⟩
theorem mi_X10_needed : Cond.instanceMethod yX10_needed ∈ TB ∧ Cond.selects yX10_needed.cls yX10_needed yX10_needed ∈ TB := ⟨tw_467, tw_468⟩
theorem zc_X10_needed {n : Nat} {Z : Zt} {a : Nat} {x1 : Int32} {g : Mem} {q : Int32 × Mem} (h : f_X10_needed n Z a x1 g = some q) : zk Z a = 9 := (grd_some h).1
set_option maxHeartbeats 4000000 in
set_option maxRecDepth 100000 in
theorem vm_X10_needed {n : Nat} {Z : Zt} {a : Nat} {x1 : Int32} {g : Mem} {rr : Int32} {gg : Mem} (h : f_X10_needed n Z a x1 g = some (rr, gg)) : VM yX10_needed cX10_needed 4 (some .int) 4 [.ref a, .int x1] Z g (some (.int rr)) gg := by
  unfold f_X10_needed at h
  replace h := grd_some h
  obtain ⟨hz0, h⟩ := h
  refine VM.of (by decide +kernel) (Nat.le_of_ble_eq_true rfl) (fun x hM => ?_)
  have hM : Cm x cX10_needed RX10 4 (some .int) 4 Z (some (.int rr)) gg := hM
  show V x Z 0 0 0 [(0, va_rf (some a)), (1, .int x1)] [] g
  refine V_aload_n hM.c 0 dX10_needed_0 rfl rfl ?_
  refine V_iload_n hM.c 1 dX10_needed_1 rfl rfl ?_
  replace h := bnd_some h
  obtain ⟨r1, g2, e3, h⟩ := h
  refine V_callV (As := [.int x1]) (c := 8) (T := TX10) (N := 10) hM.c hM.a mq_X10_showAvailable mi_X10_showAvailable tw_173 (hM.d (by decide)) hM.z rfl (by omega) (zc_X10_showAvailable e3) (vm_X10_showAvailable e3) rfl (Nat.le_of_ble_eq_true rfl) dX10_needed_2 ?_
  refine V_if_ne hM.c 10 dX10_needed_5 (by decide) (fun c4 => ?_) (fun c4 => ?_)
  · replace h := ite_n h c4
    refine V_aload_n hM.c 0 dX10_needed_10 rfl rfl ?_
    replace h := drf_some h
    obtain ⟨b5, e6, h⟩ := h
    refine G8_8 hM.c tw_172 hz0 e6 dX10_needed_11 ?_
    replace h := bnd_some h
    obtain ⟨r7, g8, e9, h⟩ := h
    refine V_callV (As := []) (c := 3) (T := TX5) (N := 3) hM.c hM.a mq_X5_size mi_X5_size tw_203 (hM.d (by decide)) hM.z rfl (by omega) (zc_X5_size e9) (vm_X5_size e9) rfl (Nat.le_of_ble_eq_true rfl) dX10_needed_14 ?_
    refine V_if_ne hM.c 23 dX10_needed_17 (by decide) (fun c10 => ?_) (fun c10 => ?_)
    · replace h := ite_n h c10
      refine V_aload_n hM.c 0 dX10_needed_23 rfl rfl ?_
      replace h := drf_some h
      obtain ⟨b11, e12, h⟩ := h
      refine G8_0 hM.c tw_7 hz0 e12 dX10_needed_24 ?_
      replace h := bnd_some h
      obtain ⟨r13, g14, e15, h⟩ := h
      refine V_callV (As := []) (c := 6) (T := TX8) (N := 8) hM.c hM.a mq_X8_tagMask mi_X8_tagMask tw_263 (hM.d (by decide)) hM.z rfl (by omega) (zc_X8_tagMask e15) (vm_X8_tagMask e15) rfl (Nat.le_of_ble_eq_true rfl) dX10_needed_27 ?_
      refine V_istore_n (i := 2) (L' := [(2, .int r13), (0, va_rf (some a)), (1, .int x1)]) hM.c dX10_needed_30 rfl (by decide) rfl ?_
      refine V_iconst (v := 0) hM.c dX10_needed_31 (by decide) ?_
      refine V_istore_n (i := 3) (L' := [(3, .int (0 : Int32)), (2, .int r13), (0, va_rf (some a)), (1, .int x1)]) hM.c dX10_needed_32 rfl (by decide) rfl ?_
      refine V_sub [2, 1, 0] rfl ?_
      exact vl_X10_needed_l33 hM hz0  _ _ _ _ h
    · replace h := ite_p h c10
      refine V_bipush (v := -6) hM.c dX10_needed_20 (by decide) ?_
      exact V_iretE hM h dX10_needed_22
  · replace h := ite_p h c4
    refine V_iconst (v := -1) hM.c dX10_needed_8 (by decide) ?_
    exact V_iretE hM h dX10_needed_9
def f_X9_setTo_l15 (n : Nat) (Z : Zt) (a : Nat) : Nat → Nat → Int32 → Mem → Option (Unit × Mem)
  | 0, _, _, _ => none
  | fu + 1, x1, x2, g => if (gI g a 3) ≤ x2 then (some ((), g)) else (if (32 : Int32) ≤ x2 then (some ((), g)) else (drf (zf Z a 0) (fun b6 => bnd (f_X5_monomialAt n Z x1 x2 g) (fun r8 g9 => bnd (f_X4_tagSet n Z r8 g9) (fun r11 g12 => grd (zk Z b6 = 12) (grd (inr x2 (zl Z b6)) (f_X9_setTo_l15 n Z a fu x1 (x2 + 1) (sI g12 b6 x2.toNatClampNeg r11))))))))
set_option maxHeartbeats 4000000 in
set_option maxRecDepth 100000 in
theorem vl_X9_setTo_l15 {x : Cq} {n : Nat} {Z : Zt} {a : Nat} {rr : Unit} {gg : Mem} (hM : Cm x cX9_setTo RX9 3 none 2 Z none gg) (hz0 : zk Z a = 8) : ∀ (fu : Nat) (x1 : Nat) (x2 : Int32) (g : Mem), f_X9_setTo_l15 n Z a fu x1 x2 g = some (rr, gg) → V x Z 0 0 15 [(0, va_rf (some a)), (1, va_rf (some x1)), (2, .int x2)] [] g := by
  intro fu
  induction fu with
  | zero => intro x1 x2 g h; cases h
  | succ fu ih =>
    intro x1 x2 g h
    unfold f_X9_setTo_l15 at h
    refine V_iload_n hM.c 2 dX9_setTo_15 rfl rfl ?_
    refine V_aload_n hM.c 0 dX9_setTo_16 rfl rfl ?_
    refine G7_3 hM.c tw_481 hz0 dX9_setTo_17 ?_
    refine V_icmp_ge hM.c 49 dX9_setTo_20 (by decide) (fun c4 => ?_) (fun c4 => ?_)
    · replace h := ite_p h c4
      exact V_vretE hM h dX9_setTo_49
    · replace h := ite_n h c4
      refine V_iload_n hM.c 2 dX9_setTo_23 rfl rfl ?_
      refine V_bipush (v := 32) hM.c dX9_setTo_24 (by decide) ?_
      refine V_icmp_ge hM.c 49 dX9_setTo_26 (by decide) (fun c5 => ?_) (fun c5 => ?_)
      · replace h := ite_p h c5
        exact V_vretE hM h dX9_setTo_49
      · replace h := ite_n h c5
        refine V_aload_n hM.c 0 dX9_setTo_29 rfl rfl ?_
        replace h := drf_some h
        obtain ⟨b6, e7, h⟩ := h
        refine G7_0 hM.c tw_482 hz0 e7 dX9_setTo_30 ?_
        refine V_iload_n hM.c 2 dX9_setTo_33 rfl rfl ?_
        refine V_aload_n hM.c 1 dX9_setTo_34 rfl rfl ?_
        refine V_iload_n hM.c 2 dX9_setTo_35 rfl rfl ?_
        replace h := bnd_some h
        obtain ⟨r8, g9, e10, h⟩ := h
        refine V_callV (As := [.int x2]) (c := 3) (T := TX5) (N := 3) hM.c hM.a mq_X5_monomialAt mi_X5_monomialAt tw_484 (hM.d (by decide)) hM.z rfl (by omega) (zc_X5_monomialAt e10) (vm_X5_monomialAt e10) rfl (Nat.le_of_ble_eq_true rfl) dX9_setTo_36 ?_
        replace h := bnd_some h
        obtain ⟨r11, g12, e13, h⟩ := h
        refine V_callS (As := [.long r8]) hM.c hM.a mq_X4_tagSet mi_X4_tagSet tw_485 (hM.d (by decide)) hM.z (vm_X4_tagSet e13) rfl (Nat.le_of_ble_eq_true rfl) dX9_setTo_39 ?_
        replace h := grd_some h
        obtain ⟨z14, h⟩ := h
        replace h := grd_some h
        obtain ⟨c15, h⟩ := h
        refine V_iast hM.c z14 c15 hM.a dX9_setTo_42 ?_
        refine V_iinc (v := (x2 + 1)) (L' := [(2, .int (x2 + 1)), (0, va_rf (some a)), (1, va_rf (some x1))]) hM.c 2 dX9_setTo_43 rfl rfl (by decide) rfl ?_
        refine V_goto hM.c 15 dX9_setTo_46 (by decide) ?_
        refine V_sub [1, 2, 0] rfl ?_
        exact ih _ _ _ h
def f_X9_setTo (n : Nat) (Z : Zt) (a : Nat) (x1 : Nat) (g : Mem) : Option (Unit × Mem) := grd (zk Z a = 8) (bnd (f_X5_size n Z x1 g) (fun r1 g2 => f_X9_setTo_l15 n Z a n x1 (0 : Int32) (sI g2 a 3 (if (32 : Int32) < r1 then (32 : Int32) else r1))))
theorem mq_X9_setTo : Mq yX9_setTo cX9_setTo 3 none 1 := ⟨tw_479, tw_478, ⟨by decide +kernel, by decide +kernel, by decide +kernel⟩, by decide⟩
theorem mi_X9_setTo : Cond.instanceMethod yX9_setTo ∈ TB ∧ Cond.selects yX9_setTo.cls yX9_setTo yX9_setTo ∈ TB := ⟨tw_476, tw_477⟩
theorem zc_X9_setTo {n : Nat} {Z : Zt} {a : Nat} {x1 : Nat} {g : Mem} {q : Unit × Mem} (h : f_X9_setTo n Z a x1 g = some q) : zk Z a = 8 := (grd_some h).1
set_option maxHeartbeats 4000000 in
set_option maxRecDepth 100000 in
theorem vm_X9_setTo {n : Nat} {Z : Zt} {a : Nat} {x1 : Nat} {g : Mem} {rr : Unit} {gg : Mem} (h : f_X9_setTo n Z a x1 g = some (rr, gg)) : VM yX9_setTo cX9_setTo 3 none 2 [.ref a, va_rf (some x1)] Z g none gg := by
  unfold f_X9_setTo at h
  replace h := grd_some h
  obtain ⟨hz0, h⟩ := h
  refine VM.of (by decide +kernel) (Nat.le_of_ble_eq_true rfl) (fun x hM => ?_)
  have hM : Cm x cX9_setTo RX9 3 none 2 Z none gg := hM
  show V x Z 0 0 0 [(0, va_rf (some a)), (1, va_rf (some x1))] [] g
  refine V_aload_n hM.c 0 dX9_setTo_0 rfl rfl ?_
  refine V_aload_n hM.c 1 dX9_setTo_1 rfl rfl ?_
  replace h := bnd_some h
  obtain ⟨r1, g2, e3, h⟩ := h
  refine V_callV (As := []) (c := 3) (T := TX5) (N := 3) hM.c hM.a mq_X5_size mi_X5_size tw_483 (hM.d (by decide)) hM.z rfl (by omega) (zc_X5_size e3) (vm_X5_size e3) rfl (Nat.le_of_ble_eq_true rfl) dX9_setTo_2 ?_
  refine V_bipush (v := 32) hM.c dX9_setTo_5 (by decide) ?_
  refine V_min hM.c tw_480 tw_459 tw_452 tw_460 (hM.d (d' := 0) (by decide)) hM.z (Nat.le_of_ble_eq_true rfl) dX9_setTo_7 ?_
  refine P7_3 hM.c tw_481 hz0 hM.a dX9_setTo_10 ?_
  refine V_iconst (v := 0) hM.c dX9_setTo_13 (by decide) ?_
  refine V_istore_n (i := 2) (L' := [(2, .int (0 : Int32)), (0, va_rf (some a)), (1, va_rf (some x1))]) hM.c dX9_setTo_14 rfl (by decide) rfl ?_
  refine V_sub [1, 2, 0] rfl ?_
  exact vl_X9_setTo_l15 hM hz0  _ _ _ _ h
def f_X9_termsWith_l52 (n : Nat) (Z : Zt) (κ5 : Int32 → Int32 → Int32 → Int32 → Mem → Option (Int32 × Mem)) (a : Nat) (x1 : Int32) (x2 : Int32) (x3 : Int32) (x4 : Int32) (g : Mem) : Option (Int32 × Mem) := κ5 x1 x2 (x3 ||| ((1 : Int32) <<< (x4 &&& 31))) (x4 + 1) g
set_option maxHeartbeats 4000000 in
set_option maxRecDepth 100000 in
theorem vl_X9_termsWith_l52 {x : Cq} {n : Nat} {Z : Zt} {κ5 : Int32 → Int32 → Int32 → Int32 → Mem → Option (Int32 × Mem)} {a : Nat} {x1 : Int32} {x2 : Int32} {x3 : Int32} {x4 : Int32} {g : Mem} {rr : Int32} {gg : Mem} (hM : Cm x cX9_termsWith RX9 6 (some .int) 0 Z (some (.int rr)) gg) (hz0 : zk Z a = 8) (hκ5 : ∀ (y1 : Int32) (y2 : Int32) (y3 : Int32) (y4 : Int32) (y : Mem), κ5 y1 y2 y3 y4 y = some (rr, gg) → V x Z 0 0 5 [(0, va_rf (some a)), (1, .int y1), (2, .int y2), (3, .int y3), (4, .int y4)] [] y) (h : f_X9_termsWith_l52 n Z κ5 a x1 x2 x3 x4 g = some (rr, gg)) : V x Z 0 0 52 [(0, va_rf (some a)), (1, .int x1), (2, .int x2), (3, .int x3), (4, .int x4)] [] g := by
  unfold f_X9_termsWith_l52 at h
  refine V_iload_n hM.c 3 dX9_termsWith_52 rfl rfl ?_
  refine V_iconst (v := 1) hM.c dX9_termsWith_53 (by decide) ?_
  refine V_iload hM.c 4 dX9_termsWith_54 rfl ?_
  refine V_ishl hM.c dX9_termsWith_56 ?_
  refine V_ior hM.c dX9_termsWith_57 ?_
  refine V_istore_n (i := 3) (L' := [(3, .int (x3 ||| ((1 : Int32) <<< (x4 &&& 31)))), (0, va_rf (some a)), (1, .int x1), (2, .int x2), (4, .int x4)]) hM.c dX9_termsWith_58 rfl (by decide) rfl ?_
  refine V_iinc (v := (x4 + 1)) (L' := [(4, .int (x4 + 1)), (3, .int (x3 ||| ((1 : Int32) <<< (x4 &&& 31)))), (0, va_rf (some a)), (1, .int x1), (2, .int x2)]) hM.c 4 dX9_termsWith_59 rfl rfl (by decide) rfl ?_
  refine V_goto hM.c 5 dX9_termsWith_62 (by decide) ?_
  refine V_sub [2, 3, 4, 1, 0] rfl ?_
  exact hκ5 _ _ _ _ _ h
def f_X9_termsWith_l5 (n : Nat) (Z : Zt) (a : Nat) : Nat → Int32 → Int32 → Int32 → Int32 → Mem → Option (Int32 × Mem)
  | 0, _, _, _, _, _ => none
  | fu + 1, x1, x2, x3, x4, g => if (gI g a 3) ≤ x4 then (some (x3, g)) else (if (32 : Int32) ≤ x4 then (some (x3, g)) else (drf (zf Z a 0) (fun b3 => grd (zk Z b3 = 12) (grd (inr x4 (zl Z b3)) (if x2 = 0 then (if (((gI g b3 x4.toNatClampNeg) >>> (x1 &&& 31)) &&& (1 : Int32)) = 0 then (f_X9_termsWith_l5 n Z a fu x1 x2 x3 (x4 + 1) g) else (f_X9_termsWith_l52 n Z (fun y0 y1 y2 y3 y => f_X9_termsWith_l5 n Z a fu y0 y1 y2 y3 y) a x1 x2 x3 x4 g)) else (if ((gI g b3 x4.toNatClampNeg) >>> (x1 &&& 31)) = (1 : Int32) then (f_X9_termsWith_l52 n Z (fun y0 y1 y2 y3 y => f_X9_termsWith_l5 n Z a fu y0 y1 y2 y3 y) a x1 x2 x3 x4 g) else (f_X9_termsWith_l5 n Z a fu x1 x2 x3 (x4 + 1) g)))))))
set_option maxHeartbeats 4000000 in
set_option maxRecDepth 100000 in
theorem vl_X9_termsWith_l5 {x : Cq} {n : Nat} {Z : Zt} {a : Nat} {rr : Int32} {gg : Mem} (hM : Cm x cX9_termsWith RX9 6 (some .int) 0 Z (some (.int rr)) gg) (hz0 : zk Z a = 8) : ∀ (fu : Nat) (x1 : Int32) (x2 : Int32) (x3 : Int32) (x4 : Int32) (g : Mem), f_X9_termsWith_l5 n Z a fu x1 x2 x3 x4 g = some (rr, gg) → V x Z 0 0 5 [(0, va_rf (some a)), (1, .int x1), (2, .int x2), (3, .int x3), (4, .int x4)] [] g := by
  intro fu
  induction fu with
  | zero => intro x1 x2 x3 x4 g h; cases h
  | succ fu ih =>
    intro x1 x2 x3 x4 g h
    unfold f_X9_termsWith_l5 at h
    refine V_iload hM.c 4 dX9_termsWith_5 rfl ?_
    refine V_aload_n hM.c 0 dX9_termsWith_7 rfl rfl ?_
    refine G7_3 hM.c tw_481 hz0 dX9_termsWith_8 ?_
    refine V_icmp_ge hM.c 65 dX9_termsWith_11 (by decide) (fun c1 => ?_) (fun c1 => ?_)
    · replace h := ite_p h c1
      refine V_iload_n hM.c 3 dX9_termsWith_65 rfl rfl ?_
      exact V_iretE hM h dX9_termsWith_66
    · replace h := ite_n h c1
      refine V_iload hM.c 4 dX9_termsWith_14 rfl ?_
      refine V_bipush (v := 32) hM.c dX9_termsWith_16 (by decide) ?_
      refine V_icmp_ge hM.c 65 dX9_termsWith_18 (by decide) (fun c2 => ?_) (fun c2 => ?_)
      · replace h := ite_p h c2
        refine V_iload_n hM.c 3 dX9_termsWith_65 rfl rfl ?_
        exact V_iretE hM h dX9_termsWith_66
      · replace h := ite_n h c2
        refine V_aload_n hM.c 0 dX9_termsWith_21 rfl rfl ?_
        replace h := drf_some h
        obtain ⟨b3, e4, h⟩ := h
        refine G7_0 hM.c tw_482 hz0 e4 dX9_termsWith_22 ?_
        refine V_iload hM.c 4 dX9_termsWith_25 rfl ?_
        replace h := grd_some h
        obtain ⟨z5, h⟩ := h
        replace h := grd_some h
        obtain ⟨c6, h⟩ := h
        refine V_iald hM.c z5 c6 dX9_termsWith_27 ?_
        refine V_iload_n hM.c 1 dX9_termsWith_28 rfl rfl ?_
        refine V_ishr hM.c dX9_termsWith_29 ?_
        refine V_istore (L' := [(5, .int ((gI g b3 x4.toNatClampNeg) >>> (x1 &&& 31))), (0, va_rf (some a)), (1, .int x1), (2, .int x2), (3, .int x3), (4, .int x4)]) hM.c dX9_termsWith_30 (by decide) rfl ?_
        refine V_iload_n hM.c 3 dX9_termsWith_32 rfl rfl ?_
        refine V_if_eq hM.c 45 dX9_termsWith_33 (by decide) (fun c7 => ?_) (fun c7 => ?_)
        · replace h := ite_p h c7
          refine V_iload hM.c 0 dX9_termsWith_45 rfl ?_
          refine V_iconst (v := 1) hM.c dX9_termsWith_47 (by decide) ?_
          refine V_iand hM.c dX9_termsWith_48 ?_
          refine V_if_eq hM.c 59 dX9_termsWith_49 (by decide) (fun c8 => ?_) (fun c8 => ?_)
          · replace h := ite_p h c8
            refine V_iinc (v := (x4 + 1)) (L' := [(4, .int (x4 + 1)), (5, .int ((gI g b3 x4.toNatClampNeg) >>> (x1 &&& 31))), (0, va_rf (some a)), (1, .int x1), (2, .int x2), (3, .int x3)]) hM.c 5 dX9_termsWith_59 rfl rfl (by decide) rfl ?_
            refine V_goto hM.c 5 dX9_termsWith_62 (by decide) ?_
            refine V_sub [2, 3, 4, 5, 0] rfl ?_
            exact ih _ _ _ _ _ h
          · replace h := ite_n h c8
            refine V_sub [1, 2, 3, 4, 5] rfl ?_
            exact vl_X9_termsWith_l52 hM hz0 ih h
        · replace h := ite_n h c7
          refine V_iload hM.c 0 dX9_termsWith_36 rfl ?_
          refine V_iconst (v := 1) hM.c dX9_termsWith_38 (by decide) ?_
          refine V_icmp_ne hM.c 59 dX9_termsWith_39 (by decide) (fun c9 => ?_) (fun c9 => ?_)
          · replace h := ite_n h c9
            refine V_iinc (v := (x4 + 1)) (L' := [(4, .int (x4 + 1)), (5, .int ((gI g b3 x4.toNatClampNeg) >>> (x1 &&& 31))), (0, va_rf (some a)), (1, .int x1), (2, .int x2), (3, .int x3)]) hM.c 5 dX9_termsWith_59 rfl rfl (by decide) rfl ?_
            refine V_goto hM.c 5 dX9_termsWith_62 (by decide) ?_
            refine V_sub [2, 3, 4, 5, 0] rfl ?_
            exact ih _ _ _ _ _ h
          · replace h := ite_p h c9
            refine V_goto hM.c 52 dX9_termsWith_42 (by decide) ?_
            refine V_sub [1, 2, 3, 4, 5] rfl ?_
            exact vl_X9_termsWith_l52 hM hz0 ih h
def f_X9_termsWith (n : Nat) (Z : Zt) (a : Nat) (x1 : Int32) (x2 : Int32) (g : Mem) : Option (Int32 × Mem) := grd (zk Z a = 8) (f_X9_termsWith_l5 n Z a n x1 x2 (0 : Int32) (0 : Int32) g)
theorem mq_X9_termsWith : Mq yX9_termsWith cX9_termsWith 6 (some .int) 2 := ⟨tw_495, tw_478, ⟨by decide +kernel, by decide +kernel, by decide +kernel⟩, by decide⟩
theorem mi_X9_termsWith : Cond.instanceMethod yX9_termsWith ∈ TB ∧ Cond.selects yX9_termsWith.cls yX9_termsWith yX9_termsWith ∈ TB := ⟨tw_493, tw_494⟩
theorem zc_X9_termsWith {n : Nat} {Z : Zt} {a : Nat} {x1 : Int32} {x2 : Int32} {g : Mem} {q : Int32 × Mem} (h : f_X9_termsWith n Z a x1 x2 g = some q) : zk Z a = 8 := (grd_some h).1
set_option maxHeartbeats 4000000 in
set_option maxRecDepth 100000 in
theorem vm_X9_termsWith {n : Nat} {Z : Zt} {a : Nat} {x1 : Int32} {x2 : Int32} {g : Mem} {rr : Int32} {gg : Mem} (h : f_X9_termsWith n Z a x1 x2 g = some (rr, gg)) : VM yX9_termsWith cX9_termsWith 6 (some .int) 0 [.ref a, .int x1, .int x2] Z g (some (.int rr)) gg := by
  unfold f_X9_termsWith at h
  replace h := grd_some h
  obtain ⟨hz0, h⟩ := h
  refine VM.of (by decide +kernel) (Nat.le_of_ble_eq_true rfl) (fun x hM => ?_)
  have hM : Cm x cX9_termsWith RX9 6 (some .int) 0 Z (some (.int rr)) gg := hM
  show V x Z 0 0 0 [(0, va_rf (some a)), (1, .int x1), (2, .int x2)] [] g
  refine V_iconst (v := 0) hM.c dX9_termsWith_0 (by decide) ?_
  refine V_istore_n (i := 3) (L' := [(3, .int (0 : Int32)), (0, va_rf (some a)), (1, .int x1), (2, .int x2)]) hM.c dX9_termsWith_1 rfl (by decide) rfl ?_
  refine V_iconst (v := 0) hM.c dX9_termsWith_2 (by decide) ?_
  refine V_istore (L' := [(4, .int (0 : Int32)), (3, .int (0 : Int32)), (0, va_rf (some a)), (1, .int x1), (2, .int x2)]) hM.c dX9_termsWith_3 (by decide) rfl ?_
  refine V_sub [2, 3, 4, 1, 0] rfl ?_
  exact vl_X9_termsWith_l5 hM hz0  _ _ _ _ _ _ h
def f_X9_union_l4 (n : Nat) (Z : Zt) (a : Nat) : Nat → Int32 → Int32 → Mem → Option (Int32 × Mem)
  | 0, _, _, _ => none
  | fu + 1, x1, x2, g => if (gI g a 3) ≤ x2 then (some (x1, g)) else (if (32 : Int32) ≤ x2 then (some (x1, g)) else (drf (zf Z a 0) (fun b3 => grd (zk Z b3 = 12) (grd (inr x2 (zl Z b3)) (f_X9_union_l4 n Z a fu (x1 ||| (gI g b3 x2.toNatClampNeg)) (x2 + 1) g)))))
set_option maxHeartbeats 4000000 in
set_option maxRecDepth 100000 in
theorem vl_X9_union_l4 {x : Cq} {n : Nat} {Z : Zt} {a : Nat} {rr : Int32} {gg : Mem} (hM : Cm x cX9_union RX9 3 (some .int) 0 Z (some (.int rr)) gg) (hz0 : zk Z a = 8) : ∀ (fu : Nat) (x1 : Int32) (x2 : Int32) (g : Mem), f_X9_union_l4 n Z a fu x1 x2 g = some (rr, gg) → V x Z 0 0 4 [(0, va_rf (some a)), (1, .int x1), (2, .int x2)] [] g := by
  intro fu
  induction fu with
  | zero => intro x1 x2 g h; cases h
  | succ fu ih =>
    intro x1 x2 g h
    unfold f_X9_union_l4 at h
    refine V_iload_n hM.c 2 dX9_union_4 rfl rfl ?_
    refine V_aload_n hM.c 0 dX9_union_5 rfl rfl ?_
    refine G7_3 hM.c tw_481 hz0 dX9_union_6 ?_
    refine V_icmp_ge hM.c 33 dX9_union_9 (by decide) (fun c1 => ?_) (fun c1 => ?_)
    · replace h := ite_p h c1
      refine V_iload_n hM.c 1 dX9_union_33 rfl rfl ?_
      exact V_iretE hM h dX9_union_34
    · replace h := ite_n h c1
      refine V_iload_n hM.c 2 dX9_union_12 rfl rfl ?_
      refine V_bipush (v := 32) hM.c dX9_union_13 (by decide) ?_
      refine V_icmp_ge hM.c 33 dX9_union_15 (by decide) (fun c2 => ?_) (fun c2 => ?_)
      · replace h := ite_p h c2
        refine V_iload_n hM.c 1 dX9_union_33 rfl rfl ?_
        exact V_iretE hM h dX9_union_34
      · replace h := ite_n h c2
        refine V_iload_n hM.c 1 dX9_union_18 rfl rfl ?_
        refine V_aload_n hM.c 0 dX9_union_19 rfl rfl ?_
        replace h := drf_some h
        obtain ⟨b3, e4, h⟩ := h
        refine G7_0 hM.c tw_482 hz0 e4 dX9_union_20 ?_
        refine V_iload_n hM.c 2 dX9_union_23 rfl rfl ?_
        replace h := grd_some h
        obtain ⟨z5, h⟩ := h
        replace h := grd_some h
        obtain ⟨c6, h⟩ := h
        refine V_iald hM.c z5 c6 dX9_union_24 ?_
        refine V_ior hM.c dX9_union_25 ?_
        refine V_istore_n (i := 1) (L' := [(1, .int (x1 ||| (gI g b3 x2.toNatClampNeg))), (0, va_rf (some a)), (2, .int x2)]) hM.c dX9_union_26 rfl (by decide) rfl ?_
        refine V_iinc (v := (x2 + 1)) (L' := [(2, .int (x2 + 1)), (1, .int (x1 ||| (gI g b3 x2.toNatClampNeg))), (0, va_rf (some a))]) hM.c 2 dX9_union_27 rfl rfl (by decide) rfl ?_
        refine V_goto hM.c 4 dX9_union_30 (by decide) ?_
        refine V_sub [2, 1, 0] rfl ?_
        exact ih _ _ _ h
def f_X9_union (n : Nat) (Z : Zt) (a : Nat) (g : Mem) : Option (Int32 × Mem) := grd (zk Z a = 8) (f_X9_union_l4 n Z a n (0 : Int32) (0 : Int32) g)
theorem mq_X9_union : Mq yX9_union cX9_union 3 (some .int) 0 := ⟨tw_499, tw_478, ⟨by decide +kernel, by decide +kernel, by decide +kernel⟩, by decide⟩
theorem mi_X9_union : Cond.instanceMethod yX9_union ∈ TB ∧ Cond.selects yX9_union.cls yX9_union yX9_union ∈ TB := ⟨tw_497, tw_498⟩
theorem zc_X9_union {n : Nat} {Z : Zt} {a : Nat} {g : Mem} {q : Int32 × Mem} (h : f_X9_union n Z a g = some q) : zk Z a = 8 := (grd_some h).1
set_option maxHeartbeats 4000000 in
set_option maxRecDepth 100000 in
theorem vm_X9_union {n : Nat} {Z : Zt} {a : Nat} {g : Mem} {rr : Int32} {gg : Mem} (h : f_X9_union n Z a g = some (rr, gg)) : VM yX9_union cX9_union 3 (some .int) 0 [.ref a] Z g (some (.int rr)) gg := by
  unfold f_X9_union at h
  replace h := grd_some h
  obtain ⟨hz0, h⟩ := h
  refine VM.of (by decide +kernel) (Nat.le_of_ble_eq_true rfl) (fun x hM => ?_)
  have hM : Cm x cX9_union RX9 3 (some .int) 0 Z (some (.int rr)) gg := hM
  show V x Z 0 0 0 [(0, va_rf (some a))] [] g
  refine V_iconst (v := 0) hM.c dX9_union_0 (by decide) ?_
  refine V_istore_n (i := 1) (L' := [(1, .int (0 : Int32)), (0, va_rf (some a))]) hM.c dX9_union_1 rfl (by decide) rfl ?_
  refine V_iconst (v := 0) hM.c dX9_union_2 (by decide) ?_
  refine V_istore_n (i := 2) (L' := [(2, .int (0 : Int32)), (1, .int (0 : Int32)), (0, va_rf (some a))]) hM.c dX9_union_3 rfl (by decide) rfl ?_
  refine V_sub [2, 1, 0] rfl ?_
  exact vl_X9_union_l4 hM hz0  _ _ _ _ h
theorem mq_X9_countFrom : Mq yX9_countFrom cX9_countFrom 6 (some .int) 5 := ⟨tw_502, tw_478, ⟨by decide +kernel, by decide +kernel, by decide +kernel⟩, by decide⟩
theorem mi_X9_countFrom : Cond.static yX9_countFrom ∈ TB := tw_501
def f_X9_countFrom (n : Nat) (Z : Zt) : Nat → Nat → Nat → Int32 → Int32 → Int32 → Mem → Option (Int32 × Mem)
  | 0, _, _, _, _, _, _ => none
  | dp + 1, x0, x1, x2, x3, x4, g => if x4 = 0 then (some ((0 : Int32), g)) else (if (16 : Int32) ≤ x3 then (some ((0 : Int32), g)) else (grd (zk Z x0 = 12) (if (Int32.ofNat (zl Z x0)) ≤ x3 then (some ((0 : Int32), g)) else (grd (zk Z x1 = 12) (if x3 < (Int32.ofNat (zl Z x1)) then (if ((x2 >>> (x3 &&& 31)) &&& (1 : Int32)) = 0 then (bnd ((fun y0 y1 y2 y3 y4 y => f_X9_countFrom n Z dp y0 y1 y2 y3 y4 y) x0 x1 x2 (x3 + (1 : Int32)) x4 g) (fun r25 g26 => some (r25, g26))) else (grd (zk Z x0 = 12) (grd (inr x3 (zl Z x0)) (bnd ((fun y0 y1 y2 y3 y4 y => f_X9_countFrom n Z dp y0 y1 y2 y3 y4 y) x0 x1 x2 (x3 + (1 : Int32)) (x4 &&& ((gI g x0 x3.toNatClampNeg) ^^^ (-1 : Int32))) g) (fun r10 g11 => grd (zk Z x1 = 12) (grd (inr x3 (zl Z x1)) (if (x4 &&& (gI g11 x1 x3.toNatClampNeg)) = 0 then (grd (zk Z x0 = 12) (grd (inr x3 (zl Z x0)) (if (x4 &&& (gI g11 x0 x3.toNatClampNeg)) = 0 then (some (((2 : Int32) * r10), g11)) else (bnd ((fun y0 y1 y2 y3 y4 y => f_X9_countFrom n Z dp y0 y1 y2 y3 y4 y) x0 x1 x2 (x3 + (1 : Int32)) x4 g11) (fun r19 g20 => some ((r10 + r19), g20)))))) else (bnd (f_J6_bitCount_0f7a4 n Z (x2 >>> ((x3 + (1 : Int32)) &&& 31)) g11) (fun r22 g23 => some ((r10 + ((1 : Int32) <<< (r22 &&& 31))), g23)))))))))) else (some ((0 : Int32), g)))))))
set_option maxHeartbeats 4000000 in
set_option maxRecDepth 100000 in
theorem vm_X9_countFrom {n : Nat} {Z : Zt} : ∀ (dp : Nat) (x0 : Nat) (x1 : Nat) (x2 : Int32) (x3 : Int32) (x4 : Int32) (g : Mem) (rr : Int32) (gg : Mem), f_X9_countFrom n Z dp x0 x1 x2 x3 x4 g = some (rr, gg) → VM yX9_countFrom cX9_countFrom 6 (some .int) (1 + dp) [va_rf (some x0), va_rf (some x1), .int x2, .int x3, .int x4] Z g (some (.int rr)) gg := by
  intro dp
  induction dp with
  | zero => intro x0 x1 x2 x3 x4 g rr gg h; cases h
  | succ dp hrec =>
    intro x0 x1 x2 x3 x4 g rr gg h
    have hdq : 1 ≤ 1 + (dp + 1) := by omega
    have hdr : (1 + dp) + 1 ≤ 1 + (dp + 1) := by omega
    unfold f_X9_countFrom at h
    refine VM.of (by decide +kernel) (Nat.le_of_ble_eq_true rfl) (fun x hM => ?_)
    have hM : Cm x cX9_countFrom RX9 6 (some .int) (1 + (dp + 1)) Z (some (.int rr)) gg := hM
    show V x Z 0 0 0 [(0, va_rf (some x0)), (1, va_rf (some x1)), (2, .int x2), (3, .int x3), (4, .int x4)] [] g
    refine V_iload hM.c 4 dX9_countFrom_0 rfl ?_
    refine V_if_eq hM.c 23 dX9_countFrom_2 (by decide) (fun c1 => ?_) (fun c1 => ?_)
    · replace h := ite_p h c1
      refine V_iconst (v := 0) hM.c dX9_countFrom_23 (by decide) ?_
      exact V_iretE hM h dX9_countFrom_24
    · replace h := ite_n h c1
      refine V_iload_n hM.c 3 dX9_countFrom_5 rfl rfl ?_
      refine V_bipush (v := 16) hM.c dX9_countFrom_6 (by decide) ?_
      refine V_icmp_ge hM.c 23 dX9_countFrom_8 (by decide) (fun c2 => ?_) (fun c2 => ?_)
      · replace h := ite_p h c2
        refine V_iconst (v := 0) hM.c dX9_countFrom_23 (by decide) ?_
        exact V_iretE hM h dX9_countFrom_24
      · replace h := ite_n h c2
        refine V_iload_n hM.c 3 dX9_countFrom_11 rfl rfl ?_
        refine V_aload_n hM.c 0 dX9_countFrom_12 rfl rfl ?_
        replace h := grd_some h
        obtain ⟨z3, h⟩ := h
        refine V_alen (t := 1) hM.c z3 (by omega) rfl dX9_countFrom_13 ?_
        refine V_icmp_ge hM.c 23 dX9_countFrom_14 (by decide) (fun c4 => ?_) (fun c4 => ?_)
        · replace h := ite_p h c4
          refine V_iconst (v := 0) hM.c dX9_countFrom_23 (by decide) ?_
          exact V_iretE hM h dX9_countFrom_24
        · replace h := ite_n h c4
          refine V_iload_n hM.c 3 dX9_countFrom_17 rfl rfl ?_
          refine V_aload_n hM.c 1 dX9_countFrom_18 rfl rfl ?_
          replace h := grd_some h
          obtain ⟨z5, h⟩ := h
          refine V_alen (t := 1) hM.c z5 (by omega) rfl dX9_countFrom_19 ?_
          refine V_icmp_lt hM.c 25 dX9_countFrom_20 (by decide) (fun c6 => ?_) (fun c6 => ?_)
          · replace h := ite_p h c6
            refine V_iload_n hM.c 2 dX9_countFrom_25 rfl rfl ?_
            refine V_iload_n hM.c 3 dX9_countFrom_26 rfl rfl ?_
            refine V_ishr hM.c dX9_countFrom_27 ?_
            refine V_iconst (v := 1) hM.c dX9_countFrom_28 (by decide) ?_
            refine V_iand hM.c dX9_countFrom_29 ?_
            refine V_if_ne hM.c 45 dX9_countFrom_30 (by decide) (fun c7 => ?_) (fun c7 => ?_)
            · replace h := ite_n h c7
              refine V_aload_n hM.c 0 dX9_countFrom_45 rfl rfl ?_
              refine V_aload_n hM.c 1 dX9_countFrom_46 rfl rfl ?_
              refine V_iload_n hM.c 2 dX9_countFrom_47 rfl rfl ?_
              refine V_iload_n hM.c 3 dX9_countFrom_48 rfl rfl ?_
              refine V_iconst (v := 1) hM.c dX9_countFrom_49 (by decide) ?_
              refine V_iadd hM.c dX9_countFrom_50 ?_
              refine V_iload hM.c 4 dX9_countFrom_51 rfl ?_
              refine V_aload_n hM.c 0 dX9_countFrom_53 rfl rfl ?_
              refine V_iload_n hM.c 3 dX9_countFrom_54 rfl rfl ?_
              replace h := grd_some h
              obtain ⟨z8, h⟩ := h
              replace h := grd_some h
              obtain ⟨c9, h⟩ := h
              refine V_iald hM.c z8 c9 dX9_countFrom_55 ?_
              refine V_iconst (v := -1) hM.c dX9_countFrom_56 (by decide) ?_
              refine V_ixor hM.c dX9_countFrom_57 ?_
              refine V_iand hM.c dX9_countFrom_58 ?_
              replace h := bnd_some h
              obtain ⟨r10, g11, e12, h⟩ := h
              refine V_callS (As := [va_rf (some x0), va_rf (some x1), .int x2, .int (x3 + (1 : Int32)), .int (x4 &&& ((gI g x0 x3.toNatClampNeg) ^^^ (-1 : Int32)))]) hM.c hM.a mq_X9_countFrom mi_X9_countFrom tw_500 (hM.d hdr) hM.z (hrec _ _ _ _ _ _ _ _ e12) rfl (Nat.le_of_ble_eq_true rfl) dX9_countFrom_59 ?_
              refine V_istore (L' := [(5, .int r10), (0, va_rf (some x0)), (1, va_rf (some x1)), (2, .int x2), (3, .int x3), (4, .int x4)]) hM.c dX9_countFrom_62 (by decide) rfl ?_
              refine V_iload hM.c 5 dX9_countFrom_64 rfl ?_
              refine V_aload_n hM.c 2 dX9_countFrom_66 rfl rfl ?_
              refine V_iload_n hM.c 4 dX9_countFrom_67 rfl rfl ?_
              replace h := grd_some h
              obtain ⟨z13, h⟩ := h
              replace h := grd_some h
              obtain ⟨c14, h⟩ := h
              refine V_iald hM.c z13 c14 dX9_countFrom_68 ?_
              refine V_iand hM.c dX9_countFrom_69 ?_
              refine V_if_eq hM.c 87 dX9_countFrom_70 (by decide) (fun c15 => ?_) (fun c15 => ?_)
              · replace h := ite_p h c15
                refine V_iload hM.c 5 dX9_countFrom_87 rfl ?_
                refine V_aload_n hM.c 1 dX9_countFrom_89 rfl rfl ?_
                refine V_iload_n hM.c 4 dX9_countFrom_90 rfl rfl ?_
                replace h := grd_some h
                obtain ⟨z16, h⟩ := h
                replace h := grd_some h
                obtain ⟨c17, h⟩ := h
                refine V_iald hM.c z16 c17 dX9_countFrom_91 ?_
                refine V_iand hM.c dX9_countFrom_92 ?_
                refine V_if_ne hM.c 101 dX9_countFrom_93 (by decide) (fun c18 => ?_) (fun c18 => ?_)
                · replace h := ite_n h c18
                  refine V_iload hM.c 0 dX9_countFrom_101 rfl ?_
                  refine V_aload_n hM.c 1 dX9_countFrom_103 rfl rfl ?_
                  refine V_aload_n hM.c 2 dX9_countFrom_104 rfl rfl ?_
                  refine V_iload_n hM.c 3 dX9_countFrom_105 rfl rfl ?_
                  refine V_iload_n hM.c 4 dX9_countFrom_106 rfl rfl ?_
                  refine V_iconst (v := 1) hM.c dX9_countFrom_107 (by decide) ?_
                  refine V_iadd hM.c dX9_countFrom_108 ?_
                  refine V_iload hM.c 5 dX9_countFrom_109 rfl ?_
                  replace h := bnd_some h
                  obtain ⟨r19, g20, e21, h⟩ := h
                  refine V_callS (As := [va_rf (some x0), va_rf (some x1), .int x2, .int (x3 + (1 : Int32)), .int x4]) hM.c hM.a mq_X9_countFrom mi_X9_countFrom tw_500 (hM.d hdr) hM.z (hrec _ _ _ _ _ _ _ _ e21) rfl (Nat.le_of_ble_eq_true rfl) dX9_countFrom_111 ?_
                  refine V_iadd hM.c dX9_countFrom_114 ?_
                  exact V_iretE hM h dX9_countFrom_115
                · replace h := ite_p h c18
                  refine V_iconst (v := 2) hM.c dX9_countFrom_96 (by decide) ?_
                  refine V_iload hM.c 0 dX9_countFrom_97 rfl ?_
                  refine V_imul hM.c dX9_countFrom_99 ?_
                  exact V_iretE hM h dX9_countFrom_100
              · replace h := ite_n h c15
                refine V_iload hM.c 0 dX9_countFrom_73 rfl ?_
                refine V_iconst (v := 1) hM.c dX9_countFrom_75 (by decide) ?_
                refine V_iload_n hM.c 3 dX9_countFrom_76 rfl rfl ?_
                refine V_iload_n hM.c 4 dX9_countFrom_77 rfl rfl ?_
                refine V_iconst (v := 1) hM.c dX9_countFrom_78 (by decide) ?_
                refine V_iadd hM.c dX9_countFrom_79 ?_
                refine V_ishr hM.c dX9_countFrom_80 ?_
                replace h := bnd_some h
                obtain ⟨r22, g23, e24, h⟩ := h
                refine V_callS (As := [.int (x2 >>> ((x3 + (1 : Int32)) &&& 31))]) hM.c hM.a mq_J6_bitCount_0f7a4 mi_J6_bitCount_0f7a4 tw_503 (hM.d (by omega)) hM.z (vm_J6_bitCount_0f7a4 e24) rfl (Nat.le_of_ble_eq_true rfl) dX9_countFrom_81 ?_
                refine V_ishl hM.c dX9_countFrom_84 ?_
                refine V_iadd hM.c dX9_countFrom_85 ?_
                exact V_iretE hM h dX9_countFrom_86
            · replace h := ite_p h c7
              refine V_aload_n hM.c 0 dX9_countFrom_33 rfl rfl ?_
              refine V_aload_n hM.c 1 dX9_countFrom_34 rfl rfl ?_
              refine V_iload_n hM.c 2 dX9_countFrom_35 rfl rfl ?_
              refine V_iload_n hM.c 3 dX9_countFrom_36 rfl rfl ?_
              refine V_iconst (v := 1) hM.c dX9_countFrom_37 (by decide) ?_
              refine V_iadd hM.c dX9_countFrom_38 ?_
              refine V_iload hM.c 4 dX9_countFrom_39 rfl ?_
              replace h := bnd_some h
              obtain ⟨r25, g26, e27, h⟩ := h
              refine V_callS (As := [va_rf (some x0), va_rf (some x1), .int x2, .int (x3 + (1 : Int32)), .int x4]) hM.c hM.a mq_X9_countFrom mi_X9_countFrom tw_500 (hM.d hdr) hM.z (hrec _ _ _ _ _ _ _ _ e27) rfl (Nat.le_of_ble_eq_true rfl) dX9_countFrom_41 ?_
              exact V_iretE hM h dX9_countFrom_44
          · replace h := ite_n h c6
            refine V_iconst (v := 0) hM.c dX9_countFrom_23 (by decide) ?_
            exact V_iretE hM h dX9_countFrom_24
def f_X9_countWorlds_l26 (n : Nat) (Z : Zt) (a : Nat) : Nat → Int32 → Int32 → Mem → Option (Int32 × Mem)
  | 0, _, _, _ => none
  | fu + 1, x1, x2, g => if (16 : Int32) ≤ x2 then (drf (zf Z a 1) (fun b3 => drf (zf Z a 2) (fun b5 => bnd (f_X9_union n Z a g) (fun r7 g8 => bnd (f_X9_countFrom n Z 40 b3 b5 r7 (0 : Int32) x1 g8) (fun r10 g11 => some (r10, g11)))))) else (drf (zf Z a 1) (fun b13 => bnd (f_X9_termsWith n Z a x2 (0 : Int32) g) (fun r15 g16 => grd (zk Z b13 = 12) (grd (inr x2 (zl Z b13)) (drf (zf Z a 2) (fun b20 => bnd (f_X9_termsWith n Z a x2 (1 : Int32) (sI g16 b13 x2.toNatClampNeg r15)) (fun r22 g23 => grd (zk Z b20 = 12) (grd (inr x2 (zl Z b20)) (f_X9_countWorlds_l26 n Z a fu x1 (x2 + 1) (sI g23 b20 x2.toNatClampNeg r22))))))))))
set_option maxHeartbeats 4000000 in
set_option maxRecDepth 100000 in
theorem vl_X9_countWorlds_l26 {x : Cq} {n : Nat} {Z : Zt} {a : Nat} {rr : Int32} {gg : Mem} (hM : Cm x cX9_countWorlds RX9 3 (some .int) 42 Z (some (.int rr)) gg) (hz0 : zk Z a = 8) : ∀ (fu : Nat) (x1 : Int32) (x2 : Int32) (g : Mem), f_X9_countWorlds_l26 n Z a fu x1 x2 g = some (rr, gg) → V x Z 0 0 26 [(0, va_rf (some a)), (1, .int x1), (2, .int x2)] [] g := by
  intro fu
  induction fu with
  | zero => intro x1 x2 g h; cases h
  | succ fu ih =>
    intro x1 x2 g h
    unfold f_X9_countWorlds_l26 at h
    refine V_iload_n hM.c 2 dX9_countWorlds_26 rfl rfl ?_
    refine V_bipush (v := 16) hM.c dX9_countWorlds_27 (by decide) ?_
    refine V_icmp_ge hM.c 62 dX9_countWorlds_29 (by decide) (fun c2 => ?_) (fun c2 => ?_)
    · replace h := ite_p h c2
      refine V_aload_n hM.c 0 dX9_countWorlds_62 rfl rfl ?_
      replace h := drf_some h
      obtain ⟨b3, e4, h⟩ := h
      refine G7_1 hM.c tw_490 hz0 e4 dX9_countWorlds_63 ?_
      refine V_aload_n hM.c 0 dX9_countWorlds_66 rfl rfl ?_
      replace h := drf_some h
      obtain ⟨b5, e6, h⟩ := h
      refine G7_2 hM.c tw_491 hz0 e6 dX9_countWorlds_67 ?_
      refine V_aload_n hM.c 0 dX9_countWorlds_70 rfl rfl ?_
      replace h := bnd_some h
      obtain ⟨r7, g8, e9, h⟩ := h
      refine V_callV (As := []) (c := 7) (T := TX9) (N := 4) hM.c hM.a mq_X9_union mi_X9_union tw_496 (hM.d (by decide)) hM.z rfl (by omega) (zc_X9_union e9) (vm_X9_union e9) rfl (Nat.le_of_ble_eq_true rfl) dX9_countWorlds_71 ?_
      refine V_iconst (v := 0) hM.c dX9_countWorlds_74 (by decide) ?_
      refine V_iload_n hM.c 1 dX9_countWorlds_75 rfl rfl ?_
      replace h := bnd_some h
      obtain ⟨r10, g11, e12, h⟩ := h
      refine V_callS (As := [va_rf (some b3), va_rf (some b5), .int r7, .int (0 : Int32), .int x1]) hM.c hM.a mq_X9_countFrom mi_X9_countFrom tw_500 (hM.d (by decide)) hM.z (vm_X9_countFrom 40 _ _ _ _ _ _ _ _ e12) rfl (Nat.le_of_ble_eq_true rfl) dX9_countWorlds_76 ?_
      exact V_iretE hM h dX9_countWorlds_79
    · replace h := ite_n h c2
      refine V_aload_n hM.c 0 dX9_countWorlds_32 rfl rfl ?_
      replace h := drf_some h
      obtain ⟨b13, e14, h⟩ := h
      refine G7_1 hM.c tw_490 hz0 e14 dX9_countWorlds_33 ?_
      refine V_iload_n hM.c 2 dX9_countWorlds_36 rfl rfl ?_
      refine V_aload_n hM.c 0 dX9_countWorlds_37 rfl rfl ?_
      refine V_iload_n hM.c 2 dX9_countWorlds_38 rfl rfl ?_
      refine V_iconst (v := 0) hM.c dX9_countWorlds_39 (by decide) ?_
      replace h := bnd_some h
      obtain ⟨r15, g16, e17, h⟩ := h
      refine V_callV (As := [.int x2, .int (0 : Int32)]) (c := 7) (T := TX9) (N := 4) hM.c hM.a mq_X9_termsWith mi_X9_termsWith tw_492 (hM.d (by decide)) hM.z rfl (by omega) (zc_X9_termsWith e17) (vm_X9_termsWith e17) rfl (Nat.le_of_ble_eq_true rfl) dX9_countWorlds_40 ?_
      replace h := grd_some h
      obtain ⟨z18, h⟩ := h
      replace h := grd_some h
      obtain ⟨c19, h⟩ := h
      refine V_iast hM.c z18 c19 hM.a dX9_countWorlds_43 ?_
      refine V_aload_n hM.c 0 dX9_countWorlds_44 rfl rfl ?_
      replace h := drf_some h
      obtain ⟨b20, e21, h⟩ := h
      refine G7_2 hM.c tw_491 hz0 e21 dX9_countWorlds_45 ?_
      refine V_iload_n hM.c 2 dX9_countWorlds_48 rfl rfl ?_
      refine V_aload_n hM.c 0 dX9_countWorlds_49 rfl rfl ?_
      refine V_iload_n hM.c 2 dX9_countWorlds_50 rfl rfl ?_
      refine V_iconst (v := 1) hM.c dX9_countWorlds_51 (by decide) ?_
      replace h := bnd_some h
      obtain ⟨r22, g23, e24, h⟩ := h
      refine V_callV (As := [.int x2, .int (1 : Int32)]) (c := 7) (T := TX9) (N := 4) hM.c hM.a mq_X9_termsWith mi_X9_termsWith tw_492 (hM.d (by decide)) hM.z rfl (by omega) (zc_X9_termsWith e24) (vm_X9_termsWith e24) rfl (Nat.le_of_ble_eq_true rfl) dX9_countWorlds_52 ?_
      replace h := grd_some h
      obtain ⟨z25, h⟩ := h
      replace h := grd_some h
      obtain ⟨c26, h⟩ := h
      refine V_iast hM.c z25 c26 hM.a dX9_countWorlds_55 ?_
      refine V_iinc (v := (x2 + 1)) (L' := [(2, .int (x2 + 1)), (0, va_rf (some a)), (1, .int x1)]) hM.c 2 dX9_countWorlds_56 rfl rfl (by decide) rfl ?_
      refine V_goto hM.c 26 dX9_countWorlds_59 (by decide) ?_
      refine V_sub [1, 2, 0] rfl ?_
      exact ih _ _ _ h
def f_X9_countWorlds_l4 (n : Nat) (Z : Zt) (a : Nat) : Nat → Int32 → Int32 → Mem → Option (Int32 × Mem)
  | 0, _, _, _ => none
  | fu + 1, x1, x2, g => if (gI g a 3) ≤ x2 then (f_X9_countWorlds_l26 n Z a n x1 (0 : Int32) g) else (f_X9_countWorlds_l4 n Z a fu (x1 ||| ((1 : Int32) <<< (x2 &&& 31))) (x2 + 1) g)
set_option maxHeartbeats 4000000 in
set_option maxRecDepth 100000 in
theorem vl_X9_countWorlds_l4 {x : Cq} {n : Nat} {Z : Zt} {a : Nat} {rr : Int32} {gg : Mem} (hM : Cm x cX9_countWorlds RX9 3 (some .int) 42 Z (some (.int rr)) gg) (hz0 : zk Z a = 8) : ∀ (fu : Nat) (x1 : Int32) (x2 : Int32) (g : Mem), f_X9_countWorlds_l4 n Z a fu x1 x2 g = some (rr, gg) → V x Z 0 0 4 [(0, va_rf (some a)), (1, .int x1), (2, .int x2)] [] g := by
  intro fu
  induction fu with
  | zero => intro x1 x2 g h; cases h
  | succ fu ih =>
    intro x1 x2 g h
    unfold f_X9_countWorlds_l4 at h
    refine V_iload_n hM.c 2 dX9_countWorlds_4 rfl rfl ?_
    refine V_aload_n hM.c 0 dX9_countWorlds_5 rfl rfl ?_
    refine G7_3 hM.c tw_481 hz0 dX9_countWorlds_6 ?_
    refine V_icmp_ge hM.c 24 dX9_countWorlds_9 (by decide) (fun c1 => ?_) (fun c1 => ?_)
    · replace h := ite_p h c1
      refine V_iconst (v := 0) hM.c dX9_countWorlds_24 (by decide) ?_
      refine V_istore_n (i := 2) (L' := [(2, .int (0 : Int32)), (0, va_rf (some a)), (1, .int x1)]) hM.c dX9_countWorlds_25 rfl (by decide) rfl ?_
      refine V_sub [1, 2, 0] rfl ?_
      exact vl_X9_countWorlds_l26 hM hz0  _ _ _ _ h
    · replace h := ite_n h c1
      refine V_iload_n hM.c 1 dX9_countWorlds_12 rfl rfl ?_
      refine V_iconst (v := 1) hM.c dX9_countWorlds_13 (by decide) ?_
      refine V_iload_n hM.c 2 dX9_countWorlds_14 rfl rfl ?_
      refine V_ishl hM.c dX9_countWorlds_15 ?_
      refine V_ior hM.c dX9_countWorlds_16 ?_
      refine V_istore_n (i := 1) (L' := [(1, .int (x1 ||| ((1 : Int32) <<< (x2 &&& 31)))), (0, va_rf (some a)), (2, .int x2)]) hM.c dX9_countWorlds_17 rfl (by decide) rfl ?_
      refine V_iinc (v := (x2 + 1)) (L' := [(2, .int (x2 + 1)), (1, .int (x1 ||| ((1 : Int32) <<< (x2 &&& 31)))), (0, va_rf (some a))]) hM.c 2 dX9_countWorlds_18 rfl rfl (by decide) rfl ?_
      refine V_goto hM.c 4 dX9_countWorlds_21 (by decide) ?_
      refine V_sub [2, 1, 0] rfl ?_
      exact ih _ _ _ h
def f_X9_countWorlds (n : Nat) (Z : Zt) (a : Nat) (g : Mem) : Option (Int32 × Mem) := grd (zk Z a = 8) (f_X9_countWorlds_l4 n Z a n (0 : Int32) (0 : Int32) g)
theorem mq_X9_countWorlds : Mq yX9_countWorlds cX9_countWorlds 3 (some .int) 0 := ⟨tw_489, tw_478, ⟨by decide +kernel, by decide +kernel, by decide +kernel⟩, by decide⟩
theorem mi_X9_countWorlds : Cond.instanceMethod yX9_countWorlds ∈ TB ∧ Cond.selects yX9_countWorlds.cls yX9_countWorlds yX9_countWorlds ∈ TB := ⟨tw_487, tw_488⟩
theorem zc_X9_countWorlds {n : Nat} {Z : Zt} {a : Nat} {g : Mem} {q : Int32 × Mem} (h : f_X9_countWorlds n Z a g = some q) : zk Z a = 8 := (grd_some h).1
set_option maxHeartbeats 4000000 in
set_option maxRecDepth 100000 in
theorem vm_X9_countWorlds {n : Nat} {Z : Zt} {a : Nat} {g : Mem} {rr : Int32} {gg : Mem} (h : f_X9_countWorlds n Z a g = some (rr, gg)) : VM yX9_countWorlds cX9_countWorlds 3 (some .int) 42 [.ref a] Z g (some (.int rr)) gg := by
  unfold f_X9_countWorlds at h
  replace h := grd_some h
  obtain ⟨hz0, h⟩ := h
  refine VM.of (by decide +kernel) (Nat.le_of_ble_eq_true rfl) (fun x hM => ?_)
  have hM : Cm x cX9_countWorlds RX9 3 (some .int) 42 Z (some (.int rr)) gg := hM
  show V x Z 0 0 0 [(0, va_rf (some a))] [] g
  refine V_iconst (v := 0) hM.c dX9_countWorlds_0 (by decide) ?_
  refine V_istore_n (i := 1) (L' := [(1, .int (0 : Int32)), (0, va_rf (some a))]) hM.c dX9_countWorlds_1 rfl (by decide) rfl ?_
  refine V_iconst (v := 0) hM.c dX9_countWorlds_2 (by decide) ?_
  refine V_istore_n (i := 2) (L' := [(2, .int (0 : Int32)), (1, .int (0 : Int32)), (0, va_rf (some a))]) hM.c dX9_countWorlds_3 rfl (by decide) rfl ?_
  refine V_sub [2, 1, 0] rfl ?_
  exact vl_X9_countWorlds_l4 hM hz0  _ _ _ _ h
def f_X10_worlds (n : Nat) (Z : Zt) (a : Nat) (x1 : Int32) (g : Mem) : Option (Int32 × Mem) := grd (zk Z a = 9) (drf (zf Z a 7) (fun b1 => bnd (f_X0_answer n Z b1 g) (fun r3 g4 => drf r3 (fun b6 => bnd (f_X7_polynomialAt n Z b6 x1 g4) (fun r8 g9 => if r8 = none then (some ((-1 : Int32), g9)) else (drf (zf Z a 9) (fun b12 => drf r8 (fun b14 => bnd (f_X9_setTo n Z b12 b14 g9) (fun r16 g17 => drf (zf Z a 9) (fun b19 => bnd (f_X9_countWorlds n Z b19 g17) (fun r21 g22 => some (r21, g22))))))))))))
theorem mq_X10_worlds : Mq yX10_worlds cX10_worlds 3 (some .int) 1 := ⟨tw_473, tw_5, ⟨by decide +kernel, by decide +kernel, by decide +kernel⟩, by decide⟩
theorem mi_X10_worlds : Cond.instanceMethod yX10_worlds ∈ TB ∧ Cond.selects yX10_worlds.cls yX10_worlds yX10_worlds ∈ TB := ⟨tw_471, tw_472⟩
theorem zc_X10_worlds {n : Nat} {Z : Zt} {a : Nat} {x1 : Int32} {g : Mem} {q : Int32 × Mem} (h : f_X10_worlds n Z a x1 g = some q) : zk Z a = 9 := (grd_some h).1
set_option maxHeartbeats 4000000 in
set_option maxRecDepth 100000 in
theorem vm_X10_worlds {n : Nat} {Z : Zt} {a : Nat} {x1 : Int32} {g : Mem} {rr : Int32} {gg : Mem} (h : f_X10_worlds n Z a x1 g = some (rr, gg)) : VM yX10_worlds cX10_worlds 3 (some .int) 43 [.ref a, .int x1] Z g (some (.int rr)) gg := by
  unfold f_X10_worlds at h
  replace h := grd_some h
  obtain ⟨hz0, h⟩ := h
  refine VM.of (by decide +kernel) (Nat.le_of_ble_eq_true rfl) (fun x hM => ?_)
  have hM : Cm x cX10_worlds RX10 3 (some .int) 43 Z (some (.int rr)) gg := hM
  show V x Z 0 0 0 [(0, va_rf (some a)), (1, .int x1)] [] g
  refine V_aload_n hM.c 0 dX10_worlds_0 rfl rfl ?_
  replace h := drf_some h
  obtain ⟨b1, e2, h⟩ := h
  refine G8_7 hM.c tw_100 hz0 e2 dX10_worlds_1 ?_
  replace h := bnd_some h
  obtain ⟨r3, g4, e5, h⟩ := h
  refine V_callV (As := []) (c := 0) (T := TX0) (N := 4) hM.c hM.a mq_X0_answer mi_X0_answer tw_101 (hM.d (by decide)) hM.z rfl (by omega) (zc_X0_answer e5) (vm_X0_answer e5) rfl (Nat.le_of_ble_eq_true rfl) dX10_worlds_4 ?_
  refine V_iload_n hM.c 1 dX10_worlds_7 rfl rfl ?_
  replace h := drf_some h
  obtain ⟨b6, rfl, h⟩ := h
  replace h := bnd_some h
  obtain ⟨r8, g9, e10, h⟩ := h
  refine V_callV (As := [.int x1]) (c := 5) (T := TX7) (N := 4) hM.c hM.a mq_X7_polynomialAt mi_X7_polynomialAt tw_140 (hM.d (by decide)) hM.z rfl (by omega) (zc_X7_polynomialAt e10) (vm_X7_polynomialAt e10) rfl (Nat.le_of_ble_eq_true rfl) dX10_worlds_8 ?_
  refine V_astore_n (i := 2) (L' := [(2, va_rf r8), (0, va_rf (some a)), (1, .int x1)]) hM.c dX10_worlds_11 rfl (by decide) rfl ?_
  refine V_aload_n hM.c 0 dX10_worlds_12 rfl rfl ?_
  refine V_ifnonnull hM.c 18 dX10_worlds_13 (by decide) (fun c11 => ?_) (fun c11 => ?_)
  · replace h := ite_n h c11
    refine V_aload_n hM.c 1 dX10_worlds_18 rfl rfl ?_
    replace h := drf_some h
    obtain ⟨b12, e13, h⟩ := h
    refine G8_9 hM.c tw_474 hz0 e13 dX10_worlds_19 ?_
    refine V_aload_n hM.c 0 dX10_worlds_22 rfl rfl ?_
    replace h := drf_some h
    obtain ⟨b14, rfl, h⟩ := h
    replace h := bnd_some h
    obtain ⟨r16, g17, e18, h⟩ := h
    refine V_callV (As := [va_rf (some b14)]) (c := 7) (T := TX9) (N := 4) hM.c hM.a mq_X9_setTo mi_X9_setTo tw_475 (hM.d (by decide)) hM.z rfl (by omega) (zc_X9_setTo e18) (vm_X9_setTo e18) rfl (Nat.le_of_ble_eq_true rfl) dX10_worlds_23 ?_
    refine V_aload_n hM.c 1 dX10_worlds_26 rfl rfl ?_
    replace h := drf_some h
    obtain ⟨b19, e20, h⟩ := h
    refine G8_9 hM.c tw_474 hz0 e20 dX10_worlds_27 ?_
    replace h := bnd_some h
    obtain ⟨r21, g22, e23, h⟩ := h
    refine V_callV (As := []) (c := 7) (T := TX9) (N := 4) hM.c hM.a mq_X9_countWorlds mi_X9_countWorlds tw_486 (hM.d (by decide)) hM.z rfl (by omega) (zc_X9_countWorlds e23) (vm_X9_countWorlds e23) rfl (Nat.le_of_ble_eq_true rfl) dX10_worlds_30 ?_
    exact V_iretE hM h dX10_worlds_33
  · replace h := ite_p h c11
    refine V_iconst (v := -1) hM.c dX10_worlds_16 (by decide) ?_
    exact V_iretE hM h dX10_worlds_17
def f_X10_lostIf (n : Nat) (Z : Zt) (a : Nat) (x1 : Int32) (g : Mem) : Option (Int32 × Mem) := grd (zk Z a = 9) (if x1 < 0 then (some ((-2 : Int32), g)) else (drf (zf Z a 0) (fun b2 => bnd (f_X8_tagMask n Z b2 g) (fun r4 g5 => if (x1 &&& (r4 ^^^ (-1 : Int32))) = 0 then (drf (zf Z a 7) (fun b8 => bnd (f_X0_answer n Z b8 g5) (fun r10 g11 => drf (zf Z a 0) (fun b13 => bnd (f_X8_withdrawnMask n Z b13 g11) (fun r15 g16 => drf r10 (fun b18 => bnd (f_X7_countPresent n Z b18 r15 g16) (fun r20 g21 => bnd (f_X7_countPresent n Z b18 (r15 ||| x1) g21) (fun r23 g24 => some ((r20 - r23), g24))))))))) else (some ((-2 : Int32), g5))))))
theorem mq_X10_lostIf : Mq yX10_lostIf cX10_lostIf 4 (some .int) 1 := ⟨tw_1612, tw_5, ⟨by decide +kernel, by decide +kernel, by decide +kernel⟩, by decide⟩
theorem mi_X10_lostIf : Cond.instanceMethod yX10_lostIf ∈ TB ∧ Cond.selects yX10_lostIf.cls yX10_lostIf yX10_lostIf ∈ TB := ⟨tw_1610, tw_1611⟩
theorem zc_X10_lostIf {n : Nat} {Z : Zt} {a : Nat} {x1 : Int32} {g : Mem} {q : Int32 × Mem} (h : f_X10_lostIf n Z a x1 g = some q) : zk Z a = 9 := (grd_some h).1
set_option maxHeartbeats 4000000 in
set_option maxRecDepth 100000 in
theorem vm_X10_lostIf {n : Nat} {Z : Zt} {a : Nat} {x1 : Int32} {g : Mem} {rr : Int32} {gg : Mem} (h : f_X10_lostIf n Z a x1 g = some (rr, gg)) : VM yX10_lostIf cX10_lostIf 4 (some .int) 4 [.ref a, .int x1] Z g (some (.int rr)) gg := by
  unfold f_X10_lostIf at h
  replace h := grd_some h
  obtain ⟨hz0, h⟩ := h
  refine VM.of (by decide +kernel) (Nat.le_of_ble_eq_true rfl) (fun x hM => ?_)
  have hM : Cm x cX10_lostIf RX10 4 (some .int) 4 Z (some (.int rr)) gg := hM
  show V x Z 0 0 0 [(0, va_rf (some a)), (1, .int x1)] [] g
  refine V_iload_n hM.c 1 dX10_lostIf_0 rfl rfl ?_
  refine V_if_lt hM.c 18 dX10_lostIf_1 (by decide) (fun c1 => ?_) (fun c1 => ?_)
  · replace h := ite_p h c1
    refine V_bipush (v := -2) hM.c dX10_lostIf_18 (by decide) ?_
    exact V_iretE hM h dX10_lostIf_20
  · replace h := ite_n h c1
    refine V_iload_n hM.c 1 dX10_lostIf_4 rfl rfl ?_
    refine V_aload_n hM.c 0 dX10_lostIf_5 rfl rfl ?_
    replace h := drf_some h
    obtain ⟨b2, e3, h⟩ := h
    refine G8_0 hM.c tw_7 hz0 e3 dX10_lostIf_6 ?_
    replace h := bnd_some h
    obtain ⟨r4, g5, e6, h⟩ := h
    refine V_callV (As := []) (c := 6) (T := TX8) (N := 8) hM.c hM.a mq_X8_tagMask mi_X8_tagMask tw_263 (hM.d (by decide)) hM.z rfl (by omega) (zc_X8_tagMask e6) (vm_X8_tagMask e6) rfl (Nat.le_of_ble_eq_true rfl) dX10_lostIf_9 ?_
    refine V_iconst (v := -1) hM.c dX10_lostIf_12 (by decide) ?_
    refine V_ixor hM.c dX10_lostIf_13 ?_
    refine V_iand hM.c dX10_lostIf_14 ?_
    refine V_if_eq hM.c 21 dX10_lostIf_15 (by decide) (fun c7 => ?_) (fun c7 => ?_)
    · replace h := ite_p h c7
      refine V_aload_n hM.c 0 dX10_lostIf_21 rfl rfl ?_
      replace h := drf_some h
      obtain ⟨b8, e9, h⟩ := h
      refine G8_7 hM.c tw_100 hz0 e9 dX10_lostIf_22 ?_
      replace h := bnd_some h
      obtain ⟨r10, g11, e12, h⟩ := h
      refine V_callV (As := []) (c := 0) (T := TX0) (N := 4) hM.c hM.a mq_X0_answer mi_X0_answer tw_101 (hM.d (by decide)) hM.z rfl (by omega) (zc_X0_answer e12) (vm_X0_answer e12) rfl (Nat.le_of_ble_eq_true rfl) dX10_lostIf_25 ?_
      refine V_astore_n (i := 2) (L' := [(2, va_rf r10), (0, va_rf (some a)), (1, .int x1)]) hM.c dX10_lostIf_28 rfl (by decide) rfl ?_
      refine V_aload_n hM.c 1 dX10_lostIf_29 rfl rfl ?_
      replace h := drf_some h
      obtain ⟨b13, e14, h⟩ := h
      refine G8_0 hM.c tw_7 hz0 e14 dX10_lostIf_30 ?_
      replace h := bnd_some h
      obtain ⟨r15, g16, e17, h⟩ := h
      refine V_callV (As := []) (c := 6) (T := TX8) (N := 8) hM.c hM.a mq_X8_withdrawnMask mi_X8_withdrawnMask tw_67 (hM.d (by decide)) hM.z rfl (by omega) (zc_X8_withdrawnMask e17) (vm_X8_withdrawnMask e17) rfl (Nat.le_of_ble_eq_true rfl) dX10_lostIf_33 ?_
      refine V_istore_n (i := 3) (L' := [(3, .int r15), (2, va_rf r10), (0, va_rf (some a)), (1, .int x1)]) hM.c dX10_lostIf_36 rfl (by decide) (by simp [rf_cat, cat_i, cat_l]) ?_
      refine V_aload_n hM.c 1 dX10_lostIf_37 rfl rfl ?_
      refine V_iload_n hM.c 0 dX10_lostIf_38 rfl rfl ?_
      replace h := drf_some h
      obtain ⟨b18, rfl, h⟩ := h
      replace h := bnd_some h
      obtain ⟨r20, g21, e22, h⟩ := h
      refine V_callV (As := [.int r15]) (c := 5) (T := TX7) (N := 4) hM.c hM.a mq_X7_countPresent mi_X7_countPresent tw_1613 (hM.d (by decide)) hM.z rfl (by omega) (zc_X7_countPresent e22) (vm_X7_countPresent e22) rfl (Nat.le_of_ble_eq_true rfl) dX10_lostIf_39 ?_
      refine V_aload_n hM.c 1 dX10_lostIf_42 rfl rfl ?_
      refine V_iload_n hM.c 0 dX10_lostIf_43 rfl rfl ?_
      refine V_iload_n hM.c 3 dX10_lostIf_44 rfl rfl ?_
      refine V_ior hM.c dX10_lostIf_45 ?_
      replace h := bnd_some h
      obtain ⟨r23, g24, e25, h⟩ := h
      refine V_callV (As := [.int (r15 ||| x1)]) (c := 5) (T := TX7) (N := 4) hM.c hM.a mq_X7_countPresent mi_X7_countPresent tw_1613 (hM.d (by decide)) hM.z rfl (by omega) (zc_X7_countPresent e25) (vm_X7_countPresent e25) rfl (Nat.le_of_ble_eq_true rfl) dX10_lostIf_46 ?_
      refine V_isub hM.c dX10_lostIf_49 ?_
      exact V_iretE hM h dX10_lostIf_50
    · replace h := ite_n h c7
      refine V_bipush (v := -2) hM.c dX10_lostIf_18 (by decide) ?_
      exact V_iretE hM h dX10_lostIf_20

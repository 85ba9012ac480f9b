def f_X11_in (n : Nat) (Z : Zt) (x0 : Int32) (x1 : Int32) (x2 : Int32) (g : Mem) : Option (Int32 × Mem) := if x0 < x1 then (some ((0 : Int32), g)) else (if x2 < x0 then (some ((0 : Int32), g)) else (some ((1 : Int32), g)))
theorem mq_X11_in : Mq yX11_in cX11_in 3 (some .boolean) 3 := ⟨tw_214, tw_5, ⟨by decide +kernel, by decide +kernel, by decide +kernel⟩, by decide⟩
theorem mi_X11_in : Cond.static yX11_in ∈ TB := tw_213
set_option maxHeartbeats 4000000 in
set_option maxRecDepth 100000 in
theorem vm_X11_in {n : Nat} {Z : Zt} {x0 : Int32} {x1 : Int32} {x2 : Int32} {g : Mem} {rr : Int32} {gg : Mem} (h : f_X11_in n Z x0 x1 x2 g = some (rr, gg)) : VM yX11_in cX11_in 3 (some .boolean) 0 [.int x0, .int x1, .int x2] Z g (some (.int rr)) gg := by
  unfold f_X11_in at h
  refine VM.of (by decide +kernel) (Nat.le_of_ble_eq_true rfl) (fun x hM => ?_)
  have hM : Cm x cX11_in RX11 3 (some .boolean) 0 Z (some (.int rr)) gg := hM
  show V x Z 0 0 0 [(0, .int x0), (1, .int x1), (2, .int x2)] [] g
  refine V_iload_n hM.c 0 dX11_in_0 rfl rfl ?_
  refine V_iload_n hM.c 1 dX11_in_1 rfl rfl ?_
  refine V_icmp_lt hM.c 14 dX11_in_2 (by decide) (fun c1 => ?_) (fun c1 => ?_)
  · replace h := ite_p h c1
    refine V_iconst (v := 0) hM.c dX11_in_14 (by decide) ?_
    exact V_zretE hM (isz_nar (by decide)) h dX11_in_15
  · replace h := ite_n h c1
    refine V_iload_n hM.c 0 dX11_in_5 rfl rfl ?_
    refine V_iload_n hM.c 2 dX11_in_6 rfl rfl ?_
    refine V_icmp_gt hM.c 14 dX11_in_7 (by decide) (fun c2 => ?_) (fun c2 => ?_)
    · replace h := ite_p h c2
      refine V_iconst (v := 0) hM.c dX11_in_14 (by decide) ?_
      exact V_zretE hM (isz_nar (by decide)) h dX11_in_15
    · replace h := ite_n h c2
      refine V_iconst (v := 1) hM.c dX11_in_10 (by decide) ?_
      refine V_goto hM.c 15 dX11_in_11 (by decide) ?_
      exact V_zretE hM (isz_nar (by decide)) h dX11_in_15
def f_X11_records_l51 (n : Nat) (Z : Zt) (a : Nat) : Nat → Int32 → Mem → Option (Unit × Mem)
  | 0, _, _ => none
  | fu + 1, x1, g => if (145 : Int32) ≤ x1 then (some ((), (sI (sI g a 2 ((gI g a 2) + (1 : Int32))) a 26 (0 : Int32)))) else (drf (zf Z a 1) (fun b3 => drf (zf Z a 0) (fun b5 => grd (zk Z b5 = 12) (grd (inr x1 (zl Z b5)) (grd (zk Z b3 = 12) (grd (inr (((145 : Int32) * (gI g a 2)) + x1) (zl Z b3)) (f_X11_records_l51 n Z a fu (x1 + 1) (sI g b3 (((145 : Int32) * (gI g a 2)) + x1).toNatClampNeg (gI g b5 x1.toNatClampNeg)))))))))
set_option maxHeartbeats 4000000 in
set_option maxRecDepth 100000 in
theorem vl_X11_records_l51 {x : Cq} {n : Nat} {Z : Zt} {a : Nat} {rr : Unit} {gg : Mem} (hM : Cm x cX11_records RX11 2 none 0 Z none gg) (hz0 : zk Z a = 10) : ∀ (fu : Nat) (x1 : Int32) (g : Mem), f_X11_records_l51 n Z a fu x1 g = some (rr, gg) → V x Z 0 0 51 [(0, va_rf (some a)), (1, .int x1)] [] g := by
  intro fu
  induction fu with
  | zero => intro x1 g h; cases h
  | succ fu ih =>
    intro x1 g h
    unfold f_X11_records_l51 at h
    refine V_iload_n hM.c 1 dX11_records_51 rfl rfl ?_
    refine V_sipush (v := 145) hM.c dX11_records_52 (by decide) ?_
    refine V_icmp_ge hM.c 85 dX11_records_55 (by decide) (fun c2 => ?_) (fun c2 => ?_)
    · replace h := ite_p h c2
      refine V_aload_n hM.c 0 dX11_records_85 rfl rfl ?_
      refine V_dup hM.c dX11_records_86 (rf_cat _) ?_
      refine G9_2 hM.c tw_231 hz0 dX11_records_87 ?_
      refine V_iconst (v := 1) hM.c dX11_records_90 (by decide) ?_
      refine V_iadd hM.c dX11_records_91 ?_
      refine P9_2 hM.c tw_231 hz0 hM.a dX11_records_92 ?_
      refine V_aload_n hM.c 0 dX11_records_95 rfl rfl ?_
      refine V_iconst (v := 0) hM.c dX11_records_96 (by decide) ?_
      refine P9_26 hM.c tw_232 hz0 (by decide) hM.a dX11_records_97 ?_
      exact V_vretE hM h dX11_records_100
    · replace h := ite_n h c2
      refine V_aload_n hM.c 0 dX11_records_58 rfl rfl ?_
      replace h := drf_some h
      obtain ⟨b3, e4, h⟩ := h
      refine G9_1 hM.c tw_115 hz0 e4 dX11_records_59 ?_
      refine V_sipush (v := 145) hM.c dX11_records_62 (by decide) ?_
      refine V_aload_n hM.c 0 dX11_records_65 rfl rfl ?_
      refine G9_2 hM.c tw_231 hz0 dX11_records_66 ?_
      refine V_imul hM.c dX11_records_69 ?_
      refine V_iload_n hM.c 1 dX11_records_70 rfl rfl ?_
      refine V_iadd hM.c dX11_records_71 ?_
      refine V_aload_n hM.c 0 dX11_records_72 rfl rfl ?_
      replace h := drf_some h
      obtain ⟨b5, e6, h⟩ := h
      refine G9_0 hM.c tw_114 hz0 e6 dX11_records_73 ?_
      refine V_iload_n hM.c 1 dX11_records_76 rfl rfl ?_
      replace h := grd_some h
      obtain ⟨z7, h⟩ := h
      replace h := grd_some h
      obtain ⟨c8, h⟩ := h
      refine V_iald hM.c z7 c8 dX11_records_77 ?_
      replace h := grd_some h
      obtain ⟨z9, h⟩ := h
      replace h := grd_some h
      obtain ⟨c10, h⟩ := h
      refine V_iast hM.c z9 c10 hM.a dX11_records_78 ?_
      refine V_iinc (v := (x1 + 1)) (L' := [(1, .int (x1 + 1)), (0, va_rf (some a))]) hM.c 1 dX11_records_79 rfl rfl (by decide) rfl ?_
      refine V_goto hM.c 51 dX11_records_82 (by decide) ?_
      refine V_sub [1, 0] rfl ?_
      exact ih _ _ h
def f_X11_records_l10 (n : Nat) (Z : Zt) (a : Nat) : Nat → Int32 → Mem → Option (Unit × Mem)
  | 0, _, _ => none
  | fu + 1, x1, g => if (435 : Int32) ≤ x1 then (f_X11_records_l51 n Z a n (0 : Int32) (sI g a 2 ((gI g a 2) - (1 : Int32)))) else (drf (zf Z a 1) (fun b12 => drf (zf Z a 1) (fun b14 => grd (zk Z b14 = 12) (grd (inr (x1 + (145 : Int32)) (zl Z b14)) (grd (zk Z b12 = 12) (grd (inr x1 (zl Z b12)) (f_X11_records_l10 n Z a fu (x1 + 1) (sI g b12 x1.toNatClampNeg (gI g b14 (x1 + (145 : Int32)).toNatClampNeg)))))))))
set_option maxHeartbeats 4000000 in
set_option maxRecDepth 100000 in
theorem vl_X11_records_l10 {x : Cq} {n : Nat} {Z : Zt} {a : Nat} {rr : Unit} {gg : Mem} (hM : Cm x cX11_records RX11 2 none 0 Z none gg) (hz0 : zk Z a = 10) : ∀ (fu : Nat) (x1 : Int32) (g : Mem), f_X11_records_l10 n Z a fu x1 g = some (rr, gg) → V x Z 0 0 10 [(0, va_rf (some a)), (1, .int x1)] [] g := by
  intro fu
  induction fu with
  | zero => intro x1 g h; cases h
  | succ fu ih =>
    intro x1 g h
    unfold f_X11_records_l10 at h
    refine V_iload_n hM.c 1 dX11_records_10 rfl rfl ?_
    refine V_sipush (v := 435) hM.c dX11_records_11 (by decide) ?_
    refine V_icmp_ge hM.c 39 dX11_records_14 (by decide) (fun c11 => ?_) (fun c11 => ?_)
    · replace h := ite_p h c11
      refine V_aload_n hM.c 0 dX11_records_39 rfl rfl ?_
      refine V_dup hM.c dX11_records_40 (rf_cat _) ?_
      refine G9_2 hM.c tw_231 hz0 dX11_records_41 ?_
      refine V_iconst (v := 1) hM.c dX11_records_44 (by decide) ?_
      refine V_isub hM.c dX11_records_45 ?_
      refine P9_2 hM.c tw_231 hz0 hM.a dX11_records_46 ?_
      refine V_iconst (v := 0) hM.c dX11_records_49 (by decide) ?_
      refine V_istore_n (i := 1) (L' := [(1, .int (0 : Int32)), (0, va_rf (some a))]) hM.c dX11_records_50 rfl (by decide) rfl ?_
      refine V_sub [1, 0] rfl ?_
      exact vl_X11_records_l51 hM hz0  _ _ _ h
    · replace h := ite_n h c11
      refine V_aload_n hM.c 0 dX11_records_17 rfl rfl ?_
      replace h := drf_some h
      obtain ⟨b12, e13, h⟩ := h
      refine G9_1 hM.c tw_115 hz0 e13 dX11_records_18 ?_
      refine V_iload_n hM.c 1 dX11_records_21 rfl rfl ?_
      refine V_aload_n hM.c 0 dX11_records_22 rfl rfl ?_
      replace h := drf_some h
      obtain ⟨b14, e15, h⟩ := h
      refine G9_1 hM.c tw_115 hz0 e15 dX11_records_23 ?_
      refine V_iload_n hM.c 1 dX11_records_26 rfl rfl ?_
      refine V_sipush (v := 145) hM.c dX11_records_27 (by decide) ?_
      refine V_iadd hM.c dX11_records_30 ?_
      replace h := grd_some h
      obtain ⟨z16, h⟩ := h
      replace h := grd_some h
      obtain ⟨c17, h⟩ := h
      refine V_iald hM.c z16 c17 dX11_records_31 ?_
      replace h := grd_some h
      obtain ⟨z18, h⟩ := h
      replace h := grd_some h
      obtain ⟨c19, h⟩ := h
      refine V_iast hM.c z18 c19 hM.a dX11_records_32 ?_
      refine V_iinc (v := (x1 + 1)) (L' := [(1, .int (x1 + 1)), (0, va_rf (some a))]) hM.c 1 dX11_records_33 rfl rfl (by decide) rfl ?_
      refine V_goto hM.c 10 dX11_records_36 (by decide) ?_
      refine V_sub [1, 0] rfl ?_
      exact ih _ _ h
def f_X11_records (n : Nat) (Z : Zt) (a : Nat) (g : Mem) : Option (Unit × Mem) := grd (zk Z a = 10) (if (gI g a 2) = (4 : Int32) then (f_X11_records_l10 n Z a n (0 : Int32) g) else (f_X11_records_l51 n Z a n (0 : Int32) g))
theorem mq_X11_records : Mq yX11_records cX11_records 2 none 0 := ⟨tw_230, tw_5, ⟨by decide +kernel, by decide +kernel, by decide +kernel⟩, by decide⟩
theorem mi_X11_records : Cond.instanceMethod yX11_records ∈ TB ∧ Cond.selects yX11_records.cls yX11_records yX11_records ∈ TB := ⟨tw_228, tw_229⟩
theorem zc_X11_records {n : Nat} {Z : Zt} {a : Nat} {g : Mem} {q : Unit × Mem} (h : f_X11_records n Z a g = some q) : zk Z a = 10 := (grd_some h).1
set_option maxHeartbeats 4000000 in
set_option maxRecDepth 100000 in
theorem vm_X11_records {n : Nat} {Z : Zt} {a : Nat} {g : Mem} {rr : Unit} {gg : Mem} (h : f_X11_records n Z a g = some (rr, gg)) : VM yX11_records cX11_records 2 none 0 [.ref a] Z g none gg := by
  unfold f_X11_records at h
  replace h := grd_some h
  obtain ⟨hz0, h⟩ := h
  refine VM.of (by decide +kernel) (Nat.le_of_ble_eq_true rfl) (fun x hM => ?_)
  have hM : Cm x cX11_records RX11 2 none 0 Z none gg := hM
  show V x Z 0 0 0 [(0, va_rf (some a))] [] g
  refine V_aload_n hM.c 0 dX11_records_0 rfl rfl ?_
  refine G9_2 hM.c tw_231 hz0 dX11_records_1 ?_
  refine V_iconst (v := 4) hM.c dX11_records_4 (by decide) ?_
  refine V_icmp_ne hM.c 49 dX11_records_5 (by decide) (fun c1 => ?_) (fun c1 => ?_)
  · replace h := ite_n h c1
    refine V_iconst (v := 0) hM.c dX11_records_49 (by decide) ?_
    refine V_istore_n (i := 1) (L' := [(1, .int (0 : Int32)), (0, va_rf (some a))]) hM.c dX11_records_50 rfl (by decide) rfl ?_
    refine V_sub [1, 0] rfl ?_
    exact vl_X11_records_l51 hM hz0  _ _ _ h
  · replace h := ite_p h c1
    refine V_iconst (v := 0) hM.c dX11_records_8 (by decide) ?_
    refine V_istore_n (i := 1) (L' := [(1, .int (0 : Int32)), (0, va_rf (some a))]) hM.c dX11_records_9 rfl (by decide) rfl ?_
    refine V_sub [1, 0] rfl ?_
    exact vl_X11_records_l10 hM hz0  _ _ _ h
def f_X11_of (n : Nat) (Z : Zt) (a : Nat) (x1 : Int32) (x2 : Int32) (g : Mem) : Option (Int32 × Mem) := grd (zk Z a = 10) (drf (zf Z a 0) (fun b1 => grd (zk Z b1 = 12) (grd (inr (((4 : Int32) + ((5 : Int32) * x1)) + x2) (zl Z b1)) (some ((gI g b1 (((4 : Int32) + ((5 : Int32) * x1)) + x2).toNatClampNeg), g)))))
theorem mq_X11_of : Mq yX11_of cX11_of 3 (some .int) 2 := ⟨tw_222, tw_5, ⟨by decide +kernel, by decide +kernel, by decide +kernel⟩, by decide⟩
theorem mi_X11_of : Cond.instanceMethod yX11_of ∈ TB ∧ Cond.selects yX11_of.cls yX11_of yX11_of ∈ TB := ⟨tw_220, tw_221⟩
theorem zc_X11_of {n : Nat} {Z : Zt} {a : Nat} {x1 : Int32} {x2 : Int32} {g : Mem} {q : Int32 × Mem} (h : f_X11_of n Z a x1 x2 g = some q) : zk Z a = 10 := (grd_some h).1
set_option maxHeartbeats 4000000 in
set_option maxRecDepth 100000 in
theorem vm_X11_of {n : Nat} {Z : Zt} {a : Nat} {x1 : Int32} {x2 : Int32} {g : Mem} {rr : Int32} {gg : Mem} (h : f_X11_of n Z a x1 x2 g = some (rr, gg)) : VM yX11_of cX11_of 3 (some .int) 0 [.ref a, .int x1, .int x2] Z g (some (.int rr)) gg := by
  unfold f_X11_of at h
  replace h := grd_some h
  obtain ⟨hz0, h⟩ := h
  refine VM.of (by decide +kernel) (Nat.le_of_ble_eq_true rfl) (fun x hM => ?_)
  have hM : Cm x cX11_of RX11 3 (some .int) 0 Z (some (.int rr)) gg := hM
  show V x Z 0 0 0 [(0, va_rf (some a)), (1, .int x1), (2, .int x2)] [] g
  refine V_aload_n hM.c 0 dX11_of_0 rfl rfl ?_
  replace h := drf_some h
  obtain ⟨b1, e2, h⟩ := h
  refine G9_0 hM.c tw_114 hz0 e2 dX11_of_1 ?_
  refine V_iconst (v := 4) hM.c dX11_of_4 (by decide) ?_
  refine V_iconst (v := 5) hM.c dX11_of_5 (by decide) ?_
  refine V_iload_n hM.c 1 dX11_of_6 rfl rfl ?_
  refine V_imul hM.c dX11_of_7 ?_
  refine V_iadd hM.c dX11_of_8 ?_
  refine V_iload_n hM.c 2 dX11_of_9 rfl rfl ?_
  refine V_iadd hM.c dX11_of_10 ?_
  replace h := grd_some h
  obtain ⟨z3, h⟩ := h
  replace h := grd_some h
  obtain ⟨c4, h⟩ := h
  refine V_iald hM.c z3 c4 dX11_of_11 ?_
  exact V_iretE hM h dX11_of_12
def f_X11_lays (n : Nat) (Z : Zt) (a : Nat) (x1 : Int32) (x2 : Int32) (x3 : Int32) (g : Mem) : Option (Unit × Mem) := grd (zk Z a = 10) (drf (zf Z a 0) (fun b1 => grd (zk Z b1 = 12) (grd (inr (((4 : Int32) + ((5 : Int32) * x1)) + x2) (zl Z b1)) (some ((), (sI g b1 (((4 : Int32) + ((5 : Int32) * x1)) + x2).toNatClampNeg x3))))))
theorem mq_X11_lays : Mq yX11_lays cX11_lays 4 none 3 := ⟨tw_413, tw_5, ⟨by decide +kernel, by decide +kernel, by decide +kernel⟩, by decide⟩
theorem mi_X11_lays : Cond.instanceMethod yX11_lays ∈ TB ∧ Cond.selects yX11_lays.cls yX11_lays yX11_lays ∈ TB := ⟨tw_411, tw_412⟩
theorem zc_X11_lays {n : Nat} {Z : Zt} {a : Nat} {x1 : Int32} {x2 : Int32} {x3 : Int32} {g : Mem} {q : Unit × Mem} (h : f_X11_lays n Z a x1 x2 x3 g = some q) : zk Z a = 10 := (grd_some h).1
set_option maxHeartbeats 4000000 in
set_option maxRecDepth 100000 in
theorem vm_X11_lays {n : Nat} {Z : Zt} {a : Nat} {x1 : Int32} {x2 : Int32} {x3 : Int32} {g : Mem} {rr : Unit} {gg : Mem} (h : f_X11_lays n Z a x1 x2 x3 g = some (rr, gg)) : VM yX11_lays cX11_lays 4 none 0 [.ref a, .int x1, .int x2, .int x3] Z g none gg := by
  unfold f_X11_lays at h
  replace h := grd_some h
  obtain ⟨hz0, h⟩ := h
  refine VM.of (by decide +kernel) (Nat.le_of_ble_eq_true rfl) (fun x hM => ?_)
  have hM : Cm x cX11_lays RX11 4 none 0 Z none gg := hM
  show V x Z 0 0 0 [(0, va_rf (some a)), (1, .int x1), (2, .int x2), (3, .int x3)] [] g
  refine V_aload_n hM.c 0 dX11_lays_0 rfl rfl ?_
  replace h := drf_some h
  obtain ⟨b1, e2, h⟩ := h
  refine G9_0 hM.c tw_114 hz0 e2 dX11_lays_1 ?_
  refine V_iconst (v := 4) hM.c dX11_lays_4 (by decide) ?_
  refine V_iconst (v := 5) hM.c dX11_lays_5 (by decide) ?_
  refine V_iload_n hM.c 1 dX11_lays_6 rfl rfl ?_
  refine V_imul hM.c dX11_lays_7 ?_
  refine V_iadd hM.c dX11_lays_8 ?_
  refine V_iload_n hM.c 2 dX11_lays_9 rfl rfl ?_
  refine V_iadd hM.c dX11_lays_10 ?_
  refine V_iload_n hM.c 3 dX11_lays_11 rfl rfl ?_
  replace h := grd_some h
  obtain ⟨z3, h⟩ := h
  replace h := grd_some h
  obtain ⟨c4, h⟩ := h
  refine V_iast hM.c z3 c4 hM.a dX11_lays_12 ?_
  exact V_vretE hM h dX11_lays_13
def f_X11_isTag (n : Nat) (Z : Zt) (a : Nat) (x1 : Int32) (g : Mem) : Option (Int32 × Mem) := grd (zk Z a = 10) (bnd (f_X11_in n Z x1 (0 : Int32) (15 : Int32) g) (fun r1 g2 => if r1 = 0 then (some ((0 : Int32), g2)) else (bnd (f_X11_of n Z a x1 (0 : Int32) g2) (fun r5 g6 => if r5 ≤ 0 then (some ((0 : Int32), g6)) else (some ((1 : Int32), g6))))))
theorem mq_X11_isTag : Mq yX11_isTag cX11_isTag 2 (some .boolean) 1 := ⟨tw_558, tw_5, ⟨by decide +kernel, by decide +kernel, by decide +kernel⟩, by decide⟩
theorem mi_X11_isTag : Cond.instanceMethod yX11_isTag ∈ TB ∧ Cond.selects yX11_isTag.cls yX11_isTag yX11_isTag ∈ TB := ⟨tw_556, tw_557⟩
theorem zc_X11_isTag {n : Nat} {Z : Zt} {a : Nat} {x1 : Int32} {g : Mem} {q : Int32 × Mem} (h : f_X11_isTag n Z a x1 g = some q) : zk Z a = 10 := (grd_some h).1
set_option maxHeartbeats 4000000 in
set_option maxRecDepth 100000 in
theorem vm_X11_isTag {n : Nat} {Z : Zt} {a : Nat} {x1 : Int32} {g : Mem} {rr : Int32} {gg : Mem} (h : f_X11_isTag n Z a x1 g = some (rr, gg)) : VM yX11_isTag cX11_isTag 2 (some .boolean) 1 [.ref a, .int x1] Z g (some (.int rr)) gg := by
  unfold f_X11_isTag at h
  replace h := grd_some h
  obtain ⟨hz0, h⟩ := h
  refine VM.of (by decide +kernel) (Nat.le_of_ble_eq_true rfl) (fun x hM => ?_)
  have hM : Cm x cX11_isTag RX11 2 (some .boolean) 1 Z (some (.int rr)) gg := hM
  show V x Z 0 0 0 [(0, va_rf (some a)), (1, .int x1)] [] g
  refine V_iload_n hM.c 1 dX11_isTag_0 rfl rfl ?_
  refine V_iconst (v := 0) hM.c dX11_isTag_1 (by decide) ?_
  refine V_bipush (v := 15) hM.c dX11_isTag_2 (by decide) ?_
  replace h := bnd_some h
  obtain ⟨r1, g2, e3, h⟩ := h
  refine V_callS (As := [.int x1, .int (0 : Int32), .int (15 : Int32)]) hM.c hM.a mq_X11_in mi_X11_in tw_212 (hM.d (by decide)) hM.z (vm_X11_in e3) rfl (Nat.le_of_ble_eq_true rfl) dX11_isTag_4 ?_
  refine V_if_eq hM.c 23 dX11_isTag_7 (by decide) (fun c4 => ?_) (fun c4 => ?_)
  · replace h := ite_p h c4
    refine V_iconst (v := 0) hM.c dX11_isTag_23 (by decide) ?_
    exact V_zretE hM (isz_nar (by decide)) h dX11_isTag_24
  · replace h := ite_n h c4
    refine V_aload_n hM.c 0 dX11_isTag_10 rfl rfl ?_
    refine V_iload_n hM.c 1 dX11_isTag_11 rfl rfl ?_
    refine V_iconst (v := 0) hM.c dX11_isTag_12 (by decide) ?_
    replace h := bnd_some h
    obtain ⟨r5, g6, e7, h⟩ := h
    refine V_callV (As := [.int x1, .int (0 : Int32)]) (c := 9) (T := TX11) (N := 32) hM.c hM.a mq_X11_of mi_X11_of tw_219 (hM.d (by decide)) hM.z rfl (by omega) (zc_X11_of e7) (vm_X11_of e7) rfl (Nat.le_of_ble_eq_true rfl) dX11_isTag_13 ?_
    refine V_if_le hM.c 23 dX11_isTag_16 (by decide) (fun c8 => ?_) (fun c8 => ?_)
    · replace h := ite_p h c8
      refine V_iconst (v := 0) hM.c dX11_isTag_23 (by decide) ?_
      exact V_zretE hM (isz_nar (by decide)) h dX11_isTag_24
    · replace h := ite_n h c8
      refine V_iconst (v := 1) hM.c dX11_isTag_19 (by decide) ?_
      refine V_goto hM.c 24 dX11_isTag_20 (by decide) ?_
      exact V_zretE hM (isz_nar (by decide)) h dX11_isTag_24
def f_X11_isTable (n : Nat) (Z : Zt) (x0 : Int32) (g : Mem) : Option (Int32 × Mem) := bnd (f_X11_in n Z x0 (0 : Int32) (3 : Int32) g) (fun r1 g2 => grd (isz r1) (some (r1, g2)))
theorem mq_X11_isTable : Mq yX11_isTable cX11_isTable 1 (some .boolean) 1 := ⟨tw_211, tw_5, ⟨by decide +kernel, by decide +kernel, by decide +kernel⟩, by decide⟩
theorem mi_X11_isTable : Cond.static yX11_isTable ∈ TB := tw_210
set_option maxHeartbeats 4000000 in
set_option maxRecDepth 100000 in
theorem vm_X11_isTable {n : Nat} {Z : Zt} {x0 : Int32} {g : Mem} {rr : Int32} {gg : Mem} (h : f_X11_isTable n Z x0 g = some (rr, gg)) : VM yX11_isTable cX11_isTable 1 (some .boolean) 1 [.int x0] Z g (some (.int rr)) gg := by
  unfold f_X11_isTable at h
  refine VM.of (by decide +kernel) (Nat.le_of_ble_eq_true rfl) (fun x hM => ?_)
  have hM : Cm x cX11_isTable RX11 1 (some .boolean) 1 Z (some (.int rr)) gg := hM
  show V x Z 0 0 0 [(0, .int x0)] [] g
  refine V_iload_n hM.c 0 dX11_isTable_0 rfl rfl ?_
  refine V_iconst (v := 0) hM.c dX11_isTable_1 (by decide) ?_
  refine V_iconst (v := 3) hM.c dX11_isTable_2 (by decide) ?_
  replace h := bnd_some h
  obtain ⟨r1, g2, e3, h⟩ := h
  refine V_callS (As := [.int x0, .int (0 : Int32), .int (3 : Int32)]) hM.c hM.a mq_X11_in mi_X11_in tw_212 (hM.d (by decide)) hM.z (vm_X11_in e3) rfl (Nat.le_of_ble_eq_true rfl) dX11_isTable_3 ?_
  replace h := grd_some h
  obtain ⟨c4, h⟩ := h
  exact V_zretE hM (isz_nar c4) h dX11_isTable_6
def f_X11_power_l4 (n : Nat) (Z : Zt) : Nat → Int32 → Int32 → Int32 → Mem → Option (Int32 × Mem)
  | 0, _, _, _, _ => none
  | fu + 1, x0, x1, x2, g => if x0 ≤ x2 then (some (x1, g)) else (f_X11_power_l4 n Z fu x0 (x1 * (10 : Int32)) (x2 + 1) g)
set_option maxHeartbeats 4000000 in
set_option maxRecDepth 100000 in
theorem vl_X11_power_l4 {x : Cq} {n : Nat} {Z : Zt} {rr : Int32} {gg : Mem} (hM : Cm x cX11_power RX11 3 (some .int) 0 Z (some (.int rr)) gg) : ∀ (fu : Nat) (x0 : Int32) (x1 : Int32) (x2 : Int32) (g : Mem), f_X11_power_l4 n Z fu x0 x1 x2 g = some (rr, gg) → V x Z 0 0 4 [(0, .int x0), (1, .int x1), (2, .int x2)] [] g := by
  intro fu
  induction fu with
  | zero => intro x0 x1 x2 g h; cases h
  | succ fu ih =>
    intro x0 x1 x2 g h
    unfold f_X11_power_l4 at h
    refine V_iload_n hM.c 2 dX11_power_4 rfl rfl ?_
    refine V_iload_n hM.c 0 dX11_power_5 rfl rfl ?_
    refine V_icmp_ge hM.c 20 dX11_power_6 (by decide) (fun c1 => ?_) (fun c1 => ?_)
    · replace h := ite_p h c1
      refine V_iload_n hM.c 1 dX11_power_20 rfl rfl ?_
      exact V_iretE hM h dX11_power_21
    · replace h := ite_n h c1
      refine V_iload_n hM.c 1 dX11_power_9 rfl rfl ?_
      refine V_bipush (v := 10) hM.c dX11_power_10 (by decide) ?_
      refine V_imul hM.c dX11_power_12 ?_
      refine V_istore_n (i := 1) (L' := [(1, .int (x1 * (10 : Int32))), (0, .int x0), (2, .int x2)]) hM.c dX11_power_13 rfl (by decide) rfl ?_
      refine V_iinc (v := (x2 + 1)) (L' := [(2, .int (x2 + 1)), (1, .int (x1 * (10 : Int32))), (0, .int x0)]) hM.c 2 dX11_power_14 rfl rfl (by decide) rfl ?_
      refine V_goto hM.c 4 dX11_power_17 (by decide) ?_
      refine V_sub [2, 1, 0] rfl ?_
      exact ih _ _ _ _ h
def f_X11_power (n : Nat) (Z : Zt) (x0 : Int32) (g : Mem) : Option (Int32 × Mem) := f_X11_power_l4 n Z n x0 (1 : Int32) (0 : Int32) g
theorem mq_X11_power : Mq yX11_power cX11_power 3 (some .int) 1 := ⟨tw_401, tw_5, ⟨by decide +kernel, by decide +kernel, by decide +kernel⟩, by decide⟩
theorem mi_X11_power : Cond.static yX11_power ∈ TB := tw_400
set_option maxHeartbeats 4000000 in
set_option maxRecDepth 100000 in
theorem vm_X11_power {n : Nat} {Z : Zt} {x0 : Int32} {g : Mem} {rr : Int32} {gg : Mem} (h : f_X11_power n Z x0 g = some (rr, gg)) : VM yX11_power cX11_power 3 (some .int) 0 [.int x0] Z g (some (.int rr)) gg := by
  unfold f_X11_power at h
  refine VM.of (by decide +kernel) (Nat.le_of_ble_eq_true rfl) (fun x hM => ?_)
  have hM : Cm x cX11_power RX11 3 (some .int) 0 Z (some (.int rr)) gg := hM
  show V x Z 0 0 0 [(0, .int x0)] [] g
  refine V_iconst (v := 1) hM.c dX11_power_0 (by decide) ?_
  refine V_istore_n (i := 1) (L' := [(1, .int (1 : Int32)), (0, .int x0)]) hM.c dX11_power_1 rfl (by decide) rfl ?_
  refine V_iconst (v := 0) hM.c dX11_power_2 (by decide) ?_
  refine V_istore_n (i := 2) (L' := [(2, .int (0 : Int32)), (1, .int (1 : Int32)), (0, .int x0)]) hM.c dX11_power_3 rfl (by decide) rfl ?_
  refine V_sub [2, 1, 0] rfl ?_
  exact vl_X11_power_l4 hM  _ _ _ _ _ h
def f_X11_mask_l40 (n : Nat) (Z : Zt) (κ4 : Int32 → Int32 → Int32 → Mem → Option (Int32 × Mem)) (a : Nat) (x1 : Int32) (x3 : Int32) (s0 : Int32) (g : Mem) : Option (Int32 × Mem) := κ4 x1 (s0 ||| (0 : Int32)) (x3 + 1) g
set_option maxHeartbeats 4000000 in
set_option maxRecDepth 100000 in
theorem vl_X11_mask_l40 {x : Cq} {n : Nat} {Z : Zt} {κ4 : Int32 → Int32 → Int32 → Mem → Option (Int32 × Mem)} {a : Nat} {x1 : Int32} {x3 : Int32} {s0 : Int32} {g : Mem} {rr : Int32} {gg : Mem} (hM : Cm x cX11_mask RX11 4 (some .int) 1 Z (some (.int rr)) gg) (hz0 : zk Z a = 10) (hκ4 : ∀ (y1 : Int32) (y2 : Int32) (y3 : Int32) (y : Mem), κ4 y1 y2 y3 y = some (rr, gg) → V x Z 0 0 4 [(0, va_rf (some a)), (1, .int y1), (2, .int y2), (3, .int y3)] [] y) (h : f_X11_mask_l40 n Z κ4 a x1 x3 s0 g = some (rr, gg)) : V x Z 0 0 40 [(0, va_rf (some a)), (1, .int x1), (3, .int x3)] [.int s0] g := by
  unfold f_X11_mask_l40 at h
  refine V_iconst (v := 0) hM.c dX11_mask_40 (by decide) ?_
  refine V_ior hM.c dX11_mask_41 ?_
  refine V_istore_n (i := 2) (L' := [(2, .int (s0 ||| (0 : Int32))), (0, va_rf (some a)), (1, .int x1), (3, .int x3)]) hM.c dX11_mask_42 rfl (by decide) rfl ?_
  refine V_iinc (v := (x3 + 1)) (L' := [(3, .int (x3 + 1)), (2, .int (s0 ||| (0 : Int32))), (0, va_rf (some a)), (1, .int x1)]) hM.c 3 dX11_mask_43 rfl rfl (by decide) rfl ?_
  refine V_goto hM.c 4 dX11_mask_46 (by decide) ?_
  refine V_sub [2, 3, 1, 0] rfl ?_
  exact hκ4 _ _ _ _ h
def f_X11_mask_l4 (n : Nat) (Z : Zt) (a : Nat) : Nat → Int32 → Int32 → Int32 → Mem → Option (Int32 × Mem)
  | 0, _, _, _, _ => none
  | fu + 1, x1, x2, x3, g => if (16 : Int32) ≤ x3 then (some (x2, g)) else (bnd (f_X11_of n Z a x3 (0 : Int32) g) (fun r2 g3 => if r2 ≤ 0 then (f_X11_mask_l40 n Z (fun y0 y1 y2 y => f_X11_mask_l4 n Z a fu y0 y1 y2 y) a x1 x3 x2 g3) else (if x1 = 0 then (f_X11_mask_l4 n Z a fu x1 (x2 ||| ((1 : Int32) <<< (x3 &&& 31))) (x3 + 1) g3) else (bnd (f_X11_of n Z a x3 (4 : Int32) g3) (fun r7 g8 => if r7 = (1 : Int32) then (f_X11_mask_l4 n Z a fu x1 (x2 ||| ((1 : Int32) <<< (x3 &&& 31))) (x3 + 1) g8) else (f_X11_mask_l40 n Z (fun y0 y1 y2 y => f_X11_mask_l4 n Z a fu y0 y1 y2 y) a x1 x3 x2 g8))))))
set_option maxHeartbeats 4000000 in
set_option maxRecDepth 100000 in
theorem vl_X11_mask_l4 {x : Cq} {n : Nat} {Z : Zt} {a : Nat} {rr : Int32} {gg : Mem} (hM : Cm x cX11_mask RX11 4 (some .int) 1 Z (some (.int rr)) gg) (hz0 : zk Z a = 10) : ∀ (fu : Nat) (x1 : Int32) (x2 : Int32) (x3 : Int32) (g : Mem), f_X11_mask_l4 n Z a fu x1 x2 x3 g = some (rr, gg) → V x Z 0 0 4 [(0, va_rf (some a)), (1, .int x1), (2, .int x2), (3, .int x3)] [] g := by
  intro fu
  induction fu with
  | zero => intro x1 x2 x3 g h; cases h
  | succ fu ih =>
    intro x1 x2 x3 g h
    unfold f_X11_mask_l4 at h
    refine V_iload_n hM.c 3 dX11_mask_4 rfl rfl ?_
    refine V_bipush (v := 16) hM.c dX11_mask_5 (by decide) ?_
    refine V_icmp_ge hM.c 49 dX11_mask_7 (by decide) (fun c1 => ?_) (fun c1 => ?_)
    · replace h := ite_p h c1
      refine V_iload_n hM.c 2 dX11_mask_49 rfl rfl ?_
      exact V_iretE hM h dX11_mask_50
    · replace h := ite_n h c1
      refine V_iload_n hM.c 2 dX11_mask_10 rfl rfl ?_
      refine V_aload_n hM.c 0 dX11_mask_11 rfl rfl ?_
      refine V_iload_n hM.c 3 dX11_mask_12 rfl rfl ?_
      refine V_iconst (v := 0) hM.c dX11_mask_13 (by decide) ?_
      replace h := bnd_some h
      obtain ⟨r2, g3, e4, h⟩ := h
      refine V_callV (As := [.int x3, .int (0 : Int32)]) (c := 9) (T := TX11) (N := 32) hM.c hM.a mq_X11_of mi_X11_of tw_219 (hM.d (by decide)) hM.z rfl (by omega) (zc_X11_of e4) (vm_X11_of e4) rfl (Nat.le_of_ble_eq_true rfl) dX11_mask_14 ?_
      refine V_if_le hM.c 40 dX11_mask_17 (by decide) (fun c5 => ?_) (fun c5 => ?_)
      · replace h := ite_p h c5
        refine V_sub [0, 1, 3] rfl ?_
        exact vl_X11_mask_l40 hM hz0 ih h
      · replace h := ite_n h c5
        refine V_iload_n hM.c 1 dX11_mask_20 rfl rfl ?_
        refine V_if_eq hM.c 34 dX11_mask_21 (by decide) (fun c6 => ?_) (fun c6 => ?_)
        · replace h := ite_p h c6
          refine V_iconst (v := 1) hM.c dX11_mask_34 (by decide) ?_
          refine V_iload_n hM.c 3 dX11_mask_35 rfl rfl ?_
          refine V_ishl hM.c dX11_mask_36 ?_
          refine V_goto hM.c 41 dX11_mask_37 (by decide) ?_
          refine V_ior hM.c dX11_mask_41 ?_
          refine V_istore_n (i := 2) (L' := [(2, .int (x2 ||| ((1 : Int32) <<< (x3 &&& 31)))), (0, va_rf (some a)), (1, .int x1), (3, .int x3)]) hM.c dX11_mask_42 rfl (by decide) rfl ?_
          refine V_iinc (v := (x3 + 1)) (L' := [(3, .int (x3 + 1)), (2, .int (x2 ||| ((1 : Int32) <<< (x3 &&& 31)))), (0, va_rf (some a)), (1, .int x1)]) hM.c 3 dX11_mask_43 rfl rfl (by decide) rfl ?_
          refine V_goto hM.c 4 dX11_mask_46 (by decide) ?_
          refine V_sub [2, 3, 1, 0] rfl ?_
          exact ih _ _ _ _ h
        · replace h := ite_n h c6
          refine V_aload_n hM.c 0 dX11_mask_24 rfl rfl ?_
          refine V_iload_n hM.c 3 dX11_mask_25 rfl rfl ?_
          refine V_iconst (v := 4) hM.c dX11_mask_26 (by decide) ?_
          replace h := bnd_some h
          obtain ⟨r7, g8, e9, h⟩ := h
          refine V_callV (As := [.int x3, .int (4 : Int32)]) (c := 9) (T := TX11) (N := 32) hM.c hM.a mq_X11_of mi_X11_of tw_219 (hM.d (by decide)) hM.z rfl (by omega) (zc_X11_of e9) (vm_X11_of e9) rfl (Nat.le_of_ble_eq_true rfl) dX11_mask_27 ?_
          refine V_iconst (v := 1) hM.c dX11_mask_30 (by decide) ?_
          refine V_icmp_ne hM.c 40 dX11_mask_31 (by decide) (fun c10 => ?_) (fun c10 => ?_)
          · replace h := ite_n h c10
            refine V_sub [0, 1, 3] rfl ?_
            exact vl_X11_mask_l40 hM hz0 ih h
          · replace h := ite_p h c10
            refine V_iconst (v := 1) hM.c dX11_mask_34 (by decide) ?_
            refine V_iload_n hM.c 3 dX11_mask_35 rfl rfl ?_
            refine V_ishl hM.c dX11_mask_36 ?_
            refine V_goto hM.c 41 dX11_mask_37 (by decide) ?_
            refine V_ior hM.c dX11_mask_41 ?_
            refine V_istore_n (i := 2) (L' := [(2, .int (x2 ||| ((1 : Int32) <<< (x3 &&& 31)))), (0, va_rf (some a)), (1, .int x1), (3, .int x3)]) hM.c dX11_mask_42 rfl (by decide) rfl ?_
            refine V_iinc (v := (x3 + 1)) (L' := [(3, .int (x3 + 1)), (2, .int (x2 ||| ((1 : Int32) <<< (x3 &&& 31)))), (0, va_rf (some a)), (1, .int x1)]) hM.c 3 dX11_mask_43 rfl rfl (by decide) rfl ?_
            refine V_goto hM.c 4 dX11_mask_46 (by decide) ?_
            refine V_sub [2, 3, 1, 0] rfl ?_
            exact ih _ _ _ _ h
def f_X11_mask (n : Nat) (Z : Zt) (a : Nat) (x1 : Int32) (g : Mem) : Option (Int32 × Mem) := grd (zk Z a = 10) (f_X11_mask_l4 n Z a n x1 (0 : Int32) (0 : Int32) g)
theorem mq_X11_mask : Mq yX11_mask cX11_mask 4 (some .int) 1 := ⟨tw_562, tw_5, ⟨by decide +kernel, by decide +kernel, by decide +kernel⟩, by decide⟩
theorem mi_X11_mask : Cond.instanceMethod yX11_mask ∈ TB ∧ Cond.selects yX11_mask.cls yX11_mask yX11_mask ∈ TB := ⟨tw_560, tw_561⟩
theorem zc_X11_mask {n : Nat} {Z : Zt} {a : Nat} {x1 : Int32} {g : Mem} {q : Int32 × Mem} (h : f_X11_mask n Z a x1 g = some q) : zk Z a = 10 := (grd_some h).1
set_option maxHeartbeats 4000000 in
set_option maxRecDepth 100000 in
theorem vm_X11_mask {n : Nat} {Z : Zt} {a : Nat} {x1 : Int32} {g : Mem} {rr : Int32} {gg : Mem} (h : f_X11_mask n Z a x1 g = some (rr, gg)) : VM yX11_mask cX11_mask 4 (some .int) 1 [.ref a, .int x1] Z g (some (.int rr)) gg := by
  unfold f_X11_mask at h
  replace h := grd_some h
  obtain ⟨hz0, h⟩ := h
  refine VM.of (by decide +kernel) (Nat.le_of_ble_eq_true rfl) (fun x hM => ?_)
  have hM : Cm x cX11_mask RX11 4 (some .int) 1 Z (some (.int rr)) gg := hM
  show V x Z 0 0 0 [(0, va_rf (some a)), (1, .int x1)] [] g
  refine V_iconst (v := 0) hM.c dX11_mask_0 (by decide) ?_
  refine V_istore_n (i := 2) (L' := [(2, .int (0 : Int32)), (0, va_rf (some a)), (1, .int x1)]) hM.c dX11_mask_1 rfl (by decide) rfl ?_
  refine V_iconst (v := 0) hM.c dX11_mask_2 (by decide) ?_
  refine V_istore_n (i := 3) (L' := [(3, .int (0 : Int32)), (2, .int (0 : Int32)), (0, va_rf (some a)), (1, .int x1)]) hM.c dX11_mask_3 rfl (by decide) rfl ?_
  refine V_sub [2, 3, 1, 0] rfl ?_
  exact vl_X11_mask_l4 hM hz0  _ _ _ _ _ h
def f_X11_here (n : Nat) (Z : Zt) (a : Nat) (g : Mem) : Option (Int32 × Mem) := grd (zk Z a = 10) (if (gI g a 6) ≤ (gI g a 7) then (some ((-6 : Int32), g)) else (drf (zf Z a 5) (fun b2 => grd (zk Z b2 = 12) (grd (inr (gI g a 7) (zl Z b2)) (some ((gI g b2 (gI g a 7).toNatClampNeg), g))))))
theorem mq_X11_here : Mq yX11_here cX11_here 1 (some .int) 0 := ⟨tw_438, tw_5, ⟨by decide +kernel, by decide +kernel, by decide +kernel⟩, by decide⟩
theorem mi_X11_here : Cond.instanceMethod yX11_here ∈ TB ∧ Cond.selects yX11_here.cls yX11_here yX11_here ∈ TB := ⟨tw_436, tw_437⟩
theorem zc_X11_here {n : Nat} {Z : Zt} {a : Nat} {g : Mem} {q : Int32 × Mem} (h : f_X11_here n Z a g = some q) : zk Z a = 10 := (grd_some h).1
set_option maxHeartbeats 4000000 in
set_option maxRecDepth 100000 in
theorem vm_X11_here {n : Nat} {Z : Zt} {a : Nat} {g : Mem} {rr : Int32} {gg : Mem} (h : f_X11_here n Z a g = some (rr, gg)) : VM yX11_here cX11_here 1 (some .int) 0 [.ref a] Z g (some (.int rr)) gg := by
  unfold f_X11_here at h
  replace h := grd_some h
  obtain ⟨hz0, h⟩ := h
  refine VM.of (by decide +kernel) (Nat.le_of_ble_eq_true rfl) (fun x hM => ?_)
  have hM : Cm x cX11_here RX11 1 (some .int) 0 Z (some (.int rr)) gg := hM
  show V x Z 0 0 0 [(0, va_rf (some a))] [] g
  refine V_aload_n hM.c 0 dX11_here_0 rfl rfl ?_
  refine G9_7 hM.c tw_427 hz0 dX11_here_1 ?_
  refine V_aload_n hM.c 0 dX11_here_4 rfl rfl ?_
  refine G9_6 hM.c tw_422 hz0 dX11_here_5 ?_
  refine V_icmp_ge hM.c 23 dX11_here_8 (by decide) (fun c1 => ?_) (fun c1 => ?_)
  · replace h := ite_p h c1
    refine V_bipush (v := -6) hM.c dX11_here_23 (by decide) ?_
    exact V_iretE hM h dX11_here_25
  · replace h := ite_n h c1
    refine V_aload_n hM.c 0 dX11_here_11 rfl rfl ?_
    replace h := drf_some h
    obtain ⟨b2, e3, h⟩ := h
    refine G9_5 hM.c tw_117 hz0 e3 dX11_here_12 ?_
    refine V_aload_n hM.c 0 dX11_here_15 rfl rfl ?_
    refine G9_7 hM.c tw_427 hz0 dX11_here_16 ?_
    replace h := grd_some h
    obtain ⟨z4, h⟩ := h
    replace h := grd_some h
    obtain ⟨c5, h⟩ := h
    refine V_iald hM.c z4 c5 dX11_here_19 ?_
    refine V_goto hM.c 25 dX11_here_20 (by decide) ?_
    exact V_iretE hM h dX11_here_25
def f_X11_takes_l17 (n : Nat) (Z : Zt) (a : Nat) (s0 : Int32) (s1 : Nat) (g : Mem) : Option (Unit × Mem) := grd (zk Z s1 = 10) (grd (isz s0) (if (gI (sI g s1 8 s0) a 8) = 0 then (some ((), (sI (sI g s1 8 s0) a 7 ((gI (sI g s1 8 s0) a 7) + (0 : Int32))))) else (some ((), (sI (sI g s1 8 s0) a 7 ((gI (sI g s1 8 s0) a 7) + (1 : Int32)))))))
set_option maxHeartbeats 4000000 in
set_option maxRecDepth 100000 in
theorem vl_X11_takes_l17 {x : Cq} {n : Nat} {Z : Zt} {a : Nat} {s0 : Int32} {s1 : Nat} {g : Mem} {rr : Unit} {gg : Mem} (hM : Cm x cX11_takes RX11 2 none 0 Z none gg) (hz0 : zk Z a = 10) (h : f_X11_takes_l17 n Z a s0 s1 g = some (rr, gg)) : V x Z 0 0 17 [(0, va_rf (some a))] [.int s0, va_rf (some s1)] g := by
  unfold f_X11_takes_l17 at h
  replace h := grd_some h
  obtain ⟨z3, h⟩ := h
  replace h := grd_some h
  obtain ⟨c4, h⟩ := h
  refine P9_8 hM.c tw_428 z3 c4 hM.a dX11_takes_17 ?_
  refine V_aload_n hM.c 0 dX11_takes_20 rfl rfl ?_
  refine V_dup hM.c dX11_takes_21 (rf_cat _) ?_
  refine G9_7 hM.c tw_427 hz0 dX11_takes_22 ?_
  refine V_aload_n hM.c 0 dX11_takes_25 rfl rfl ?_
  refine G9_8 hM.c tw_428 hz0 dX11_takes_26 ?_
  refine V_if_eq hM.c 36 dX11_takes_29 (by decide) (fun c5 => ?_) (fun c5 => ?_)
  · replace h := ite_p h c5
    refine V_iconst (v := 0) hM.c dX11_takes_36 (by decide) ?_
    refine V_iadd hM.c dX11_takes_37 ?_
    refine P9_7 hM.c tw_427 hz0 hM.a dX11_takes_38 ?_
    exact V_vretE hM h dX11_takes_41
  · replace h := ite_n h c5
    refine V_iconst (v := 1) hM.c dX11_takes_32 (by decide) ?_
    refine V_goto hM.c 37 dX11_takes_33 (by decide) ?_
    refine V_iadd hM.c dX11_takes_37 ?_
    refine P9_7 hM.c tw_427 hz0 hM.a dX11_takes_38 ?_
    exact V_vretE hM h dX11_takes_41
def f_X11_takes_l16 (n : Nat) (Z : Zt) (a : Nat) (s0 : Nat) (g : Mem) : Option (Unit × Mem) := f_X11_takes_l17 n Z a (0 : Int32) s0 g
set_option maxHeartbeats 4000000 in
set_option maxRecDepth 100000 in
theorem vl_X11_takes_l16 {x : Cq} {n : Nat} {Z : Zt} {a : Nat} {s0 : Nat} {g : Mem} {rr : Unit} {gg : Mem} (hM : Cm x cX11_takes RX11 2 none 0 Z none gg) (hz0 : zk Z a = 10) (h : f_X11_takes_l16 n Z a s0 g = some (rr, gg)) : V x Z 0 0 16 [(0, va_rf (some a))] [va_rf (some s0)] g := by
  unfold f_X11_takes_l16 at h
  refine V_iconst (v := 0) hM.c dX11_takes_16 (by decide) ?_
  refine V_sub [0] rfl ?_
  exact vl_X11_takes_l17 hM hz0  h
def f_X11_takes (n : Nat) (Z : Zt) (a : Nat) (x1 : Int32) (g : Mem) : Option (Unit × Mem) := grd (zk Z a = 10) (if (gI g a 8) = 0 then (f_X11_takes_l16 n Z a a g) else (if x1 = 0 then (f_X11_takes_l16 n Z a a g) else (f_X11_takes_l17 n Z a (1 : Int32) a g)))
theorem mq_X11_takes : Mq yX11_takes cX11_takes 2 none 1 := ⟨tw_442, tw_5, ⟨by decide +kernel, by decide +kernel, by decide +kernel⟩, by decide⟩
theorem mi_X11_takes : Cond.instanceMethod yX11_takes ∈ TB ∧ Cond.selects yX11_takes.cls yX11_takes yX11_takes ∈ TB := ⟨tw_440, tw_441⟩
theorem zc_X11_takes {n : Nat} {Z : Zt} {a : Nat} {x1 : Int32} {g : Mem} {q : Unit × Mem} (h : f_X11_takes n Z a x1 g = some q) : zk Z a = 10 := (grd_some h).1
set_option maxHeartbeats 4000000 in
set_option maxRecDepth 100000 in
theorem vm_X11_takes {n : Nat} {Z : Zt} {a : Nat} {x1 : Int32} {g : Mem} {rr : Unit} {gg : Mem} (h : f_X11_takes n Z a x1 g = some (rr, gg)) : VM yX11_takes cX11_takes 2 none 0 [.ref a, .int x1] Z g none gg := by
  unfold f_X11_takes at h
  replace h := grd_some h
  obtain ⟨hz0, h⟩ := h
  refine VM.of (by decide +kernel) (Nat.le_of_ble_eq_true rfl) (fun x hM => ?_)
  have hM : Cm x cX11_takes RX11 2 none 0 Z none gg := hM
  show V x Z 0 0 0 [(0, va_rf (some a)), (1, .int x1)] [] g
  refine V_aload_n hM.c 0 dX11_takes_0 rfl rfl ?_
  refine V_aload_n hM.c 0 dX11_takes_1 rfl rfl ?_
  refine G9_8 hM.c tw_428 hz0 dX11_takes_2 ?_
  refine V_if_eq hM.c 16 dX11_takes_5 (by decide) (fun c1 => ?_) (fun c1 => ?_)
  · replace h := ite_p h c1
    refine V_sub [0] rfl ?_
    exact vl_X11_takes_l16 hM hz0  h
  · replace h := ite_n h c1
    refine V_iload_n hM.c 1 dX11_takes_8 rfl rfl ?_
    refine V_if_eq hM.c 16 dX11_takes_9 (by decide) (fun c2 => ?_) (fun c2 => ?_)
    · replace h := ite_p h c2
      refine V_sub [0] rfl ?_
      exact vl_X11_takes_l16 hM hz0  h
    · replace h := ite_n h c2
      refine V_iconst (v := 1) hM.c dX11_takes_12 (by decide) ?_
      refine V_goto hM.c 17 dX11_takes_13 (by decide) ?_
      refine V_sub [0] rfl ?_
      exact vl_X11_takes_l17 hM hz0  h
def f_X11_takesDigit (n : Nat) (Z : Zt) (a : Nat) (x1 : Int32) (g : Mem) : Option (Int32 × Mem) := grd (zk Z a = 10) (bnd (f_X11_here n Z a g) (fun r1 g2 => bnd (f_X11_here n Z a g2) (fun r4 g5 => bnd (f_X11_in n Z r4 (48 : Int32) ((48 : Int32) + x1) g5) (fun r7 g8 => bnd (f_X11_takes n Z a r7 g8) (fun r10 g11 => some ((r1 - (48 : Int32)), g11))))))
theorem mq_X11_takesDigit : Mq yX11_takesDigit cX11_takesDigit 3 (some .int) 1 := ⟨tw_458, tw_5, ⟨by decide +kernel, by decide +kernel, by decide +kernel⟩, by decide⟩
theorem mi_X11_takesDigit : Cond.instanceMethod yX11_takesDigit ∈ TB ∧ Cond.selects yX11_takesDigit.cls yX11_takesDigit yX11_takesDigit ∈ TB := ⟨tw_456, tw_457⟩
theorem zc_X11_takesDigit {n : Nat} {Z : Zt} {a : Nat} {x1 : Int32} {g : Mem} {q : Int32 × Mem} (h : f_X11_takesDigit n Z a x1 g = some q) : zk Z a = 10 := (grd_some h).1
set_option maxHeartbeats 4000000 in
set_option maxRecDepth 100000 in
theorem vm_X11_takesDigit {n : Nat} {Z : Zt} {a : Nat} {x1 : Int32} {g : Mem} {rr : Int32} {gg : Mem} (h : f_X11_takesDigit n Z a x1 g = some (rr, gg)) : VM yX11_takesDigit cX11_takesDigit 3 (some .int) 1 [.ref a, .int x1] Z g (some (.int rr)) gg := by
  unfold f_X11_takesDigit at h
  replace h := grd_some h
  obtain ⟨hz0, h⟩ := h
  refine VM.of (by decide +kernel) (Nat.le_of_ble_eq_true rfl) (fun x hM => ?_)
  have hM : Cm x cX11_takesDigit RX11 3 (some .int) 1 Z (some (.int rr)) gg := hM
  show V x Z 0 0 0 [(0, va_rf (some a)), (1, .int x1)] [] g
  refine V_aload_n hM.c 0 dX11_takesDigit_0 rfl rfl ?_
  replace h := bnd_some h
  obtain ⟨r1, g2, e3, h⟩ := h
  refine V_callV (As := []) (c := 9) (T := TX11) (N := 32) hM.c hM.a mq_X11_here mi_X11_here tw_435 (hM.d (by decide)) hM.z rfl (by omega) (zc_X11_here e3) (vm_X11_here e3) rfl (Nat.le_of_ble_eq_true rfl) dX11_takesDigit_1 ?_
  refine V_bipush (v := 48) hM.c dX11_takesDigit_4 (by decide) ?_
  refine V_isub hM.c dX11_takesDigit_6 ?_
  refine V_istore_n (i := 2) (L' := [(2, .int (r1 - (48 : Int32))), (0, va_rf (some a)), (1, .int x1)]) hM.c dX11_takesDigit_7 rfl (by decide) rfl ?_
  refine V_aload_n hM.c 1 dX11_takesDigit_8 rfl rfl ?_
  refine V_aload_n hM.c 1 dX11_takesDigit_9 rfl rfl ?_
  replace h := bnd_some h
  obtain ⟨r4, g5, e6, h⟩ := h
  refine V_callV (As := []) (c := 9) (T := TX11) (N := 32) hM.c hM.a mq_X11_here mi_X11_here tw_435 (hM.d (by decide)) hM.z rfl (by omega) (zc_X11_here e6) (vm_X11_here e6) rfl (Nat.le_of_ble_eq_true rfl) dX11_takesDigit_10 ?_
  refine V_bipush (v := 48) hM.c dX11_takesDigit_13 (by decide) ?_
  refine V_bipush (v := 48) hM.c dX11_takesDigit_15 (by decide) ?_
  refine V_iload_n hM.c 2 dX11_takesDigit_17 rfl rfl ?_
  refine V_iadd hM.c dX11_takesDigit_18 ?_
  replace h := bnd_some h
  obtain ⟨r7, g8, e9, h⟩ := h
  refine V_callS (As := [.int r4, .int (48 : Int32), .int ((48 : Int32) + x1)]) hM.c hM.a mq_X11_in mi_X11_in tw_212 (hM.d (by decide)) hM.z (vm_X11_in e9) rfl (Nat.le_of_ble_eq_true rfl) dX11_takesDigit_19 ?_
  replace h := bnd_some h
  obtain ⟨r10, g11, e12, h⟩ := h
  refine V_callV (As := [.int r7]) (c := 9) (T := TX11) (N := 32) hM.c hM.a mq_X11_takes mi_X11_takes tw_439 (hM.d (by decide)) hM.z rfl (by omega) (zc_X11_takes e12) (vm_X11_takes e12) rfl (Nat.le_of_ble_eq_true rfl) dX11_takesDigit_22 ?_
  refine V_iload_n hM.c 0 dX11_takesDigit_25 rfl rfl ?_
  exact V_iretE hM h dX11_takesDigit_26
def f_X11_emits (n : Nat) (Z : Zt) (a : Nat) (x1 : Int32) (x2 : Int32) (x3 : Int32) (g : Mem) : Option (Unit × Mem) := grd (zk Z a = 10) (drf (zf Z a 9) (fun b1 => grd (zk Z b1 = 12) (grd (inr (gI g a 12) (zl Z b1)) (drf (zf Z a 10) (fun b5 => grd (zk Z b5 = 12) (grd (inr (gI (sI g b1 (gI g a 12).toNatClampNeg x1) a 12) (zl Z b5)) (drf (zf Z a 11) (fun b9 => grd (zk Z b9 = 12) (grd (inr (gI (sI (sI g b1 (gI g a 12).toNatClampNeg x1) b5 (gI (sI g b1 (gI g a 12).toNatClampNeg x1) a 12).toNatClampNeg x2) a 12) (zl Z b9)) (some ((), (sI (sI (sI (sI g b1 (gI g a 12).toNatClampNeg x1) b5 (gI (sI g b1 (gI g a 12).toNatClampNeg x1) a 12).toNatClampNeg x2) b9 (gI (sI (sI g b1 (gI g a 12).toNatClampNeg x1) b5 (gI (sI g b1 (gI g a 12).toNatClampNeg x1) a 12).toNatClampNeg x2) a 12).toNatClampNeg x3) a 12 ((gI (sI (sI (sI g b1 (gI g a 12).toNatClampNeg x1) b5 (gI (sI g b1 (gI g a 12).toNatClampNeg x1) a 12).toNatClampNeg x2) b9 (gI (sI (sI g b1 (gI g a 12).toNatClampNeg x1) b5 (gI (sI g b1 (gI g a 12).toNatClampNeg x1) a 12).toNatClampNeg x2) a 12).toNatClampNeg x3) a 12) + (1 : Int32))))))))))))))
theorem mq_X11_emits : Mq yX11_emits cX11_emits 4 none 3 := ⟨tw_446, tw_5, ⟨by decide +kernel, by decide +kernel, by decide +kernel⟩, by decide⟩
theorem mi_X11_emits : Cond.instanceMethod yX11_emits ∈ TB ∧ Cond.selects yX11_emits.cls yX11_emits yX11_emits ∈ TB := ⟨tw_444, tw_445⟩
theorem zc_X11_emits {n : Nat} {Z : Zt} {a : Nat} {x1 : Int32} {x2 : Int32} {x3 : Int32} {g : Mem} {q : Unit × Mem} (h : f_X11_emits n Z a x1 x2 x3 g = some q) : zk Z a = 10 := (grd_some h).1
set_option maxHeartbeats 4000000 in
set_option maxRecDepth 100000 in
theorem vm_X11_emits {n : Nat} {Z : Zt} {a : Nat} {x1 : Int32} {x2 : Int32} {x3 : Int32} {g : Mem} {rr : Unit} {gg : Mem} (h : f_X11_emits n Z a x1 x2 x3 g = some (rr, gg)) : VM yX11_emits cX11_emits 4 none 0 [.ref a, .int x1, .int x2, .int x3] Z g none gg := by
  unfold f_X11_emits at h
  replace h := grd_some h
  obtain ⟨hz0, h⟩ := h
  refine VM.of (by decide +kernel) (Nat.le_of_ble_eq_true rfl) (fun x hM => ?_)
  have hM : Cm x cX11_emits RX11 4 none 0 Z none gg := hM
  show V x Z 0 0 0 [(0, va_rf (some a)), (1, .int x1), (2, .int x2), (3, .int x3)] [] g
  refine V_aload_n hM.c 0 dX11_emits_0 rfl rfl ?_
  replace h := drf_some h
  obtain ⟨b1, e2, h⟩ := h
  refine G9_9 hM.c tw_118 hz0 e2 dX11_emits_1 ?_
  refine V_aload_n hM.c 0 dX11_emits_4 rfl rfl ?_
  refine G9_12 hM.c tw_429 hz0 dX11_emits_5 ?_
  refine V_iload_n hM.c 1 dX11_emits_8 rfl rfl ?_
  replace h := grd_some h
  obtain ⟨z3, h⟩ := h
  replace h := grd_some h
  obtain ⟨c4, h⟩ := h
  refine V_iast hM.c z3 c4 hM.a dX11_emits_9 ?_
  refine V_aload_n hM.c 0 dX11_emits_10 rfl rfl ?_
  replace h := drf_some h
  obtain ⟨b5, e6, h⟩ := h
  refine G9_10 hM.c tw_119 hz0 e6 dX11_emits_11 ?_
  refine V_aload_n hM.c 0 dX11_emits_14 rfl rfl ?_
  refine G9_12 hM.c tw_429 hz0 dX11_emits_15 ?_
  refine V_iload_n hM.c 2 dX11_emits_18 rfl rfl ?_
  replace h := grd_some h
  obtain ⟨z7, h⟩ := h
  replace h := grd_some h
  obtain ⟨c8, h⟩ := h
  refine V_iast hM.c z7 c8 hM.a dX11_emits_19 ?_
  refine V_aload_n hM.c 0 dX11_emits_20 rfl rfl ?_
  replace h := drf_some h
  obtain ⟨b9, e10, h⟩ := h
  refine G9_11 hM.c tw_120 hz0 e10 dX11_emits_21 ?_
  refine V_aload_n hM.c 0 dX11_emits_24 rfl rfl ?_
  refine G9_12 hM.c tw_429 hz0 dX11_emits_25 ?_
  refine V_iload_n hM.c 3 dX11_emits_28 rfl rfl ?_
  replace h := grd_some h
  obtain ⟨z11, h⟩ := h
  replace h := grd_some h
  obtain ⟨c12, h⟩ := h
  refine V_iast hM.c z11 c12 hM.a dX11_emits_29 ?_
  refine V_aload_n hM.c 0 dX11_emits_30 rfl rfl ?_
  refine V_dup hM.c dX11_emits_31 (rf_cat _) ?_
  refine G9_12 hM.c tw_429 hz0 dX11_emits_32 ?_
  refine V_iconst (v := 1) hM.c dX11_emits_35 (by decide) ?_
  refine V_iadd hM.c dX11_emits_36 ?_
  refine P9_12 hM.c tw_429 hz0 hM.a dX11_emits_37 ?_
  exact V_vretE hM h dX11_emits_40
def f_X11_opensOne_l15 (n : Nat) (Z : Zt) (a : Nat) (x1 : Int32) (x2 : Int32) (x3 : Int32) (s0 : Int32) (s1 : Nat) (g : Mem) : Option (Unit × Mem) := bnd (f_X11_takes n Z s1 s0 g) (fun r5 g6 => drf (zf Z a 13) (fun b8 => grd (zk Z b8 = 12) (grd (inr (gI g6 a 17) (zl Z b8)) (drf (zf Z a 14) (fun b12 => grd (zk Z b12 = 12) (grd (inr (gI (sI g6 b8 (gI g6 a 17).toNatClampNeg x1) a 17) (zl Z b12)) (drf (zf Z a 15) (fun b16 => grd (zk Z b16 = 12) (grd (inr (gI (sI (sI g6 b8 (gI g6 a 17).toNatClampNeg x1) b12 (gI (sI g6 b8 (gI g6 a 17).toNatClampNeg x1) a 17).toNatClampNeg x2) a 17) (zl Z b16)) (drf (zf Z a 16) (fun b20 => grd (zk Z b20 = 12) (grd (inr (gI (sI (sI (sI g6 b8 (gI g6 a 17).toNatClampNeg x1) b12 (gI (sI g6 b8 (gI g6 a 17).toNatClampNeg x1) a 17).toNatClampNeg x2) b16 (gI (sI (sI g6 b8 (gI g6 a 17).toNatClampNeg x1) b12 (gI (sI g6 b8 (gI g6 a 17).toNatClampNeg x1) a 17).toNatClampNeg x2) a 17).toNatClampNeg x3) a 17) (zl Z b20)) (some ((), (sI (sI (sI (sI (sI g6 b8 (gI g6 a 17).toNatClampNeg x1) b12 (gI (sI g6 b8 (gI g6 a 17).toNatClampNeg x1) a 17).toNatClampNeg x2) b16 (gI (sI (sI g6 b8 (gI g6 a 17).toNatClampNeg x1) b12 (gI (sI g6 b8 (gI g6 a 17).toNatClampNeg x1) a 17).toNatClampNeg x2) a 17).toNatClampNeg x3) b20 (gI (sI (sI (sI g6 b8 (gI g6 a 17).toNatClampNeg x1) b12 (gI (sI g6 b8 (gI g6 a 17).toNatClampNeg x1) a 17).toNatClampNeg x2) b16 (gI (sI (sI g6 b8 (gI g6 a 17).toNatClampNeg x1) b12 (gI (sI g6 b8 (gI g6 a 17).toNatClampNeg x1) a 17).toNatClampNeg x2) a 17).toNatClampNeg x3) a 17).toNatClampNeg (0 : Int32)) a 17 ((gI (sI (sI (sI (sI g6 b8 (gI g6 a 17).toNatClampNeg x1) b12 (gI (sI g6 b8 (gI g6 a 17).toNatClampNeg x1) a 17).toNatClampNeg x2) b16 (gI (sI (sI g6 b8 (gI g6 a 17).toNatClampNeg x1) b12 (gI (sI g6 b8 (gI g6 a 17).toNatClampNeg x1) a 17).toNatClampNeg x2) a 17).toNatClampNeg x3) b20 (gI (sI (sI (sI g6 b8 (gI g6 a 17).toNatClampNeg x1) b12 (gI (sI g6 b8 (gI g6 a 17).toNatClampNeg x1) a 17).toNatClampNeg x2) b16 (gI (sI (sI g6 b8 (gI g6 a 17).toNatClampNeg x1) b12 (gI (sI g6 b8 (gI g6 a 17).toNatClampNeg x1) a 17).toNatClampNeg x2) a 17).toNatClampNeg x3) a 17).toNatClampNeg (0 : Int32)) a 17) + (1 : Int32)))))))))))))))))
set_option maxHeartbeats 4000000 in
set_option maxRecDepth 100000 in
theorem vl_X11_opensOne_l15 {x : Cq} {n : Nat} {Z : Zt} {a : Nat} {x1 : Int32} {x2 : Int32} {x3 : Int32} {s0 : Int32} {s1 : Nat} {g : Mem} {rr : Unit} {gg : Mem} (hM : Cm x cX11_opensOne RX11 4 none 1 Z none gg) (hz0 : zk Z a = 10) (h : f_X11_opensOne_l15 n Z a x1 x2 x3 s0 s1 g = some (rr, gg)) : V x Z 0 0 15 [(0, va_rf (some a)), (1, .int x1), (2, .int x2), (3, .int x3)] [.int s0, va_rf (some s1)] g := by
  unfold f_X11_opensOne_l15 at h
  replace h := bnd_some h
  obtain ⟨r5, g6, e7, h⟩ := h
  refine V_callV (As := [.int s0]) (c := 9) (T := TX11) (N := 32) hM.c hM.a mq_X11_takes mi_X11_takes tw_439 (hM.d (by decide)) hM.z rfl (by omega) (zc_X11_takes e7) (vm_X11_takes e7) rfl (Nat.le_of_ble_eq_true rfl) dX11_opensOne_15 ?_
  refine V_aload_n hM.c 0 dX11_opensOne_18 rfl rfl ?_
  replace h := drf_some h
  obtain ⟨b8, e9, h⟩ := h
  refine G9_13 hM.c tw_121 hz0 e9 dX11_opensOne_19 ?_
  refine V_aload_n hM.c 0 dX11_opensOne_22 rfl rfl ?_
  refine G9_17 hM.c tw_430 hz0 dX11_opensOne_23 ?_
  refine V_iload_n hM.c 1 dX11_opensOne_26 rfl rfl ?_
  replace h := grd_some h
  obtain ⟨z10, h⟩ := h
  replace h := grd_some h
  obtain ⟨c11, h⟩ := h
  refine V_iast hM.c z10 c11 hM.a dX11_opensOne_27 ?_
  refine V_aload_n hM.c 0 dX11_opensOne_28 rfl rfl ?_
  replace h := drf_some h
  obtain ⟨b12, e13, h⟩ := h
  refine G9_14 hM.c tw_122 hz0 e13 dX11_opensOne_29 ?_
  refine V_aload_n hM.c 0 dX11_opensOne_32 rfl rfl ?_
  refine G9_17 hM.c tw_430 hz0 dX11_opensOne_33 ?_
  refine V_iload_n hM.c 2 dX11_opensOne_36 rfl rfl ?_
  replace h := grd_some h
  obtain ⟨z14, h⟩ := h
  replace h := grd_some h
  obtain ⟨c15, h⟩ := h
  refine V_iast hM.c z14 c15 hM.a dX11_opensOne_37 ?_
  refine V_aload_n hM.c 0 dX11_opensOne_38 rfl rfl ?_
  replace h := drf_some h
  obtain ⟨b16, e17, h⟩ := h
  refine G9_15 hM.c tw_123 hz0 e17 dX11_opensOne_39 ?_
  refine V_aload_n hM.c 0 dX11_opensOne_42 rfl rfl ?_
  refine G9_17 hM.c tw_430 hz0 dX11_opensOne_43 ?_
  refine V_iload_n hM.c 3 dX11_opensOne_46 rfl rfl ?_
  replace h := grd_some h
  obtain ⟨z18, h⟩ := h
  replace h := grd_some h
  obtain ⟨c19, h⟩ := h
  refine V_iast hM.c z18 c19 hM.a dX11_opensOne_47 ?_
  refine V_aload_n hM.c 0 dX11_opensOne_48 rfl rfl ?_
  replace h := drf_some h
  obtain ⟨b20, e21, h⟩ := h
  refine G9_16 hM.c tw_124 hz0 e21 dX11_opensOne_49 ?_
  refine V_aload_n hM.c 0 dX11_opensOne_52 rfl rfl ?_
  refine G9_17 hM.c tw_430 hz0 dX11_opensOne_53 ?_
  refine V_iconst (v := 0) hM.c dX11_opensOne_56 (by decide) ?_
  replace h := grd_some h
  obtain ⟨z22, h⟩ := h
  replace h := grd_some h
  obtain ⟨c23, h⟩ := h
  refine V_iast hM.c z22 c23 hM.a dX11_opensOne_57 ?_
  refine V_aload_n hM.c 0 dX11_opensOne_58 rfl rfl ?_
  refine V_dup hM.c dX11_opensOne_59 (rf_cat _) ?_
  refine G9_17 hM.c tw_430 hz0 dX11_opensOne_60 ?_
  refine V_iconst (v := 1) hM.c dX11_opensOne_63 (by decide) ?_
  refine V_iadd hM.c dX11_opensOne_64 ?_
  refine P9_17 hM.c tw_430 hz0 hM.a dX11_opensOne_65 ?_
  exact V_vretE hM h dX11_opensOne_68
def f_X11_opensOne (n : Nat) (Z : Zt) (a : Nat) (x1 : Int32) (x2 : Int32) (x3 : Int32) (g : Mem) : Option (Unit × Mem) := grd (zk Z a = 10) (bnd (f_X11_here n Z a g) (fun r1 g2 => if r1 = (40 : Int32) then (f_X11_opensOne_l15 n Z a x1 x2 x3 (1 : Int32) a g2) else (f_X11_opensOne_l15 n Z a x1 x2 x3 (0 : Int32) a g2)))
theorem mq_X11_opensOne : Mq yX11_opensOne cX11_opensOne 4 none 3 := ⟨tw_462, tw_5, ⟨by decide +kernel, by decide +kernel, by decide +kernel⟩, by decide⟩
theorem mi_X11_opensOne : Cond.instanceMethod yX11_opensOne ∈ TB ∧ Cond.selects yX11_opensOne.cls yX11_opensOne yX11_opensOne ∈ TB := ⟨tw_460, tw_461⟩
theorem zc_X11_opensOne {n : Nat} {Z : Zt} {a : Nat} {x1 : Int32} {x2 : Int32} {x3 : Int32} {g : Mem} {q : Unit × Mem} (h : f_X11_opensOne n Z a x1 x2 x3 g = some q) : zk Z a = 10 := (grd_some h).1
set_option maxHeartbeats 4000000 in
set_option maxRecDepth 100000 in
theorem vm_X11_opensOne {n : Nat} {Z : Zt} {a : Nat} {x1 : Int32} {x2 : Int32} {x3 : Int32} {g : Mem} {rr : Unit} {gg : Mem} (h : f_X11_opensOne n Z a x1 x2 x3 g = some (rr, gg)) : VM yX11_opensOne cX11_opensOne 4 none 1 [.ref a, .int x1, .int x2, .int x3] Z g none gg := by
  unfold f_X11_opensOne at h
  replace h := grd_some h
  obtain ⟨hz0, h⟩ := h
  refine VM.of (by decide +kernel) (Nat.le_of_ble_eq_true rfl) (fun x hM => ?_)
  have hM : Cm x cX11_opensOne RX11 4 none 1 Z none gg := hM
  show V x Z 0 0 0 [(0, va_rf (some a)), (1, .int x1), (2, .int x2), (3, .int x3)] [] g
  refine V_aload_n hM.c 0 dX11_opensOne_0 rfl rfl ?_
  refine V_aload_n hM.c 0 dX11_opensOne_1 rfl rfl ?_
  replace h := bnd_some h
  obtain ⟨r1, g2, e3, h⟩ := h
  refine V_callV (As := []) (c := 9) (T := TX11) (N := 32) hM.c hM.a mq_X11_here mi_X11_here tw_435 (hM.d (by decide)) hM.z rfl (by omega) (zc_X11_here e3) (vm_X11_here e3) rfl (Nat.le_of_ble_eq_true rfl) dX11_opensOne_2 ?_
  refine V_bipush (v := 40) hM.c dX11_opensOne_5 (by decide) ?_
  refine V_icmp_ne hM.c 14 dX11_opensOne_7 (by decide) (fun c4 => ?_) (fun c4 => ?_)
  · replace h := ite_n h c4
    refine V_iconst (v := 0) hM.c dX11_opensOne_14 (by decide) ?_
    refine V_sub [0, 1, 2, 3] rfl ?_
    exact vl_X11_opensOne_l15 hM hz0  h
  · replace h := ite_p h c4
    refine V_iconst (v := 1) hM.c dX11_opensOne_10 (by decide) ?_
    refine V_goto hM.c 15 dX11_opensOne_11 (by decide) ?_
    refine V_sub [0, 1, 2, 3] rfl ?_
    exact vl_X11_opensOne_l15 hM hz0  h
def f_X11_takesSelect_l45 (n : Nat) (Z : Zt) (a : Nat) (x1 : Int32) (x2 : Int32) (s0 : Int32) (s1 : Nat) (g : Mem) : Option (Unit × Mem) := bnd (f_X11_takesDigit n Z s1 s0 g) (fun r13 g14 => if x2 = (61 : Int32) then (bnd (f_X11_opensOne n Z a (61 : Int32) x1 r13 g14) (fun r20 g21 => some ((), g21))) else (bnd (f_X11_opensOne n Z a (126 : Int32) x1 r13 g14) (fun r17 g18 => some ((), g18))))
set_option maxHeartbeats 4000000 in
set_option maxRecDepth 100000 in
theorem vl_X11_takesSelect_l45 {x : Cq} {n : Nat} {Z : Zt} {a : Nat} {x1 : Int32} {x2 : Int32} {s0 : Int32} {s1 : Nat} {g : Mem} {rr : Unit} {gg : Mem} (hM : Cm x cX11_takesSelect RX11 4 none 2 Z none gg) (hz0 : zk Z a = 10) (h : f_X11_takesSelect_l45 n Z a x1 x2 s0 s1 g = some (rr, gg)) : V x Z 0 0 45 [(0, va_rf (some a)), (1, .int x1), (2, .int x2)] [.int s0, va_rf (some s1)] g := by
  unfold f_X11_takesSelect_l45 at h
  replace h := bnd_some h
  obtain ⟨r13, g14, e15, h⟩ := h
  refine V_callV (As := [.int s0]) (c := 9) (T := TX11) (N := 32) hM.c hM.a mq_X11_takesDigit mi_X11_takesDigit tw_455 (hM.d (by decide)) hM.z rfl (by omega) (zc_X11_takesDigit e15) (vm_X11_takesDigit e15) rfl (Nat.le_of_ble_eq_true rfl) dX11_takesSelect_45 ?_
  refine V_istore_n (i := 3) (L' := [(3, .int r13), (0, va_rf (some a)), (1, .int x1), (2, .int x2)]) hM.c dX11_takesSelect_48 rfl (by decide) rfl ?_
  refine V_aload_n hM.c 1 dX11_takesSelect_49 rfl rfl ?_
  refine V_iload_n hM.c 3 dX11_takesSelect_50 rfl rfl ?_
  refine V_bipush (v := 61) hM.c dX11_takesSelect_51 (by decide) ?_
  refine V_icmp_ne hM.c 61 dX11_takesSelect_53 (by decide) (fun c16 => ?_) (fun c16 => ?_)
  · replace h := ite_n h c16
    refine V_bipush (v := 126) hM.c dX11_takesSelect_61 (by decide) ?_
    refine V_iload_n hM.c 2 dX11_takesSelect_63 rfl rfl ?_
    refine V_iload_n hM.c 0 dX11_takesSelect_64 rfl rfl ?_
    replace h := bnd_some h
    obtain ⟨r17, g18, e19, h⟩ := h
    refine V_callV (As := [.int (126 : Int32), .int x1, .int r13]) (c := 9) (T := TX11) (N := 32) hM.c hM.a mq_X11_opensOne mi_X11_opensOne tw_459 (hM.d (by decide)) hM.z rfl (by omega) (zc_X11_opensOne e19) (vm_X11_opensOne e19) rfl (Nat.le_of_ble_eq_true rfl) dX11_takesSelect_65 ?_
    exact V_vretE hM h dX11_takesSelect_68
  · replace h := ite_p h c16
    refine V_bipush (v := 61) hM.c dX11_takesSelect_56 (by decide) ?_
    refine V_goto hM.c 63 dX11_takesSelect_58 (by decide) ?_
    refine V_iload_n hM.c 2 dX11_takesSelect_63 rfl rfl ?_
    refine V_iload_n hM.c 0 dX11_takesSelect_64 rfl rfl ?_
    replace h := bnd_some h
    obtain ⟨r20, g21, e22, h⟩ := h
    refine V_callV (As := [.int (61 : Int32), .int x1, .int r13]) (c := 9) (T := TX11) (N := 32) hM.c hM.a mq_X11_opensOne mi_X11_opensOne tw_459 (hM.d (by decide)) hM.z rfl (by omega) (zc_X11_opensOne e22) (vm_X11_opensOne e22) rfl (Nat.le_of_ble_eq_true rfl) dX11_takesSelect_65 ?_
    exact V_vretE hM h dX11_takesSelect_68
def f_X11_takesSelect_l29 (n : Nat) (Z : Zt) (a : Nat) (x1 : Int32) (x2 : Int32) (s0 : Int32) (s1 : Nat) (g : Mem) : Option (Unit × Mem) := bnd (f_X11_takes n Z s1 s0 g) (fun r9 g10 => if x2 = (61 : Int32) then (f_X11_takesSelect_l45 n Z a x1 x2 (9 : Int32) a g10) else (f_X11_takesSelect_l45 n Z a x1 x2 (3 : Int32) a g10))
set_option maxHeartbeats 4000000 in
set_option maxRecDepth 100000 in
theorem vl_X11_takesSelect_l29 {x : Cq} {n : Nat} {Z : Zt} {a : Nat} {x1 : Int32} {x2 : Int32} {s0 : Int32} {s1 : Nat} {g : Mem} {rr : Unit} {gg : Mem} (hM : Cm x cX11_takesSelect RX11 4 none 2 Z none gg) (hz0 : zk Z a = 10) (h : f_X11_takesSelect_l29 n Z a x1 x2 s0 s1 g = some (rr, gg)) : V x Z 0 0 29 [(0, va_rf (some a)), (1, .int x1), (2, .int x2)] [.int s0, va_rf (some s1)] g := by
  unfold f_X11_takesSelect_l29 at h
  replace h := bnd_some h
  obtain ⟨r9, g10, e11, h⟩ := h
  refine V_callV (As := [.int s0]) (c := 9) (T := TX11) (N := 32) hM.c hM.a mq_X11_takes mi_X11_takes tw_439 (hM.d (by decide)) hM.z rfl (by omega) (zc_X11_takes e11) (vm_X11_takes e11) rfl (Nat.le_of_ble_eq_true rfl) dX11_takesSelect_29 ?_
  refine V_aload_n hM.c 0 dX11_takesSelect_32 rfl rfl ?_
  refine V_iload_n hM.c 2 dX11_takesSelect_33 rfl rfl ?_
  refine V_bipush (v := 61) hM.c dX11_takesSelect_34 (by decide) ?_
  refine V_icmp_ne hM.c 44 dX11_takesSelect_36 (by decide) (fun c12 => ?_) (fun c12 => ?_)
  · replace h := ite_n h c12
    refine V_iconst (v := 3) hM.c dX11_takesSelect_44 (by decide) ?_
    refine V_sub [0, 1, 2] rfl ?_
    exact vl_X11_takesSelect_l45 hM hz0  h
  · replace h := ite_p h c12
    refine V_bipush (v := 9) hM.c dX11_takesSelect_39 (by decide) ?_
    refine V_goto hM.c 45 dX11_takesSelect_41 (by decide) ?_
    refine V_sub [0, 1, 2] rfl ?_
    exact vl_X11_takesSelect_l45 hM hz0  h
def f_X11_takesSelect (n : Nat) (Z : Zt) (a : Nat) (g : Mem) : Option (Unit × Mem) := grd (zk Z a = 10) (bnd (f_X11_takesDigit n Z a (3 : Int32) g) (fun r1 g2 => bnd (f_X11_here n Z a g2) (fun r4 g5 => if r4 = (61 : Int32) then (f_X11_takesSelect_l29 n Z a r1 r4 (1 : Int32) a g5) else (if r4 = (126 : Int32) then (f_X11_takesSelect_l29 n Z a r1 r4 (1 : Int32) a g5) else (f_X11_takesSelect_l29 n Z a r1 r4 (0 : Int32) a g5)))))
theorem mq_X11_takesSelect : Mq yX11_takesSelect cX11_takesSelect 4 none 0 := ⟨tw_454, tw_5, ⟨by decide +kernel, by decide +kernel, by decide +kernel⟩, by decide⟩
theorem mi_X11_takesSelect : Cond.instanceMethod yX11_takesSelect ∈ TB ∧ Cond.selects yX11_takesSelect.cls yX11_takesSelect yX11_takesSelect ∈ TB := ⟨tw_452, tw_453⟩
theorem zc_X11_takesSelect {n : Nat} {Z : Zt} {a : Nat} {g : Mem} {q : Unit × Mem} (h : f_X11_takesSelect n Z a g = some q) : zk Z a = 10 := (grd_some h).1
set_option maxHeartbeats 4000000 in
set_option maxRecDepth 100000 in
theorem vm_X11_takesSelect {n : Nat} {Z : Zt} {a : Nat} {g : Mem} {rr : Unit} {gg : Mem} (h : f_X11_takesSelect n Z a g = some (rr, gg)) : VM yX11_takesSelect cX11_takesSelect 4 none 2 [.ref a] Z g none gg := by
  unfold f_X11_takesSelect at h
  replace h := grd_some h
  obtain ⟨hz0, h⟩ := h
  refine VM.of (by decide +kernel) (Nat.le_of_ble_eq_true rfl) (fun x hM => ?_)
  have hM : Cm x cX11_takesSelect RX11 4 none 2 Z none gg := hM
  show V x Z 0 0 0 [(0, va_rf (some a))] [] g
  refine V_aload_n hM.c 0 dX11_takesSelect_0 rfl rfl ?_
  refine V_iconst (v := 3) hM.c dX11_takesSelect_1 (by decide) ?_
  replace h := bnd_some h
  obtain ⟨r1, g2, e3, h⟩ := h
  refine V_callV (As := [.int (3 : Int32)]) (c := 9) (T := TX11) (N := 32) hM.c hM.a mq_X11_takesDigit mi_X11_takesDigit tw_455 (hM.d (by decide)) hM.z rfl (by omega) (zc_X11_takesDigit e3) (vm_X11_takesDigit e3) rfl (Nat.le_of_ble_eq_true rfl) dX11_takesSelect_2 ?_
  refine V_istore_n (i := 1) (L' := [(1, .int r1), (0, va_rf (some a))]) hM.c dX11_takesSelect_5 rfl (by decide) rfl ?_
  refine V_aload_n hM.c 1 dX11_takesSelect_6 rfl rfl ?_
  replace h := bnd_some h
  obtain ⟨r4, g5, e6, h⟩ := h
  refine V_callV (As := []) (c := 9) (T := TX11) (N := 32) hM.c hM.a mq_X11_here mi_X11_here tw_435 (hM.d (by decide)) hM.z rfl (by omega) (zc_X11_here e6) (vm_X11_here e6) rfl (Nat.le_of_ble_eq_true rfl) dX11_takesSelect_7 ?_
  refine V_istore_n (i := 2) (L' := [(2, .int r4), (1, .int r1), (0, va_rf (some a))]) hM.c dX11_takesSelect_10 rfl (by decide) rfl ?_
  refine V_aload_n hM.c 2 dX11_takesSelect_11 rfl rfl ?_
  refine V_iload_n hM.c 0 dX11_takesSelect_12 rfl rfl ?_
  refine V_bipush (v := 61) hM.c dX11_takesSelect_13 (by decide) ?_
  refine V_icmp_eq hM.c 24 dX11_takesSelect_15 (by decide) (fun c7 => ?_) (fun c7 => ?_)
  · replace h := ite_p h c7
    refine V_iconst (v := 1) hM.c dX11_takesSelect_24 (by decide) ?_
    refine V_goto hM.c 29 dX11_takesSelect_25 (by decide) ?_
    refine V_sub [2, 1, 0] rfl ?_
    exact vl_X11_takesSelect_l29 hM hz0  h
  · replace h := ite_n h c7
    refine V_iload_n hM.c 0 dX11_takesSelect_18 rfl rfl ?_
    refine V_bipush (v := 126) hM.c dX11_takesSelect_19 (by decide) ?_
    refine V_icmp_ne hM.c 28 dX11_takesSelect_21 (by decide) (fun c8 => ?_) (fun c8 => ?_)
    · replace h := ite_n h c8
      refine V_iconst (v := 0) hM.c dX11_takesSelect_28 (by decide) ?_
      refine V_sub [2, 1, 0] rfl ?_
      exact vl_X11_takesSelect_l29 hM hz0  h
    · replace h := ite_p h c8
      refine V_iconst (v := 1) hM.c dX11_takesSelect_24 (by decide) ?_
      refine V_goto hM.c 29 dX11_takesSelect_25 (by decide) ?_
      refine V_sub [2, 1, 0] rfl ?_
      exact vl_X11_takesSelect_l29 hM hz0  h
def f_X11_takesProject_l29 (n : Nat) (Z : Zt) (κ4 : Int32 → Int32 → Mem → Option (Unit × Mem)) (a : Nat) (x1 : Int32) (x2 : Int32) (g : Mem) : Option (Unit × Mem) := bnd (f_X11_takesDigit n Z a (3 : Int32) g) (fun r11 g12 => κ4 (x1 + 1) (((4 : Int32) * x2) + r11) g12)
set_option maxHeartbeats 4000000 in
set_option maxRecDepth 100000 in
theorem vl_X11_takesProject_l29 {x : Cq} {n : Nat} {Z : Zt} {κ4 : Int32 → Int32 → Mem → Option (Unit × Mem)} {a : Nat} {x1 : Int32} {x2 : Int32} {g : Mem} {rr : Unit} {gg : Mem} (hM : Cm x cX11_takesProject RX11 3 none 2 Z none gg) (hz0 : zk Z a = 10) (hκ4 : ∀ (y1 : Int32) (y2 : Int32) (y : Mem), κ4 y1 y2 y = some (rr, gg) → V x Z 0 0 4 [(0, va_rf (some a)), (1, .int y1), (2, .int y2)] [] y) (h : f_X11_takesProject_l29 n Z κ4 a x1 x2 g = some (rr, gg)) : V x Z 0 0 29 [(0, va_rf (some a)), (1, .int x1), (2, .int x2)] [] g := by
  unfold f_X11_takesProject_l29 at h
  refine V_iconst (v := 4) hM.c dX11_takesProject_29 (by decide) ?_
  refine V_iload_n hM.c 2 dX11_takesProject_30 rfl rfl ?_
  refine V_imul hM.c dX11_takesProject_31 ?_
  refine V_aload_n hM.c 0 dX11_takesProject_32 rfl rfl ?_
  refine V_iconst (v := 3) hM.c dX11_takesProject_33 (by decide) ?_
  replace h := bnd_some h
  obtain ⟨r11, g12, e13, h⟩ := h
  refine V_callV (As := [.int (3 : Int32)]) (c := 9) (T := TX11) (N := 32) hM.c hM.a mq_X11_takesDigit mi_X11_takesDigit tw_455 (hM.d (by decide)) hM.z rfl (by omega) (zc_X11_takesDigit e13) (vm_X11_takesDigit e13) rfl (Nat.le_of_ble_eq_true rfl) dX11_takesProject_34 ?_
  refine V_iadd hM.c dX11_takesProject_37 ?_
  refine V_istore_n (i := 2) (L' := [(2, .int (((4 : Int32) * x2) + r11)), (0, va_rf (some a)), (1, .int x1)]) hM.c dX11_takesProject_38 rfl (by decide) rfl ?_
  refine V_iinc (v := (x1 + 1)) (L' := [(1, .int (x1 + 1)), (2, .int (((4 : Int32) * x2) + r11)), (0, va_rf (some a))]) hM.c 2 dX11_takesProject_39 rfl rfl (by decide) rfl ?_
  refine V_goto hM.c 4 dX11_takesProject_42 (by decide) ?_
  refine V_sub [2, 0, 1] rfl ?_
  exact hκ4 _ _ _ h
def f_X11_takesProject_l45 (n : Nat) (Z : Zt) (a : Nat) (x1 : Int32) (x2 : Int32) (g : Mem) : Option (Unit × Mem) := bnd (f_X11_opensOne n Z a (112 : Int32) x1 x2 g) (fun r8 g9 => some ((), g9))
set_option maxHeartbeats 4000000 in
set_option maxRecDepth 100000 in
theorem vl_X11_takesProject_l45 {x : Cq} {n : Nat} {Z : Zt} {a : Nat} {x1 : Int32} {x2 : Int32} {g : Mem} {rr : Unit} {gg : Mem} (hM : Cm x cX11_takesProject RX11 3 none 2 Z none gg) (hz0 : zk Z a = 10) (h : f_X11_takesProject_l45 n Z a x1 x2 g = some (rr, gg)) : V x Z 0 0 45 [(0, va_rf (some a)), (1, .int x1), (2, .int x2)] [] g := by
  unfold f_X11_takesProject_l45 at h
  refine V_aload_n hM.c 0 dX11_takesProject_45 rfl rfl ?_
  refine V_bipush (v := 112) hM.c dX11_takesProject_46 (by decide) ?_
  refine V_iload_n hM.c 1 dX11_takesProject_48 rfl rfl ?_
  refine V_iload_n hM.c 2 dX11_takesProject_49 rfl rfl ?_
  replace h := bnd_some h
  obtain ⟨r8, g9, e10, h⟩ := h
  refine V_callV (As := [.int (112 : Int32), .int x1, .int x2]) (c := 9) (T := TX11) (N := 32) hM.c hM.a mq_X11_opensOne mi_X11_opensOne tw_459 (hM.d (by decide)) hM.z rfl (by omega) (zc_X11_opensOne e10) (vm_X11_opensOne e10) rfl (Nat.le_of_ble_eq_true rfl) dX11_takesProject_50 ?_
  exact V_vretE hM h dX11_takesProject_53
def f_X11_takesProject_l4 (n : Nat) (Z : Zt) (a : Nat) : Nat → Int32 → Int32 → Mem → Option (Unit × Mem)
  | 0, _, _, _ => none
  | fu + 1, x1, x2, g => if (gI g a 8) = 0 then (f_X11_takesProject_l45 n Z a x1 x2 g) else (if (4 : Int32) ≤ x1 then (f_X11_takesProject_l45 n Z a x1 x2 g) else (if x1 = 0 then (f_X11_takesProject_l29 n Z (fun y0 y1 y => f_X11_takesProject_l4 n Z a fu y0 y1 y) a x1 x2 g) else (bnd (f_X11_here n Z a g) (fun r4 g5 => if r4 = (40 : Int32) then (f_X11_takesProject_l45 n Z a x1 x2 g5) else (f_X11_takesProject_l29 n Z (fun y0 y1 y => f_X11_takesProject_l4 n Z a fu y0 y1 y) a x1 x2 g5)))))
set_option maxHeartbeats 4000000 in
set_option maxRecDepth 100000 in
theorem vl_X11_takesProject_l4 {x : Cq} {n : Nat} {Z : Zt} {a : Nat} {rr : Unit} {gg : Mem} (hM : Cm x cX11_takesProject RX11 3 none 2 Z none gg) (hz0 : zk Z a = 10) : ∀ (fu : Nat) (x1 : Int32) (x2 : Int32) (g : Mem), f_X11_takesProject_l4 n Z a fu x1 x2 g = some (rr, gg) → V x Z 0 0 4 [(0, va_rf (some a)), (1, .int x1), (2, .int x2)] [] g := by
  intro fu
  induction fu with
  | zero => intro x1 x2 g h; cases h
  | succ fu ih =>
    intro x1 x2 g h
    unfold f_X11_takesProject_l4 at h
    refine V_aload_n hM.c 0 dX11_takesProject_4 rfl rfl ?_
    refine G9_8 hM.c tw_428 hz0 dX11_takesProject_5 ?_
    refine V_if_eq hM.c 45 dX11_takesProject_8 (by decide) (fun c1 => ?_) (fun c1 => ?_)
    · replace h := ite_p h c1
      refine V_sub [0, 1, 2] rfl ?_
      exact vl_X11_takesProject_l45 hM hz0  h
    · replace h := ite_n h c1
      refine V_iload_n hM.c 1 dX11_takesProject_11 rfl rfl ?_
      refine V_iconst (v := 4) hM.c dX11_takesProject_12 (by decide) ?_
      refine V_icmp_ge hM.c 45 dX11_takesProject_13 (by decide) (fun c2 => ?_) (fun c2 => ?_)
      · replace h := ite_p h c2
        refine V_sub [0, 1, 2] rfl ?_
        exact vl_X11_takesProject_l45 hM hz0  h
      · replace h := ite_n h c2
        refine V_iload_n hM.c 1 dX11_takesProject_16 rfl rfl ?_
        refine V_if_eq hM.c 29 dX11_takesProject_17 (by decide) (fun c3 => ?_) (fun c3 => ?_)
        · replace h := ite_p h c3
          refine V_sub [0, 1, 2] rfl ?_
          exact vl_X11_takesProject_l29 hM hz0 ih h
        · replace h := ite_n h c3
          refine V_aload_n hM.c 0 dX11_takesProject_20 rfl rfl ?_
          replace h := bnd_some h
          obtain ⟨r4, g5, e6, h⟩ := h
          refine V_callV (As := []) (c := 9) (T := TX11) (N := 32) hM.c hM.a mq_X11_here mi_X11_here tw_435 (hM.d (by decide)) hM.z rfl (by omega) (zc_X11_here e6) (vm_X11_here e6) rfl (Nat.le_of_ble_eq_true rfl) dX11_takesProject_21 ?_
          refine V_bipush (v := 40) hM.c dX11_takesProject_24 (by decide) ?_
          refine V_icmp_eq hM.c 45 dX11_takesProject_26 (by decide) (fun c7 => ?_) (fun c7 => ?_)
          · replace h := ite_p h c7
            refine V_sub [0, 1, 2] rfl ?_
            exact vl_X11_takesProject_l45 hM hz0  h
          · replace h := ite_n h c7
            refine V_sub [0, 1, 2] rfl ?_
            exact vl_X11_takesProject_l29 hM hz0 ih h
def f_X11_takesProject (n : Nat) (Z : Zt) (a : Nat) (g : Mem) : Option (Unit × Mem) := grd (zk Z a = 10) (f_X11_takesProject_l4 n Z a n (0 : Int32) (0 : Int32) g)
theorem mq_X11_takesProject : Mq yX11_takesProject cX11_takesProject 3 none 0 := ⟨tw_466, tw_5, ⟨by decide +kernel, by decide +kernel, by decide +kernel⟩, by decide⟩
theorem mi_X11_takesProject : Cond.instanceMethod yX11_takesProject ∈ TB ∧ Cond.selects yX11_takesProject.cls yX11_takesProject yX11_takesProject ∈ TB := ⟨tw_464, tw_465⟩
theorem zc_X11_takesProject {n : Nat} {Z : Zt} {a : Nat} {g : Mem} {q : Unit × Mem} (h : f_X11_takesProject n Z a g = some q) : zk Z a = 10 := (grd_some h).1
set_option maxHeartbeats 4000000 in
set_option maxRecDepth 100000 in
theorem vm_X11_takesProject {n : Nat} {Z : Zt} {a : Nat} {g : Mem} {rr : Unit} {gg : Mem} (h : f_X11_takesProject n Z a g = some (rr, gg)) : VM yX11_takesProject cX11_takesProject 3 none 2 [.ref a] Z g none gg := by
  unfold f_X11_takesProject at h
  replace h := grd_some h
  obtain ⟨hz0, h⟩ := h
  refine VM.of (by decide +kernel) (Nat.le_of_ble_eq_true rfl) (fun x hM => ?_)
  have hM : Cm x cX11_takesProject RX11 3 none 2 Z none gg := hM
  show V x Z 0 0 0 [(0, va_rf (some a))] [] g
  refine V_iconst (v := 0) hM.c dX11_takesProject_0 (by decide) ?_
  refine V_istore_n (i := 1) (L' := [(1, .int (0 : Int32)), (0, va_rf (some a))]) hM.c dX11_takesProject_1 rfl (by decide) rfl ?_
  refine V_iconst (v := 0) hM.c dX11_takesProject_2 (by decide) ?_
  refine V_istore_n (i := 2) (L' := [(2, .int (0 : Int32)), (1, .int (0 : Int32)), (0, va_rf (some a))]) hM.c dX11_takesProject_3 rfl (by decide) rfl ?_
  refine V_sub [2, 1, 0] rfl ?_
  exact vl_X11_takesProject_l4 hM hz0  _ _ _ _ h
def f_X11_takesBegin_l46 (n : Nat) (Z : Zt) (a : Nat) (x1 : Int32) (s0 : Int32) (s1 : Nat) (g : Mem) : Option (Int32 × Mem) := bnd (f_X11_takes n Z s1 s0 g) (fun r12 g13 => if (gI g13 a 8) = 0 then (some ((0 : Int32), g13)) else (if x1 = 106 then (bnd (f_X11_takesDigit n Z a (3 : Int32) g13) (fun r20 g21 => bnd (f_X11_takesDigit n Z a (3 : Int32) g21) (fun r23 g24 => bnd (f_X11_opensOne n Z a (106 : Int32) r20 r23 g24) (fun r26 g27 => some ((0 : Int32), g27))))) else (if x1 = 112 then (bnd (f_X11_takesProject n Z a g13) (fun r29 g30 => some ((0 : Int32), g30))) else (if x1 = 115 then (bnd (f_X11_takesSelect n Z a g13) (fun r32 g33 => some ((0 : Int32), g33))) else (if x1 = 117 then (bnd (f_X11_opensOne n Z a (117 : Int32) (0 : Int32) (0 : Int32) g13) (fun r35 g36 => some ((0 : Int32), g36))) else (bnd (f_X11_emits n Z a (65 : Int32) (x1 - (65 : Int32)) (0 : Int32) g13) (fun r38 g39 => some ((1 : Int32), g39))))))))
set_option maxHeartbeats 4000000 in
set_option maxRecDepth 100000 in
theorem vl_X11_takesBegin_l46 {x : Cq} {n : Nat} {Z : Zt} {a : Nat} {x1 : Int32} {s0 : Int32} {s1 : Nat} {g : Mem} {rr : Int32} {gg : Mem} (hM : Cm x cX11_takesBegin RX11 3 (some .boolean) 3 Z (some (.int rr)) gg) (hz0 : zk Z a = 10) (h : f_X11_takesBegin_l46 n Z a x1 s0 s1 g = some (rr, gg)) : V x Z 0 0 46 [(0, va_rf (some a)), (1, .int x1)] [.int s0, va_rf (some s1)] g := by
  unfold f_X11_takesBegin_l46 at h
  replace h := bnd_some h
  obtain ⟨r12, g13, e14, h⟩ := h
  refine V_callV (As := [.int s0]) (c := 9) (T := TX11) (N := 32) hM.c hM.a mq_X11_takes mi_X11_takes tw_439 (hM.d (by decide)) hM.z rfl (by omega) (zc_X11_takes e14) (vm_X11_takes e14) rfl (Nat.le_of_ble_eq_true rfl) dX11_takesBegin_46 ?_
  refine V_aload_n hM.c 0 dX11_takesBegin_49 rfl rfl ?_
  refine G9_8 hM.c tw_428 hz0 dX11_takesBegin_50 ?_
  refine V_if_ne hM.c 58 dX11_takesBegin_53 (by decide) (fun c15 => ?_) (fun c15 => ?_)
  · replace h := ite_n h c15
    refine V_iload_n hM.c 1 dX11_takesBegin_58 rfl rfl ?_
    by_cases c16 : x1 = 106
    · replace h := ite_p h c16
      refine V_lookK (off := 53) hM.c 112 c16 dX11_takesBegin_59 (by decide) (by decide +kernel) (by decide) ?_
      refine V_aload_n hM.c 0 dX11_takesBegin_112 rfl rfl ?_
      refine V_iconst (v := 3) hM.c dX11_takesBegin_113 (by decide) ?_
      replace h := bnd_some h
      obtain ⟨r20, g21, e22, h⟩ := h
      refine V_callV (As := [.int (3 : Int32)]) (c := 9) (T := TX11) (N := 32) hM.c hM.a mq_X11_takesDigit mi_X11_takesDigit tw_455 (hM.d (by decide)) hM.z rfl (by omega) (zc_X11_takesDigit e22) (vm_X11_takesDigit e22) rfl (Nat.le_of_ble_eq_true rfl) dX11_takesBegin_114 ?_
      refine V_istore_n (i := 2) (L' := [(2, .int r20), (0, va_rf (some a)), (1, .int x1)]) hM.c dX11_takesBegin_117 rfl (by decide) rfl ?_
      refine V_aload_n hM.c 1 dX11_takesBegin_118 rfl rfl ?_
      refine V_bipush (v := 106) hM.c dX11_takesBegin_119 (by decide) ?_
      refine V_iload_n hM.c 0 dX11_takesBegin_121 rfl rfl ?_
      refine V_aload_n hM.c 1 dX11_takesBegin_122 rfl rfl ?_
      refine V_iconst (v := 3) hM.c dX11_takesBegin_123 (by decide) ?_
      replace h := bnd_some h
      obtain ⟨r23, g24, e25, h⟩ := h
      refine V_callV (As := [.int (3 : Int32)]) (c := 9) (T := TX11) (N := 32) hM.c hM.a mq_X11_takesDigit mi_X11_takesDigit tw_455 (hM.d (by decide)) hM.z rfl (by omega) (zc_X11_takesDigit e25) (vm_X11_takesDigit e25) rfl (Nat.le_of_ble_eq_true rfl) dX11_takesBegin_124 ?_
      replace h := bnd_some h
      obtain ⟨r26, g27, e28, h⟩ := h
      refine V_callV (As := [.int (106 : Int32), .int r20, .int r23]) (c := 9) (T := TX11) (N := 32) hM.c hM.a mq_X11_opensOne mi_X11_opensOne tw_459 (hM.d (by decide)) hM.z rfl (by omega) (zc_X11_opensOne e28) (vm_X11_opensOne e28) rfl (Nat.le_of_ble_eq_true rfl) dX11_takesBegin_127 ?_
      refine V_iconst (v := 0) hM.c dX11_takesBegin_130 (by decide) ?_
      exact V_zretE hM (isz_nar (by decide)) h dX11_takesBegin_131
    replace h := ite_n h c16
    by_cases c17 : x1 = 112
    · replace h := ite_p h c17
      refine V_lookK (off := 47) hM.c 106 c17 dX11_takesBegin_59 (by decide) (by decide +kernel) (by decide) ?_
      refine V_aload_n hM.c 0 dX11_takesBegin_106 rfl rfl ?_
      replace h := bnd_some h
      obtain ⟨r29, g30, e31, h⟩ := h
      refine V_callV (As := []) (c := 9) (T := TX11) (N := 32) hM.c hM.a mq_X11_takesProject mi_X11_takesProject tw_463 (hM.d (by decide)) hM.z rfl (by omega) (zc_X11_takesProject e31) (vm_X11_takesProject e31) rfl (Nat.le_of_ble_eq_true rfl) dX11_takesBegin_107 ?_
      refine V_iconst (v := 0) hM.c dX11_takesBegin_110 (by decide) ?_
      exact V_zretE hM (isz_nar (by decide)) h dX11_takesBegin_111
    replace h := ite_n h c17
    by_cases c18 : x1 = 115
    · replace h := ite_p h c18
      refine V_lookK (off := 41) hM.c 100 c18 dX11_takesBegin_59 (by decide) (by decide +kernel) (by decide) ?_
      refine V_aload_n hM.c 0 dX11_takesBegin_100 rfl rfl ?_
      replace h := bnd_some h
      obtain ⟨r32, g33, e34, h⟩ := h
      refine V_callV (As := []) (c := 9) (T := TX11) (N := 32) hM.c hM.a mq_X11_takesSelect mi_X11_takesSelect tw_451 (hM.d (by decide)) hM.z rfl (by omega) (zc_X11_takesSelect e34) (vm_X11_takesSelect e34) rfl (Nat.le_of_ble_eq_true rfl) dX11_takesBegin_101 ?_
      refine V_iconst (v := 0) hM.c dX11_takesBegin_104 (by decide) ?_
      exact V_zretE hM (isz_nar (by decide)) h dX11_takesBegin_105
    replace h := ite_n h c18
    by_cases c19 : x1 = 117
    · replace h := ite_p h c19
      refine V_lookK (off := 73) hM.c 132 c19 dX11_takesBegin_59 (by decide) (by decide +kernel) (by decide) ?_
      refine V_aload_n hM.c 0 dX11_takesBegin_132 rfl rfl ?_
      refine V_bipush (v := 117) hM.c dX11_takesBegin_133 (by decide) ?_
      refine V_iconst (v := 0) hM.c dX11_takesBegin_135 (by decide) ?_
      refine V_iconst (v := 0) hM.c dX11_takesBegin_136 (by decide) ?_
      replace h := bnd_some h
      obtain ⟨r35, g36, e37, h⟩ := h
      refine V_callV (As := [.int (117 : Int32), .int (0 : Int32), .int (0 : Int32)]) (c := 9) (T := TX11) (N := 32) hM.c hM.a mq_X11_opensOne mi_X11_opensOne tw_459 (hM.d (by decide)) hM.z rfl (by omega) (zc_X11_opensOne e37) (vm_X11_opensOne e37) rfl (Nat.le_of_ble_eq_true rfl) dX11_takesBegin_137 ?_
      refine V_iconst (v := 0) hM.c dX11_takesBegin_140 (by decide) ?_
      exact V_zretE hM (isz_nar (by decide)) h dX11_takesBegin_141
    replace h := ite_n h c19
    refine V_lookD hM.c 142 dX11_takesBegin_59 (by decide) ((lv_osw c16 (by decide)).trans ((lv_osw c17 (by decide)).trans ((lv_osw c18 (by decide)).trans ((lv_osw c19 (by decide)).trans (rfl))))) (by decide) ?_
    refine V_aload_n hM.c 0 dX11_takesBegin_142 rfl rfl ?_
    refine V_bipush (v := 65) hM.c dX11_takesBegin_143 (by decide) ?_
    refine V_iload_n hM.c 1 dX11_takesBegin_145 rfl rfl ?_
    refine V_bipush (v := 65) hM.c dX11_takesBegin_146 (by decide) ?_
    refine V_isub hM.c dX11_takesBegin_148 ?_
    refine V_iconst (v := 0) hM.c dX11_takesBegin_149 (by decide) ?_
    replace h := bnd_some h
    obtain ⟨r38, g39, e40, h⟩ := h
    refine V_callV (As := [.int (65 : Int32), .int (x1 - (65 : Int32)), .int (0 : Int32)]) (c := 9) (T := TX11) (N := 32) hM.c hM.a mq_X11_emits mi_X11_emits tw_443 (hM.d (by decide)) hM.z rfl (by omega) (zc_X11_emits e40) (vm_X11_emits e40) rfl (Nat.le_of_ble_eq_true rfl) dX11_takesBegin_150 ?_
    refine V_iconst (v := 1) hM.c dX11_takesBegin_153 (by decide) ?_
    exact V_zretE hM (isz_nar (by decide)) h dX11_takesBegin_154
  · replace h := ite_p h c15
    refine V_iconst (v := 0) hM.c dX11_takesBegin_56 (by decide) ?_
    exact V_zretE hM (isz_nar (by decide)) h dX11_takesBegin_57
def f_X11_takesBegin (n : Nat) (Z : Zt) (a : Nat) (g : Mem) : Option (Int32 × Mem) := grd (zk Z a = 10) (bnd (f_X11_here n Z a g) (fun r1 g2 => bnd (f_X11_in n Z r1 (65 : Int32) (68 : Int32) g2) (fun r4 g5 => if r4 = 0 then (if r1 = (115 : Int32) then (f_X11_takesBegin_l46 n Z a r1 (1 : Int32) a g5) else (if r1 = (112 : Int32) then (f_X11_takesBegin_l46 n Z a r1 (1 : Int32) a g5) else (if r1 = (106 : Int32) then (f_X11_takesBegin_l46 n Z a r1 (1 : Int32) a g5) else (if r1 = (117 : Int32) then (f_X11_takesBegin_l46 n Z a r1 (1 : Int32) a g5) else (f_X11_takesBegin_l46 n Z a r1 (0 : Int32) a g5))))) else (f_X11_takesBegin_l46 n Z a r1 (1 : Int32) a g5))))
theorem mq_X11_takesBegin : Mq yX11_takesBegin cX11_takesBegin 3 (some .boolean) 0 := ⟨tw_450, tw_5, ⟨by decide +kernel, by decide +kernel, by decide +kernel⟩, by decide⟩
theorem mi_X11_takesBegin : Cond.instanceMethod yX11_takesBegin ∈ TB ∧ Cond.selects yX11_takesBegin.cls yX11_takesBegin yX11_takesBegin ∈ TB := ⟨tw_448, tw_449⟩
theorem zc_X11_takesBegin {n : Nat} {Z : Zt} {a : Nat} {g : Mem} {q : Int32 × Mem} (h : f_X11_takesBegin n Z a g = some q) : zk Z a = 10 := (grd_some h).1
set_option maxHeartbeats 4000000 in
set_option maxRecDepth 100000 in
theorem vm_X11_takesBegin {n : Nat} {Z : Zt} {a : Nat} {g : Mem} {rr : Int32} {gg : Mem} (h : f_X11_takesBegin n Z a g = some (rr, gg)) : VM yX11_takesBegin cX11_takesBegin 3 (some .boolean) 3 [.ref a] Z g (some (.int rr)) gg := by
  unfold f_X11_takesBegin at h
  replace h := grd_some h
  obtain ⟨hz0, h⟩ := h
  refine VM.of (by decide +kernel) (Nat.le_of_ble_eq_true rfl) (fun x hM => ?_)
  have hM : Cm x cX11_takesBegin RX11 3 (some .boolean) 3 Z (some (.int rr)) gg := hM
  show V x Z 0 0 0 [(0, va_rf (some a))] [] g
  refine V_aload_n hM.c 0 dX11_takesBegin_0 rfl rfl ?_
  replace h := bnd_some h
  obtain ⟨r1, g2, e3, h⟩ := h
  refine V_callV (As := []) (c := 9) (T := TX11) (N := 32) hM.c hM.a mq_X11_here mi_X11_here tw_435 (hM.d (by decide)) hM.z rfl (by omega) (zc_X11_here e3) (vm_X11_here e3) rfl (Nat.le_of_ble_eq_true rfl) dX11_takesBegin_1 ?_
  refine V_istore_n (i := 1) (L' := [(1, .int r1), (0, va_rf (some a))]) hM.c dX11_takesBegin_4 rfl (by decide) rfl ?_
  refine V_aload_n hM.c 1 dX11_takesBegin_5 rfl rfl ?_
  refine V_iload_n hM.c 0 dX11_takesBegin_6 rfl rfl ?_
  refine V_bipush (v := 65) hM.c dX11_takesBegin_7 (by decide) ?_
  refine V_bipush (v := 68) hM.c dX11_takesBegin_9 (by decide) ?_
  replace h := bnd_some h
  obtain ⟨r4, g5, e6, h⟩ := h
  refine V_callS (As := [.int r1, .int (65 : Int32), .int (68 : Int32)]) hM.c hM.a mq_X11_in mi_X11_in tw_212 (hM.d (by decide)) hM.z (vm_X11_in e6) rfl (Nat.le_of_ble_eq_true rfl) dX11_takesBegin_11 ?_
  refine V_if_ne hM.c 41 dX11_takesBegin_14 (by decide) (fun c7 => ?_) (fun c7 => ?_)
  · replace h := ite_n h c7
    refine V_iconst (v := 1) hM.c dX11_takesBegin_41 (by decide) ?_
    refine V_goto hM.c 46 dX11_takesBegin_42 (by decide) ?_
    refine V_sub [1, 0] rfl ?_
    exact vl_X11_takesBegin_l46 hM hz0  h
  · replace h := ite_p h c7
    refine V_iload_n hM.c 0 dX11_takesBegin_17 rfl rfl ?_
    refine V_bipush (v := 115) hM.c dX11_takesBegin_18 (by decide) ?_
    refine V_icmp_eq hM.c 41 dX11_takesBegin_20 (by decide) (fun c8 => ?_) (fun c8 => ?_)
    · replace h := ite_p h c8
      refine V_iconst (v := 1) hM.c dX11_takesBegin_41 (by decide) ?_
      refine V_goto hM.c 46 dX11_takesBegin_42 (by decide) ?_
      refine V_sub [1, 0] rfl ?_
      exact vl_X11_takesBegin_l46 hM hz0  h
    · replace h := ite_n h c8
      refine V_iload_n hM.c 0 dX11_takesBegin_23 rfl rfl ?_
      refine V_bipush (v := 112) hM.c dX11_takesBegin_24 (by decide) ?_
      refine V_icmp_eq hM.c 41 dX11_takesBegin_26 (by decide) (fun c9 => ?_) (fun c9 => ?_)
      · replace h := ite_p h c9
        refine V_iconst (v := 1) hM.c dX11_takesBegin_41 (by decide) ?_
        refine V_goto hM.c 46 dX11_takesBegin_42 (by decide) ?_
        refine V_sub [1, 0] rfl ?_
        exact vl_X11_takesBegin_l46 hM hz0  h
      · replace h := ite_n h c9
        refine V_iload_n hM.c 0 dX11_takesBegin_29 rfl rfl ?_
        refine V_bipush (v := 106) hM.c dX11_takesBegin_30 (by decide) ?_
        refine V_icmp_eq hM.c 41 dX11_takesBegin_32 (by decide) (fun c10 => ?_) (fun c10 => ?_)
        · replace h := ite_p h c10
          refine V_iconst (v := 1) hM.c dX11_takesBegin_41 (by decide) ?_
          refine V_goto hM.c 46 dX11_takesBegin_42 (by decide) ?_
          refine V_sub [1, 0] rfl ?_
          exact vl_X11_takesBegin_l46 hM hz0  h
        · replace h := ite_n h c10
          refine V_iload_n hM.c 0 dX11_takesBegin_35 rfl rfl ?_
          refine V_bipush (v := 117) hM.c dX11_takesBegin_36 (by decide) ?_
          refine V_icmp_ne hM.c 45 dX11_takesBegin_38 (by decide) (fun c11 => ?_) (fun c11 => ?_)
          · replace h := ite_n h c11
            refine V_iconst (v := 0) hM.c dX11_takesBegin_45 (by decide) ?_
            refine V_sub [1, 0] rfl ?_
            exact vl_X11_takesBegin_l46 hM hz0  h
          · replace h := ite_p h c11
            refine V_iconst (v := 1) hM.c dX11_takesBegin_41 (by decide) ?_
            refine V_goto hM.c 46 dX11_takesBegin_42 (by decide) ?_
            refine V_sub [1, 0] rfl ?_
            exact vl_X11_takesBegin_l46 hM hz0  h
def f_X11_closes_l94 (n : Nat) (Z : Zt) (a : Nat) (x1 : Int32) (s0 : Int32) (s1 : Nat) (g : Mem) : Option (Int32 × Mem) := bnd (f_X11_takes n Z s1 s0 g) (fun r37 g38 => drf (zf Z a 13) (fun b40 => grd (zk Z b40 = 12) (grd (inr x1 (zl Z b40)) (drf (zf Z a 14) (fun b44 => grd (zk Z b44 = 12) (grd (inr x1 (zl Z b44)) (drf (zf Z a 15) (fun b48 => grd (zk Z b48 = 12) (grd (inr x1 (zl Z b48)) (bnd (f_X11_emits n Z a (gI (sI g38 a 17 ((gI g38 a 17) - (1 : Int32))) b40 x1.toNatClampNeg) (gI (sI g38 a 17 ((gI g38 a 17) - (1 : Int32))) b44 x1.toNatClampNeg) (gI (sI g38 a 17 ((gI g38 a 17) - (1 : Int32))) b48 x1.toNatClampNeg) (sI g38 a 17 ((gI g38 a 17) - (1 : Int32)))) (fun r52 g53 => some ((1 : Int32), g53))))))))))))
set_option maxHeartbeats 4000000 in
set_option maxRecDepth 100000 in
theorem vl_X11_closes_l94 {x : Cq} {n : Nat} {Z : Zt} {a : Nat} {x1 : Int32} {s0 : Int32} {s1 : Nat} {g : Mem} {rr : Int32} {gg : Mem} (hM : Cm x cX11_closes RX11 3 (some .boolean) 1 Z (some (.int rr)) gg) (hz0 : zk Z a = 10) (h : f_X11_closes_l94 n Z a x1 s0 s1 g = some (rr, gg)) : V x Z 0 0 94 [(0, va_rf (some a)), (1, .int x1)] [.int s0, va_rf (some s1)] g := by
  unfold f_X11_closes_l94 at h
  replace h := bnd_some h
  obtain ⟨r37, g38, e39, h⟩ := h
  refine V_callV (As := [.int s0]) (c := 9) (T := TX11) (N := 32) hM.c hM.a mq_X11_takes mi_X11_takes tw_439 (hM.d (by decide)) hM.z rfl (by omega) (zc_X11_takes e39) (vm_X11_takes e39) rfl (Nat.le_of_ble_eq_true rfl) dX11_closes_94 ?_
  refine V_aload_n hM.c 0 dX11_closes_97 rfl rfl ?_
  refine V_dup hM.c dX11_closes_98 (rf_cat _) ?_
  refine G9_17 hM.c tw_430 hz0 dX11_closes_99 ?_
  refine V_iconst (v := 1) hM.c dX11_closes_102 (by decide) ?_
  refine V_isub hM.c dX11_closes_103 ?_
  refine P9_17 hM.c tw_430 hz0 hM.a dX11_closes_104 ?_
  refine V_aload_n hM.c 0 dX11_closes_107 rfl rfl ?_
  refine V_aload_n hM.c 0 dX11_closes_108 rfl rfl ?_
  replace h := drf_some h
  obtain ⟨b40, e41, h⟩ := h
  refine G9_13 hM.c tw_121 hz0 e41 dX11_closes_109 ?_
  refine V_iload_n hM.c 1 dX11_closes_112 rfl rfl ?_
  replace h := grd_some h
  obtain ⟨z42, h⟩ := h
  replace h := grd_some h
  obtain ⟨c43, h⟩ := h
  refine V_iald hM.c z42 c43 dX11_closes_113 ?_
  refine V_aload_n hM.c 0 dX11_closes_114 rfl rfl ?_
  replace h := drf_some h
  obtain ⟨b44, e45, h⟩ := h
  refine G9_14 hM.c tw_122 hz0 e45 dX11_closes_115 ?_
  refine V_iload_n hM.c 1 dX11_closes_118 rfl rfl ?_
  replace h := grd_some h
  obtain ⟨z46, h⟩ := h
  replace h := grd_some h
  obtain ⟨c47, h⟩ := h
  refine V_iald hM.c z46 c47 dX11_closes_119 ?_
  refine V_aload_n hM.c 0 dX11_closes_120 rfl rfl ?_
  replace h := drf_some h
  obtain ⟨b48, e49, h⟩ := h
  refine G9_15 hM.c tw_123 hz0 e49 dX11_closes_121 ?_
  refine V_iload_n hM.c 1 dX11_closes_124 rfl rfl ?_
  replace h := grd_some h
  obtain ⟨z50, h⟩ := h
  replace h := grd_some h
  obtain ⟨c51, h⟩ := h
  refine V_iald hM.c z50 c51 dX11_closes_125 ?_
  replace h := bnd_some h
  obtain ⟨r52, g53, e54, h⟩ := h
  refine V_callV (As := [.int (gI (sI g38 a 17 ((gI g38 a 17) - (1 : Int32))) b40 x1.toNatClampNeg), .int (gI (sI g38 a 17 ((gI g38 a 17) - (1 : Int32))) b44 x1.toNatClampNeg), .int (gI (sI g38 a 17 ((gI g38 a 17) - (1 : Int32))) b48 x1.toNatClampNeg)]) (c := 9) (T := TX11) (N := 32) hM.c hM.a mq_X11_emits mi_X11_emits tw_443 (hM.d (by decide)) hM.z rfl (by omega) (zc_X11_emits e54) (vm_X11_emits e54) rfl (Nat.le_of_ble_eq_true rfl) dX11_closes_126 ?_
  refine V_iconst (v := 1) hM.c dX11_closes_129 (by decide) ?_
  exact V_zretE hM (isz_nar (by decide)) h dX11_closes_130
def f_X11_closes_l79 (n : Nat) (Z : Zt) (a : Nat) (x1 : Int32) (g : Mem) : Option (Int32 × Mem) := bnd (f_X11_here n Z a g) (fun r33 g34 => if r33 = (41 : Int32) then (f_X11_closes_l94 n Z a x1 (1 : Int32) a g34) else (f_X11_closes_l94 n Z a x1 (0 : Int32) a g34))
set_option maxHeartbeats 4000000 in
set_option maxRecDepth 100000 in
theorem vl_X11_closes_l79 {x : Cq} {n : Nat} {Z : Zt} {a : Nat} {x1 : Int32} {g : Mem} {rr : Int32} {gg : Mem} (hM : Cm x cX11_closes RX11 3 (some .boolean) 1 Z (some (.int rr)) gg) (hz0 : zk Z a = 10) (h : f_X11_closes_l79 n Z a x1 g = some (rr, gg)) : V x Z 0 0 79 [(0, va_rf (some a)), (1, .int x1)] [] g := by
  unfold f_X11_closes_l79 at h
  refine V_aload_n hM.c 0 dX11_closes_79 rfl rfl ?_
  refine V_aload_n hM.c 0 dX11_closes_80 rfl rfl ?_
  replace h := bnd_some h
  obtain ⟨r33, g34, e35, h⟩ := h
  refine V_callV (As := []) (c := 9) (T := TX11) (N := 32) hM.c hM.a mq_X11_here mi_X11_here tw_435 (hM.d (by decide)) hM.z rfl (by omega) (zc_X11_here e35) (vm_X11_here e35) rfl (Nat.le_of_ble_eq_true rfl) dX11_closes_81 ?_
  refine V_bipush (v := 41) hM.c dX11_closes_84 (by decide) ?_
  refine V_icmp_ne hM.c 93 dX11_closes_86 (by decide) (fun c36 => ?_) (fun c36 => ?_)
  · replace h := ite_n h c36
    refine V_iconst (v := 0) hM.c dX11_closes_93 (by decide) ?_
    refine V_sub [0, 1] rfl ?_
    exact vl_X11_closes_l94 hM hz0  h
  · replace h := ite_p h c36
    refine V_iconst (v := 1) hM.c dX11_closes_89 (by decide) ?_
    refine V_goto hM.c 94 dX11_closes_90 (by decide) ?_
    refine V_sub [0, 1] rfl ?_
    exact vl_X11_closes_l94 hM hz0  h
def f_X11_closes_l44 (n : Nat) (Z : Zt) (a : Nat) (x1 : Int32) (s0 : Int32) (g : Mem) : Option (Int32 × Mem) := if s0 = 0 then (f_X11_closes_l79 n Z a x1 g) else (drf (zf Z a 16) (fun b18 => grd (zk Z b18 = 12) (grd (inr x1 (zl Z b18)) (if (gI g b18 x1.toNatClampNeg) = (1 : Int32) then (bnd (f_X11_here n Z a g) (fun r23 g24 => if r23 = (44 : Int32) then (bnd (f_X11_takes n Z a (1 : Int32) g24) (fun r30 g31 => some ((0 : Int32), g31))) else (bnd (f_X11_takes n Z a (0 : Int32) g24) (fun r27 g28 => some ((0 : Int32), g28))))) else (f_X11_closes_l79 n Z a x1 g)))))
set_option maxHeartbeats 4000000 in
set_option maxRecDepth 100000 in
theorem vl_X11_closes_l44 {x : Cq} {n : Nat} {Z : Zt} {a : Nat} {x1 : Int32} {s0 : Int32} {g : Mem} {rr : Int32} {gg : Mem} (hM : Cm x cX11_closes RX11 3 (some .boolean) 1 Z (some (.int rr)) gg) (hz0 : zk Z a = 10) (h : f_X11_closes_l44 n Z a x1 s0 g = some (rr, gg)) : V x Z 0 0 44 [(0, va_rf (some a)), (1, .int x1)] [.int s0] g := by
  unfold f_X11_closes_l44 at h
  refine V_istore_n (i := 2) (L' := [(2, .int s0), (0, va_rf (some a)), (1, .int x1)]) hM.c dX11_closes_44 rfl (by decide) rfl ?_
  refine V_iload_n hM.c 0 dX11_closes_45 rfl rfl ?_
  refine V_if_eq hM.c 79 dX11_closes_46 (by decide) (fun c17 => ?_) (fun c17 => ?_)
  · replace h := ite_p h c17
    refine V_sub [1, 2] rfl ?_
    exact vl_X11_closes_l79 hM hz0  h
  · replace h := ite_n h c17
    refine V_aload_n hM.c 1 dX11_closes_49 rfl rfl ?_
    replace h := drf_some h
    obtain ⟨b18, e19, h⟩ := h
    refine G9_16 hM.c tw_124 hz0 e19 dX11_closes_50 ?_
    refine V_iload_n hM.c 2 dX11_closes_53 rfl rfl ?_
    replace h := grd_some h
    obtain ⟨z20, h⟩ := h
    replace h := grd_some h
    obtain ⟨c21, h⟩ := h
    refine V_iald hM.c z20 c21 dX11_closes_54 ?_
    refine V_iconst (v := 1) hM.c dX11_closes_55 (by decide) ?_
    refine V_icmp_ne hM.c 79 dX11_closes_56 (by decide) (fun c22 => ?_) (fun c22 => ?_)
    · replace h := ite_n h c22
      refine V_sub [1, 2] rfl ?_
      exact vl_X11_closes_l79 hM hz0  h
    · replace h := ite_p h c22
      refine V_aload_n hM.c 1 dX11_closes_59 rfl rfl ?_
      refine V_aload_n hM.c 1 dX11_closes_60 rfl rfl ?_
      replace h := bnd_some h
      obtain ⟨r23, g24, e25, h⟩ := h
      refine V_callV (As := []) (c := 9) (T := TX11) (N := 32) hM.c hM.a mq_X11_here mi_X11_here tw_435 (hM.d (by decide)) hM.z rfl (by omega) (zc_X11_here e25) (vm_X11_here e25) rfl (Nat.le_of_ble_eq_true rfl) dX11_closes_61 ?_
      refine V_bipush (v := 44) hM.c dX11_closes_64 (by decide) ?_
      refine V_icmp_ne hM.c 73 dX11_closes_66 (by decide) (fun c26 => ?_) (fun c26 => ?_)
      · replace h := ite_n h c26
        refine V_iconst (v := 0) hM.c dX11_closes_73 (by decide) ?_
        replace h := bnd_some h
        obtain ⟨r27, g28, e29, h⟩ := h
        refine V_callV (As := [.int (0 : Int32)]) (c := 9) (T := TX11) (N := 32) hM.c hM.a mq_X11_takes mi_X11_takes tw_439 (hM.d (by decide)) hM.z rfl (by omega) (zc_X11_takes e29) (vm_X11_takes e29) rfl (Nat.le_of_ble_eq_true rfl) dX11_closes_74 ?_
        refine V_iconst (v := 0) hM.c dX11_closes_77 (by decide) ?_
        exact V_zretE hM (isz_nar (by decide)) h dX11_closes_78
      · replace h := ite_p h c26
        refine V_iconst (v := 1) hM.c dX11_closes_69 (by decide) ?_
        refine V_goto hM.c 74 dX11_closes_70 (by decide) ?_
        replace h := bnd_some h
        obtain ⟨r30, g31, e32, h⟩ := h
        refine V_callV (As := [.int (1 : Int32)]) (c := 9) (T := TX11) (N := 32) hM.c hM.a mq_X11_takes mi_X11_takes tw_439 (hM.d (by decide)) hM.z rfl (by omega) (zc_X11_takes e32) (vm_X11_takes e32) rfl (Nat.le_of_ble_eq_true rfl) dX11_closes_74 ?_
        refine V_iconst (v := 0) hM.c dX11_closes_77 (by decide) ?_
        exact V_zretE hM (isz_nar (by decide)) h dX11_closes_78
def f_X11_closes (n : Nat) (Z : Zt) (a : Nat) (g : Mem) : Option (Int32 × Mem) := grd (zk Z a = 10) (drf (zf Z a 16) (fun b1 => grd (zk Z b1 = 12) (grd (inr ((gI g a 17) - (1 : Int32)) (zl Z b1)) (grd (zk Z b1 = 12) (grd (inr ((gI g a 17) - (1 : Int32)) (zl Z b1)) (drf (zf Z a 13) (fun b7 => grd (zk Z b7 = 12) (grd (inr ((gI g a 17) - (1 : Int32)) (zl Z b7)) (if (gI (sI g b1 ((gI g a 17) - (1 : Int32)).toNatClampNeg ((gI g b1 ((gI g a 17) - (1 : Int32)).toNatClampNeg) + (1 : Int32))) b7 ((gI g a 17) - (1 : Int32)).toNatClampNeg) = (106 : Int32) then (f_X11_closes_l44 n Z a ((gI g a 17) - (1 : Int32)) (1 : Int32) (sI g b1 ((gI g a 17) - (1 : Int32)).toNatClampNeg ((gI g b1 ((gI g a 17) - (1 : Int32)).toNatClampNeg) + (1 : Int32)))) else (drf (zf Z a 13) (fun b12 => grd (zk Z b12 = 12) (grd (inr ((gI g a 17) - (1 : Int32)) (zl Z b12)) (if (gI (sI g b1 ((gI g a 17) - (1 : Int32)).toNatClampNeg ((gI g b1 ((gI g a 17) - (1 : Int32)).toNatClampNeg) + (1 : Int32))) b12 ((gI g a 17) - (1 : Int32)).toNatClampNeg) = (117 : Int32) then (f_X11_closes_l44 n Z a ((gI g a 17) - (1 : Int32)) (1 : Int32) (sI g b1 ((gI g a 17) - (1 : Int32)).toNatClampNeg ((gI g b1 ((gI g a 17) - (1 : Int32)).toNatClampNeg) + (1 : Int32)))) else (f_X11_closes_l44 n Z a ((gI g a 17) - (1 : Int32)) (0 : Int32) (sI g b1 ((gI g a 17) - (1 : Int32)).toNatClampNeg ((gI g b1 ((gI g a 17) - (1 : Int32)).toNatClampNeg) + (1 : Int32)))))))))))))))))
theorem mq_X11_closes : Mq yX11_closes cX11_closes 3 (some .boolean) 0 := ⟨tw_434, tw_5, ⟨by decide +kernel, by decide +kernel, by decide +kernel⟩, by decide⟩
theorem mi_X11_closes : Cond.instanceMethod yX11_closes ∈ TB ∧ Cond.selects yX11_closes.cls yX11_closes yX11_closes ∈ TB := ⟨tw_432, tw_433⟩
theorem zc_X11_closes {n : Nat} {Z : Zt} {a : Nat} {g : Mem} {q : Int32 × Mem} (h : f_X11_closes n Z a g = some q) : zk Z a = 10 := (grd_some h).1
set_option maxHeartbeats 4000000 in
set_option maxRecDepth 100000 in
theorem vm_X11_closes {n : Nat} {Z : Zt} {a : Nat} {g : Mem} {rr : Int32} {gg : Mem} (h : f_X11_closes n Z a g = some (rr, gg)) : VM yX11_closes cX11_closes 3 (some .boolean) 1 [.ref a] Z g (some (.int rr)) gg := by
  unfold f_X11_closes at h
  replace h := grd_some h
  obtain ⟨hz0, h⟩ := h
  refine VM.of (by decide +kernel) (Nat.le_of_ble_eq_true rfl) (fun x hM => ?_)
  have hM : Cm x cX11_closes RX11 3 (some .boolean) 1 Z (some (.int rr)) gg := hM
  show V x Z 0 0 0 [(0, va_rf (some a))] [] g
  refine V_aload_n hM.c 0 dX11_closes_0 rfl rfl ?_
  refine G9_17 hM.c tw_430 hz0 dX11_closes_1 ?_
  refine V_iconst (v := 1) hM.c dX11_closes_4 (by decide) ?_
  refine V_isub hM.c dX11_closes_5 ?_
  refine V_istore_n (i := 1) (L' := [(1, .int ((gI g a 17) - (1 : Int32))), (0, va_rf (some a))]) hM.c dX11_closes_6 rfl (by decide) rfl ?_
  refine V_aload_n hM.c 1 dX11_closes_7 rfl rfl ?_
  replace h := drf_some h
  obtain ⟨b1, e2, h⟩ := h
  refine G9_16 hM.c tw_124 hz0 e2 dX11_closes_8 ?_
  refine V_iload_n hM.c 0 dX11_closes_11 rfl rfl ?_
  refine V_dup2 hM.c dX11_closes_12 rfl (rf_cat _) ?_
  replace h := grd_some h
  obtain ⟨z3, h⟩ := h
  replace h := grd_some h
  obtain ⟨c4, h⟩ := h
  refine V_iald hM.c z3 c4 dX11_closes_13 ?_
  refine V_iconst (v := 1) hM.c dX11_closes_14 (by decide) ?_
  refine V_iadd hM.c dX11_closes_15 ?_
  replace h := grd_some h
  obtain ⟨z5, h⟩ := h
  replace h := grd_some h
  obtain ⟨c6, h⟩ := h
  refine V_iast hM.c z5 c6 hM.a dX11_closes_16 ?_
  refine V_aload_n hM.c 1 dX11_closes_17 rfl rfl ?_
  replace h := drf_some h
  obtain ⟨b7, e8, h⟩ := h
  refine G9_13 hM.c tw_121 hz0 e8 dX11_closes_18 ?_
  refine V_iload_n hM.c 0 dX11_closes_21 rfl rfl ?_
  replace h := grd_some h
  obtain ⟨z9, h⟩ := h
  replace h := grd_some h
  obtain ⟨c10, h⟩ := h
  refine V_iald hM.c z9 c10 dX11_closes_22 ?_
  refine V_bipush (v := 106) hM.c dX11_closes_23 (by decide) ?_
  refine V_icmp_eq hM.c 39 dX11_closes_25 (by decide) (fun c11 => ?_) (fun c11 => ?_)
  · replace h := ite_p h c11
    refine V_iconst (v := 1) hM.c dX11_closes_39 (by decide) ?_
    refine V_goto hM.c 44 dX11_closes_40 (by decide) ?_
    refine V_sub [1, 0] rfl ?_
    exact vl_X11_closes_l44 hM hz0  h
  · replace h := ite_n h c11
    refine V_aload_n hM.c 1 dX11_closes_28 rfl rfl ?_
    replace h := drf_some h
    obtain ⟨b12, e13, h⟩ := h
    refine G9_13 hM.c tw_121 hz0 e13 dX11_closes_29 ?_
    refine V_iload_n hM.c 0 dX11_closes_32 rfl rfl ?_
    replace h := grd_some h
    obtain ⟨z14, h⟩ := h
    replace h := grd_some h
    obtain ⟨c15, h⟩ := h
    refine V_iald hM.c z14 c15 dX11_closes_33 ?_
    refine V_bipush (v := 117) hM.c dX11_closes_34 (by decide) ?_
    refine V_icmp_ne hM.c 43 dX11_closes_36 (by decide) (fun c16 => ?_) (fun c16 => ?_)
    · replace h := ite_n h c16
      refine V_iconst (v := 0) hM.c dX11_closes_43 (by decide) ?_
      refine V_sub [1, 0] rfl ?_
      exact vl_X11_closes_l44 hM hz0  h
    · replace h := ite_p h c16
      refine V_iconst (v := 1) hM.c dX11_closes_39 (by decide) ?_
      refine V_goto hM.c 44 dX11_closes_40 (by decide) ?_
      refine V_sub [1, 0] rfl ?_
      exact vl_X11_closes_l44 hM hz0  h
def f_X11_reads_l40 (n : Nat) (Z : Zt) (κ22 : Int32 → Mem → Option (Int32 × Mem)) (a : Nat) (x1 : Int32) (g : Mem) : Option (Int32 × Mem) := if x1 = 0 then (bnd (f_X11_takesBegin n Z a g) (fun r7 g8 => κ22 r7 g8)) else (bnd (f_X11_closes n Z a g) (fun r10 g11 => κ22 r10 g11))
set_option maxHeartbeats 4000000 in
set_option maxRecDepth 100000 in
theorem vl_X11_reads_l40 {x : Cq} {n : Nat} {Z : Zt} {κ22 : Int32 → Mem → Option (Int32 × Mem)} {a : Nat} {x1 : Int32} {g : Mem} {rr : Int32} {gg : Mem} (hM : Cm x cX11_reads RX11 2 (some .boolean) 4 Z (some (.int rr)) gg) (hz0 : zk Z a = 10) (hκ22 : ∀ (y1 : Int32) (y : Mem), κ22 y1 y = some (rr, gg) → V x Z 0 0 22 [(0, va_rf (some a)), (1, .int y1)] [] y) (h : f_X11_reads_l40 n Z κ22 a x1 g = some (rr, gg)) : V x Z 0 0 40 [(0, va_rf (some a)), (1, .int x1)] [] g := by
  unfold f_X11_reads_l40 at h
  refine V_iload_n hM.c 1 dX11_reads_40 rfl rfl ?_
  refine V_if_eq hM.c 51 dX11_reads_41 (by decide) (fun c6 => ?_) (fun c6 => ?_)
  · replace h := ite_p h c6
    refine V_aload_n hM.c 0 dX11_reads_51 rfl rfl ?_
    replace h := bnd_some h
    obtain ⟨r7, g8, e9, h⟩ := h
    refine V_callV (As := []) (c := 9) (T := TX11) (N := 32) hM.c hM.a mq_X11_takesBegin mi_X11_takesBegin tw_447 (hM.d (by decide)) hM.z rfl (by omega) (zc_X11_takesBegin e9) (vm_X11_takesBegin e9) rfl (Nat.le_of_ble_eq_true rfl) dX11_reads_52 ?_
    refine V_istore_n (i := 1) (L' := [(1, .int r7), (0, va_rf (some a))]) hM.c dX11_reads_55 rfl (by decide) rfl ?_
    refine V_goto hM.c 22 dX11_reads_56 (by decide) ?_
    refine V_sub [1, 0] rfl ?_
    exact hκ22 _ _ h
  · replace h := ite_n h c6
    refine V_aload_n hM.c 0 dX11_reads_44 rfl rfl ?_
    replace h := bnd_some h
    obtain ⟨r10, g11, e12, h⟩ := h
    refine V_callV (As := []) (c := 9) (T := TX11) (N := 32) hM.c hM.a mq_X11_closes mi_X11_closes tw_431 (hM.d (by decide)) hM.z rfl (by omega) (zc_X11_closes e12) (vm_X11_closes e12) rfl (Nat.le_of_ble_eq_true rfl) dX11_reads_45 ?_
    refine V_goto hM.c 55 dX11_reads_48 (by decide) ?_
    refine V_istore_n (i := 1) (L' := [(1, .int r10), (0, va_rf (some a))]) hM.c dX11_reads_55 rfl (by decide) rfl ?_
    refine V_goto hM.c 22 dX11_reads_56 (by decide) ?_
    refine V_sub [1, 0] rfl ?_
    exact hκ22 _ _ h
def f_X11_reads_l59 (n : Nat) (Z : Zt) (a : Nat) (g : Mem) : Option (Int32 × Mem) := if (gI g a 8) = 0 then (some ((0 : Int32), g)) else (if (gI g a 7) = (gI g a 6) then (some ((1 : Int32), g)) else (some ((0 : Int32), g)))
set_option maxHeartbeats 4000000 in
set_option maxRecDepth 100000 in
theorem vl_X11_reads_l59 {x : Cq} {n : Nat} {Z : Zt} {a : Nat} {g : Mem} {rr : Int32} {gg : Mem} (hM : Cm x cX11_reads RX11 2 (some .boolean) 4 Z (some (.int rr)) gg) (hz0 : zk Z a = 10) (h : f_X11_reads_l59 n Z a  g = some (rr, gg)) : V x Z 0 0 59 [(0, va_rf (some a))] [] g := by
  unfold f_X11_reads_l59 at h
  refine V_aload_n hM.c 0 dX11_reads_59 rfl rfl ?_
  refine G9_8 hM.c tw_428 hz0 dX11_reads_60 ?_
  refine V_if_eq hM.c 81 dX11_reads_63 (by decide) (fun c4 => ?_) (fun c4 => ?_)
  · replace h := ite_p h c4
    refine V_iconst (v := 0) hM.c dX11_reads_81 (by decide) ?_
    exact V_zretE hM (isz_nar (by decide)) h dX11_reads_82
  · replace h := ite_n h c4
    refine V_aload_n hM.c 0 dX11_reads_66 rfl rfl ?_
    refine G9_7 hM.c tw_427 hz0 dX11_reads_67 ?_
    refine V_aload_n hM.c 0 dX11_reads_70 rfl rfl ?_
    refine G9_6 hM.c tw_422 hz0 dX11_reads_71 ?_
    refine V_icmp_ne hM.c 81 dX11_reads_74 (by decide) (fun c5 => ?_) (fun c5 => ?_)
    · replace h := ite_n h c5
      refine V_iconst (v := 0) hM.c dX11_reads_81 (by decide) ?_
      exact V_zretE hM (isz_nar (by decide)) h dX11_reads_82
    · replace h := ite_p h c5
      refine V_iconst (v := 1) hM.c dX11_reads_77 (by decide) ?_
      refine V_goto hM.c 82 dX11_reads_78 (by decide) ?_
      exact V_zretE hM (isz_nar (by decide)) h dX11_reads_82
def f_X11_reads_l22 (n : Nat) (Z : Zt) (a : Nat) : Nat → Int32 → Mem → Option (Int32 × Mem)
  | 0, _, _ => none
  | fu + 1, x1, g => if (gI g a 8) = 0 then (f_X11_reads_l59 n Z a g) else (if x1 = 0 then (f_X11_reads_l40 n Z (fun y0 y => f_X11_reads_l22 n Z a fu y0 y) a x1 g) else (if (gI g a 17) = 0 then (f_X11_reads_l59 n Z a g) else (f_X11_reads_l40 n Z (fun y0 y => f_X11_reads_l22 n Z a fu y0 y) a x1 g)))
set_option maxHeartbeats 4000000 in
set_option maxRecDepth 100000 in
theorem vl_X11_reads_l22 {x : Cq} {n : Nat} {Z : Zt} {a : Nat} {rr : Int32} {gg : Mem} (hM : Cm x cX11_reads RX11 2 (some .boolean) 4 Z (some (.int rr)) gg) (hz0 : zk Z a = 10) : ∀ (fu : Nat) (x1 : Int32) (g : Mem), f_X11_reads_l22 n Z a fu x1 g = some (rr, gg) → V x Z 0 0 22 [(0, va_rf (some a)), (1, .int x1)] [] g := by
  intro fu
  induction fu with
  | zero => intro x1 g h; cases h
  | succ fu ih =>
    intro x1 g h
    unfold f_X11_reads_l22 at h
    refine V_aload_n hM.c 0 dX11_reads_22 rfl rfl ?_
    refine G9_8 hM.c tw_428 hz0 dX11_reads_23 ?_
    refine V_if_eq hM.c 59 dX11_reads_26 (by decide) (fun c1 => ?_) (fun c1 => ?_)
    · replace h := ite_p h c1
      refine V_sub [0] rfl ?_
      exact vl_X11_reads_l59 hM hz0  h
    · replace h := ite_n h c1
      refine V_iload_n hM.c 1 dX11_reads_29 rfl rfl ?_
      refine V_if_eq hM.c 40 dX11_reads_30 (by decide) (fun c2 => ?_) (fun c2 => ?_)
      · replace h := ite_p h c2
        refine V_sub [0, 1] rfl ?_
        exact vl_X11_reads_l40 hM hz0 ih h
      · replace h := ite_n h c2
        refine V_aload_n hM.c 0 dX11_reads_33 rfl rfl ?_
        refine G9_17 hM.c tw_430 hz0 dX11_reads_34 ?_
        refine V_if_eq hM.c 59 dX11_reads_37 (by decide) (fun c3 => ?_) (fun c3 => ?_)
        · replace h := ite_p h c3
          refine V_sub [0] rfl ?_
          exact vl_X11_reads_l59 hM hz0  h
        · replace h := ite_n h c3
          refine V_sub [0, 1] rfl ?_
          exact vl_X11_reads_l40 hM hz0 ih h
def f_X11_reads (n : Nat) (Z : Zt) (a : Nat) (g : Mem) : Option (Int32 × Mem) := grd (zk Z a = 10) (f_X11_reads_l22 n Z a n (0 : Int32) (sI (sI (sI (sI g a 7 (0 : Int32)) a 8 (1 : Int32)) a 12 (0 : Int32)) a 17 (0 : Int32)))
theorem mq_X11_reads : Mq yX11_reads cX11_reads 2 (some .boolean) 0 := ⟨tw_426, tw_5, ⟨by decide +kernel, by decide +kernel, by decide +kernel⟩, by decide⟩
theorem mi_X11_reads : Cond.instanceMethod yX11_reads ∈ TB ∧ Cond.selects yX11_reads.cls yX11_reads yX11_reads ∈ TB := ⟨tw_424, tw_425⟩
theorem zc_X11_reads {n : Nat} {Z : Zt} {a : Nat} {g : Mem} {q : Int32 × Mem} (h : f_X11_reads n Z a g = some q) : zk Z a = 10 := (grd_some h).1
set_option maxHeartbeats 4000000 in
set_option maxRecDepth 100000 in
theorem vm_X11_reads {n : Nat} {Z : Zt} {a : Nat} {g : Mem} {rr : Int32} {gg : Mem} (h : f_X11_reads n Z a g = some (rr, gg)) : VM yX11_reads cX11_reads 2 (some .boolean) 4 [.ref a] Z g (some (.int rr)) gg := by
  unfold f_X11_reads at h
  replace h := grd_some h
  obtain ⟨hz0, h⟩ := h
  refine VM.of (by decide +kernel) (Nat.le_of_ble_eq_true rfl) (fun x hM => ?_)
  have hM : Cm x cX11_reads RX11 2 (some .boolean) 4 Z (some (.int rr)) gg := hM
  show V x Z 0 0 0 [(0, va_rf (some a))] [] g
  refine V_aload_n hM.c 0 dX11_reads_0 rfl rfl ?_
  refine V_iconst (v := 0) hM.c dX11_reads_1 (by decide) ?_
  refine P9_7 hM.c tw_427 hz0 hM.a dX11_reads_2 ?_
  refine V_aload_n hM.c 0 dX11_reads_5 rfl rfl ?_
  refine V_iconst (v := 1) hM.c dX11_reads_6 (by decide) ?_
  refine P9_8 hM.c tw_428 hz0 (by decide) hM.a dX11_reads_7 ?_
  refine V_aload_n hM.c 0 dX11_reads_10 rfl rfl ?_
  refine V_iconst (v := 0) hM.c dX11_reads_11 (by decide) ?_
  refine P9_12 hM.c tw_429 hz0 hM.a dX11_reads_12 ?_
  refine V_aload_n hM.c 0 dX11_reads_15 rfl rfl ?_
  refine V_iconst (v := 0) hM.c dX11_reads_16 (by decide) ?_
  refine P9_17 hM.c tw_430 hz0 hM.a dX11_reads_17 ?_
  refine V_iconst (v := 0) hM.c dX11_reads_20 (by decide) ?_
  refine V_istore_n (i := 1) (L' := [(1, .int (0 : Int32)), (0, va_rf (some a))]) hM.c dX11_reads_21 rfl (by decide) rfl ?_
  refine V_sub [1, 0] rfl ?_
  exact vl_X11_reads_l22 hM hz0  _ _ _ h
def f_X11_takesText_l2 (n : Nat) (Z : Zt) (a : Nat) : Nat → Int32 → Mem → Option (Unit × Mem)
  | 0, _, _ => none
  | fu + 1, x1, g => if (gI g a 4) ≤ x1 then (some ((), (sI g a 6 (gI g a 4)))) else (drf (zf Z a 5) (fun b2 => drf (zf Z a 3) (fun b4 => grd (zk Z b4 = 12) (grd (inr x1 (zl Z b4)) (grd (zk Z b2 = 12) (grd (inr x1 (zl Z b2)) (f_X11_takesText_l2 n Z a fu (x1 + 1) (sI g b2 x1.toNatClampNeg (gI g b4 x1.toNatClampNeg)))))))))
set_option maxHeartbeats 4000000 in
set_option maxRecDepth 100000 in
theorem vl_X11_takesText_l2 {x : Cq} {n : Nat} {Z : Zt} {a : Nat} {rr : Unit} {gg : Mem} (hM : Cm x cX11_takesText RX11 2 none 0 Z none gg) (hz0 : zk Z a = 10) : ∀ (fu : Nat) (x1 : Int32) (g : Mem), f_X11_takesText_l2 n Z a fu x1 g = some (rr, gg) → V x Z 0 0 2 [(0, va_rf (some a)), (1, .int x1)] [] g := by
  intro fu
  induction fu with
  | zero => intro x1 g h; cases h
  | succ fu ih =>
    intro x1 g h
    unfold f_X11_takesText_l2 at h
    refine V_iload_n hM.c 1 dX11_takesText_2 rfl rfl ?_
    refine V_aload_n hM.c 0 dX11_takesText_3 rfl rfl ?_
    refine G9_4 hM.c tw_751 hz0 dX11_takesText_4 ?_
    refine V_icmp_ge hM.c 28 dX11_takesText_7 (by decide) (fun c1 => ?_) (fun c1 => ?_)
    · replace h := ite_p h c1
      refine V_aload_n hM.c 0 dX11_takesText_28 rfl rfl ?_
      refine V_aload_n hM.c 0 dX11_takesText_29 rfl rfl ?_
      refine G9_4 hM.c tw_751 hz0 dX11_takesText_30 ?_
      refine P9_6 hM.c tw_422 hz0 hM.a dX11_takesText_33 ?_
      exact V_vretE hM h dX11_takesText_36
    · replace h := ite_n h c1
      refine V_aload_n hM.c 0 dX11_takesText_10 rfl rfl ?_
      replace h := drf_some h
      obtain ⟨b2, e3, h⟩ := h
      refine G9_5 hM.c tw_117 hz0 e3 dX11_takesText_11 ?_
      refine V_iload_n hM.c 1 dX11_takesText_14 rfl rfl ?_
      refine V_aload_n hM.c 0 dX11_takesText_15 rfl rfl ?_
      replace h := drf_some h
      obtain ⟨b4, e5, h⟩ := h
      refine G9_3 hM.c tw_116 hz0 e5 dX11_takesText_16 ?_
      refine V_iload_n hM.c 1 dX11_takesText_19 rfl rfl ?_
      replace h := grd_some h
      obtain ⟨z6, h⟩ := h
      replace h := grd_some h
      obtain ⟨c7, h⟩ := h
      refine V_iald hM.c z6 c7 dX11_takesText_20 ?_
      replace h := grd_some h
      obtain ⟨z8, h⟩ := h
      replace h := grd_some h
      obtain ⟨c9, h⟩ := h
      refine V_iast hM.c z8 c9 hM.a dX11_takesText_21 ?_
      refine V_iinc (v := (x1 + 1)) (L' := [(1, .int (x1 + 1)), (0, va_rf (some a))]) hM.c 1 dX11_takesText_22 rfl rfl (by decide) rfl ?_
      refine V_goto hM.c 2 dX11_takesText_25 (by decide) ?_
      refine V_sub [1, 0] rfl ?_
      exact ih _ _ h
def f_X11_takesText (n : Nat) (Z : Zt) (a : Nat) (g : Mem) : Option (Unit × Mem) := grd (zk Z a = 10) (f_X11_takesText_l2 n Z a n (0 : Int32) g)
theorem mq_X11_takesText : Mq yX11_takesText cX11_takesText 2 none 0 := ⟨tw_755, tw_5, ⟨by decide +kernel, by decide +kernel, by decide +kernel⟩, by decide⟩
theorem mi_X11_takesText : Cond.instanceMethod yX11_takesText ∈ TB ∧ Cond.selects yX11_takesText.cls yX11_takesText yX11_takesText ∈ TB := ⟨tw_753, tw_754⟩
theorem zc_X11_takesText {n : Nat} {Z : Zt} {a : Nat} {g : Mem} {q : Unit × Mem} (h : f_X11_takesText n Z a g = some q) : zk Z a = 10 := (grd_some h).1
set_option maxHeartbeats 4000000 in
set_option maxRecDepth 100000 in
theorem vm_X11_takesText {n : Nat} {Z : Zt} {a : Nat} {g : Mem} {rr : Unit} {gg : Mem} (h : f_X11_takesText n Z a g = some (rr, gg)) : VM yX11_takesText cX11_takesText 2 none 0 [.ref a] Z g none gg := by
  unfold f_X11_takesText at h
  replace h := grd_some h
  obtain ⟨hz0, h⟩ := h
  refine VM.of (by decide +kernel) (Nat.le_of_ble_eq_true rfl) (fun x hM => ?_)
  have hM : Cm x cX11_takesText RX11 2 none 0 Z none gg := hM
  show V x Z 0 0 0 [(0, va_rf (some a))] [] g
  refine V_iconst (v := 0) hM.c dX11_takesText_0 (by decide) ?_
  refine V_istore_n (i := 1) (L' := [(1, .int (0 : Int32)), (0, va_rf (some a))]) hM.c dX11_takesText_1 rfl (by decide) rfl ?_
  refine V_sub [1, 0] rfl ?_
  exact vl_X11_takesText_l2 hM hz0  _ _ _ h
def f_X11_takesQuery_l2 (n : Nat) (Z : Zt) (a : Nat) : Nat → Int32 → Mem → Option (Unit × Mem)
  | 0, _, _ => none
  | fu + 1, x1, g => drf (zf Z a 0) (fun b1 => grd (zk Z b1 = 12) (grd (inr (84 : Int32) (zl Z b1)) (if (gI g b1 (84 : Int32).toNatClampNeg) ≤ x1 then (drf (zf Z a 0) (fun b6 => grd (zk Z b6 = 12) (grd (inr (84 : Int32) (zl Z b6)) (some ((), (sI g a 6 (gI g b6 (84 : Int32).toNatClampNeg))))))) else (drf (zf Z a 5) (fun b10 => drf (zf Z a 0) (fun b12 => grd (zk Z b12 = 12) (grd (inr ((85 : Int32) + x1) (zl Z b12)) (grd (zk Z b10 = 12) (grd (inr x1 (zl Z b10)) (f_X11_takesQuery_l2 n Z a fu (x1 + 1) (sI g b10 x1.toNatClampNeg (gI g b12 ((85 : Int32) + x1).toNatClampNeg))))))))))))
set_option maxHeartbeats 4000000 in
set_option maxRecDepth 100000 in
theorem vl_X11_takesQuery_l2 {x : Cq} {n : Nat} {Z : Zt} {a : Nat} {rr : Unit} {gg : Mem} (hM : Cm x cX11_takesQuery RX11 2 none 0 Z none gg) (hz0 : zk Z a = 10) : ∀ (fu : Nat) (x1 : Int32) (g : Mem), f_X11_takesQuery_l2 n Z a fu x1 g = some (rr, gg) → V x Z 0 0 2 [(0, va_rf (some a)), (1, .int x1)] [] g := by
  intro fu
  induction fu with
  | zero => intro x1 g h; cases h
  | succ fu ih =>
    intro x1 g h
    unfold f_X11_takesQuery_l2 at h
    refine V_iload_n hM.c 1 dX11_takesQuery_2 rfl rfl ?_
    refine V_aload_n hM.c 0 dX11_takesQuery_3 rfl rfl ?_
    replace h := drf_some h
    obtain ⟨b1, e2, h⟩ := h
    refine G9_0 hM.c tw_114 hz0 e2 dX11_takesQuery_4 ?_
    refine V_bipush (v := 84) hM.c dX11_takesQuery_7 (by decide) ?_
    replace h := grd_some h
    obtain ⟨z3, h⟩ := h
    replace h := grd_some h
    obtain ⟨c4, h⟩ := h
    refine V_iald hM.c z3 c4 dX11_takesQuery_9 ?_
    refine V_icmp_ge hM.c 34 dX11_takesQuery_10 (by decide) (fun c5 => ?_) (fun c5 => ?_)
    · replace h := ite_p h c5
      refine V_aload_n hM.c 0 dX11_takesQuery_34 rfl rfl ?_
      refine V_aload_n hM.c 0 dX11_takesQuery_35 rfl rfl ?_
      replace h := drf_some h
      obtain ⟨b6, e7, h⟩ := h
      refine G9_0 hM.c tw_114 hz0 e7 dX11_takesQuery_36 ?_
      refine V_bipush (v := 84) hM.c dX11_takesQuery_39 (by decide) ?_
      replace h := grd_some h
      obtain ⟨z8, h⟩ := h
      replace h := grd_some h
      obtain ⟨c9, h⟩ := h
      refine V_iald hM.c z8 c9 dX11_takesQuery_41 ?_
      refine P9_6 hM.c tw_422 hz0 hM.a dX11_takesQuery_42 ?_
      exact V_vretE hM h dX11_takesQuery_45
    · replace h := ite_n h c5
      refine V_aload_n hM.c 0 dX11_takesQuery_13 rfl rfl ?_
      replace h := drf_some h
      obtain ⟨b10, e11, h⟩ := h
      refine G9_5 hM.c tw_117 hz0 e11 dX11_takesQuery_14 ?_
      refine V_iload_n hM.c 1 dX11_takesQuery_17 rfl rfl ?_
      refine V_aload_n hM.c 0 dX11_takesQuery_18 rfl rfl ?_
      replace h := drf_some h
      obtain ⟨b12, e13, h⟩ := h
      refine G9_0 hM.c tw_114 hz0 e13 dX11_takesQuery_19 ?_
      refine V_bipush (v := 85) hM.c dX11_takesQuery_22 (by decide) ?_
      refine V_iload_n hM.c 1 dX11_takesQuery_24 rfl rfl ?_
      refine V_iadd hM.c dX11_takesQuery_25 ?_
      replace h := grd_some h
      obtain ⟨z14, h⟩ := h
      replace h := grd_some h
      obtain ⟨c15, h⟩ := h
      refine V_iald hM.c z14 c15 dX11_takesQuery_26 ?_
      replace h := grd_some h
      obtain ⟨z16, h⟩ := h
      replace h := grd_some h
      obtain ⟨c17, h⟩ := h
      refine V_iast hM.c z16 c17 hM.a dX11_takesQuery_27 ?_
      refine V_iinc (v := (x1 + 1)) (L' := [(1, .int (x1 + 1)), (0, va_rf (some a))]) hM.c 1 dX11_takesQuery_28 rfl rfl (by decide) rfl ?_
      refine V_goto hM.c 2 dX11_takesQuery_31 (by decide) ?_
      refine V_sub [1, 0] rfl ?_
      exact ih _ _ h
def f_X11_takesQuery (n : Nat) (Z : Zt) (a : Nat) (g : Mem) : Option (Unit × Mem) := grd (zk Z a = 10) (f_X11_takesQuery_l2 n Z a n (0 : Int32) g)
theorem mq_X11_takesQuery : Mq yX11_takesQuery cX11_takesQuery 2 none 0 := ⟨tw_421, tw_5, ⟨by decide +kernel, by decide +kernel, by decide +kernel⟩, by decide⟩
theorem mi_X11_takesQuery : Cond.instanceMethod yX11_takesQuery ∈ TB ∧ Cond.selects yX11_takesQuery.cls yX11_takesQuery yX11_takesQuery ∈ TB := ⟨tw_419, tw_420⟩
theorem zc_X11_takesQuery {n : Nat} {Z : Zt} {a : Nat} {g : Mem} {q : Unit × Mem} (h : f_X11_takesQuery n Z a g = some q) : zk Z a = 10 := (grd_some h).1
set_option maxHeartbeats 4000000 in
set_option maxRecDepth 100000 in
theorem vm_X11_takesQuery {n : Nat} {Z : Zt} {a : Nat} {g : Mem} {rr : Unit} {gg : Mem} (h : f_X11_takesQuery n Z a g = some (rr, gg)) : VM yX11_takesQuery cX11_takesQuery 2 none 0 [.ref a] Z g none gg := by
  unfold f_X11_takesQuery at h
  replace h := grd_some h
  obtain ⟨hz0, h⟩ := h
  refine VM.of (by decide +kernel) (Nat.le_of_ble_eq_true rfl) (fun x hM => ?_)
  have hM : Cm x cX11_takesQuery RX11 2 none 0 Z none gg := hM
  show V x Z 0 0 0 [(0, va_rf (some a))] [] g
  refine V_iconst (v := 0) hM.c dX11_takesQuery_0 (by decide) ?_
  refine V_istore_n (i := 1) (L' := [(1, .int (0 : Int32)), (0, va_rf (some a))]) hM.c dX11_takesQuery_1 rfl (by decide) rfl ?_
  refine V_sub [1, 0] rfl ?_
  exact vl_X11_takesQuery_l2 hM hz0  _ _ _ h
def f_X11_digit (n : Nat) (Z : Zt) (x0 : Int32) (x1 : Int32) (x2 : Int32) (g : Mem) : Option (Int32 × Mem) := bnd (f_X11_power n Z ((x1 - (1 : Int32)) - x2) g) (fun r1 g2 => grd (¬ r1 = 0) (some (((x0 / r1) - (x0 / r1) / (10 : Int32) * (10 : Int32)), g2)))
theorem mq_X11_digit : Mq yX11_digit cX11_digit 3 (some .int) 3 := ⟨tw_499, tw_5, ⟨by decide +kernel, by decide +kernel, by decide +kernel⟩, by decide⟩
theorem mi_X11_digit : Cond.static yX11_digit ∈ TB := tw_498
set_option maxHeartbeats 4000000 in
set_option maxRecDepth 100000 in
theorem vm_X11_digit {n : Nat} {Z : Zt} {x0 : Int32} {x1 : Int32} {x2 : Int32} {g : Mem} {rr : Int32} {gg : Mem} (h : f_X11_digit n Z x0 x1 x2 g = some (rr, gg)) : VM yX11_digit cX11_digit 3 (some .int) 1 [.int x0, .int x1, .int x2] Z g (some (.int rr)) gg := by
  unfold f_X11_digit at h
  refine VM.of (by decide +kernel) (Nat.le_of_ble_eq_true rfl) (fun x hM => ?_)
  have hM : Cm x cX11_digit RX11 3 (some .int) 1 Z (some (.int rr)) gg := hM
  show V x Z 0 0 0 [(0, .int x0), (1, .int x1), (2, .int x2)] [] g
  refine V_iload_n hM.c 0 dX11_digit_0 rfl rfl ?_
  refine V_iload_n hM.c 1 dX11_digit_1 rfl rfl ?_
  refine V_iconst (v := 1) hM.c dX11_digit_2 (by decide) ?_
  refine V_isub hM.c dX11_digit_3 ?_
  refine V_iload_n hM.c 2 dX11_digit_4 rfl rfl ?_
  refine V_isub hM.c dX11_digit_5 ?_
  replace h := bnd_some h
  obtain ⟨r1, g2, e3, h⟩ := h
  refine V_callS (As := [.int ((x1 - (1 : Int32)) - x2)]) hM.c hM.a mq_X11_power mi_X11_power tw_399 (hM.d (by decide)) hM.z (vm_X11_power e3) rfl (Nat.le_of_ble_eq_true rfl) dX11_digit_6 ?_
  replace h := grd_some h
  obtain ⟨c4, h⟩ := h
  refine V_idiv hM.c dX11_digit_9 c4 ?_
  refine V_bipush (v := 10) hM.c dX11_digit_10 (by decide) ?_
  refine V_irem hM.c dX11_digit_12 (by decide) ?_
  exact V_iretE hM h dX11_digit_13
def f_X11_greatest_l4 (n : Nat) (Z : Zt) : Nat → Int32 → Int32 → Int32 → Int32 → Mem → Option (Int32 × Mem)
  | 0, _, _, _, _, _ => none
  | fu + 1, x0, x1, x2, x3, g => if x0 ≤ x3 then (some (x2, g)) else (if ((x1 >>> (((2 : Int32) * x3) &&& 31)) &&& (3 : Int32)) ≤ x2 then (f_X11_greatest_l4 n Z fu x0 x1 x2 (x3 + 1) g) else (f_X11_greatest_l4 n Z fu x0 x1 ((x1 >>> (((2 : Int32) * x3) &&& 31)) &&& (3 : Int32)) (x3 + 1) g))
set_option maxHeartbeats 4000000 in
set_option maxRecDepth 100000 in
theorem vl_X11_greatest_l4 {x : Cq} {n : Nat} {Z : Zt} {rr : Int32} {gg : Mem} (hM : Cm x cX11_greatest RX11 5 (some .int) 0 Z (some (.int rr)) gg) : ∀ (fu : Nat) (x0 : Int32) (x1 : Int32) (x2 : Int32) (x3 : Int32) (g : Mem), f_X11_greatest_l4 n Z fu x0 x1 x2 x3 g = some (rr, gg) → V x Z 0 0 4 [(0, .int x0), (1, .int x1), (2, .int x2), (3, .int x3)] [] g := by
  intro fu
  induction fu with
  | zero => intro x0 x1 x2 x3 g h; cases h
  | succ fu ih =>
    intro x0 x1 x2 x3 g h
    unfold f_X11_greatest_l4 at h
    refine V_iload_n hM.c 3 dX11_greatest_4 rfl rfl ?_
    refine V_iload_n hM.c 0 dX11_greatest_5 rfl rfl ?_
    refine V_icmp_ge hM.c 37 dX11_greatest_6 (by decide) (fun c1 => ?_) (fun c1 => ?_)
    · replace h := ite_p h c1
      refine V_iload_n hM.c 2 dX11_greatest_37 rfl rfl ?_
      exact V_iretE hM h dX11_greatest_38
    · replace h := ite_n h c1
      refine V_iload_n hM.c 1 dX11_greatest_9 rfl rfl ?_
      refine V_iconst (v := 2) hM.c dX11_greatest_10 (by decide) ?_
      refine V_iload_n hM.c 3 dX11_greatest_11 rfl rfl ?_
      refine V_imul hM.c dX11_greatest_12 ?_
      refine V_ishr hM.c dX11_greatest_13 ?_
      refine V_iconst (v := 3) hM.c dX11_greatest_14 (by decide) ?_
      refine V_iand hM.c dX11_greatest_15 ?_
      refine V_istore (L' := [(4, .int ((x1 >>> (((2 : Int32) * x3) &&& 31)) &&& (3 : Int32))), (0, .int x0), (1, .int x1), (2, .int x2), (3, .int x3)]) hM.c dX11_greatest_16 (by decide) rfl ?_
      refine V_iload hM.c 0 dX11_greatest_18 rfl ?_
      refine V_iload_n hM.c 3 dX11_greatest_20 rfl rfl ?_
      refine V_icmp_le hM.c 29 dX11_greatest_21 (by decide) (fun c2 => ?_) (fun c2 => ?_)
      · replace h := ite_p h c2
        refine V_iload_n hM.c 3 dX11_greatest_29 rfl rfl ?_
        refine V_istore_n (i := 2) (L' := [(2, .int x2), (4, .int ((x1 >>> (((2 : Int32) * x3) &&& 31)) &&& (3 : Int32))), (0, .int x0), (1, .int x1), (3, .int x3)]) hM.c dX11_greatest_30 rfl (by decide) rfl ?_
        refine V_iinc (v := (x3 + 1)) (L' := [(3, .int (x3 + 1)), (2, .int x2), (4, .int ((x1 >>> (((2 : Int32) * x3) &&& 31)) &&& (3 : Int32))), (0, .int x0), (1, .int x1)]) hM.c 4 dX11_greatest_31 rfl rfl (by decide) rfl ?_
        refine V_goto hM.c 4 dX11_greatest_34 (by decide) ?_
        refine V_sub [3, 4, 1, 0] rfl ?_
        exact ih _ _ _ _ _ h
      · replace h := ite_n h c2
        refine V_iload hM.c 0 dX11_greatest_24 rfl ?_
        refine V_goto hM.c 30 dX11_greatest_26 (by decide) ?_
        refine V_istore_n (i := 2) (L' := [(2, .int ((x1 >>> (((2 : Int32) * x3) &&& 31)) &&& (3 : Int32))), (4, .int ((x1 >>> (((2 : Int32) * x3) &&& 31)) &&& (3 : Int32))), (0, .int x0), (1, .int x1), (3, .int x3)]) hM.c dX11_greatest_30 rfl (by decide) rfl ?_
        refine V_iinc (v := (x3 + 1)) (L' := [(3, .int (x3 + 1)), (2, .int ((x1 >>> (((2 : Int32) * x3) &&& 31)) &&& (3 : Int32))), (4, .int ((x1 >>> (((2 : Int32) * x3) &&& 31)) &&& (3 : Int32))), (0, .int x0), (1, .int x1)]) hM.c 4 dX11_greatest_31 rfl rfl (by decide) rfl ?_
        refine V_goto hM.c 4 dX11_greatest_34 (by decide) ?_
        refine V_sub [3, 4, 1, 0] rfl ?_
        exact ih _ _ _ _ _ h
def f_X11_greatest (n : Nat) (Z : Zt) (x0 : Int32) (x1 : Int32) (g : Mem) : Option (Int32 × Mem) := f_X11_greatest_l4 n Z n x0 x1 (0 : Int32) (0 : Int32) g
theorem mq_X11_greatest : Mq yX11_greatest cX11_greatest 5 (some .int) 2 := ⟨tw_766, tw_5, ⟨by decide +kernel, by decide +kernel, by decide +kernel⟩, by decide⟩
theorem mi_X11_greatest : Cond.static yX11_greatest ∈ TB := tw_765
set_option maxHeartbeats 4000000 in
set_option maxRecDepth 100000 in
theorem vm_X11_greatest {n : Nat} {Z : Zt} {x0 : Int32} {x1 : Int32} {g : Mem} {rr : Int32} {gg : Mem} (h : f_X11_greatest n Z x0 x1 g = some (rr, gg)) : VM yX11_greatest cX11_greatest 5 (some .int) 0 [.int x0, .int x1] Z g (some (.int rr)) gg := by
  unfold f_X11_greatest at h
  refine VM.of (by decide +kernel) (Nat.le_of_ble_eq_true rfl) (fun x hM => ?_)
  have hM : Cm x cX11_greatest RX11 5 (some .int) 0 Z (some (.int rr)) gg := hM
  show V x Z 0 0 0 [(0, .int x0), (1, .int x1)] [] g
  refine V_iconst (v := 0) hM.c dX11_greatest_0 (by decide) ?_
  refine V_istore_n (i := 2) (L' := [(2, .int (0 : Int32)), (0, .int x0), (1, .int x1)]) hM.c dX11_greatest_1 rfl (by decide) rfl ?_
  refine V_iconst (v := 0) hM.c dX11_greatest_2 (by decide) ?_
  refine V_istore_n (i := 3) (L' := [(3, .int (0 : Int32)), (2, .int (0 : Int32)), (0, .int x0), (1, .int x1)]) hM.c dX11_greatest_3 rfl (by decide) rfl ?_
  refine V_sub [2, 3, 1, 0] rfl ?_
  exact vl_X11_greatest_l4 hM  _ _ _ _ _ _ h
def f_X11_fitsStep_l22 (n : Nat) (Z : Zt) (a : Nat) (x1 : Int32) (s0 : Int32) (g : Mem) : Option (Int32 × Mem) := drf (zf Z a 9) (fun b6 => grd (zk Z b6 = 12) (grd (inr x1 (zl Z b6)) (if (gI g b6 x1.toNatClampNeg) = 61 then (drf (zf Z a 10) (fun b15 => grd (zk Z b15 = 12) (grd (inr x1 (zl Z b15)) (if s0 ≤ (gI g b15 x1.toNatClampNeg) then (some ((0 : Int32), g)) else (some ((1 : Int32), g)))))) else (if (gI g b6 x1.toNatClampNeg) = 65 then (drf (zf Z a 18) (fun b20 => drf (zf Z a 0) (fun b22 => drf (zf Z a 10) (fun b24 => grd (zk Z b24 = 12) (grd (inr x1 (zl Z b24)) (grd (zk Z b22 = 12) (grd (inr (gI g b24 x1.toNatClampNeg) (zl Z b22)) (grd (zk Z b20 = 12) (grd (inr (gI g a 24) (zl Z b20)) (some ((1 : Int32), (sI (sI g b20 (gI g a 24).toNatClampNeg (gI g b22 (gI g b24 x1.toNatClampNeg).toNatClampNeg)) a 24 ((gI (sI g b20 (gI g a 24).toNatClampNeg (gI g b22 (gI g b24 x1.toNatClampNeg).toNatClampNeg)) a 24) + (1 : Int32)))))))))))))) else (if (gI g b6 x1.toNatClampNeg) = 106 then (drf (zf Z a 18) (fun b32 => grd (zk Z b32 = 12) (grd (inr ((gI (sI g a 24 ((gI g a 24) - (1 : Int32))) a 24) - (1 : Int32)) (zl Z b32)) (grd (zk Z b32 = 12) (grd (inr ((gI (sI g a 24 ((gI g a 24) - (1 : Int32))) a 24) - (1 : Int32)) (zl Z b32)) (drf (zf Z a 10) (fun b38 => grd (zk Z b38 = 12) (grd (inr x1 (zl Z b38)) (drf (zf Z a 18) (fun b42 => grd (zk Z b42 = 12) (grd (inr ((gI (sI (sI g a 24 ((gI g a 24) - (1 : Int32))) b32 ((gI (sI g a 24 ((gI g a 24) - (1 : Int32))) a 24) - (1 : Int32)).toNatClampNeg ((gI (sI g a 24 ((gI g a 24) - (1 : Int32))) b32 ((gI (sI g a 24 ((gI g a 24) - (1 : Int32))) a 24) - (1 : Int32)).toNatClampNeg) + s0)) a 24) - (1 : Int32)) (zl Z b42)) (if ((gI (sI (sI g a 24 ((gI g a 24) - (1 : Int32))) b32 ((gI (sI g a 24 ((gI g a 24) - (1 : Int32))) a 24) - (1 : Int32)).toNatClampNeg ((gI (sI g a 24 ((gI g a 24) - (1 : Int32))) b32 ((gI (sI g a 24 ((gI g a 24) - (1 : Int32))) a 24) - (1 : Int32)).toNatClampNeg) + s0)) b42 ((gI (sI (sI g a 24 ((gI g a 24) - (1 : Int32))) b32 ((gI (sI g a 24 ((gI g a 24) - (1 : Int32))) a 24) - (1 : Int32)).toNatClampNeg ((gI (sI g a 24 ((gI g a 24) - (1 : Int32))) b32 ((gI (sI g a 24 ((gI g a 24) - (1 : Int32))) a 24) - (1 : Int32)).toNatClampNeg) + s0)) a 24) - (1 : Int32)).toNatClampNeg) - s0) ≤ (gI (sI (sI g a 24 ((gI g a 24) - (1 : Int32))) b32 ((gI (sI g a 24 ((gI g a 24) - (1 : Int32))) a 24) - (1 : Int32)).toNatClampNeg ((gI (sI g a 24 ((gI g a 24) - (1 : Int32))) b32 ((gI (sI g a 24 ((gI g a 24) - (1 : Int32))) a 24) - (1 : Int32)).toNatClampNeg) + s0)) b38 x1.toNatClampNeg) then (some ((0 : Int32), (sI (sI g a 24 ((gI g a 24) - (1 : Int32))) b32 ((gI (sI g a 24 ((gI g a 24) - (1 : Int32))) a 24) - (1 : Int32)).toNatClampNeg ((gI (sI g a 24 ((gI g a 24) - (1 : Int32))) b32 ((gI (sI g a 24 ((gI g a 24) - (1 : Int32))) a 24) - (1 : Int32)).toNatClampNeg) + s0)))) else (drf (zf Z a 11) (fun b47 => grd (zk Z b47 = 12) (grd (inr x1 (zl Z b47)) (if s0 ≤ (gI (sI (sI g a 24 ((gI g a 24) - (1 : Int32))) b32 ((gI (sI g a 24 ((gI g a 24) - (1 : Int32))) a 24) - (1 : Int32)).toNatClampNeg ((gI (sI g a 24 ((gI g a 24) - (1 : Int32))) b32 ((gI (sI g a 24 ((gI g a 24) - (1 : Int32))) a 24) - (1 : Int32)).toNatClampNeg) + s0)) b47 x1.toNatClampNeg) then (some ((0 : Int32), (sI (sI g a 24 ((gI g a 24) - (1 : Int32))) b32 ((gI (sI g a 24 ((gI g a 24) - (1 : Int32))) a 24) - (1 : Int32)).toNatClampNeg ((gI (sI g a 24 ((gI g a 24) - (1 : Int32))) b32 ((gI (sI g a 24 ((gI g a 24) - (1 : Int32))) a 24) - (1 : Int32)).toNatClampNeg) + s0)))) else (drf (zf Z a 18) (fun b52 => grd (zk Z b52 = 12) (grd (inr ((gI (sI (sI g a 24 ((gI g a 24) - (1 : Int32))) b32 ((gI (sI g a 24 ((gI g a 24) - (1 : Int32))) a 24) - (1 : Int32)).toNatClampNeg ((gI (sI g a 24 ((gI g a 24) - (1 : Int32))) b32 ((gI (sI g a 24 ((gI g a 24) - (1 : Int32))) a 24) - (1 : Int32)).toNatClampNeg) + s0)) a 24) - (1 : Int32)) (zl Z b52)) (if (4 : Int32) < (gI (sI (sI g a 24 ((gI g a 24) - (1 : Int32))) b32 ((gI (sI g a 24 ((gI g a 24) - (1 : Int32))) a 24) - (1 : Int32)).toNatClampNeg ((gI (sI g a 24 ((gI g a 24) - (1 : Int32))) b32 ((gI (sI g a 24 ((gI g a 24) - (1 : Int32))) a 24) - (1 : Int32)).toNatClampNeg) + s0)) b52 ((gI (sI (sI g a 24 ((gI g a 24) - (1 : Int32))) b32 ((gI (sI g a 24 ((gI g a 24) - (1 : Int32))) a 24) - (1 : Int32)).toNatClampNeg ((gI (sI g a 24 ((gI g a 24) - (1 : Int32))) b32 ((gI (sI g a 24 ((gI g a 24) - (1 : Int32))) a 24) - (1 : Int32)).toNatClampNeg) + s0)) a 24) - (1 : Int32)).toNatClampNeg) then (some ((0 : Int32), (sI (sI g a 24 ((gI g a 24) - (1 : Int32))) b32 ((gI (sI g a 24 ((gI g a 24) - (1 : Int32))) a 24) - (1 : Int32)).toNatClampNeg ((gI (sI g a 24 ((gI g a 24) - (1 : Int32))) b32 ((gI (sI g a 24 ((gI g a 24) - (1 : Int32))) a 24) - (1 : Int32)).toNatClampNeg) + s0)))) else (some ((1 : Int32), (sI (sI g a 24 ((gI g a 24) - (1 : Int32))) b32 ((gI (sI g a 24 ((gI g a 24) - (1 : Int32))) a 24) - (1 : Int32)).toNatClampNeg ((gI (sI g a 24 ((gI g a 24) - (1 : Int32))) b32 ((gI (sI g a 24 ((gI g a 24) - (1 : Int32))) a 24) - (1 : Int32)).toNatClampNeg) + s0)))))))))))))))))))))))) else (if (gI g b6 x1.toNatClampNeg) = 112 then (drf (zf Z a 18) (fun b57 => drf (zf Z a 10) (fun b59 => grd (zk Z b59 = 12) (grd (inr x1 (zl Z b59)) (grd (zk Z b57 = 12) (grd (inr ((gI g a 24) - (1 : Int32)) (zl Z b57)) (drf (zf Z a 10) (fun b65 => grd (zk Z b65 = 12) (grd (inr x1 (zl Z b65)) (drf (zf Z a 11) (fun b69 => grd (zk Z b69 = 12) (grd (inr x1 (zl Z b69)) (bnd (f_X11_greatest n Z (gI (sI g b57 ((gI g a 24) - (1 : Int32)).toNatClampNeg (gI g b59 x1.toNatClampNeg)) b65 x1.toNatClampNeg) (gI (sI g b57 ((gI g a 24) - (1 : Int32)).toNatClampNeg (gI g b59 x1.toNatClampNeg)) b69 x1.toNatClampNeg) (sI g b57 ((gI g a 24) - (1 : Int32)).toNatClampNeg (gI g b59 x1.toNatClampNeg))) (fun r73 g74 => if s0 ≤ r73 then (some ((0 : Int32), g74)) else (some ((1 : Int32), g74)))))))))))))))) else (if (gI g b6 x1.toNatClampNeg) = 126 then (drf (zf Z a 10) (fun b77 => grd (zk Z b77 = 12) (grd (inr x1 (zl Z b77)) (if s0 ≤ (gI g b77 x1.toNatClampNeg) then (some ((0 : Int32), g)) else (drf (zf Z a 11) (fun b82 => grd (zk Z b82 = 12) (grd (inr x1 (zl Z b82)) (if s0 ≤ (gI g b82 x1.toNatClampNeg) then (some ((0 : Int32), g)) else (some ((1 : Int32), g)))))))))) else (drf (zf Z a 18) (fun b87 => grd (zk Z b87 = 12) (grd (inr ((gI (sI g a 24 ((gI g a 24) - (1 : Int32))) a 24) - (1 : Int32)) (zl Z b87)) (if (gI (sI g a 24 ((gI g a 24) - (1 : Int32))) b87 ((gI (sI g a 24 ((gI g a 24) - (1 : Int32))) a 24) - (1 : Int32)).toNatClampNeg) = s0 then (some ((1 : Int32), (sI g a 24 ((gI g a 24) - (1 : Int32))))) else (some ((0 : Int32), (sI g a 24 ((gI g a 24) - (1 : Int32))))))))))))))))
set_option maxHeartbeats 4000000 in
set_option maxRecDepth 100000 in
theorem vl_X11_fitsStep_l22 {x : Cq} {n : Nat} {Z : Zt} {a : Nat} {x1 : Int32} {s0 : Int32} {g : Mem} {rr : Int32} {gg : Mem} (hM : Cm x cX11_fitsStep RX11 3 (some .boolean) 1 Z (some (.int rr)) gg) (hz0 : zk Z a = 10) (h : f_X11_fitsStep_l22 n Z a x1 s0 g = some (rr, gg)) : V x Z 0 0 22 [(0, va_rf (some a)), (1, .int x1)] [.int s0] g := by
  unfold f_X11_fitsStep_l22 at h
  refine V_istore_n (i := 2) (L' := [(2, .int s0), (0, va_rf (some a)), (1, .int x1)]) hM.c dX11_fitsStep_22 rfl (by decide) rfl ?_
  refine V_aload_n hM.c 1 dX11_fitsStep_23 rfl rfl ?_
  replace h := drf_some h
  obtain ⟨b6, e7, h⟩ := h
  refine G9_9 hM.c tw_118 hz0 e7 dX11_fitsStep_24 ?_
  refine V_iload_n hM.c 2 dX11_fitsStep_27 rfl rfl ?_
  replace h := grd_some h
  obtain ⟨z8, h⟩ := h
  replace h := grd_some h
  obtain ⟨c9, h⟩ := h
  refine V_iald hM.c z8 c9 dX11_fitsStep_28 ?_
  by_cases c10 : (gI g b6 x1.toNatClampNeg) = 61
  · replace h := ite_p h c10
    refine V_lookK (off := 83) hM.c 112 c10 dX11_fitsStep_29 (by decide) (by decide +kernel) (by decide) ?_
    refine V_aload_n hM.c 1 dX11_fitsStep_112 rfl rfl ?_
    replace h := drf_some h
    obtain ⟨b15, e16, h⟩ := h
    refine G9_10 hM.c tw_119 hz0 e16 dX11_fitsStep_113 ?_
    refine V_iload_n hM.c 2 dX11_fitsStep_116 rfl rfl ?_
    replace h := grd_some h
    obtain ⟨z17, h⟩ := h
    replace h := grd_some h
    obtain ⟨c18, h⟩ := h
    refine V_iald hM.c z17 c18 dX11_fitsStep_117 ?_
    refine V_iload_n hM.c 0 dX11_fitsStep_118 rfl rfl ?_
    refine V_icmp_ge hM.c 126 dX11_fitsStep_119 (by decide) (fun c19 => ?_) (fun c19 => ?_)
    · replace h := ite_p h c19
      refine V_iconst (v := 0) hM.c dX11_fitsStep_126 (by decide) ?_
      exact V_zretE hM (isz_nar (by decide)) h dX11_fitsStep_127
    · replace h := ite_n h c19
      refine V_iconst (v := 1) hM.c dX11_fitsStep_122 (by decide) ?_
      refine V_goto hM.c 127 dX11_fitsStep_123 (by decide) ?_
      exact V_zretE hM (isz_nar (by decide)) h dX11_fitsStep_127
  replace h := ite_n h c10
  by_cases c11 : (gI g b6 x1.toNatClampNeg) = 65
  · replace h := ite_p h c11
    refine V_lookK (off := 51) hM.c 80 c11 dX11_fitsStep_29 (by decide) (by decide +kernel) (by decide) ?_
    refine V_aload_n hM.c 1 dX11_fitsStep_80 rfl rfl ?_
    replace h := drf_some h
    obtain ⟨b20, e21, h⟩ := h
    refine G9_18 hM.c tw_125 hz0 e21 dX11_fitsStep_81 ?_
    refine V_aload_n hM.c 1 dX11_fitsStep_84 rfl rfl ?_
    refine G9_24 hM.c tw_471 hz0 dX11_fitsStep_85 ?_
    refine V_aload_n hM.c 1 dX11_fitsStep_88 rfl rfl ?_
    replace h := drf_some h
    obtain ⟨b22, e23, h⟩ := h
    refine G9_0 hM.c tw_114 hz0 e23 dX11_fitsStep_89 ?_
    refine V_aload_n hM.c 1 dX11_fitsStep_92 rfl rfl ?_
    replace h := drf_some h
    obtain ⟨b24, e25, h⟩ := h
    refine G9_10 hM.c tw_119 hz0 e25 dX11_fitsStep_93 ?_
    refine V_iload_n hM.c 2 dX11_fitsStep_96 rfl rfl ?_
    replace h := grd_some h
    obtain ⟨z26, h⟩ := h
    replace h := grd_some h
    obtain ⟨c27, h⟩ := h
    refine V_iald hM.c z26 c27 dX11_fitsStep_97 ?_
    replace h := grd_some h
    obtain ⟨z28, h⟩ := h
    replace h := grd_some h
    obtain ⟨c29, h⟩ := h
    refine V_iald hM.c z28 c29 dX11_fitsStep_98 ?_
    replace h := grd_some h
    obtain ⟨z30, h⟩ := h
    replace h := grd_some h
    obtain ⟨c31, h⟩ := h
    refine V_iast hM.c z30 c31 hM.a dX11_fitsStep_99 ?_
    refine V_aload_n hM.c 1 dX11_fitsStep_100 rfl rfl ?_
    refine V_dup hM.c dX11_fitsStep_101 (rf_cat _) ?_
    refine G9_24 hM.c tw_471 hz0 dX11_fitsStep_102 ?_
    refine V_iconst (v := 1) hM.c dX11_fitsStep_105 (by decide) ?_
    refine V_iadd hM.c dX11_fitsStep_106 ?_
    refine P9_24 hM.c tw_471 hz0 hM.a dX11_fitsStep_107 ?_
    refine V_iconst (v := 1) hM.c dX11_fitsStep_110 (by decide) ?_
    exact V_zretE hM (isz_nar (by decide)) h dX11_fitsStep_111
  replace h := ite_n h c11
  by_cases c12 : (gI g b6 x1.toNatClampNeg) = 106
  · replace h := ite_p h c12
    refine V_lookK (off := 167) hM.c 196 c12 dX11_fitsStep_29 (by decide) (by decide +kernel) (by decide) ?_
    refine V_aload_n hM.c 1 dX11_fitsStep_196 rfl rfl ?_
    refine V_dup hM.c dX11_fitsStep_197 (rf_cat _) ?_
    refine G9_24 hM.c tw_471 hz0 dX11_fitsStep_198 ?_
    refine V_iconst (v := 1) hM.c dX11_fitsStep_201 (by decide) ?_
    refine V_isub hM.c dX11_fitsStep_202 ?_
    refine P9_24 hM.c tw_471 hz0 hM.a dX11_fitsStep_203 ?_
    refine V_aload_n hM.c 1 dX11_fitsStep_206 rfl rfl ?_
    replace h := drf_some h
    obtain ⟨b32, e33, h⟩ := h
    refine G9_18 hM.c tw_125 hz0 e33 dX11_fitsStep_207 ?_
    refine V_aload_n hM.c 1 dX11_fitsStep_210 rfl rfl ?_
    refine G9_24 hM.c tw_471 hz0 dX11_fitsStep_211 ?_
    refine V_iconst (v := 1) hM.c dX11_fitsStep_214 (by decide) ?_
    refine V_isub hM.c dX11_fitsStep_215 ?_
    refine V_dup2 hM.c dX11_fitsStep_216 rfl (rf_cat _) ?_
    replace h := grd_some h
    obtain ⟨z34, h⟩ := h
    replace h := grd_some h
    obtain ⟨c35, h⟩ := h
    refine V_iald hM.c z34 c35 dX11_fitsStep_217 ?_
    refine V_iload_n hM.c 0 dX11_fitsStep_218 rfl rfl ?_
    refine V_iadd hM.c dX11_fitsStep_219 ?_
    replace h := grd_some h
    obtain ⟨z36, h⟩ := h
    replace h := grd_some h
    obtain ⟨c37, h⟩ := h
    refine V_iast hM.c z36 c37 hM.a dX11_fitsStep_220 ?_
    refine V_aload_n hM.c 1 dX11_fitsStep_221 rfl rfl ?_
    replace h := drf_some h
    obtain ⟨b38, e39, h⟩ := h
    refine G9_10 hM.c tw_119 hz0 e39 dX11_fitsStep_222 ?_
    refine V_iload_n hM.c 2 dX11_fitsStep_225 rfl rfl ?_
    replace h := grd_some h
    obtain ⟨z40, h⟩ := h
    replace h := grd_some h
    obtain ⟨c41, h⟩ := h
    refine V_iald hM.c z40 c41 dX11_fitsStep_226 ?_
    refine V_aload_n hM.c 1 dX11_fitsStep_227 rfl rfl ?_
    replace h := drf_some h
    obtain ⟨b42, e43, h⟩ := h
    refine G9_18 hM.c tw_125 hz0 e43 dX11_fitsStep_228 ?_
    refine V_aload_n hM.c 1 dX11_fitsStep_231 rfl rfl ?_
    refine G9_24 hM.c tw_471 hz0 dX11_fitsStep_232 ?_
    refine V_iconst (v := 1) hM.c dX11_fitsStep_235 (by decide) ?_
    refine V_isub hM.c dX11_fitsStep_236 ?_
    replace h := grd_some h
    obtain ⟨z44, h⟩ := h
    replace h := grd_some h
    obtain ⟨c45, h⟩ := h
    refine V_iald hM.c z44 c45 dX11_fitsStep_237 ?_
    refine V_iload_n hM.c 0 dX11_fitsStep_238 rfl rfl ?_
    refine V_isub hM.c dX11_fitsStep_239 ?_
    refine V_icmp_ge hM.c 272 dX11_fitsStep_240 (by decide) (fun c46 => ?_) (fun c46 => ?_)
    · replace h := ite_p h c46
      refine V_iconst (v := 0) hM.c dX11_fitsStep_272 (by decide) ?_
      exact V_zretE hM (isz_nar (by decide)) h dX11_fitsStep_273
    · replace h := ite_n h c46
      refine V_aload_n hM.c 1 dX11_fitsStep_243 rfl rfl ?_
      replace h := drf_some h
      obtain ⟨b47, e48, h⟩ := h
      refine G9_11 hM.c tw_120 hz0 e48 dX11_fitsStep_244 ?_
      refine V_iload_n hM.c 2 dX11_fitsStep_247 rfl rfl ?_
      replace h := grd_some h
      obtain ⟨z49, h⟩ := h
      replace h := grd_some h
      obtain ⟨c50, h⟩ := h
      refine V_iald hM.c z49 c50 dX11_fitsStep_248 ?_
      refine V_iload_n hM.c 0 dX11_fitsStep_249 rfl rfl ?_
      refine V_icmp_ge hM.c 272 dX11_fitsStep_250 (by decide) (fun c51 => ?_) (fun c51 => ?_)
      · replace h := ite_p h c51
        refine V_iconst (v := 0) hM.c dX11_fitsStep_272 (by decide) ?_
        exact V_zretE hM (isz_nar (by decide)) h dX11_fitsStep_273
      · replace h := ite_n h c51
        refine V_aload_n hM.c 1 dX11_fitsStep_253 rfl rfl ?_
        replace h := drf_some h
        obtain ⟨b52, e53, h⟩ := h
        refine G9_18 hM.c tw_125 hz0 e53 dX11_fitsStep_254 ?_
        refine V_aload_n hM.c 1 dX11_fitsStep_257 rfl rfl ?_
        refine G9_24 hM.c tw_471 hz0 dX11_fitsStep_258 ?_
        refine V_iconst (v := 1) hM.c dX11_fitsStep_261 (by decide) ?_
        refine V_isub hM.c dX11_fitsStep_262 ?_
        replace h := grd_some h
        obtain ⟨z54, h⟩ := h
        replace h := grd_some h
        obtain ⟨c55, h⟩ := h
        refine V_iald hM.c z54 c55 dX11_fitsStep_263 ?_
        refine V_iconst (v := 4) hM.c dX11_fitsStep_264 (by decide) ?_
        refine V_icmp_gt hM.c 272 dX11_fitsStep_265 (by decide) (fun c56 => ?_) (fun c56 => ?_)
        · replace h := ite_p h c56
          refine V_iconst (v := 0) hM.c dX11_fitsStep_272 (by decide) ?_
          exact V_zretE hM (isz_nar (by decide)) h dX11_fitsStep_273
        · replace h := ite_n h c56
          refine V_iconst (v := 1) hM.c dX11_fitsStep_268 (by decide) ?_
          refine V_goto hM.c 273 dX11_fitsStep_269 (by decide) ?_
          exact V_zretE hM (isz_nar (by decide)) h dX11_fitsStep_273
  replace h := ite_n h c12
  by_cases c13 : (gI g b6 x1.toNatClampNeg) = 112
  · replace h := ite_p h c13
    refine V_lookK (off := 125) hM.c 154 c13 dX11_fitsStep_29 (by decide) (by decide +kernel) (by decide) ?_
    refine V_aload_n hM.c 1 dX11_fitsStep_154 rfl rfl ?_
    replace h := drf_some h
    obtain ⟨b57, e58, h⟩ := h
    refine G9_18 hM.c tw_125 hz0 e58 dX11_fitsStep_155 ?_
    refine V_aload_n hM.c 1 dX11_fitsStep_158 rfl rfl ?_
    refine G9_24 hM.c tw_471 hz0 dX11_fitsStep_159 ?_
    refine V_iconst (v := 1) hM.c dX11_fitsStep_162 (by decide) ?_
    refine V_isub hM.c dX11_fitsStep_163 ?_
    refine V_aload_n hM.c 1 dX11_fitsStep_164 rfl rfl ?_
    replace h := drf_some h
    obtain ⟨b59, e60, h⟩ := h
    refine G9_10 hM.c tw_119 hz0 e60 dX11_fitsStep_165 ?_
    refine V_iload_n hM.c 2 dX11_fitsStep_168 rfl rfl ?_
    replace h := grd_some h
    obtain ⟨z61, h⟩ := h
    replace h := grd_some h
    obtain ⟨c62, h⟩ := h
    refine V_iald hM.c z61 c62 dX11_fitsStep_169 ?_
    replace h := grd_some h
    obtain ⟨z63, h⟩ := h
    replace h := grd_some h
    obtain ⟨c64, h⟩ := h
    refine V_iast hM.c z63 c64 hM.a dX11_fitsStep_170 ?_
    refine V_aload_n hM.c 1 dX11_fitsStep_171 rfl rfl ?_
    replace h := drf_some h
    obtain ⟨b65, e66, h⟩ := h
    refine G9_10 hM.c tw_119 hz0 e66 dX11_fitsStep_172 ?_
    refine V_iload_n hM.c 2 dX11_fitsStep_175 rfl rfl ?_
    replace h := grd_some h
    obtain ⟨z67, h⟩ := h
    replace h := grd_some h
    obtain ⟨c68, h⟩ := h
    refine V_iald hM.c z67 c68 dX11_fitsStep_176 ?_
    refine V_aload_n hM.c 1 dX11_fitsStep_177 rfl rfl ?_
    replace h := drf_some h
    obtain ⟨b69, e70, h⟩ := h
    refine G9_11 hM.c tw_120 hz0 e70 dX11_fitsStep_178 ?_
    refine V_iload_n hM.c 2 dX11_fitsStep_181 rfl rfl ?_
    replace h := grd_some h
    obtain ⟨z71, h⟩ := h
    replace h := grd_some h
    obtain ⟨c72, h⟩ := h
    refine V_iald hM.c z71 c72 dX11_fitsStep_182 ?_
    replace h := bnd_some h
    obtain ⟨r73, g74, e75, h⟩ := h
    refine V_callS (As := [.int (gI (sI g b57 ((gI g a 24) - (1 : Int32)).toNatClampNeg (gI g b59 x1.toNatClampNeg)) b65 x1.toNatClampNeg), .int (gI (sI g b57 ((gI g a 24) - (1 : Int32)).toNatClampNeg (gI g b59 x1.toNatClampNeg)) b69 x1.toNatClampNeg)]) hM.c hM.a mq_X11_greatest mi_X11_greatest tw_764 (hM.d (by decide)) hM.z (vm_X11_greatest e75) rfl (Nat.le_of_ble_eq_true rfl) dX11_fitsStep_183 ?_
    refine V_iload_n hM.c 0 dX11_fitsStep_186 rfl rfl ?_
    refine V_icmp_ge hM.c 194 dX11_fitsStep_187 (by decide) (fun c76 => ?_) (fun c76 => ?_)
    · replace h := ite_p h c76
      refine V_iconst (v := 0) hM.c dX11_fitsStep_194 (by decide) ?_
      exact V_zretE hM (isz_nar (by decide)) h dX11_fitsStep_195
    · replace h := ite_n h c76
      refine V_iconst (v := 1) hM.c dX11_fitsStep_190 (by decide) ?_
      refine V_goto hM.c 195 dX11_fitsStep_191 (by decide) ?_
      exact V_zretE hM (isz_nar (by decide)) h dX11_fitsStep_195
  replace h := ite_n h c13
  by_cases c14 : (gI g b6 x1.toNatClampNeg) = 126
  · replace h := ite_p h c14
    refine V_lookK (off := 99) hM.c 128 c14 dX11_fitsStep_29 (by decide) (by decide +kernel) (by decide) ?_
    refine V_aload_n hM.c 1 dX11_fitsStep_128 rfl rfl ?_
    replace h := drf_some h
    obtain ⟨b77, e78, h⟩ := h
    refine G9_10 hM.c tw_119 hz0 e78 dX11_fitsStep_129 ?_
    refine V_iload_n hM.c 2 dX11_fitsStep_132 rfl rfl ?_
    replace h := grd_some h
    obtain ⟨z79, h⟩ := h
    replace h := grd_some h
    obtain ⟨c80, h⟩ := h
    refine V_iald hM.c z79 c80 dX11_fitsStep_133 ?_
    refine V_iload_n hM.c 0 dX11_fitsStep_134 rfl rfl ?_
    refine V_icmp_ge hM.c 152 dX11_fitsStep_135 (by decide) (fun c81 => ?_) (fun c81 => ?_)
    · replace h := ite_p h c81
      refine V_iconst (v := 0) hM.c dX11_fitsStep_152 (by decide) ?_
      exact V_zretE hM (isz_nar (by decide)) h dX11_fitsStep_153
    · replace h := ite_n h c81
      refine V_aload_n hM.c 1 dX11_fitsStep_138 rfl rfl ?_
      replace h := drf_some h
      obtain ⟨b82, e83, h⟩ := h
      refine G9_11 hM.c tw_120 hz0 e83 dX11_fitsStep_139 ?_
      refine V_iload_n hM.c 2 dX11_fitsStep_142 rfl rfl ?_
      replace h := grd_some h
      obtain ⟨z84, h⟩ := h
      replace h := grd_some h
      obtain ⟨c85, h⟩ := h
      refine V_iald hM.c z84 c85 dX11_fitsStep_143 ?_
      refine V_iload_n hM.c 0 dX11_fitsStep_144 rfl rfl ?_
      refine V_icmp_ge hM.c 152 dX11_fitsStep_145 (by decide) (fun c86 => ?_) (fun c86 => ?_)
      · replace h := ite_p h c86
        refine V_iconst (v := 0) hM.c dX11_fitsStep_152 (by decide) ?_
        exact V_zretE hM (isz_nar (by decide)) h dX11_fitsStep_153
      · replace h := ite_n h c86
        refine V_iconst (v := 1) hM.c dX11_fitsStep_148 (by decide) ?_
        refine V_goto hM.c 153 dX11_fitsStep_149 (by decide) ?_
        exact V_zretE hM (isz_nar (by decide)) h dX11_fitsStep_153
  replace h := ite_n h c14
  refine V_lookD hM.c 274 dX11_fitsStep_29 (by decide) ((lv_osw c10 (by decide)).trans ((lv_osw c11 (by decide)).trans ((lv_osw c12 (by decide)).trans ((lv_osw c13 (by decide)).trans ((lv_osw c14 (by decide)).trans (rfl)))))) (by decide) ?_
  refine V_aload_n hM.c 1 dX11_fitsStep_274 rfl rfl ?_
  refine V_dup hM.c dX11_fitsStep_275 (rf_cat _) ?_
  refine G9_24 hM.c tw_471 hz0 dX11_fitsStep_276 ?_
  refine V_iconst (v := 1) hM.c dX11_fitsStep_279 (by decide) ?_
  refine V_isub hM.c dX11_fitsStep_280 ?_
  refine P9_24 hM.c tw_471 hz0 hM.a dX11_fitsStep_281 ?_
  refine V_aload_n hM.c 1 dX11_fitsStep_284 rfl rfl ?_
  replace h := drf_some h
  obtain ⟨b87, e88, h⟩ := h
  refine G9_18 hM.c tw_125 hz0 e88 dX11_fitsStep_285 ?_
  refine V_aload_n hM.c 1 dX11_fitsStep_288 rfl rfl ?_
  refine G9_24 hM.c tw_471 hz0 dX11_fitsStep_289 ?_
  refine V_iconst (v := 1) hM.c dX11_fitsStep_292 (by decide) ?_
  refine V_isub hM.c dX11_fitsStep_293 ?_
  replace h := grd_some h
  obtain ⟨z89, h⟩ := h
  replace h := grd_some h
  obtain ⟨c90, h⟩ := h
  refine V_iald hM.c z89 c90 dX11_fitsStep_294 ?_
  refine V_iload_n hM.c 0 dX11_fitsStep_295 rfl rfl ?_
  refine V_icmp_ne hM.c 303 dX11_fitsStep_296 (by decide) (fun c91 => ?_) (fun c91 => ?_)
  · replace h := ite_n h c91
    refine V_iconst (v := 0) hM.c dX11_fitsStep_303 (by decide) ?_
    exact V_zretE hM (isz_nar (by decide)) h dX11_fitsStep_304
  · replace h := ite_p h c91
    refine V_iconst (v := 1) hM.c dX11_fitsStep_299 (by decide) ?_
    refine V_goto hM.c 304 dX11_fitsStep_300 (by decide) ?_
    exact V_zretE hM (isz_nar (by decide)) h dX11_fitsStep_304
def f_X11_fitsStep (n : Nat) (Z : Zt) (a : Nat) (x1 : Int32) (g : Mem) : Option (Int32 × Mem) := grd (zk Z a = 10) (if (gI g a 24) ≤ 0 then (f_X11_fitsStep_l22 n Z a x1 (0 : Int32) g) else (drf (zf Z a 18) (fun b2 => grd (zk Z b2 = 12) (grd (inr ((gI g a 24) - (1 : Int32)) (zl Z b2)) (f_X11_fitsStep_l22 n Z a x1 (gI g b2 ((gI g a 24) - (1 : Int32)).toNatClampNeg) g)))))
theorem mq_X11_fitsStep : Mq yX11_fitsStep cX11_fitsStep 3 (some .boolean) 1 := ⟨tw_763, tw_5, ⟨by decide +kernel, by decide +kernel, by decide +kernel⟩, by decide⟩
theorem mi_X11_fitsStep : Cond.instanceMethod yX11_fitsStep ∈ TB ∧ Cond.selects yX11_fitsStep.cls yX11_fitsStep yX11_fitsStep ∈ TB := ⟨tw_761, tw_762⟩
theorem zc_X11_fitsStep {n : Nat} {Z : Zt} {a : Nat} {x1 : Int32} {g : Mem} {q : Int32 × Mem} (h : f_X11_fitsStep n Z a x1 g = some q) : zk Z a = 10 := (grd_some h).1
set_option maxHeartbeats 4000000 in
set_option maxRecDepth 100000 in
theorem vm_X11_fitsStep {n : Nat} {Z : Zt} {a : Nat} {x1 : Int32} {g : Mem} {rr : Int32} {gg : Mem} (h : f_X11_fitsStep n Z a x1 g = some (rr, gg)) : VM yX11_fitsStep cX11_fitsStep 3 (some .boolean) 1 [.ref a, .int x1] Z g (some (.int rr)) gg := by
  unfold f_X11_fitsStep at h
  replace h := grd_some h
  obtain ⟨hz0, h⟩ := h
  refine VM.of (by decide +kernel) (Nat.le_of_ble_eq_true rfl) (fun x hM => ?_)
  have hM : Cm x cX11_fitsStep RX11 3 (some .boolean) 1 Z (some (.int rr)) gg := hM
  show V x Z 0 0 0 [(0, va_rf (some a)), (1, .int x1)] [] g
  refine V_aload_n hM.c 0 dX11_fitsStep_0 rfl rfl ?_
  refine G9_24 hM.c tw_471 hz0 dX11_fitsStep_1 ?_
  refine V_if_le hM.c 21 dX11_fitsStep_4 (by decide) (fun c1 => ?_) (fun c1 => ?_)
  · replace h := ite_p h c1
    refine V_iconst (v := 0) hM.c dX11_fitsStep_21 (by decide) ?_
    refine V_sub [0, 1] rfl ?_
    exact vl_X11_fitsStep_l22 hM hz0  h
  · replace h := ite_n h c1
    refine V_aload_n hM.c 0 dX11_fitsStep_7 rfl rfl ?_
    replace h := drf_some h
    obtain ⟨b2, e3, h⟩ := h
    refine G9_18 hM.c tw_125 hz0 e3 dX11_fitsStep_8 ?_
    refine V_aload_n hM.c 0 dX11_fitsStep_11 rfl rfl ?_
    refine G9_24 hM.c tw_471 hz0 dX11_fitsStep_12 ?_
    refine V_iconst (v := 1) hM.c dX11_fitsStep_15 (by decide) ?_
    refine V_isub hM.c dX11_fitsStep_16 ?_
    replace h := grd_some h
    obtain ⟨z4, h⟩ := h
    replace h := grd_some h
    obtain ⟨c5, h⟩ := h
    refine V_iald hM.c z4 c5 dX11_fitsStep_17 ?_
    refine V_goto hM.c 22 dX11_fitsStep_18 (by decide) ?_
    refine V_sub [0, 1] rfl ?_
    exact vl_X11_fitsStep_l22 hM hz0  h
def f_X11_fits_l9 (n : Nat) (Z : Zt) (a : Nat) : Nat → Int32 → Int32 → Mem → Option (Int32 × Mem)
  | 0, _, _, _ => none
  | fu + 1, x1, x2, g => if (gI g a 12) ≤ x2 then (grd (isz x1) (some (x1, g))) else (if x1 = 0 then (grd (isz x1) (some (x1, g))) else (bnd (f_X11_fitsStep n Z a x2 g) (fun r5 g6 => f_X11_fits_l9 n Z a fu r5 (x2 + 1) g6)))
set_option maxHeartbeats 4000000 in
set_option maxRecDepth 100000 in
theorem vl_X11_fits_l9 {x : Cq} {n : Nat} {Z : Zt} {a : Nat} {rr : Int32} {gg : Mem} (hM : Cm x cX11_fits RX11 3 (some .boolean) 2 Z (some (.int rr)) gg) (hz0 : zk Z a = 10) : ∀ (fu : Nat) (x1 : Int32) (x2 : Int32) (g : Mem), f_X11_fits_l9 n Z a fu x1 x2 g = some (rr, gg) → V x Z 0 0 9 [(0, va_rf (some a)), (1, .int x1), (2, .int x2)] [] g := by
  intro fu
  induction fu with
  | zero => intro x1 x2 g h; cases h
  | succ fu ih =>
    intro x1 x2 g h
    unfold f_X11_fits_l9 at h
    refine V_iload_n hM.c 2 dX11_fits_9 rfl rfl ?_
    refine V_aload_n hM.c 0 dX11_fits_10 rfl rfl ?_
    refine G9_12 hM.c tw_429 hz0 dX11_fits_11 ?_
    refine V_icmp_ge hM.c 33 dX11_fits_14 (by decide) (fun c1 => ?_) (fun c1 => ?_)
    · replace h := ite_p h c1
      refine V_iload_n hM.c 1 dX11_fits_33 rfl rfl ?_
      replace h := grd_some h
      obtain ⟨c2, h⟩ := h
      exact V_zretE hM (isz_nar c2) h dX11_fits_34
    · replace h := ite_n h c1
      refine V_iload_n hM.c 1 dX11_fits_17 rfl rfl ?_
      refine V_if_eq hM.c 33 dX11_fits_18 (by decide) (fun c3 => ?_) (fun c3 => ?_)
      · replace h := ite_p h c3
        refine V_iload_n hM.c 1 dX11_fits_33 rfl rfl ?_
        replace h := grd_some h
        obtain ⟨c4, h⟩ := h
        exact V_zretE hM (isz_nar c4) h dX11_fits_34
      · replace h := ite_n h c3
        refine V_aload_n hM.c 0 dX11_fits_21 rfl rfl ?_
        refine V_iload_n hM.c 2 dX11_fits_22 rfl rfl ?_
        replace h := bnd_some h
        obtain ⟨r5, g6, e7, h⟩ := h
        refine V_callV (As := [.int x2]) (c := 9) (T := TX11) (N := 32) hM.c hM.a mq_X11_fitsStep mi_X11_fitsStep tw_760 (hM.d (by decide)) hM.z rfl (by omega) (zc_X11_fitsStep e7) (vm_X11_fitsStep e7) rfl (Nat.le_of_ble_eq_true rfl) dX11_fits_23 ?_
        refine V_istore_n (i := 1) (L' := [(1, .int r5), (0, va_rf (some a)), (2, .int x2)]) hM.c dX11_fits_26 rfl (by decide) rfl ?_
        refine V_iinc (v := (x2 + 1)) (L' := [(2, .int (x2 + 1)), (1, .int r5), (0, va_rf (some a))]) hM.c 2 dX11_fits_27 rfl rfl (by decide) rfl ?_
        refine V_goto hM.c 9 dX11_fits_30 (by decide) ?_
        refine V_sub [2, 1, 0] rfl ?_
        exact ih _ _ _ h
def f_X11_fits (n : Nat) (Z : Zt) (a : Nat) (g : Mem) : Option (Int32 × Mem) := grd (zk Z a = 10) (f_X11_fits_l9 n Z a n (1 : Int32) (0 : Int32) (sI g a 24 (0 : Int32)))
theorem mq_X11_fits : Mq yX11_fits cX11_fits 3 (some .boolean) 0 := ⟨tw_759, tw_5, ⟨by decide +kernel, by decide +kernel, by decide +kernel⟩, by decide⟩
theorem mi_X11_fits : Cond.instanceMethod yX11_fits ∈ TB ∧ Cond.selects yX11_fits.cls yX11_fits yX11_fits ∈ TB := ⟨tw_757, tw_758⟩
theorem zc_X11_fits {n : Nat} {Z : Zt} {a : Nat} {g : Mem} {q : Int32 × Mem} (h : f_X11_fits n Z a g = some q) : zk Z a = 10 := (grd_some h).1
set_option maxHeartbeats 4000000 in
set_option maxRecDepth 100000 in
theorem vm_X11_fits {n : Nat} {Z : Zt} {a : Nat} {g : Mem} {rr : Int32} {gg : Mem} (h : f_X11_fits n Z a g = some (rr, gg)) : VM yX11_fits cX11_fits 3 (some .boolean) 2 [.ref a] Z g (some (.int rr)) gg := by
  unfold f_X11_fits at h
  replace h := grd_some h
  obtain ⟨hz0, h⟩ := h
  refine VM.of (by decide +kernel) (Nat.le_of_ble_eq_true rfl) (fun x hM => ?_)
  have hM : Cm x cX11_fits RX11 3 (some .boolean) 2 Z (some (.int rr)) gg := hM
  show V x Z 0 0 0 [(0, va_rf (some a))] [] g
  refine V_aload_n hM.c 0 dX11_fits_0 rfl rfl ?_
  refine V_iconst (v := 0) hM.c dX11_fits_1 (by decide) ?_
  refine P9_24 hM.c tw_471 hz0 hM.a dX11_fits_2 ?_
  refine V_iconst (v := 1) hM.c dX11_fits_5 (by decide) ?_
  refine V_istore_n (i := 1) (L' := [(1, .int (1 : Int32)), (0, va_rf (some a))]) hM.c dX11_fits_6 rfl (by decide) rfl ?_
  refine V_iconst (v := 0) hM.c dX11_fits_7 (by decide) ?_
  refine V_istore_n (i := 2) (L' := [(2, .int (0 : Int32)), (1, .int (1 : Int32)), (0, va_rf (some a))]) hM.c dX11_fits_8 rfl (by decide) rfl ?_
  refine V_sub [2, 1, 0] rfl ?_
  exact vl_X11_fits_l9 hM hz0  _ _ _ _ h
def f_X11_copiesRow_l48 (n : Nat) (Z : Zt) (a : Nat) : Nat → Int32 → Int32 → Int32 → Mem → Option (Unit × Mem)
  | 0, _, _, _, _ => none
  | fu + 1, x5, x6, x7, g => drf (zf Z a 21) (fun b17 => grd (zk Z b17 = 12) (grd (inr x5 (zl Z b17)) (if (gI g b17 x5.toNatClampNeg) ≤ x7 then (some ((), g)) else (drf (zf Z a 22) (fun b22 => drf (zf Z a 22) (fun b24 => grd (zk Z b24 = 13) (grd (inr (((32 : Int32) * x5) + x7) (zl Z b24)) (grd (zk Z b22 = 13) (grd (inr (((32 : Int32) * x6) + x7) (zl Z b22)) (drf (zf Z a 23) (fun b30 => drf (zf Z a 23) (fun b32 => grd (zk Z b32 = 13) (grd (inr (((32 : Int32) * x5) + x7) (zl Z b32)) (grd (zk Z b30 = 13) (grd (inr (((32 : Int32) * x6) + x7) (zl Z b30)) (f_X11_copiesRow_l48 n Z a fu x5 x6 (x7 + 1) (sJ (sJ g b22 (((32 : Int32) * x6) + x7).toNatClampNeg (gJ g b24 (((32 : Int32) * x5) + x7).toNatClampNeg)) b30 (((32 : Int32) * x6) + x7).toNatClampNeg (gJ (sJ g b22 (((32 : Int32) * x6) + x7).toNatClampNeg (gJ g b24 (((32 : Int32) * x5) + x7).toNatClampNeg)) b32 (((32 : Int32) * x5) + x7).toNatClampNeg))))))))))))))))))
set_option maxHeartbeats 4000000 in
set_option maxRecDepth 100000 in
theorem vl_X11_copiesRow_l48 {x : Cq} {n : Nat} {Z : Zt} {a : Nat} {rr : Unit} {gg : Mem} (hM : Cm x cX11_copiesRow RX11 8 none 0 Z none gg) (hz0 : zk Z a = 10) : ∀ (fu : Nat) (x5 : Int32) (x6 : Int32) (x7 : Int32) (g : Mem), f_X11_copiesRow_l48 n Z a fu x5 x6 x7 g = some (rr, gg) → V x Z 0 0 48 [(0, va_rf (some a)), (5, .int x5), (6, .int x6), (7, .int x7)] [] g := by
  intro fu
  induction fu with
  | zero => intro x5 x6 x7 g h; cases h
  | succ fu ih =>
    intro x5 x6 x7 g h
    unfold f_X11_copiesRow_l48 at h
    refine V_iload hM.c 3 dX11_copiesRow_48 rfl ?_
    refine V_aload_n hM.c 0 dX11_copiesRow_50 rfl rfl ?_
    replace h := drf_some h
    obtain ⟨b17, e18, h⟩ := h
    refine G9_21 hM.c tw_128 hz0 e18 dX11_copiesRow_51 ?_
    refine V_iload hM.c 1 dX11_copiesRow_54 rfl ?_
    replace h := grd_some h
    obtain ⟨z19, h⟩ := h
    replace h := grd_some h
    obtain ⟨c20, h⟩ := h
    refine V_iald hM.c z19 c20 dX11_copiesRow_56 ?_
    refine V_icmp_ge hM.c 118 dX11_copiesRow_57 (by decide) (fun c21 => ?_) (fun c21 => ?_)
    · replace h := ite_p h c21
      exact V_vretE hM h dX11_copiesRow_118
    · replace h := ite_n h c21
      refine V_aload_n hM.c 0 dX11_copiesRow_60 rfl rfl ?_
      replace h := drf_some h
      obtain ⟨b22, e23, h⟩ := h
      refine G9_22 hM.c tw_129 hz0 e23 dX11_copiesRow_61 ?_
      refine V_bipush (v := 32) hM.c dX11_copiesRow_64 (by decide) ?_
      refine V_iload hM.c 2 dX11_copiesRow_66 rfl ?_
      refine V_imul hM.c dX11_copiesRow_68 ?_
      refine V_iload hM.c 3 dX11_copiesRow_69 rfl ?_
      refine V_iadd hM.c dX11_copiesRow_71 ?_
      refine V_aload_n hM.c 0 dX11_copiesRow_72 rfl rfl ?_
      replace h := drf_some h
      obtain ⟨b24, e25, h⟩ := h
      refine G9_22 hM.c tw_129 hz0 e25 dX11_copiesRow_73 ?_
      refine V_bipush (v := 32) hM.c dX11_copiesRow_76 (by decide) ?_
      refine V_iload hM.c 1 dX11_copiesRow_78 rfl ?_
      refine V_imul hM.c dX11_copiesRow_80 ?_
      refine V_iload hM.c 3 dX11_copiesRow_81 rfl ?_
      refine V_iadd hM.c dX11_copiesRow_83 ?_
      replace h := grd_some h
      obtain ⟨z26, h⟩ := h
      replace h := grd_some h
      obtain ⟨c27, h⟩ := h
      refine V_lald hM.c z26 c27 dX11_copiesRow_84 ?_
      replace h := grd_some h
      obtain ⟨z28, h⟩ := h
      replace h := grd_some h
      obtain ⟨c29, h⟩ := h
      refine V_last hM.c z28 c29 hM.a dX11_copiesRow_85 ?_
      refine V_aload_n hM.c 0 dX11_copiesRow_86 rfl rfl ?_
      replace h := drf_some h
      obtain ⟨b30, e31, h⟩ := h
      refine G9_23 hM.c tw_130 hz0 e31 dX11_copiesRow_87 ?_
      refine V_bipush (v := 32) hM.c dX11_copiesRow_90 (by decide) ?_
      refine V_iload hM.c 2 dX11_copiesRow_92 rfl ?_
      refine V_imul hM.c dX11_copiesRow_94 ?_
      refine V_iload hM.c 3 dX11_copiesRow_95 rfl ?_
      refine V_iadd hM.c dX11_copiesRow_97 ?_
      refine V_aload_n hM.c 0 dX11_copiesRow_98 rfl rfl ?_
      replace h := drf_some h
      obtain ⟨b32, e33, h⟩ := h
      refine G9_23 hM.c tw_130 hz0 e33 dX11_copiesRow_99 ?_
      refine V_bipush (v := 32) hM.c dX11_copiesRow_102 (by decide) ?_
      refine V_iload hM.c 1 dX11_copiesRow_104 rfl ?_
      refine V_imul hM.c dX11_copiesRow_106 ?_
      refine V_iload hM.c 3 dX11_copiesRow_107 rfl ?_
      refine V_iadd hM.c dX11_copiesRow_109 ?_
      replace h := grd_some h
      obtain ⟨z34, h⟩ := h
      replace h := grd_some h
      obtain ⟨c35, h⟩ := h
      refine V_lald hM.c z34 c35 dX11_copiesRow_110 ?_
      replace h := grd_some h
      obtain ⟨z36, h⟩ := h
      replace h := grd_some h
      obtain ⟨c37, h⟩ := h
      refine V_last hM.c z36 c37 hM.a dX11_copiesRow_111 ?_
      refine V_iinc (v := (x7 + 1)) (L' := [(7, .int (x7 + 1)), (0, va_rf (some a)), (5, .int x5), (6, .int x6)]) hM.c 3 dX11_copiesRow_112 rfl rfl (by decide) rfl ?_
      refine V_goto hM.c 48 dX11_copiesRow_115 (by decide) ?_
      refine V_sub [1, 2, 3, 0] rfl ?_
      exact ih _ _ _ _ h
def f_X11_copiesRow (n : Nat) (Z : Zt) (a : Nat) (x1 : Int32) (x2 : Int32) (x3 : Int32) (x4 : Int32) (g : Mem) : Option (Unit × Mem) := grd (zk Z a = 10) (drf (zf Z a 20) (fun b1 => drf (zf Z a 20) (fun b3 => grd (zk Z b3 = 12) (grd (inr (((32 : Int32) * x1) + x2) (zl Z b3)) (grd (zk Z b1 = 12) (grd (inr (((32 : Int32) * x3) + x4) (zl Z b1)) (drf (zf Z a 21) (fun b9 => drf (zf Z a 21) (fun b11 => grd (zk Z b11 = 12) (grd (inr (((32 : Int32) * x1) + x2) (zl Z b11)) (grd (zk Z b9 = 12) (grd (inr (((32 : Int32) * x3) + x4) (zl Z b9)) (f_X11_copiesRow_l48 n Z a n (((32 : Int32) * x1) + x2) (((32 : Int32) * x3) + x4) (0 : Int32) (sI (sI g b1 (((32 : Int32) * x3) + x4).toNatClampNeg (gI g b3 (((32 : Int32) * x1) + x2).toNatClampNeg)) b9 (((32 : Int32) * x3) + x4).toNatClampNeg (gI (sI g b1 (((32 : Int32) * x3) + x4).toNatClampNeg (gI g b3 (((32 : Int32) * x1) + x2).toNatClampNeg)) b11 (((32 : Int32) * x1) + x2).toNatClampNeg)))))))))))))))
theorem mq_X11_copiesRow : Mq yX11_copiesRow cX11_copiesRow 8 none 4 := ⟨tw_484, tw_5, ⟨by decide +kernel, by decide +kernel, by decide +kernel⟩, by decide⟩
theorem mi_X11_copiesRow : Cond.instanceMethod yX11_copiesRow ∈ TB ∧ Cond.selects yX11_copiesRow.cls yX11_copiesRow yX11_copiesRow ∈ TB := ⟨tw_482, tw_483⟩
theorem zc_X11_copiesRow {n : Nat} {Z : Zt} {a : Nat} {x1 : Int32} {x2 : Int32} {x3 : Int32} {x4 : Int32} {g : Mem} {q : Unit × Mem} (h : f_X11_copiesRow n Z a x1 x2 x3 x4 g = some q) : zk Z a = 10 := (grd_some h).1
set_option maxHeartbeats 4000000 in
set_option maxRecDepth 100000 in
theorem vm_X11_copiesRow {n : Nat} {Z : Zt} {a : Nat} {x1 : Int32} {x2 : Int32} {x3 : Int32} {x4 : Int32} {g : Mem} {rr : Unit} {gg : Mem} (h : f_X11_copiesRow n Z a x1 x2 x3 x4 g = some (rr, gg)) : VM yX11_copiesRow cX11_copiesRow 8 none 0 [.ref a, .int x1, .int x2, .int x3, .int x4] Z g none gg := by
  unfold f_X11_copiesRow at h
  replace h := grd_some h
  obtain ⟨hz0, h⟩ := h
  refine VM.of (by decide +kernel) (Nat.le_of_ble_eq_true rfl) (fun x hM => ?_)
  have hM : Cm x cX11_copiesRow RX11 8 none 0 Z none gg := hM
  show V x Z 0 0 0 [(0, va_rf (some a)), (1, .int x1), (2, .int x2), (3, .int x3), (4, .int x4)] [] g
  refine V_bipush (v := 32) hM.c dX11_copiesRow_0 (by decide) ?_
  refine V_iload_n hM.c 1 dX11_copiesRow_2 rfl rfl ?_
  refine V_imul hM.c dX11_copiesRow_3 ?_
  refine V_iload_n hM.c 2 dX11_copiesRow_4 rfl rfl ?_
  refine V_iadd hM.c dX11_copiesRow_5 ?_
  refine V_istore (L' := [(5, .int (((32 : Int32) * x1) + x2)), (0, va_rf (some a)), (1, .int x1), (2, .int x2), (3, .int x3), (4, .int x4)]) hM.c dX11_copiesRow_6 (by decide) rfl ?_
  refine V_bipush (v := 32) hM.c dX11_copiesRow_8 (by decide) ?_
  refine V_iload_n hM.c 4 dX11_copiesRow_10 rfl rfl ?_
  refine V_imul hM.c dX11_copiesRow_11 ?_
  refine V_iload hM.c 5 dX11_copiesRow_12 rfl ?_
  refine V_iadd hM.c dX11_copiesRow_14 ?_
  refine V_istore (L' := [(6, .int (((32 : Int32) * x3) + x4)), (5, .int (((32 : Int32) * x1) + x2)), (0, va_rf (some a)), (1, .int x1), (2, .int x2), (3, .int x3), (4, .int x4)]) hM.c dX11_copiesRow_15 (by decide) rfl ?_
  refine V_aload_n hM.c 2 dX11_copiesRow_17 rfl rfl ?_
  replace h := drf_some h
  obtain ⟨b1, e2, h⟩ := h
  refine G9_20 hM.c tw_127 hz0 e2 dX11_copiesRow_18 ?_
  refine V_iload hM.c 0 dX11_copiesRow_21 rfl ?_
  refine V_aload_n hM.c 2 dX11_copiesRow_23 rfl rfl ?_
  replace h := drf_some h
  obtain ⟨b3, e4, h⟩ := h
  refine G9_20 hM.c tw_127 hz0 e4 dX11_copiesRow_24 ?_
  refine V_iload hM.c 1 dX11_copiesRow_27 rfl ?_
  replace h := grd_some h
  obtain ⟨z5, h⟩ := h
  replace h := grd_some h
  obtain ⟨c6, h⟩ := h
  refine V_iald hM.c z5 c6 dX11_copiesRow_29 ?_
  replace h := grd_some h
  obtain ⟨z7, h⟩ := h
  replace h := grd_some h
  obtain ⟨c8, h⟩ := h
  refine V_iast hM.c z7 c8 hM.a dX11_copiesRow_30 ?_
  refine V_aload_n hM.c 2 dX11_copiesRow_31 rfl rfl ?_
  replace h := drf_some h
  obtain ⟨b9, e10, h⟩ := h
  refine G9_21 hM.c tw_128 hz0 e10 dX11_copiesRow_32 ?_
  refine V_iload hM.c 0 dX11_copiesRow_35 rfl ?_
  refine V_aload_n hM.c 2 dX11_copiesRow_37 rfl rfl ?_
  replace h := drf_some h
  obtain ⟨b11, e12, h⟩ := h
  refine G9_21 hM.c tw_128 hz0 e12 dX11_copiesRow_38 ?_
  refine V_iload hM.c 1 dX11_copiesRow_41 rfl ?_
  replace h := grd_some h
  obtain ⟨z13, h⟩ := h
  replace h := grd_some h
  obtain ⟨c14, h⟩ := h
  refine V_iald hM.c z13 c14 dX11_copiesRow_43 ?_
  replace h := grd_some h
  obtain ⟨z15, h⟩ := h
  replace h := grd_some h
  obtain ⟨c16, h⟩ := h
  refine V_iast hM.c z15 c16 hM.a dX11_copiesRow_44 ?_
  refine V_iconst (v := 0) hM.c dX11_copiesRow_45 (by decide) ?_
  refine V_istore (L' := [(7, .int (0 : Int32)), (6, .int (((32 : Int32) * x3) + x4)), (5, .int (((32 : Int32) * x1) + x2)), (0, va_rf (some a)), (1, .int x1), (2, .int x2), (3, .int x3), (4, .int x4)]) hM.c dX11_copiesRow_46 (by decide) rfl ?_
  refine V_sub [3, 2, 1, 0] rfl ?_
  exact vl_X11_copiesRow_l48 hM hz0  _ _ _ _ _ h
def f_X11_rowFor_l91 (n : Nat) (Z : Zt) (a : Nat) : Nat → Int32 → Int32 → Int32 → Int32 → Int32 → Mem → Option (Int32 × Mem)
  | 0, _, _, _, _, _, _ => none
  | fu + 1, x1, x2, x3, x4, x5, g => if x5 ≤ x4 then (drf (zf Z a 20) (fun b31 => grd (zk Z b31 = 12) (grd (inr (x3 + x4) (zl Z b31)) (drf (zf Z a 21) (fun b35 => grd (zk Z b35 = 12) (grd (inr (x3 + x4) (zl Z b35)) (drf (zf Z a 19) (fun b39 => grd (zk Z b39 = 12) (grd (inr x1 (zl Z b39)) (grd (zk Z b39 = 12) (grd (inr x1 (zl Z b39)) (some (x4, (sI (sI (sI g b31 (x3 + x4).toNatClampNeg x2) b35 (x3 + x4).toNatClampNeg (0 : Int32)) b39 x1.toNatClampNeg ((gI (sI (sI g b31 (x3 + x4).toNatClampNeg x2) b35 (x3 + x4).toNatClampNeg (0 : Int32)) b39 x1.toNatClampNeg) + (1 : Int32)))))))))))))))) else (bnd (f_X11_copiesRow n Z a x1 (x5 - (1 : Int32)) x1 x5 g) (fun r45 g46 => f_X11_rowFor_l91 n Z a fu x1 x2 x3 x4 (x5 + (-1 : Int32)) g46))
set_option maxHeartbeats 4000000 in
set_option maxRecDepth 100000 in
theorem vl_X11_rowFor_l91 {x : Cq} {n : Nat} {Z : Zt} {a : Nat} {rr : Int32} {gg : Mem} (hM : Cm x cX11_rowFor RX11 6 (some .int) 1 Z (some (.int rr)) gg) (hz0 : zk Z a = 10) : ∀ (fu : Nat) (x1 : Int32) (x2 : Int32) (x3 : Int32) (x4 : Int32) (x5 : Int32) (g : Mem), f_X11_rowFor_l91 n Z a fu x1 x2 x3 x4 x5 g = some (rr, gg) → V x Z 0 0 91 [(0, va_rf (some a)), (1, .int x1), (2, .int x2), (3, .int x3), (4, .int x4), (5, .int x5)] [] g := by
  intro fu
  induction fu with
  | zero => intro x1 x2 x3 x4 x5 g h; cases h
  | succ fu ih =>
    intro x1 x2 x3 x4 x5 g h
    unfold f_X11_rowFor_l91 at h
    refine V_iload hM.c 5 dX11_rowFor_91 rfl ?_
    refine V_iload hM.c 4 dX11_rowFor_93 rfl ?_
    refine V_icmp_le hM.c 116 dX11_rowFor_95 (by decide) (fun c30 => ?_) (fun c30 => ?_)
    · replace h := ite_p h c30
      refine V_aload_n hM.c 0 dX11_rowFor_116 rfl rfl ?_
      replace h := drf_some h
      obtain ⟨b31, e32, h⟩ := h
      refine G9_20 hM.c tw_127 hz0 e32 dX11_rowFor_117 ?_
      refine V_iload_n hM.c 3 dX11_rowFor_120 rfl rfl ?_
      refine V_iload hM.c 4 dX11_rowFor_121 rfl ?_
      refine V_iadd hM.c dX11_rowFor_123 ?_
      refine V_iload_n hM.c 2 dX11_rowFor_124 rfl rfl ?_
      replace h := grd_some h
      obtain ⟨z33, h⟩ := h
      replace h := grd_some h
      obtain ⟨c34, h⟩ := h
      refine V_iast hM.c z33 c34 hM.a dX11_rowFor_125 ?_
      refine V_aload_n hM.c 0 dX11_rowFor_126 rfl rfl ?_
      replace h := drf_some h
      obtain ⟨b35, e36, h⟩ := h
      refine G9_21 hM.c tw_128 hz0 e36 dX11_rowFor_127 ?_
      refine V_iload_n hM.c 3 dX11_rowFor_130 rfl rfl ?_
      refine V_iload hM.c 4 dX11_rowFor_131 rfl ?_
      refine V_iadd hM.c dX11_rowFor_133 ?_
      refine V_iconst (v := 0) hM.c dX11_rowFor_134 (by decide) ?_
      replace h := grd_some h
      obtain ⟨z37, h⟩ := h
      replace h := grd_some h
      obtain ⟨c38, h⟩ := h
      refine V_iast hM.c z37 c38 hM.a dX11_rowFor_135 ?_
      refine V_aload_n hM.c 0 dX11_rowFor_136 rfl rfl ?_
      replace h := drf_some h
      obtain ⟨b39, e40, h⟩ := h
      refine G9_19 hM.c tw_126 hz0 e40 dX11_rowFor_137 ?_
      refine V_iload_n hM.c 1 dX11_rowFor_140 rfl rfl ?_
      refine V_dup2 hM.c dX11_rowFor_141 rfl (rf_cat _) ?_
      replace h := grd_some h
      obtain ⟨z41, h⟩ := h
      replace h := grd_some h
      obtain ⟨c42, h⟩ := h
      refine V_iald hM.c z41 c42 dX11_rowFor_142 ?_
      refine V_iconst (v := 1) hM.c dX11_rowFor_143 (by decide) ?_
      refine V_iadd hM.c dX11_rowFor_144 ?_
      replace h := grd_some h
      obtain ⟨z43, h⟩ := h
      replace h := grd_some h
      obtain ⟨c44, h⟩ := h
      refine V_iast hM.c z43 c44 hM.a dX11_rowFor_145 ?_
      refine V_iload hM.c 4 dX11_rowFor_146 rfl ?_
      exact V_iretE hM h dX11_rowFor_148
    · replace h := ite_n h c30
      refine V_aload_n hM.c 0 dX11_rowFor_98 rfl rfl ?_
      refine V_iload_n hM.c 1 dX11_rowFor_99 rfl rfl ?_
      refine V_iload hM.c 5 dX11_rowFor_100 rfl ?_
      refine V_iconst (v := 1) hM.c dX11_rowFor_102 (by decide) ?_
      refine V_isub hM.c dX11_rowFor_103 ?_
      refine V_iload_n hM.c 1 dX11_rowFor_104 rfl rfl ?_
      refine V_iload hM.c 5 dX11_rowFor_105 rfl ?_
      replace h := bnd_some h
      obtain ⟨r45, g46, e47, h⟩ := h
      refine V_callV (As := [.int x1, .int (x5 - (1 : Int32)), .int x1, .int x5]) (c := 9) (T := TX11) (N := 32) hM.c hM.a mq_X11_copiesRow mi_X11_copiesRow tw_481 (hM.d (by decide)) hM.z rfl (by omega) (zc_X11_copiesRow e47) (vm_X11_copiesRow e47) rfl (Nat.le_of_ble_eq_true rfl) dX11_rowFor_107 ?_
      refine V_iinc (v := (x5 + (-1 : Int32))) (L' := [(5, .int (x5 + (-1 : Int32))), (0, va_rf (some a)), (1, .int x1), (2, .int x2), (3, .int x3), (4, .int x4)]) hM.c 5 dX11_rowFor_110 rfl rfl (by decide) rfl ?_
      refine V_goto hM.c 91 dX11_rowFor_113 (by decide) ?_
      refine V_sub [1, 2, 3, 4, 5, 0] rfl ?_
      exact ih _ _ _ _ _ _ h
def f_X11_rowFor_l65 (n : Nat) (Z : Zt) (a : Nat) (x1 : Int32) (x2 : Int32) (x3 : Int32) (x4 : Int32) (g : Mem) : Option (Int32 × Mem) := drf (zf Z a 19) (fun b21 => grd (zk Z b21 = 12) (grd (inr x1 (zl Z b21)) (if (gI g b21 x1.toNatClampNeg) = (32 : Int32) then (some ((0 : Int32), (sI g a 25 (1 : Int32)))) else (drf (zf Z a 19) (fun b26 => grd (zk Z b26 = 12) (grd (inr x1 (zl Z b26)) (f_X11_rowFor_l91 n Z a n x1 x2 x3 x4 (gI g b26 x1.toNatClampNeg) g)))))))
set_option maxHeartbeats 4000000 in
set_option maxRecDepth 100000 in
theorem vl_X11_rowFor_l65 {x : Cq} {n : Nat} {Z : Zt} {a : Nat} {x1 : Int32} {x2 : Int32} {x3 : Int32} {x4 : Int32} {g : Mem} {rr : Int32} {gg : Mem} (hM : Cm x cX11_rowFor RX11 6 (some .int) 1 Z (some (.int rr)) gg) (hz0 : zk Z a = 10) (h : f_X11_rowFor_l65 n Z a x1 x2 x3 x4 g = some (rr, gg)) : V x Z 0 0 65 [(0, va_rf (some a)), (1, .int x1), (2, .int x2), (3, .int x3), (4, .int x4)] [] g := by
  unfold f_X11_rowFor_l65 at h
  refine V_aload_n hM.c 0 dX11_rowFor_65 rfl rfl ?_
  replace h := drf_some h
  obtain ⟨b21, e22, h⟩ := h
  refine G9_19 hM.c tw_126 hz0 e22 dX11_rowFor_66 ?_
  refine V_iload_n hM.c 1 dX11_rowFor_69 rfl rfl ?_
  replace h := grd_some h
  obtain ⟨z23, h⟩ := h
  replace h := grd_some h
  obtain ⟨c24, h⟩ := h
  refine V_iald hM.c z23 c24 dX11_rowFor_70 ?_
  refine V_bipush (v := 32) hM.c dX11_rowFor_71 (by decide) ?_
  refine V_icmp_ne hM.c 83 dX11_rowFor_73 (by decide) (fun c25 => ?_) (fun c25 => ?_)
  · replace h := ite_n h c25
    refine V_aload_n hM.c 0 dX11_rowFor_83 rfl rfl ?_
    replace h := drf_some h
    obtain ⟨b26, e27, h⟩ := h
    refine G9_19 hM.c tw_126 hz0 e27 dX11_rowFor_84 ?_
    refine V_iload_n hM.c 1 dX11_rowFor_87 rfl rfl ?_
    replace h := grd_some h
    obtain ⟨z28, h⟩ := h
    replace h := grd_some h
    obtain ⟨c29, h⟩ := h
    refine V_iald hM.c z28 c29 dX11_rowFor_88 ?_
    refine V_istore (L' := [(5, .int (gI g b26 x1.toNatClampNeg)), (0, va_rf (some a)), (1, .int x1), (2, .int x2), (3, .int x3), (4, .int x4)]) hM.c dX11_rowFor_89 (by decide) rfl ?_
    refine V_sub [1, 2, 3, 4, 5, 0] rfl ?_
    exact vl_X11_rowFor_l91 hM hz0  _ _ _ _ _ _ _ h
  · replace h := ite_p h c25
    refine V_aload_n hM.c 0 dX11_rowFor_76 rfl rfl ?_
    refine V_iconst (v := 1) hM.c dX11_rowFor_77 (by decide) ?_
    refine P9_25 hM.c tw_472 hz0 (by decide) hM.a dX11_rowFor_78 ?_
    refine V_iconst (v := 0) hM.c dX11_rowFor_81 (by decide) ?_
    exact V_iretE hM h dX11_rowFor_82
def f_X11_rowFor_l38 (n : Nat) (Z : Zt) (a : Nat) (x1 : Int32) (x2 : Int32) (x3 : Int32) (x4 : Int32) (g : Mem) : Option (Int32 × Mem) := drf (zf Z a 19) (fun b11 => grd (zk Z b11 = 12) (grd (inr x1 (zl Z b11)) (if (gI g b11 x1.toNatClampNeg) ≤ x4 then (f_X11_rowFor_l65 n Z a x1 x2 x3 x4 g) else (drf (zf Z a 20) (fun b16 => grd (zk Z b16 = 12) (grd (inr (x3 + x4) (zl Z b16)) (if (gI g b16 (x3 + x4).toNatClampNeg) = x2 then (some (x4, g)) else (f_X11_rowFor_l65 n Z a x1 x2 x3 x4 g))))))))
set_option maxHeartbeats 4000000 in
set_option maxRecDepth 100000 in
theorem vl_X11_rowFor_l38 {x : Cq} {n : Nat} {Z : Zt} {a : Nat} {x1 : Int32} {x2 : Int32} {x3 : Int32} {x4 : Int32} {g : Mem} {rr : Int32} {gg : Mem} (hM : Cm x cX11_rowFor RX11 6 (some .int) 1 Z (some (.int rr)) gg) (hz0 : zk Z a = 10) (h : f_X11_rowFor_l38 n Z a x1 x2 x3 x4 g = some (rr, gg)) : V x Z 0 0 38 [(0, va_rf (some a)), (1, .int x1), (2, .int x2), (3, .int x3), (4, .int x4)] [] g := by
  unfold f_X11_rowFor_l38 at h
  refine V_iload hM.c 4 dX11_rowFor_38 rfl ?_
  refine V_aload_n hM.c 0 dX11_rowFor_40 rfl rfl ?_
  replace h := drf_some h
  obtain ⟨b11, e12, h⟩ := h
  refine G9_19 hM.c tw_126 hz0 e12 dX11_rowFor_41 ?_
  refine V_iload_n hM.c 1 dX11_rowFor_44 rfl rfl ?_
  replace h := grd_some h
  obtain ⟨z13, h⟩ := h
  replace h := grd_some h
  obtain ⟨c14, h⟩ := h
  refine V_iald hM.c z13 c14 dX11_rowFor_45 ?_
  refine V_icmp_ge hM.c 65 dX11_rowFor_46 (by decide) (fun c15 => ?_) (fun c15 => ?_)
  · replace h := ite_p h c15
    refine V_sub [0, 1, 2, 3, 4] rfl ?_
    exact vl_X11_rowFor_l65 hM hz0  h
  · replace h := ite_n h c15
    refine V_aload_n hM.c 0 dX11_rowFor_49 rfl rfl ?_
    replace h := drf_some h
    obtain ⟨b16, e17, h⟩ := h
    refine G9_20 hM.c tw_127 hz0 e17 dX11_rowFor_50 ?_
    refine V_iload_n hM.c 3 dX11_rowFor_53 rfl rfl ?_
    refine V_iload hM.c 4 dX11_rowFor_54 rfl ?_
    refine V_iadd hM.c dX11_rowFor_56 ?_
    replace h := grd_some h
    obtain ⟨z18, h⟩ := h
    replace h := grd_some h
    obtain ⟨c19, h⟩ := h
    refine V_iald hM.c z18 c19 dX11_rowFor_57 ?_
    refine V_iload_n hM.c 2 dX11_rowFor_58 rfl rfl ?_
    refine V_icmp_ne hM.c 65 dX11_rowFor_59 (by decide) (fun c20 => ?_) (fun c20 => ?_)
    · replace h := ite_n h c20
      refine V_sub [0, 1, 2, 3, 4] rfl ?_
      exact vl_X11_rowFor_l65 hM hz0  h
    · replace h := ite_p h c20
      refine V_iload hM.c 4 dX11_rowFor_62 rfl ?_
      exact V_iretE hM h dX11_rowFor_64
def f_X11_rowFor_l8 (n : Nat) (Z : Zt) (a : Nat) : Nat → Int32 → Int32 → Int32 → Int32 → Mem → Option (Int32 × Mem)
  | 0, _, _, _, _, _ => none
  | fu + 1, x1, x2, x3, x4, g => drf (zf Z a 19) (fun b1 => grd (zk Z b1 = 12) (grd (inr x1 (zl Z b1)) (if (gI g b1 x1.toNatClampNeg) ≤ x4 then (f_X11_rowFor_l38 n Z a x1 x2 x3 x4 g) else (drf (zf Z a 20) (fun b6 => grd (zk Z b6 = 12) (grd (inr (x3 + x4) (zl Z b6)) (if x2 ≤ (gI g b6 (x3 + x4).toNatClampNeg) then (f_X11_rowFor_l38 n Z a x1 x2 x3 x4 g) else (f_X11_rowFor_l8 n Z a fu x1 x2 x3 (x4 + 1) g))))))))
set_option maxHeartbeats 4000000 in
set_option maxRecDepth 100000 in
theorem vl_X11_rowFor_l8 {x : Cq} {n : Nat} {Z : Zt} {a : Nat} {rr : Int32} {gg : Mem} (hM : Cm x cX11_rowFor RX11 6 (some .int) 1 Z (some (.int rr)) gg) (hz0 : zk Z a = 10) : ∀ (fu : Nat) (x1 : Int32) (x2 : Int32) (x3 : Int32) (x4 : Int32) (g : Mem), f_X11_rowFor_l8 n Z a fu x1 x2 x3 x4 g = some (rr, gg) → V x Z 0 0 8 [(0, va_rf (some a)), (1, .int x1), (2, .int x2), (3, .int x3), (4, .int x4)] [] g := by
  intro fu
  induction fu with
  | zero => intro x1 x2 x3 x4 g h; cases h
  | succ fu ih =>
    intro x1 x2 x3 x4 g h
    unfold f_X11_rowFor_l8 at h
    refine V_iload hM.c 4 dX11_rowFor_8 rfl ?_
    refine V_aload_n hM.c 0 dX11_rowFor_10 rfl rfl ?_
    replace h := drf_some h
    obtain ⟨b1, e2, h⟩ := h
    refine G9_19 hM.c tw_126 hz0 e2 dX11_rowFor_11 ?_
    refine V_iload_n hM.c 1 dX11_rowFor_14 rfl rfl ?_
    replace h := grd_some h
    obtain ⟨z3, h⟩ := h
    replace h := grd_some h
    obtain ⟨c4, h⟩ := h
    refine V_iald hM.c z3 c4 dX11_rowFor_15 ?_
    refine V_icmp_ge hM.c 38 dX11_rowFor_16 (by decide) (fun c5 => ?_) (fun c5 => ?_)
    · replace h := ite_p h c5
      refine V_sub [0, 1, 2, 3, 4] rfl ?_
      exact vl_X11_rowFor_l38 hM hz0  h
    · replace h := ite_n h c5
      refine V_aload_n hM.c 0 dX11_rowFor_19 rfl rfl ?_
      replace h := drf_some h
      obtain ⟨b6, e7, h⟩ := h
      refine G9_20 hM.c tw_127 hz0 e7 dX11_rowFor_20 ?_
      refine V_iload_n hM.c 3 dX11_rowFor_23 rfl rfl ?_
      refine V_iload hM.c 4 dX11_rowFor_24 rfl ?_
      refine V_iadd hM.c dX11_rowFor_26 ?_
      replace h := grd_some h
      obtain ⟨z8, h⟩ := h
      replace h := grd_some h
      obtain ⟨c9, h⟩ := h
      refine V_iald hM.c z8 c9 dX11_rowFor_27 ?_
      refine V_iload_n hM.c 2 dX11_rowFor_28 rfl rfl ?_
      refine V_icmp_ge hM.c 38 dX11_rowFor_29 (by decide) (fun c10 => ?_) (fun c10 => ?_)
      · replace h := ite_p h c10
        refine V_sub [0, 1, 2, 3, 4] rfl ?_
        exact vl_X11_rowFor_l38 hM hz0  h
      · replace h := ite_n h c10
        refine V_iinc (v := (x4 + 1)) (L' := [(4, .int (x4 + 1)), (0, va_rf (some a)), (1, .int x1), (2, .int x2), (3, .int x3)]) hM.c 4 dX11_rowFor_32 rfl rfl (by decide) rfl ?_
        refine V_goto hM.c 8 dX11_rowFor_35 (by decide) ?_
        refine V_sub [1, 2, 3, 4, 0] rfl ?_
        exact ih _ _ _ _ _ h
def f_X11_rowFor (n : Nat) (Z : Zt) (a : Nat) (x1 : Int32) (x2 : Int32) (g : Mem) : Option (Int32 × Mem) := grd (zk Z a = 10) (f_X11_rowFor_l8 n Z a n x1 x2 ((32 : Int32) * x1) (0 : Int32) g)
theorem mq_X11_rowFor : Mq yX11_rowFor cX11_rowFor 6 (some .int) 2 := ⟨tw_480, tw_5, ⟨by decide +kernel, by decide +kernel, by decide +kernel⟩, by decide⟩
theorem mi_X11_rowFor : Cond.instanceMethod yX11_rowFor ∈ TB ∧ Cond.selects yX11_rowFor.cls yX11_rowFor yX11_rowFor ∈ TB := ⟨tw_478, tw_479⟩
theorem zc_X11_rowFor {n : Nat} {Z : Zt} {a : Nat} {x1 : Int32} {x2 : Int32} {g : Mem} {q : Int32 × Mem} (h : f_X11_rowFor n Z a x1 x2 g = some q) : zk Z a = 10 := (grd_some h).1
set_option maxHeartbeats 4000000 in
set_option maxRecDepth 100000 in
theorem vm_X11_rowFor {n : Nat} {Z : Zt} {a : Nat} {x1 : Int32} {x2 : Int32} {g : Mem} {rr : Int32} {gg : Mem} (h : f_X11_rowFor n Z a x1 x2 g = some (rr, gg)) : VM yX11_rowFor cX11_rowFor 6 (some .int) 1 [.ref a, .int x1, .int x2] Z g (some (.int rr)) gg := by
  unfold f_X11_rowFor at h
  replace h := grd_some h
  obtain ⟨hz0, h⟩ := h
  refine VM.of (by decide +kernel) (Nat.le_of_ble_eq_true rfl) (fun x hM => ?_)
  have hM : Cm x cX11_rowFor RX11 6 (some .int) 1 Z (some (.int rr)) gg := hM
  show V x Z 0 0 0 [(0, va_rf (some a)), (1, .int x1), (2, .int x2)] [] g
  refine V_bipush (v := 32) hM.c dX11_rowFor_0 (by decide) ?_
  refine V_iload_n hM.c 1 dX11_rowFor_2 rfl rfl ?_
  refine V_imul hM.c dX11_rowFor_3 ?_
  refine V_istore_n (i := 3) (L' := [(3, .int ((32 : Int32) * x1)), (0, va_rf (some a)), (1, .int x1), (2, .int x2)]) hM.c dX11_rowFor_4 rfl (by decide) rfl ?_
  refine V_iconst (v := 0) hM.c dX11_rowFor_5 (by decide) ?_
  refine V_istore (L' := [(4, .int (0 : Int32)), (3, .int ((32 : Int32) * x1)), (0, va_rf (some a)), (1, .int x1), (2, .int x2)]) hM.c dX11_rowFor_6 (by decide) rfl ?_
  refine V_sub [2, 3, 4, 1, 0] rfl ?_
  exact vl_X11_rowFor_l8 hM hz0  _ _ _ _ _ _ h
def f_X11_addsTerm_l129 (n : Nat) (Z : Zt) (a : Nat) : Nat → Int64 → Int64 → Int32 → Int32 → Int32 → Int32 → Mem → Option (Unit × Mem)
  | 0, _, _, _, _, _, _, _ => none
  | fu + 1, x3, x5, x7, x8, x9, x10, g => if x10 ≤ x9 then (drf (zf Z a 22) (fun b37 => grd (zk Z b37 = 13) (grd (inr (x8 + x9) (zl Z b37)) (drf (zf Z a 23) (fun b41 => grd (zk Z b41 = 13) (grd (inr (x8 + x9) (zl Z b41)) (drf (zf Z a 21) (fun b45 => grd (zk Z b45 = 12) (grd (inr x7 (zl Z b45)) (grd (zk Z b45 = 12) (grd (inr x7 (zl Z b45)) (some ((), (sI (sJ (sJ g b37 (x8 + x9).toNatClampNeg x3) b41 (x8 + x9).toNatClampNeg x5) b45 x7.toNatClampNeg ((gI (sJ (sJ g b37 (x8 + x9).toNatClampNeg x3) b41 (x8 + x9).toNatClampNeg x5) b45 x7.toNatClampNeg) + (1 : Int32)))))))))))))))) else (drf (zf Z a 22) (fun b51 => drf (zf Z a 22) (fun b53 => grd (zk Z b53 = 13) (grd (inr ((x8 + x10) - (1 : Int32)) (zl Z b53)) (grd (zk Z b51 = 13) (grd (inr (x8 + x10) (zl Z b51)) (drf (zf Z a 23) (fun b59 => drf (zf Z a 23) (fun b61 => grd (zk Z b61 = 13) (grd (inr ((x8 + x10) - (1 : Int32)) (zl Z b61)) (grd (zk Z b59 = 13) (grd (inr (x8 + x10) (zl Z b59)) (f_X11_addsTerm_l129 n Z a fu x3 x5 x7 x8 x9 (x10 + (-1 : Int32)) (sJ (sJ g b51 (x8 + x10).toNatClampNeg (gJ g b53 ((x8 + x10) - (1 : Int32)).toNatClampNeg)) b59 (x8 + x10).toNatClampNeg (gJ (sJ g b51 (x8 + x10).toNatClampNeg (gJ g b53 ((x8 + x10) - (1 : Int32)).toNatClampNeg)) b61 ((x8 + x10) - (1 : Int32)).toNatClampNeg)))))))))))))))
set_option maxHeartbeats 4000000 in
set_option maxRecDepth 100000 in
theorem vl_X11_addsTerm_l129 {x : Cq} {n : Nat} {Z : Zt} {a : Nat} {rr : Unit} {gg : Mem} (hM : Cm x cX11_addsTerm RX11 11 none 0 Z none gg) (hz0 : zk Z a = 10) : ∀ (fu : Nat) (x3 : Int64) (x5 : Int64) (x7 : Int32) (x8 : Int32) (x9 : Int32) (x10 : Int32) (g : Mem), f_X11_addsTerm_l129 n Z a fu x3 x5 x7 x8 x9 x10 g = some (rr, gg) → V x Z 0 0 129 [(0, va_rf (some a)), (3, .long x3), (5, .long x5), (7, .int x7), (8, .int x8), (9, .int x9), (10, .int x10)] [] g := by
  intro fu
  induction fu with
  | zero => intro x3 x5 x7 x8 x9 x10 g h; cases h
  | succ fu ih =>
    intro x3 x5 x7 x8 x9 x10 g h
    unfold f_X11_addsTerm_l129 at h
    refine V_iload hM.c 6 dX11_addsTerm_129 rfl ?_
    refine V_iload hM.c 5 dX11_addsTerm_131 rfl ?_
    refine V_icmp_le hM.c 186 dX11_addsTerm_133 (by decide) (fun c36 => ?_) (fun c36 => ?_)
    · replace h := ite_p h c36
      refine V_aload_n hM.c 0 dX11_addsTerm_186 rfl rfl ?_
      replace h := drf_some h
      obtain ⟨b37, e38, h⟩ := h
      refine G9_22 hM.c tw_129 hz0 e38 dX11_addsTerm_187 ?_
      refine V_iload hM.c 4 dX11_addsTerm_190 rfl ?_
      refine V_iload hM.c 5 dX11_addsTerm_192 rfl ?_
      refine V_iadd hM.c dX11_addsTerm_194 ?_
      refine V_lload_n hM.c 1 dX11_addsTerm_195 rfl rfl ?_
      replace h := grd_some h
      obtain ⟨z39, h⟩ := h
      replace h := grd_some h
      obtain ⟨c40, h⟩ := h
      refine V_last hM.c z39 c40 hM.a dX11_addsTerm_196 ?_
      refine V_aload_n hM.c 0 dX11_addsTerm_197 rfl rfl ?_
      replace h := drf_some h
      obtain ⟨b41, e42, h⟩ := h
      refine G9_23 hM.c tw_130 hz0 e42 dX11_addsTerm_198 ?_
      refine V_iload hM.c 4 dX11_addsTerm_201 rfl ?_
      refine V_iload hM.c 5 dX11_addsTerm_203 rfl ?_
      refine V_iadd hM.c dX11_addsTerm_205 ?_
      refine V_lload hM.c 2 dX11_addsTerm_206 rfl ?_
      replace h := grd_some h
      obtain ⟨z43, h⟩ := h
      replace h := grd_some h
      obtain ⟨c44, h⟩ := h
      refine V_last hM.c z43 c44 hM.a dX11_addsTerm_208 ?_
      refine V_aload_n hM.c 0 dX11_addsTerm_209 rfl rfl ?_
      replace h := drf_some h
      obtain ⟨b45, e46, h⟩ := h
      refine G9_21 hM.c tw_128 hz0 e46 dX11_addsTerm_210 ?_
      refine V_iload hM.c 3 dX11_addsTerm_213 rfl ?_
      refine V_dup2 hM.c dX11_addsTerm_215 rfl (rf_cat _) ?_
      replace h := grd_some h
      obtain ⟨z47, h⟩ := h
      replace h := grd_some h
      obtain ⟨c48, h⟩ := h
      refine V_iald hM.c z47 c48 dX11_addsTerm_216 ?_
      refine V_iconst (v := 1) hM.c dX11_addsTerm_217 (by decide) ?_
      refine V_iadd hM.c dX11_addsTerm_218 ?_
      replace h := grd_some h
      obtain ⟨z49, h⟩ := h
      replace h := grd_some h
      obtain ⟨c50, h⟩ := h
      refine V_iast hM.c z49 c50 hM.a dX11_addsTerm_219 ?_
      exact V_vretE hM h dX11_addsTerm_220
    · replace h := ite_n h c36
      refine V_aload_n hM.c 0 dX11_addsTerm_136 rfl rfl ?_
      replace h := drf_some h
      obtain ⟨b51, e52, h⟩ := h
      refine G9_22 hM.c tw_129 hz0 e52 dX11_addsTerm_137 ?_
      refine V_iload hM.c 4 dX11_addsTerm_140 rfl ?_
      refine V_iload hM.c 6 dX11_addsTerm_142 rfl ?_
      refine V_iadd hM.c dX11_addsTerm_144 ?_
      refine V_aload_n hM.c 0 dX11_addsTerm_145 rfl rfl ?_
      replace h := drf_some h
      obtain ⟨b53, e54, h⟩ := h
      refine G9_22 hM.c tw_129 hz0 e54 dX11_addsTerm_146 ?_
      refine V_iload hM.c 4 dX11_addsTerm_149 rfl ?_
      refine V_iload hM.c 6 dX11_addsTerm_151 rfl ?_
      refine V_iadd hM.c dX11_addsTerm_153 ?_
      refine V_iconst (v := 1) hM.c dX11_addsTerm_154 (by decide) ?_
      refine V_isub hM.c dX11_addsTerm_155 ?_
      replace h := grd_some h
      obtain ⟨z55, h⟩ := h
      replace h := grd_some h
      obtain ⟨c56, h⟩ := h
      refine V_lald hM.c z55 c56 dX11_addsTerm_156 ?_
      replace h := grd_some h
      obtain ⟨z57, h⟩ := h
      replace h := grd_some h
      obtain ⟨c58, h⟩ := h
      refine V_last hM.c z57 c58 hM.a dX11_addsTerm_157 ?_
      refine V_aload_n hM.c 0 dX11_addsTerm_158 rfl rfl ?_
      replace h := drf_some h
      obtain ⟨b59, e60, h⟩ := h
      refine G9_23 hM.c tw_130 hz0 e60 dX11_addsTerm_159 ?_
      refine V_iload hM.c 4 dX11_addsTerm_162 rfl ?_
      refine V_iload hM.c 6 dX11_addsTerm_164 rfl ?_
      refine V_iadd hM.c dX11_addsTerm_166 ?_
      refine V_aload_n hM.c 0 dX11_addsTerm_167 rfl rfl ?_
      replace h := drf_some h
      obtain ⟨b61, e62, h⟩ := h
      refine G9_23 hM.c tw_130 hz0 e62 dX11_addsTerm_168 ?_
      refine V_iload hM.c 4 dX11_addsTerm_171 rfl ?_
      refine V_iload hM.c 6 dX11_addsTerm_173 rfl ?_
      refine V_iadd hM.c dX11_addsTerm_175 ?_
      refine V_iconst (v := 1) hM.c dX11_addsTerm_176 (by decide) ?_
      refine V_isub hM.c dX11_addsTerm_177 ?_
      replace h := grd_some h
      obtain ⟨z63, h⟩ := h
      replace h := grd_some h
      obtain ⟨c64, h⟩ := h
      refine V_lald hM.c z63 c64 dX11_addsTerm_178 ?_
      replace h := grd_some h
      obtain ⟨z65, h⟩ := h
      replace h := grd_some h
      obtain ⟨c66, h⟩ := h
      refine V_last hM.c z65 c66 hM.a dX11_addsTerm_179 ?_
      refine V_iinc (v := (x10 + (-1 : Int32))) (L' := [(10, .int (x10 + (-1 : Int32))), (0, va_rf (some a)), (3, .long x3), (5, .long x5), (7, .int x7), (8, .int x8), (9, .int x9)]) hM.c 6 dX11_addsTerm_180 rfl rfl (by decide) rfl ?_
      refine V_goto hM.c 129 dX11_addsTerm_183 (by decide) ?_
      refine V_sub [1, 2, 3, 4, 5, 6, 0] rfl ?_
      exact ih _ _ _ _ _ _ _ h
def f_X11_addsTerm_l102 (n : Nat) (Z : Zt) (a : Nat) (x3 : Int64) (x5 : Int64) (x7 : Int32) (x8 : Int32) (x9 : Int32) (g : Mem) : Option (Unit × Mem) := drf (zf Z a 21) (fun b27 => grd (zk Z b27 = 12) (grd (inr x7 (zl Z b27)) (if (gI g b27 x7.toNatClampNeg) = (32 : Int32) then (some ((), (sI g a 25 (1 : Int32)))) else (drf (zf Z a 21) (fun b32 => grd (zk Z b32 = 12) (grd (inr x7 (zl Z b32)) (f_X11_addsTerm_l129 n Z a n x3 x5 x7 x8 x9 (gI g b32 x7.toNatClampNeg) g)))))))
set_option maxHeartbeats 4000000 in
set_option maxRecDepth 100000 in
theorem vl_X11_addsTerm_l102 {x : Cq} {n : Nat} {Z : Zt} {a : Nat} {x3 : Int64} {x5 : Int64} {x7 : Int32} {x8 : Int32} {x9 : Int32} {g : Mem} {rr : Unit} {gg : Mem} (hM : Cm x cX11_addsTerm RX11 11 none 0 Z none gg) (hz0 : zk Z a = 10) (h : f_X11_addsTerm_l102 n Z a x3 x5 x7 x8 x9 g = some (rr, gg)) : V x Z 0 0 102 [(0, va_rf (some a)), (3, .long x3), (5, .long x5), (7, .int x7), (8, .int x8), (9, .int x9)] [] g := by
  unfold f_X11_addsTerm_l102 at h
  refine V_aload_n hM.c 0 dX11_addsTerm_102 rfl rfl ?_
  replace h := drf_some h
  obtain ⟨b27, e28, h⟩ := h
  refine G9_21 hM.c tw_128 hz0 e28 dX11_addsTerm_103 ?_
  refine V_iload hM.c 3 dX11_addsTerm_106 rfl ?_
  replace h := grd_some h
  obtain ⟨z29, h⟩ := h
  replace h := grd_some h
  obtain ⟨c30, h⟩ := h
  refine V_iald hM.c z29 c30 dX11_addsTerm_108 ?_
  refine V_bipush (v := 32) hM.c dX11_addsTerm_109 (by decide) ?_
  refine V_icmp_ne hM.c 120 dX11_addsTerm_111 (by decide) (fun c31 => ?_) (fun c31 => ?_)
  · replace h := ite_n h c31
    refine V_aload_n hM.c 0 dX11_addsTerm_120 rfl rfl ?_
    replace h := drf_some h
    obtain ⟨b32, e33, h⟩ := h
    refine G9_21 hM.c tw_128 hz0 e33 dX11_addsTerm_121 ?_
    refine V_iload hM.c 3 dX11_addsTerm_124 rfl ?_
    replace h := grd_some h
    obtain ⟨z34, h⟩ := h
    replace h := grd_some h
    obtain ⟨c35, h⟩ := h
    refine V_iald hM.c z34 c35 dX11_addsTerm_126 ?_
    refine V_istore (L' := [(10, .int (gI g b32 x7.toNatClampNeg)), (0, va_rf (some a)), (3, .long x3), (5, .long x5), (7, .int x7), (8, .int x8), (9, .int x9)]) hM.c dX11_addsTerm_127 (by decide) rfl ?_
    refine V_sub [1, 2, 3, 4, 5, 6, 0] rfl ?_
    exact vl_X11_addsTerm_l129 hM hz0  _ _ _ _ _ _ _ _ h
  · replace h := ite_p h c31
    refine V_aload_n hM.c 0 dX11_addsTerm_114 rfl rfl ?_
    refine V_iconst (v := 1) hM.c dX11_addsTerm_115 (by decide) ?_
    refine P9_25 hM.c tw_472 hz0 (by decide) hM.a dX11_addsTerm_116 ?_
    exact V_vretE hM h dX11_addsTerm_119
def f_X11_addsTerm_l59 (n : Nat) (Z : Zt) (a : Nat) (x3 : Int64) (x5 : Int64) (x7 : Int32) (x8 : Int32) (x9 : Int32) (g : Mem) : Option (Unit × Mem) := drf (zf Z a 21) (fun b11 => grd (zk Z b11 = 12) (grd (inr x7 (zl Z b11)) (if (gI g b11 x7.toNatClampNeg) ≤ x9 then (f_X11_addsTerm_l102 n Z a x3 x5 x7 x8 x9 g) else (drf (zf Z a 22) (fun b16 => grd (zk Z b16 = 13) (grd (inr (x8 + x9) (zl Z b16)) (if (lg_cmp (gJ g b16 (x8 + x9).toNatClampNeg) x3) = 0 then (drf (zf Z a 23) (fun b21 => grd (zk Z b21 = 13) (grd (inr (x8 + x9) (zl Z b21)) (grd (zk Z b21 = 13) (grd (inr (x8 + x9) (zl Z b21)) (some ((), (sJ g b21 (x8 + x9).toNatClampNeg ((gJ g b21 (x8 + x9).toNatClampNeg) + x5))))))))) else (f_X11_addsTerm_l102 n Z a x3 x5 x7 x8 x9 g))))))))
set_option maxHeartbeats 4000000 in
set_option maxRecDepth 100000 in
theorem vl_X11_addsTerm_l59 {x : Cq} {n : Nat} {Z : Zt} {a : Nat} {x3 : Int64} {x5 : Int64} {x7 : Int32} {x8 : Int32} {x9 : Int32} {g : Mem} {rr : Unit} {gg : Mem} (hM : Cm x cX11_addsTerm RX11 11 none 0 Z none gg) (hz0 : zk Z a = 10) (h : f_X11_addsTerm_l59 n Z a x3 x5 x7 x8 x9 g = some (rr, gg)) : V x Z 0 0 59 [(0, va_rf (some a)), (3, .long x3), (5, .long x5), (7, .int x7), (8, .int x8), (9, .int x9)] [] g := by
  unfold f_X11_addsTerm_l59 at h
  refine V_iload hM.c 5 dX11_addsTerm_59 rfl ?_
  refine V_aload_n hM.c 0 dX11_addsTerm_61 rfl rfl ?_
  replace h := drf_some h
  obtain ⟨b11, e12, h⟩ := h
  refine G9_21 hM.c tw_128 hz0 e12 dX11_addsTerm_62 ?_
  refine V_iload hM.c 3 dX11_addsTerm_65 rfl ?_
  replace h := grd_some h
  obtain ⟨z13, h⟩ := h
  replace h := grd_some h
  obtain ⟨c14, h⟩ := h
  refine V_iald hM.c z13 c14 dX11_addsTerm_67 ?_
  refine V_icmp_ge hM.c 102 dX11_addsTerm_68 (by decide) (fun c15 => ?_) (fun c15 => ?_)
  · replace h := ite_p h c15
    refine V_sub [0, 1, 2, 3, 4, 5] rfl ?_
    exact vl_X11_addsTerm_l102 hM hz0  h
  · replace h := ite_n h c15
    refine V_aload_n hM.c 0 dX11_addsTerm_71 rfl rfl ?_
    replace h := drf_some h
    obtain ⟨b16, e17, h⟩ := h
    refine G9_22 hM.c tw_129 hz0 e17 dX11_addsTerm_72 ?_
    refine V_iload hM.c 4 dX11_addsTerm_75 rfl ?_
    refine V_iload hM.c 5 dX11_addsTerm_77 rfl ?_
    refine V_iadd hM.c dX11_addsTerm_79 ?_
    replace h := grd_some h
    obtain ⟨z18, h⟩ := h
    replace h := grd_some h
    obtain ⟨c19, h⟩ := h
    refine V_lald hM.c z18 c19 dX11_addsTerm_80 ?_
    refine V_lload_n hM.c 1 dX11_addsTerm_81 rfl rfl ?_
    refine V_lcmp hM.c dX11_addsTerm_82 ?_
    refine V_if_ne hM.c 102 dX11_addsTerm_83 (by decide) (fun c20 => ?_) (fun c20 => ?_)
    · replace h := ite_n h c20
      refine V_sub [0, 1, 2, 3, 4, 5] rfl ?_
      exact vl_X11_addsTerm_l102 hM hz0  h
    · replace h := ite_p h c20
      refine V_aload_n hM.c 0 dX11_addsTerm_86 rfl rfl ?_
      replace h := drf_some h
      obtain ⟨b21, e22, h⟩ := h
      refine G9_23 hM.c tw_130 hz0 e22 dX11_addsTerm_87 ?_
      refine V_iload hM.c 4 dX11_addsTerm_90 rfl ?_
      refine V_iload hM.c 5 dX11_addsTerm_92 rfl ?_
      refine V_iadd hM.c dX11_addsTerm_94 ?_
      refine V_dup2 hM.c dX11_addsTerm_95 rfl (rf_cat _) ?_
      replace h := grd_some h
      obtain ⟨z23, h⟩ := h
      replace h := grd_some h
      obtain ⟨c24, h⟩ := h
      refine V_lald hM.c z23 c24 dX11_addsTerm_96 ?_
      refine V_lload hM.c 2 dX11_addsTerm_97 rfl ?_
      refine V_ladd hM.c dX11_addsTerm_99 ?_
      replace h := grd_some h
      obtain ⟨z25, h⟩ := h
      replace h := grd_some h
      obtain ⟨c26, h⟩ := h
      refine V_last hM.c z25 c26 hM.a dX11_addsTerm_100 ?_
      exact V_vretE hM h dX11_addsTerm_101
def f_X11_addsTerm_l18 (n : Nat) (Z : Zt) (a : Nat) : Nat → Int64 → Int64 → Int32 → Int32 → Int32 → Mem → Option (Unit × Mem)
  | 0, _, _, _, _, _, _ => none
  | fu + 1, x3, x5, x7, x8, x9, g => drf (zf Z a 21) (fun b1 => grd (zk Z b1 = 12) (grd (inr x7 (zl Z b1)) (if (gI g b1 x7.toNatClampNeg) ≤ x9 then (f_X11_addsTerm_l59 n Z a x3 x5 x7 x8 x9 g) else (drf (zf Z a 22) (fun b6 => grd (zk Z b6 = 13) (grd (inr (x8 + x9) (zl Z b6)) (if (lg_cmp ((gJ g b6 (x8 + x9).toNatClampNeg) ^^^ (-9223372036854775808 : Int64)) (x3 ^^^ (-9223372036854775808 : Int64))) ≤ 0 then (f_X11_addsTerm_l59 n Z a x3 x5 x7 x8 x9 g) else (f_X11_addsTerm_l18 n Z a fu x3 x5 x7 x8 (x9 + 1) g))))))))
set_option maxHeartbeats 4000000 in
set_option maxRecDepth 100000 in
theorem vl_X11_addsTerm_l18 {x : Cq} {n : Nat} {Z : Zt} {a : Nat} {rr : Unit} {gg : Mem} (hM : Cm x cX11_addsTerm RX11 11 none 0 Z none gg) (hz0 : zk Z a = 10) : ∀ (fu : Nat) (x3 : Int64) (x5 : Int64) (x7 : Int32) (x8 : Int32) (x9 : Int32) (g : Mem), f_X11_addsTerm_l18 n Z a fu x3 x5 x7 x8 x9 g = some (rr, gg) → V x Z 0 0 18 [(0, va_rf (some a)), (3, .long x3), (5, .long x5), (7, .int x7), (8, .int x8), (9, .int x9)] [] g := by
  intro fu
  induction fu with
  | zero => intro x3 x5 x7 x8 x9 g h; cases h
  | succ fu ih =>
    intro x3 x5 x7 x8 x9 g h
    unfold f_X11_addsTerm_l18 at h
    refine V_iload hM.c 5 dX11_addsTerm_18 rfl ?_
    refine V_aload_n hM.c 0 dX11_addsTerm_20 rfl rfl ?_
    replace h := drf_some h
    obtain ⟨b1, e2, h⟩ := h
    refine G9_21 hM.c tw_128 hz0 e2 dX11_addsTerm_21 ?_
    refine V_iload hM.c 3 dX11_addsTerm_24 rfl ?_
    replace h := grd_some h
    obtain ⟨z3, h⟩ := h
    replace h := grd_some h
    obtain ⟨c4, h⟩ := h
    refine V_iald hM.c z3 c4 dX11_addsTerm_26 ?_
    refine V_icmp_ge hM.c 59 dX11_addsTerm_27 (by decide) (fun c5 => ?_) (fun c5 => ?_)
    · replace h := ite_p h c5
      refine V_sub [0, 1, 2, 3, 4, 5] rfl ?_
      exact vl_X11_addsTerm_l59 hM hz0  h
    · replace h := ite_n h c5
      refine V_aload_n hM.c 0 dX11_addsTerm_30 rfl rfl ?_
      replace h := drf_some h
      obtain ⟨b6, e7, h⟩ := h
      refine G9_22 hM.c tw_129 hz0 e7 dX11_addsTerm_31 ?_
      refine V_iload hM.c 4 dX11_addsTerm_34 rfl ?_
      refine V_iload hM.c 5 dX11_addsTerm_36 rfl ?_
      refine V_iadd hM.c dX11_addsTerm_38 ?_
      replace h := grd_some h
      obtain ⟨z8, h⟩ := h
      replace h := grd_some h
      obtain ⟨c9, h⟩ := h
      refine V_lald hM.c z8 c9 dX11_addsTerm_39 ?_
      refine V_ldc2 (v := -9223372036854775808) hM.c tw_492 dX11_addsTerm_40 ?_
      refine V_lxor hM.c dX11_addsTerm_43 ?_
      refine V_lload_n hM.c 1 dX11_addsTerm_44 rfl rfl ?_
      refine V_ldc2 (v := -9223372036854775808) hM.c tw_492 dX11_addsTerm_45 ?_
      refine V_lxor hM.c dX11_addsTerm_48 ?_
      refine V_lcmp hM.c dX11_addsTerm_49 ?_
      refine V_if_le hM.c 59 dX11_addsTerm_50 (by decide) (fun c10 => ?_) (fun c10 => ?_)
      · replace h := ite_p h c10
        refine V_sub [0, 1, 2, 3, 4, 5] rfl ?_
        exact vl_X11_addsTerm_l59 hM hz0  h
      · replace h := ite_n h c10
        refine V_iinc (v := (x9 + 1)) (L' := [(9, .int (x9 + 1)), (0, va_rf (some a)), (3, .long x3), (5, .long x5), (7, .int x7), (8, .int x8)]) hM.c 5 dX11_addsTerm_53 rfl rfl (by decide) rfl ?_
        refine V_goto hM.c 18 dX11_addsTerm_56 (by decide) ?_
        refine V_sub [1, 2, 3, 4, 5, 0] rfl ?_
        exact ih _ _ _ _ _ _ h
def f_X11_addsTerm (n : Nat) (Z : Zt) (a : Nat) (x1 : Int32) (x2 : Int32) (x3 : Int64) (x5 : Int64) (g : Mem) : Option (Unit × Mem) := grd (zk Z a = 10) (f_X11_addsTerm_l18 n Z a n x3 x5 (((32 : Int32) * x1) + x2) ((32 : Int32) * (((32 : Int32) * x1) + x2)) (0 : Int32) g)
theorem mq_X11_addsTerm : Mq yX11_addsTerm cX11_addsTerm 11 none 4 := ⟨tw_491, tw_5, ⟨by decide +kernel, by decide +kernel, by decide +kernel⟩, by decide⟩
theorem mi_X11_addsTerm : Cond.instanceMethod yX11_addsTerm ∈ TB ∧ Cond.selects yX11_addsTerm.cls yX11_addsTerm yX11_addsTerm ∈ TB := ⟨tw_489, tw_490⟩
theorem zc_X11_addsTerm {n : Nat} {Z : Zt} {a : Nat} {x1 : Int32} {x2 : Int32} {x3 : Int64} {x5 : Int64} {g : Mem} {q : Unit × Mem} (h : f_X11_addsTerm n Z a x1 x2 x3 x5 g = some q) : zk Z a = 10 := (grd_some h).1
set_option maxHeartbeats 4000000 in
set_option maxRecDepth 100000 in
theorem vm_X11_addsTerm {n : Nat} {Z : Zt} {a : Nat} {x1 : Int32} {x2 : Int32} {x3 : Int64} {x5 : Int64} {g : Mem} {rr : Unit} {gg : Mem} (h : f_X11_addsTerm n Z a x1 x2 x3 x5 g = some (rr, gg)) : VM yX11_addsTerm cX11_addsTerm 11 none 0 [.ref a, .int x1, .int x2, .long x3, .long x5] Z g none gg := by
  unfold f_X11_addsTerm at h
  replace h := grd_some h
  obtain ⟨hz0, h⟩ := h
  refine VM.of (by decide +kernel) (Nat.le_of_ble_eq_true rfl) (fun x hM => ?_)
  have hM : Cm x cX11_addsTerm RX11 11 none 0 Z none gg := hM
  show V x Z 0 0 0 [(0, va_rf (some a)), (1, .int x1), (2, .int x2), (3, .long x3), (5, .long x5)] [] g
  refine V_bipush (v := 32) hM.c dX11_addsTerm_0 (by decide) ?_
  refine V_iload_n hM.c 1 dX11_addsTerm_2 rfl rfl ?_
  refine V_imul hM.c dX11_addsTerm_3 ?_
  refine V_iload_n hM.c 2 dX11_addsTerm_4 rfl rfl ?_
  refine V_iadd hM.c dX11_addsTerm_5 ?_
  refine V_istore (L' := [(7, .int (((32 : Int32) * x1) + x2)), (0, va_rf (some a)), (1, .int x1), (2, .int x2), (3, .long x3), (5, .long x5)]) hM.c dX11_addsTerm_6 (by decide) rfl ?_
  refine V_bipush (v := 32) hM.c dX11_addsTerm_8 (by decide) ?_
  refine V_iload hM.c 0 dX11_addsTerm_10 rfl ?_
  refine V_imul hM.c dX11_addsTerm_12 ?_
  refine V_istore (L' := [(8, .int ((32 : Int32) * (((32 : Int32) * x1) + x2))), (7, .int (((32 : Int32) * x1) + x2)), (0, va_rf (some a)), (1, .int x1), (2, .int x2), (3, .long x3), (5, .long x5)]) hM.c dX11_addsTerm_13 (by decide) rfl ?_
  refine V_iconst (v := 0) hM.c dX11_addsTerm_15 (by decide) ?_
  refine V_istore (L' := [(9, .int (0 : Int32)), (8, .int ((32 : Int32) * (((32 : Int32) * x1) + x2))), (7, .int (((32 : Int32) * x1) + x2)), (0, va_rf (some a)), (1, .int x1), (2, .int x2), (3, .long x3), (5, .long x5)]) hM.c dX11_addsTerm_16 (by decide) rfl ?_
  refine V_sub [3, 6, 7, 2, 1, 0] rfl ?_
  exact vl_X11_addsTerm_l18 hM hz0  _ _ _ _ _ _ _ h
def f_X11_addsRow_l20 (n : Nat) (Z : Zt) (a : Nat) : Nat → Int32 → Int32 → Int32 → Int32 → Mem → Option (Unit × Mem)
  | 0, _, _, _, _, _ => none
  | fu + 1, x3, x5, x6, x7, g => drf (zf Z a 21) (fun b4 => grd (zk Z b4 = 12) (grd (inr x5 (zl Z b4)) (if (gI g b4 x5.toNatClampNeg) ≤ x7 then (some ((), g)) else (if (gI g a 25) = 0 then (drf (zf Z a 22) (fun b10 => grd (zk Z b10 = 13) (grd (inr (((32 : Int32) * x5) + x7) (zl Z b10)) (drf (zf Z a 23) (fun b14 => grd (zk Z b14 = 13) (grd (inr (((32 : Int32) * x5) + x7) (zl Z b14)) (bnd (f_X11_addsTerm n Z a x3 x6 (gJ g b10 (((32 : Int32) * x5) + x7).toNatClampNeg) (gJ g b14 (((32 : Int32) * x5) + x7).toNatClampNeg) g) (fun r18 g19 => f_X11_addsRow_l20 n Z a fu x3 x5 x6 (x7 + 1) g19)))))))) else (some ((), g))))))
set_option maxHeartbeats 4000000 in
set_option maxRecDepth 100000 in
theorem vl_X11_addsRow_l20 {x : Cq} {n : Nat} {Z : Zt} {a : Nat} {rr : Unit} {gg : Mem} (hM : Cm x cX11_addsRow RX11 8 none 2 Z none gg) (hz0 : zk Z a = 10) : ∀ (fu : Nat) (x3 : Int32) (x5 : Int32) (x6 : Int32) (x7 : Int32) (g : Mem), f_X11_addsRow_l20 n Z a fu x3 x5 x6 x7 g = some (rr, gg) → V x Z 0 0 20 [(0, va_rf (some a)), (3, .int x3), (5, .int x5), (6, .int x6), (7, .int x7)] [] g := by
  intro fu
  induction fu with
  | zero => intro x3 x5 x6 x7 g h; cases h
  | succ fu ih =>
    intro x3 x5 x6 x7 g h
    unfold f_X11_addsRow_l20 at h
    refine V_iload hM.c 4 dX11_addsRow_20 rfl ?_
    refine V_aload_n hM.c 0 dX11_addsRow_22 rfl rfl ?_
    replace h := drf_some h
    obtain ⟨b4, e5, h⟩ := h
    refine G9_21 hM.c tw_128 hz0 e5 dX11_addsRow_23 ?_
    refine V_iload hM.c 2 dX11_addsRow_26 rfl ?_
    replace h := grd_some h
    obtain ⟨z6, h⟩ := h
    replace h := grd_some h
    obtain ⟨c7, h⟩ := h
    refine V_iald hM.c z6 c7 dX11_addsRow_28 ?_
    refine V_icmp_ge hM.c 78 dX11_addsRow_29 (by decide) (fun c8 => ?_) (fun c8 => ?_)
    · replace h := ite_p h c8
      exact V_vretE hM h dX11_addsRow_78
    · replace h := ite_n h c8
      refine V_aload_n hM.c 0 dX11_addsRow_32 rfl rfl ?_
      refine G9_25 hM.c tw_472 hz0 dX11_addsRow_33 ?_
      refine V_if_ne hM.c 78 dX11_addsRow_36 (by decide) (fun c9 => ?_) (fun c9 => ?_)
      · replace h := ite_n h c9
        exact V_vretE hM h dX11_addsRow_78
      · replace h := ite_p h c9
        refine V_aload_n hM.c 0 dX11_addsRow_39 rfl rfl ?_
        refine V_iload_n hM.c 1 dX11_addsRow_40 rfl rfl ?_
        refine V_iload hM.c 3 dX11_addsRow_41 rfl ?_
        refine V_aload_n hM.c 0 dX11_addsRow_43 rfl rfl ?_
        replace h := drf_some h
        obtain ⟨b10, e11, h⟩ := h
        refine G9_22 hM.c tw_129 hz0 e11 dX11_addsRow_44 ?_
        refine V_bipush (v := 32) hM.c dX11_addsRow_47 (by decide) ?_
        refine V_iload hM.c 2 dX11_addsRow_49 rfl ?_
        refine V_imul hM.c dX11_addsRow_51 ?_
        refine V_iload hM.c 4 dX11_addsRow_52 rfl ?_
        refine V_iadd hM.c dX11_addsRow_54 ?_
        replace h := grd_some h
        obtain ⟨z12, h⟩ := h
        replace h := grd_some h
        obtain ⟨c13, h⟩ := h
        refine V_lald hM.c z12 c13 dX11_addsRow_55 ?_
        refine V_aload_n hM.c 0 dX11_addsRow_56 rfl rfl ?_
        replace h := drf_some h
        obtain ⟨b14, e15, h⟩ := h
        refine G9_23 hM.c tw_130 hz0 e15 dX11_addsRow_57 ?_
        refine V_bipush (v := 32) hM.c dX11_addsRow_60 (by decide) ?_
        refine V_iload hM.c 2 dX11_addsRow_62 rfl ?_
        refine V_imul hM.c dX11_addsRow_64 ?_
        refine V_iload hM.c 4 dX11_addsRow_65 rfl ?_
        refine V_iadd hM.c dX11_addsRow_67 ?_
        replace h := grd_some h
        obtain ⟨z16, h⟩ := h
        replace h := grd_some h
        obtain ⟨c17, h⟩ := h
        refine V_lald hM.c z16 c17 dX11_addsRow_68 ?_
        replace h := bnd_some h
        obtain ⟨r18, g19, e20, h⟩ := h
        refine V_callV (As := [.int x3, .int x6, .long (gJ g b10 (((32 : Int32) * x5) + x7).toNatClampNeg), .long (gJ g b14 (((32 : Int32) * x5) + x7).toNatClampNeg)]) (c := 9) (T := TX11) (N := 32) hM.c hM.a mq_X11_addsTerm mi_X11_addsTerm tw_488 (hM.d (by decide)) hM.z rfl (by omega) (zc_X11_addsTerm e20) (vm_X11_addsTerm e20) rfl (Nat.le_of_ble_eq_true rfl) dX11_addsRow_69 ?_
        refine V_iinc (v := (x7 + 1)) (L' := [(7, .int (x7 + 1)), (0, va_rf (some a)), (3, .int x3), (5, .int x5), (6, .int x6)]) hM.c 4 dX11_addsRow_72 rfl rfl (by decide) rfl ?_
        refine V_goto hM.c 20 dX11_addsRow_75 (by decide) ?_
        refine V_sub [1, 2, 3, 4, 0] rfl ?_
        exact ih _ _ _ _ _ h
def f_X11_addsRow (n : Nat) (Z : Zt) (a : Nat) (x1 : Int32) (x2 : Int32) (x3 : Int32) (x4 : Int32) (g : Mem) : Option (Unit × Mem) := grd (zk Z a = 10) (bnd (f_X11_rowFor n Z a x3 x4 g) (fun r1 g2 => f_X11_addsRow_l20 n Z a n x3 (((32 : Int32) * x1) + x2) r1 (0 : Int32) g2))
theorem mq_X11_addsRow : Mq yX11_addsRow cX11_addsRow 8 none 4 := ⟨tw_503, tw_5, ⟨by decide +kernel, by decide +kernel, by decide +kernel⟩, by decide⟩
theorem mi_X11_addsRow : Cond.instanceMethod yX11_addsRow ∈ TB ∧ Cond.selects yX11_addsRow.cls yX11_addsRow yX11_addsRow ∈ TB := ⟨tw_501, tw_502⟩
theorem zc_X11_addsRow {n : Nat} {Z : Zt} {a : Nat} {x1 : Int32} {x2 : Int32} {x3 : Int32} {x4 : Int32} {g : Mem} {q : Unit × Mem} (h : f_X11_addsRow n Z a x1 x2 x3 x4 g = some q) : zk Z a = 10 := (grd_some h).1
set_option maxHeartbeats 4000000 in
set_option maxRecDepth 100000 in
theorem vm_X11_addsRow {n : Nat} {Z : Zt} {a : Nat} {x1 : Int32} {x2 : Int32} {x3 : Int32} {x4 : Int32} {g : Mem} {rr : Unit} {gg : Mem} (h : f_X11_addsRow n Z a x1 x2 x3 x4 g = some (rr, gg)) : VM yX11_addsRow cX11_addsRow 8 none 2 [.ref a, .int x1, .int x2, .int x3, .int x4] Z g none gg := by
  unfold f_X11_addsRow at h
  replace h := grd_some h
  obtain ⟨hz0, h⟩ := h
  refine VM.of (by decide +kernel) (Nat.le_of_ble_eq_true rfl) (fun x hM => ?_)
  have hM : Cm x cX11_addsRow RX11 8 none 2 Z none gg := hM
  show V x Z 0 0 0 [(0, va_rf (some a)), (1, .int x1), (2, .int x2), (3, .int x3), (4, .int x4)] [] g
  refine V_bipush (v := 32) hM.c dX11_addsRow_0 (by decide) ?_
  refine V_iload_n hM.c 1 dX11_addsRow_2 rfl rfl ?_
  refine V_imul hM.c dX11_addsRow_3 ?_
  refine V_iload_n hM.c 2 dX11_addsRow_4 rfl rfl ?_
  refine V_iadd hM.c dX11_addsRow_5 ?_
  refine V_istore (L' := [(5, .int (((32 : Int32) * x1) + x2)), (0, va_rf (some a)), (1, .int x1), (2, .int x2), (3, .int x3), (4, .int x4)]) hM.c dX11_addsRow_6 (by decide) rfl ?_
  refine V_aload_n hM.c 1 dX11_addsRow_8 rfl rfl ?_
  refine V_iload_n hM.c 4 dX11_addsRow_9 rfl rfl ?_
  refine V_iload hM.c 5 dX11_addsRow_10 rfl ?_
  replace h := bnd_some h
  obtain ⟨r1, g2, e3, h⟩ := h
  refine V_callV (As := [.int x3, .int x4]) (c := 9) (T := TX11) (N := 32) hM.c hM.a mq_X11_rowFor mi_X11_rowFor tw_477 (hM.d (by decide)) hM.z rfl (by omega) (zc_X11_rowFor e3) (vm_X11_rowFor e3) rfl (Nat.le_of_ble_eq_true rfl) dX11_addsRow_12 ?_
  refine V_istore (L' := [(6, .int r1), (5, .int (((32 : Int32) * x1) + x2)), (0, va_rf (some a)), (1, .int x1), (2, .int x2), (3, .int x3), (4, .int x4)]) hM.c dX11_addsRow_15 (by decide) rfl ?_
  refine V_iconst (v := 0) hM.c dX11_addsRow_17 (by decide) ?_
  refine V_istore (L' := [(7, .int (0 : Int32)), (6, .int r1), (5, .int (((32 : Int32) * x1) + x2)), (0, va_rf (some a)), (1, .int x1), (2, .int x2), (3, .int x3), (4, .int x4)]) hM.c dX11_addsRow_18 (by decide) rfl ?_
  refine V_sub [3, 6, 2, 1, 0] rfl ?_
  exact vl_X11_addsRow_l20 hM hz0  _ _ _ _ _ _ h
def f_X11_tagAlone (n : Nat) (Z : Zt) (x0 : Int32) (g : Mem) : Option (Int64 × Mem) := some (((1 : Int64) <<< (((4 : Int32) * ((15 : Int32) - x0)).toInt64 &&& 63)), g)
theorem mq_X11_tagAlone : Mq yX11_tagAlone cX11_tagAlone 1 (some .long) 1 := ⟨tw_487, tw_5, ⟨by decide +kernel, by decide +kernel, by decide +kernel⟩, by decide⟩
theorem mi_X11_tagAlone : Cond.static yX11_tagAlone ∈ TB := tw_486
set_option maxHeartbeats 4000000 in
set_option maxRecDepth 100000 in
theorem vm_X11_tagAlone {n : Nat} {Z : Zt} {x0 : Int32} {g : Mem} {rr : Int64} {gg : Mem} (h : f_X11_tagAlone n Z x0 g = some (rr, gg)) : VM yX11_tagAlone cX11_tagAlone 1 (some .long) 0 [.int x0] Z g (some (.long rr)) gg := by
  unfold f_X11_tagAlone at h
  refine VM.of (by decide +kernel) (Nat.le_of_ble_eq_true rfl) (fun x hM => ?_)
  have hM : Cm x cX11_tagAlone RX11 1 (some .long) 0 Z (some (.long rr)) gg := hM
  show V x Z 0 0 0 [(0, .int x0)] [] g
  refine V_lconst (v := 1) hM.c dX11_tagAlone_0 (by decide) ?_
  refine V_iconst (v := 4) hM.c dX11_tagAlone_1 (by decide) ?_
  refine V_bipush (v := 15) hM.c dX11_tagAlone_2 (by decide) ?_
  refine V_iload_n hM.c 0 dX11_tagAlone_4 rfl rfl ?_
  refine V_isub hM.c dX11_tagAlone_5 ?_
  refine V_imul hM.c dX11_tagAlone_6 ?_
  refine V_lshl hM.c dX11_tagAlone_7 ?_
  exact V_lretE hM h dX11_tagAlone_8
def f_X11_exponentOf (n : Nat) (Z : Zt) (x0 : Int64) (x2 : Int32) (g : Mem) : Option (Int32 × Mem) := some ((((x0 >>> (((4 : Int32) * ((15 : Int32) - x2)).toInt64 &&& 63)) &&& (15 : Int64)).toInt32), g)
theorem mq_X11_exponentOf : Mq yX11_exponentOf cX11_exponentOf 3 (some .int) 2 := ⟨tw_664, tw_5, ⟨by decide +kernel, by decide +kernel, by decide +kernel⟩, by decide⟩
theorem mi_X11_exponentOf : Cond.static yX11_exponentOf ∈ TB := tw_663
set_option maxHeartbeats 4000000 in
set_option maxRecDepth 100000 in
theorem vm_X11_exponentOf {n : Nat} {Z : Zt} {x0 : Int64} {x2 : Int32} {g : Mem} {rr : Int32} {gg : Mem} (h : f_X11_exponentOf n Z x0 x2 g = some (rr, gg)) : VM yX11_exponentOf cX11_exponentOf 3 (some .int) 0 [.long x0, .int x2] Z g (some (.int rr)) gg := by
  unfold f_X11_exponentOf at h
  refine VM.of (by decide +kernel) (Nat.le_of_ble_eq_true rfl) (fun x hM => ?_)
  have hM : Cm x cX11_exponentOf RX11 3 (some .int) 0 Z (some (.int rr)) gg := hM
  show V x Z 0 0 0 [(0, .long x0), (2, .int x2)] [] g
  refine V_lload_n hM.c 0 dX11_exponentOf_0 rfl rfl ?_
  refine V_iconst (v := 4) hM.c dX11_exponentOf_1 (by decide) ?_
  refine V_bipush (v := 15) hM.c dX11_exponentOf_2 (by decide) ?_
  refine V_iload_n hM.c 1 dX11_exponentOf_4 rfl rfl ?_
  refine V_isub hM.c dX11_exponentOf_5 ?_
  refine V_imul hM.c dX11_exponentOf_6 ?_
  refine V_lshr hM.c dX11_exponentOf_7 ?_
  refine V_ldc2 (v := 15) hM.c tw_665 dX11_exponentOf_8 ?_
  refine V_land hM.c dX11_exponentOf_11 ?_
  refine V_l2i hM.c dX11_exponentOf_12 ?_
  exact V_iretE hM h dX11_exponentOf_13
def f_X11_pilesTable_l27 (n : Nat) (Z : Zt) (a : Nat) : Nat → Int32 → Int32 → Mem → Option (Unit × Mem)
  | 0, _, _, _ => none
  | fu + 1, x1, x2, g => if (16 : Int32) ≤ x2 then (some ((), (sI g a 24 ((gI g a 24) + (1 : Int32))))) else (bnd (f_X11_of n Z a x2 (0 : Int32) g) (fun r14 g15 => if r14 = (x1 + (1 : Int32)) then (bnd (f_X11_of n Z a x2 (1 : Int32) g15) (fun r18 g19 => bnd (f_X11_rowFor n Z a (gI g15 a 24) r18 g19) (fun r21 g22 => bnd (f_X11_tagAlone n Z x2 g22) (fun r24 g25 => bnd (f_X11_addsTerm n Z a (gI g15 a 24) r21 r24 (1 : Int64) g25) (fun r27 g28 => f_X11_pilesTable_l27 n Z a fu x1 (x2 + 1) g28))))) else (f_X11_pilesTable_l27 n Z a fu x1 (x2 + 1) g15)))
set_option maxHeartbeats 4000000 in
set_option maxRecDepth 100000 in
theorem vl_X11_pilesTable_l27 {x : Cq} {n : Nat} {Z : Zt} {a : Nat} {rr : Unit} {gg : Mem} (hM : Cm x cX11_pilesTable RX11 3 none 2 Z none gg) (hz0 : zk Z a = 10) : ∀ (fu : Nat) (x1 : Int32) (x2 : Int32) (g : Mem), f_X11_pilesTable_l27 n Z a fu x1 x2 g = some (rr, gg) → V x Z 0 0 27 [(0, va_rf (some a)), (1, .int x1), (2, .int x2)] [] g := by
  intro fu
  induction fu with
  | zero => intro x1 x2 g h; cases h
  | succ fu ih =>
    intro x1 x2 g h
    unfold f_X11_pilesTable_l27 at h
    refine V_iload_n hM.c 2 dX11_pilesTable_27 rfl rfl ?_
    refine V_bipush (v := 16) hM.c dX11_pilesTable_28 (by decide) ?_
    refine V_icmp_ge hM.c 78 dX11_pilesTable_30 (by decide) (fun c13 => ?_) (fun c13 => ?_)
    · replace h := ite_p h c13
      refine V_aload_n hM.c 0 dX11_pilesTable_78 rfl rfl ?_
      refine V_dup hM.c dX11_pilesTable_79 (rf_cat _) ?_
      refine G9_24 hM.c tw_471 hz0 dX11_pilesTable_80 ?_
      refine V_iconst (v := 1) hM.c dX11_pilesTable_83 (by decide) ?_
      refine V_iadd hM.c dX11_pilesTable_84 ?_
      refine P9_24 hM.c tw_471 hz0 hM.a dX11_pilesTable_85 ?_
      exact V_vretE hM h dX11_pilesTable_88
    · replace h := ite_n h c13
      refine V_aload_n hM.c 0 dX11_pilesTable_33 rfl rfl ?_
      refine V_iload_n hM.c 2 dX11_pilesTable_34 rfl rfl ?_
      refine V_iconst (v := 0) hM.c dX11_pilesTable_35 (by decide) ?_
      replace h := bnd_some h
      obtain ⟨r14, g15, e16, h⟩ := h
      refine V_callV (As := [.int x2, .int (0 : Int32)]) (c := 9) (T := TX11) (N := 32) hM.c hM.a mq_X11_of mi_X11_of tw_219 (hM.d (by decide)) hM.z rfl (by omega) (zc_X11_of e16) (vm_X11_of e16) rfl (Nat.le_of_ble_eq_true rfl) dX11_pilesTable_36 ?_
      refine V_iload_n hM.c 1 dX11_pilesTable_39 rfl rfl ?_
      refine V_iconst (v := 1) hM.c dX11_pilesTable_40 (by decide) ?_
      refine V_iadd hM.c dX11_pilesTable_41 ?_
      refine V_icmp_ne hM.c 72 dX11_pilesTable_42 (by decide) (fun c17 => ?_) (fun c17 => ?_)
      · replace h := ite_n h c17
        refine V_iinc (v := (x2 + 1)) (L' := [(2, .int (x2 + 1)), (0, va_rf (some a)), (1, .int x1)]) hM.c 2 dX11_pilesTable_72 rfl rfl (by decide) rfl ?_
        refine V_goto hM.c 27 dX11_pilesTable_75 (by decide) ?_
        refine V_sub [1, 2, 0] rfl ?_
        exact ih _ _ _ h
      · replace h := ite_p h c17
        refine V_aload_n hM.c 0 dX11_pilesTable_45 rfl rfl ?_
        refine V_aload_n hM.c 0 dX11_pilesTable_46 rfl rfl ?_
        refine G9_24 hM.c tw_471 hz0 dX11_pilesTable_47 ?_
        refine V_aload_n hM.c 0 dX11_pilesTable_50 rfl rfl ?_
        refine V_aload_n hM.c 0 dX11_pilesTable_51 rfl rfl ?_
        refine G9_24 hM.c tw_471 hz0 dX11_pilesTable_52 ?_
        refine V_aload_n hM.c 0 dX11_pilesTable_55 rfl rfl ?_
        refine V_iload_n hM.c 2 dX11_pilesTable_56 rfl rfl ?_
        refine V_iconst (v := 1) hM.c dX11_pilesTable_57 (by decide) ?_
        replace h := bnd_some h
        obtain ⟨r18, g19, e20, h⟩ := h
        refine V_callV (As := [.int x2, .int (1 : Int32)]) (c := 9) (T := TX11) (N := 32) hM.c hM.a mq_X11_of mi_X11_of tw_219 (hM.d (by decide)) hM.z rfl (by omega) (zc_X11_of e20) (vm_X11_of e20) rfl (Nat.le_of_ble_eq_true rfl) dX11_pilesTable_58 ?_
        replace h := bnd_some h
        obtain ⟨r21, g22, e23, h⟩ := h
        refine V_callV (As := [.int (gI g15 a 24), .int r18]) (c := 9) (T := TX11) (N := 32) hM.c hM.a mq_X11_rowFor mi_X11_rowFor tw_477 (hM.d (by decide)) hM.z rfl (by omega) (zc_X11_rowFor e23) (vm_X11_rowFor e23) rfl (Nat.le_of_ble_eq_true rfl) dX11_pilesTable_61 ?_
        refine V_iload_n hM.c 2 dX11_pilesTable_64 rfl rfl ?_
        replace h := bnd_some h
        obtain ⟨r24, g25, e26, h⟩ := h
        refine V_callS (As := [.int x2]) hM.c hM.a mq_X11_tagAlone mi_X11_tagAlone tw_485 (hM.d (by decide)) hM.z (vm_X11_tagAlone e26) rfl (Nat.le_of_ble_eq_true rfl) dX11_pilesTable_65 ?_
        refine V_lconst (v := 1) hM.c dX11_pilesTable_68 (by decide) ?_
        replace h := bnd_some h
        obtain ⟨r27, g28, e29, h⟩ := h
        refine V_callV (As := [.int (gI g15 a 24), .int r21, .long r24, .long (1 : Int64)]) (c := 9) (T := TX11) (N := 32) hM.c hM.a mq_X11_addsTerm mi_X11_addsTerm tw_488 (hM.d (by decide)) hM.z rfl (by omega) (zc_X11_addsTerm e29) (vm_X11_addsTerm e29) rfl (Nat.le_of_ble_eq_true rfl) dX11_pilesTable_69 ?_
        refine V_iinc (v := (x2 + 1)) (L' := [(2, .int (x2 + 1)), (0, va_rf (some a)), (1, .int x1)]) hM.c 2 dX11_pilesTable_72 rfl rfl (by decide) rfl ?_
        refine V_goto hM.c 27 dX11_pilesTable_75 (by decide) ?_
        refine V_sub [1, 2, 0] rfl ?_
        exact ih _ _ _ h
def f_X11_pilesTable (n : Nat) (Z : Zt) (a : Nat) (x1 : Int32) (g : Mem) : Option (Unit × Mem) := grd (zk Z a = 10) (drf (zf Z a 18) (fun b1 => drf (zf Z a 0) (fun b3 => grd (zk Z b3 = 12) (grd (inr x1 (zl Z b3)) (grd (zk Z b1 = 12) (grd (inr (gI g a 24) (zl Z b1)) (drf (zf Z a 19) (fun b9 => grd (zk Z b9 = 12) (grd (inr (gI (sI g b1 (gI g a 24).toNatClampNeg (gI g b3 x1.toNatClampNeg)) a 24) (zl Z b9)) (f_X11_pilesTable_l27 n Z a n x1 (0 : Int32) (sI (sI g b1 (gI g a 24).toNatClampNeg (gI g b3 x1.toNatClampNeg)) b9 (gI (sI g b1 (gI g a 24).toNatClampNeg (gI g b3 x1.toNatClampNeg)) a 24).toNatClampNeg (0 : Int32))))))))))))
theorem mq_X11_pilesTable : Mq yX11_pilesTable cX11_pilesTable 3 none 1 := ⟨tw_476, tw_5, ⟨by decide +kernel, by decide +kernel, by decide +kernel⟩, by decide⟩
theorem mi_X11_pilesTable : Cond.instanceMethod yX11_pilesTable ∈ TB ∧ Cond.selects yX11_pilesTable.cls yX11_pilesTable yX11_pilesTable ∈ TB := ⟨tw_474, tw_475⟩
theorem zc_X11_pilesTable {n : Nat} {Z : Zt} {a : Nat} {x1 : Int32} {g : Mem} {q : Unit × Mem} (h : f_X11_pilesTable n Z a x1 g = some q) : zk Z a = 10 := (grd_some h).1
set_option maxHeartbeats 4000000 in
set_option maxRecDepth 100000 in
theorem vm_X11_pilesTable {n : Nat} {Z : Zt} {a : Nat} {x1 : Int32} {g : Mem} {rr : Unit} {gg : Mem} (h : f_X11_pilesTable n Z a x1 g = some (rr, gg)) : VM yX11_pilesTable cX11_pilesTable 3 none 2 [.ref a, .int x1] Z g none gg := by
  unfold f_X11_pilesTable at h
  replace h := grd_some h
  obtain ⟨hz0, h⟩ := h
  refine VM.of (by decide +kernel) (Nat.le_of_ble_eq_true rfl) (fun x hM => ?_)
  have hM : Cm x cX11_pilesTable RX11 3 none 2 Z none gg := hM
  show V x Z 0 0 0 [(0, va_rf (some a)), (1, .int x1)] [] g
  refine V_aload_n hM.c 0 dX11_pilesTable_0 rfl rfl ?_
  replace h := drf_some h
  obtain ⟨b1, e2, h⟩ := h
  refine G9_18 hM.c tw_125 hz0 e2 dX11_pilesTable_1 ?_
  refine V_aload_n hM.c 0 dX11_pilesTable_4 rfl rfl ?_
  refine G9_24 hM.c tw_471 hz0 dX11_pilesTable_5 ?_
  refine V_aload_n hM.c 0 dX11_pilesTable_8 rfl rfl ?_
  replace h := drf_some h
  obtain ⟨b3, e4, h⟩ := h
  refine G9_0 hM.c tw_114 hz0 e4 dX11_pilesTable_9 ?_
  refine V_iload_n hM.c 1 dX11_pilesTable_12 rfl rfl ?_
  replace h := grd_some h
  obtain ⟨z5, h⟩ := h
  replace h := grd_some h
  obtain ⟨c6, h⟩ := h
  refine V_iald hM.c z5 c6 dX11_pilesTable_13 ?_
  replace h := grd_some h
  obtain ⟨z7, h⟩ := h
  replace h := grd_some h
  obtain ⟨c8, h⟩ := h
  refine V_iast hM.c z7 c8 hM.a dX11_pilesTable_14 ?_
  refine V_aload_n hM.c 0 dX11_pilesTable_15 rfl rfl ?_
  replace h := drf_some h
  obtain ⟨b9, e10, h⟩ := h
  refine G9_19 hM.c tw_126 hz0 e10 dX11_pilesTable_16 ?_
  refine V_aload_n hM.c 0 dX11_pilesTable_19 rfl rfl ?_
  refine G9_24 hM.c tw_471 hz0 dX11_pilesTable_20 ?_
  refine V_iconst (v := 0) hM.c dX11_pilesTable_23 (by decide) ?_
  replace h := grd_some h
  obtain ⟨z11, h⟩ := h
  replace h := grd_some h
  obtain ⟨c12, h⟩ := h
  refine V_iast hM.c z11 c12 hM.a dX11_pilesTable_24 ?_
  refine V_iconst (v := 0) hM.c dX11_pilesTable_25 (by decide) ?_
  refine V_istore_n (i := 2) (L' := [(2, .int (0 : Int32)), (0, va_rf (some a)), (1, .int x1)]) hM.c dX11_pilesTable_26 rfl (by decide) rfl ?_
  refine V_sub [1, 2, 0] rfl ?_
  exact vl_X11_pilesTable_l27 hM hz0  _ _ _ _ h
def f_X11_replaces_l39 (n : Nat) (Z : Zt) (a : Nat) : Nat → Int32 → Int32 → Mem → Option (Unit × Mem)
  | 0, _, _, _ => none
  | fu + 1, x2, x3, g => drf (zf Z a 19) (fun b17 => grd (zk Z b17 = 12) (grd (inr (gI g a 24) (zl Z b17)) (if (gI g b17 (gI g a 24).toNatClampNeg) ≤ x3 then (some ((), (sI g a 24 (x2 + (1 : Int32))))) else (bnd (f_X11_copiesRow n Z a (gI g a 24) x3 x2 x3 g) (fun r22 g23 => f_X11_replaces_l39 n Z a fu x2 (x3 + 1) g23)))))
set_option maxHeartbeats 4000000 in
set_option maxRecDepth 100000 in
theorem vl_X11_replaces_l39 {x : Cq} {n : Nat} {Z : Zt} {a : Nat} {rr : Unit} {gg : Mem} (hM : Cm x cX11_replaces RX11 4 none 1 Z none gg) (hz0 : zk Z a = 10) : ∀ (fu : Nat) (x2 : Int32) (x3 : Int32) (g : Mem), f_X11_replaces_l39 n Z a fu x2 x3 g = some (rr, gg) → V x Z 0 0 39 [(0, va_rf (some a)), (2, .int x2), (3, .int x3)] [] g := by
  intro fu
  induction fu with
  | zero => intro x2 x3 g h; cases h
  | succ fu ih =>
    intro x2 x3 g h
    unfold f_X11_replaces_l39 at h
    refine V_iload_n hM.c 2 dX11_replaces_39 rfl rfl ?_
    refine V_aload_n hM.c 0 dX11_replaces_40 rfl rfl ?_
    replace h := drf_some h
    obtain ⟨b17, e18, h⟩ := h
    refine G9_19 hM.c tw_126 hz0 e18 dX11_replaces_41 ?_
    refine V_aload_n hM.c 0 dX11_replaces_44 rfl rfl ?_
    refine G9_24 hM.c tw_471 hz0 dX11_replaces_45 ?_
    replace h := grd_some h
    obtain ⟨z19, h⟩ := h
    replace h := grd_some h
    obtain ⟨c20, h⟩ := h
    refine V_iald hM.c z19 c20 dX11_replaces_48 ?_
    refine V_icmp_ge hM.c 69 dX11_replaces_49 (by decide) (fun c21 => ?_) (fun c21 => ?_)
    · replace h := ite_p h c21
      refine V_aload_n hM.c 0 dX11_replaces_69 rfl rfl ?_
      refine V_iload_n hM.c 1 dX11_replaces_70 rfl rfl ?_
      refine V_iconst (v := 1) hM.c dX11_replaces_71 (by decide) ?_
      refine V_iadd hM.c dX11_replaces_72 ?_
      refine P9_24 hM.c tw_471 hz0 hM.a dX11_replaces_73 ?_
      exact V_vretE hM h dX11_replaces_76
    · replace h := ite_n h c21
      refine V_aload_n hM.c 0 dX11_replaces_52 rfl rfl ?_
      refine V_aload_n hM.c 0 dX11_replaces_53 rfl rfl ?_
      refine G9_24 hM.c tw_471 hz0 dX11_replaces_54 ?_
      refine V_iload_n hM.c 2 dX11_replaces_57 rfl rfl ?_
      refine V_iload_n hM.c 1 dX11_replaces_58 rfl rfl ?_
      refine V_iload_n hM.c 2 dX11_replaces_59 rfl rfl ?_
      replace h := bnd_some h
      obtain ⟨r22, g23, e24, h⟩ := h
      refine V_callV (As := [.int (gI g a 24), .int x3, .int x2, .int x3]) (c := 9) (T := TX11) (N := 32) hM.c hM.a mq_X11_copiesRow mi_X11_copiesRow tw_481 (hM.d (by decide)) hM.z rfl (by omega) (zc_X11_copiesRow e24) (vm_X11_copiesRow e24) rfl (Nat.le_of_ble_eq_true rfl) dX11_replaces_60 ?_
      refine V_iinc (v := (x3 + 1)) (L' := [(3, .int (x3 + 1)), (0, va_rf (some a)), (2, .int x2)]) hM.c 2 dX11_replaces_63 rfl rfl (by decide) rfl ?_
      refine V_goto hM.c 39 dX11_replaces_66 (by decide) ?_
      refine V_sub [1, 2, 0] rfl ?_
      exact ih _ _ _ h
def f_X11_replaces (n : Nat) (Z : Zt) (a : Nat) (x1 : Int32) (g : Mem) : Option (Unit × Mem) := grd (zk Z a = 10) (drf (zf Z a 18) (fun b1 => drf (zf Z a 18) (fun b3 => grd (zk Z b3 = 12) (grd (inr (gI g a 24) (zl Z b3)) (grd (zk Z b1 = 12) (grd (inr ((gI g a 24) - x1) (zl Z b1)) (drf (zf Z a 19) (fun b9 => drf (zf Z a 19) (fun b11 => grd (zk Z b11 = 12) (grd (inr (gI (sI g b1 ((gI g a 24) - x1).toNatClampNeg (gI g b3 (gI g a 24).toNatClampNeg)) a 24) (zl Z b11)) (grd (zk Z b9 = 12) (grd (inr ((gI g a 24) - x1) (zl Z b9)) (f_X11_replaces_l39 n Z a n ((gI g a 24) - x1) (0 : Int32) (sI (sI g b1 ((gI g a 24) - x1).toNatClampNeg (gI g b3 (gI g a 24).toNatClampNeg)) b9 ((gI g a 24) - x1).toNatClampNeg (gI (sI g b1 ((gI g a 24) - x1).toNatClampNeg (gI g b3 (gI g a 24).toNatClampNeg)) b11 (gI (sI g b1 ((gI g a 24) - x1).toNatClampNeg (gI g b3 (gI g a 24).toNatClampNeg)) a 24).toNatClampNeg)))))))))))))))
theorem mq_X11_replaces : Mq yX11_replaces cX11_replaces 4 none 1 := ⟨tw_507, tw_5, ⟨by decide +kernel, by decide +kernel, by decide +kernel⟩, by decide⟩
theorem mi_X11_replaces : Cond.instanceMethod yX11_replaces ∈ TB ∧ Cond.selects yX11_replaces.cls yX11_replaces yX11_replaces ∈ TB := ⟨tw_505, tw_506⟩
theorem zc_X11_replaces {n : Nat} {Z : Zt} {a : Nat} {x1 : Int32} {g : Mem} {q : Unit × Mem} (h : f_X11_replaces n Z a x1 g = some q) : zk Z a = 10 := (grd_some h).1
set_option maxHeartbeats 4000000 in
set_option maxRecDepth 100000 in
theorem vm_X11_replaces {n : Nat} {Z : Zt} {a : Nat} {x1 : Int32} {g : Mem} {rr : Unit} {gg : Mem} (h : f_X11_replaces n Z a x1 g = some (rr, gg)) : VM yX11_replaces cX11_replaces 4 none 1 [.ref a, .int x1] Z g none gg := by
  unfold f_X11_replaces at h
  replace h := grd_some h
  obtain ⟨hz0, h⟩ := h
  refine VM.of (by decide +kernel) (Nat.le_of_ble_eq_true rfl) (fun x hM => ?_)
  have hM : Cm x cX11_replaces RX11 4 none 1 Z none gg := hM
  show V x Z 0 0 0 [(0, va_rf (some a)), (1, .int x1)] [] g
  refine V_aload_n hM.c 0 dX11_replaces_0 rfl rfl ?_
  refine G9_24 hM.c tw_471 hz0 dX11_replaces_1 ?_
  refine V_iload_n hM.c 1 dX11_replaces_4 rfl rfl ?_
  refine V_isub hM.c dX11_replaces_5 ?_
  refine V_istore_n (i := 2) (L' := [(2, .int ((gI g a 24) - x1)), (0, va_rf (some a)), (1, .int x1)]) hM.c dX11_replaces_6 rfl (by decide) rfl ?_
  refine V_aload_n hM.c 1 dX11_replaces_7 rfl rfl ?_
  replace h := drf_some h
  obtain ⟨b1, e2, h⟩ := h
  refine G9_18 hM.c tw_125 hz0 e2 dX11_replaces_8 ?_
  refine V_iload_n hM.c 0 dX11_replaces_11 rfl rfl ?_
  refine V_aload_n hM.c 1 dX11_replaces_12 rfl rfl ?_
  replace h := drf_some h
  obtain ⟨b3, e4, h⟩ := h
  refine G9_18 hM.c tw_125 hz0 e4 dX11_replaces_13 ?_
  refine V_aload_n hM.c 1 dX11_replaces_16 rfl rfl ?_
  refine G9_24 hM.c tw_471 hz0 dX11_replaces_17 ?_
  replace h := grd_some h
  obtain ⟨z5, h⟩ := h
  replace h := grd_some h
  obtain ⟨c6, h⟩ := h
  refine V_iald hM.c z5 c6 dX11_replaces_20 ?_
  replace h := grd_some h
  obtain ⟨z7, h⟩ := h
  replace h := grd_some h
  obtain ⟨c8, h⟩ := h
  refine V_iast hM.c z7 c8 hM.a dX11_replaces_21 ?_
  refine V_aload_n hM.c 1 dX11_replaces_22 rfl rfl ?_
  replace h := drf_some h
  obtain ⟨b9, e10, h⟩ := h
  refine G9_19 hM.c tw_126 hz0 e10 dX11_replaces_23 ?_
  refine V_iload_n hM.c 0 dX11_replaces_26 rfl rfl ?_
  refine V_aload_n hM.c 1 dX11_replaces_27 rfl rfl ?_
  replace h := drf_some h
  obtain ⟨b11, e12, h⟩ := h
  refine G9_19 hM.c tw_126 hz0 e12 dX11_replaces_28 ?_
  refine V_aload_n hM.c 1 dX11_replaces_31 rfl rfl ?_
  refine G9_24 hM.c tw_471 hz0 dX11_replaces_32 ?_
  replace h := grd_some h
  obtain ⟨z13, h⟩ := h
  replace h := grd_some h
  obtain ⟨c14, h⟩ := h
  refine V_iald hM.c z13 c14 dX11_replaces_35 ?_
  replace h := grd_some h
  obtain ⟨z15, h⟩ := h
  replace h := grd_some h
  obtain ⟨c16, h⟩ := h
  refine V_iast hM.c z15 c16 hM.a dX11_replaces_36 ?_
  refine V_iconst (v := 0) hM.c dX11_replaces_37 (by decide) ?_
  refine V_istore_n (i := 3) (L' := [(3, .int (0 : Int32)), (2, .int ((gI g a 24) - x1)), (0, va_rf (some a)), (1, .int x1)]) hM.c dX11_replaces_38 rfl (by decide) rfl ?_
  refine V_sub [2, 1, 0] rfl ?_
  exact vl_X11_replaces_l39 hM hz0  _ _ _ _ h
def f_X11_selects_l94 (n : Nat) (Z : Zt) (κ37 : Int32 → Int32 → Int32 → Int32 → Mem → Option (Unit × Mem)) (a : Nat) (x1 : Int32) (x2 : Int32) (x3 : Int32) (x4 : Int32) (x5 : Int32) (s0 : Int32) (g : Mem) : Option (Unit × Mem) := drf (zf Z a 10) (fun b41 => grd (zk Z b41 = 12) (grd (inr x1 (zl Z b41)) (bnd (f_X11_digit n Z x5 x3 (gI g b41 x1.toNatClampNeg) g) (fun r45 g46 => if r45 = s0 then (bnd (f_X11_addsRow n Z a x2 x4 (gI g46 a 24) x5 g46) (fun r49 g50 => κ37 x1 x2 x3 (x4 + 1) g50)) else (κ37 x1 x2 x3 (x4 + 1) g46)))))
set_option maxHeartbeats 4000000 in
set_option maxRecDepth 100000 in
theorem vl_X11_selects_l94 {x : Cq} {n : Nat} {Z : Zt} {κ37 : Int32 → Int32 → Int32 → Int32 → Mem → Option (Unit × Mem)} {a : Nat} {x1 : Int32} {x2 : Int32} {x3 : Int32} {x4 : Int32} {x5 : Int32} {s0 : Int32} {g : Mem} {rr : Unit} {gg : Mem} (hM : Cm x cX11_selects RX11 7 none 3 Z none gg) (hz0 : zk Z a = 10) (hκ37 : ∀ (y1 : Int32) (y2 : Int32) (y3 : Int32) (y4 : Int32) (y : Mem), κ37 y1 y2 y3 y4 y = some (rr, gg) → V x Z 0 0 37 [(0, va_rf (some a)), (1, .int y1), (2, .int y2), (3, .int y3), (4, .int y4)] [] y) (h : f_X11_selects_l94 n Z κ37 a x1 x2 x3 x4 x5 s0 g = some (rr, gg)) : V x Z 0 0 94 [(0, va_rf (some a)), (1, .int x1), (2, .int x2), (3, .int x3), (4, .int x4), (5, .int x5)] [.int s0] g := by
  unfold f_X11_selects_l94 at h
  refine V_istore (L' := [(6, .int s0), (0, va_rf (some a)), (1, .int x1), (2, .int x2), (3, .int x3), (4, .int x4), (5, .int x5)]) hM.c dX11_selects_94 (by decide) rfl ?_
  refine V_iload hM.c 6 dX11_selects_96 rfl ?_
  refine V_iload_n hM.c 4 dX11_selects_98 rfl rfl ?_
  refine V_aload_n hM.c 1 dX11_selects_99 rfl rfl ?_
  replace h := drf_some h
  obtain ⟨b41, e42, h⟩ := h
  refine G9_10 hM.c tw_119 hz0 e42 dX11_selects_100 ?_
  refine V_iload_n hM.c 2 dX11_selects_103 rfl rfl ?_
  replace h := grd_some h
  obtain ⟨z43, h⟩ := h
  replace h := grd_some h
  obtain ⟨c44, h⟩ := h
  refine V_iald hM.c z43 c44 dX11_selects_104 ?_
  replace h := bnd_some h
  obtain ⟨r45, g46, e47, h⟩ := h
  refine V_callS (As := [.int x5, .int x3, .int (gI g b41 x1.toNatClampNeg)]) hM.c hM.a mq_X11_digit mi_X11_digit tw_497 (hM.d (by decide)) hM.z (vm_X11_digit e47) rfl (Nat.le_of_ble_eq_true rfl) dX11_selects_105 ?_
  refine V_iload hM.c 0 dX11_selects_108 rfl ?_
  refine V_icmp_ne hM.c 126 dX11_selects_110 (by decide) (fun c48 => ?_) (fun c48 => ?_)
  · replace h := ite_n h c48
    refine V_iinc (v := (x4 + 1)) (L' := [(4, .int (x4 + 1)), (6, .int s0), (0, va_rf (some a)), (1, .int x1), (2, .int x2), (3, .int x3), (5, .int x5)]) hM.c 5 dX11_selects_126 rfl rfl (by decide) rfl ?_
    refine V_goto hM.c 37 dX11_selects_129 (by decide) ?_
    refine V_sub [2, 3, 4, 5, 0] rfl ?_
    exact hκ37 _ _ _ _ _ h
  · replace h := ite_p h c48
    refine V_aload_n hM.c 1 dX11_selects_113 rfl rfl ?_
    refine V_iload_n hM.c 3 dX11_selects_114 rfl rfl ?_
    refine V_iload hM.c 5 dX11_selects_115 rfl ?_
    refine V_aload_n hM.c 1 dX11_selects_117 rfl rfl ?_
    refine G9_24 hM.c tw_471 hz0 dX11_selects_118 ?_
    refine V_iload hM.c 6 dX11_selects_121 rfl ?_
    replace h := bnd_some h
    obtain ⟨r49, g50, e51, h⟩ := h
    refine V_callV (As := [.int x2, .int x4, .int (gI g46 a 24), .int x5]) (c := 9) (T := TX11) (N := 32) hM.c hM.a mq_X11_addsRow mi_X11_addsRow tw_500 (hM.d (by decide)) hM.z rfl (by omega) (zc_X11_addsRow e51) (vm_X11_addsRow e51) rfl (Nat.le_of_ble_eq_true rfl) dX11_selects_123 ?_
    refine V_iinc (v := (x4 + 1)) (L' := [(4, .int (x4 + 1)), (6, .int s0), (0, va_rf (some a)), (1, .int x1), (2, .int x2), (3, .int x3), (5, .int x5)]) hM.c 5 dX11_selects_126 rfl rfl (by decide) rfl ?_
    refine V_goto hM.c 37 dX11_selects_129 (by decide) ?_
    refine V_sub [2, 3, 4, 5, 0] rfl ?_
    exact hκ37 _ _ _ _ _ h
def f_X11_selects_l37 (n : Nat) (Z : Zt) (a : Nat) : Nat → Int32 → Int32 → Int32 → Int32 → Mem → Option (Unit × Mem)
  | 0, _, _, _, _, _ => none
  | fu + 1, x1, x2, x3, x4, g => drf (zf Z a 19) (fun b13 => grd (zk Z b13 = 12) (grd (inr x2 (zl Z b13)) (if (gI g b13 x2.toNatClampNeg) ≤ x4 then (bnd (f_X11_replaces n Z a (1 : Int32) g) (fun r18 g19 => some ((), g19))) else (drf (zf Z a 20) (fun b21 => grd (zk Z b21 = 12) (grd (inr (((32 : Int32) * x2) + x4) (zl Z b21)) (drf (zf Z a 9) (fun b25 => grd (zk Z b25 = 12) (grd (inr x1 (zl Z b25)) (if (gI g b25 x1.toNatClampNeg) = (61 : Int32) then (drf (zf Z a 11) (fun b37 => grd (zk Z b37 = 12) (grd (inr x1 (zl Z b37)) (f_X11_selects_l94 n Z (fun y0 y1 y2 y3 y => f_X11_selects_l37 n Z a fu y0 y1 y2 y3 y) a x1 x2 x3 x4 (gI g b21 (((32 : Int32) * x2) + x4).toNatClampNeg) (gI g b37 x1.toNatClampNeg) g)))) else (drf (zf Z a 11) (fun b30 => grd (zk Z b30 = 12) (grd (inr x1 (zl Z b30)) (bnd (f_X11_digit n Z (gI g b21 (((32 : Int32) * x2) + x4).toNatClampNeg) x3 (gI g b30 x1.toNatClampNeg) g) (fun r34 g35 => f_X11_selects_l94 n Z (fun y0 y1 y2 y3 y => f_X11_selects_l37 n Z a fu y0 y1 y2 y3 y) a x1 x2 x3 x4 (gI g b21 (((32 : Int32) * x2) + x4).toNatClampNeg) r34 g35)))))))))))))))
set_option maxHeartbeats 4000000 in
set_option maxRecDepth 100000 in
theorem vl_X11_selects_l37 {x : Cq} {n : Nat} {Z : Zt} {a : Nat} {rr : Unit} {gg : Mem} (hM : Cm x cX11_selects RX11 7 none 3 Z none gg) (hz0 : zk Z a = 10) : ∀ (fu : Nat) (x1 : Int32) (x2 : Int32) (x3 : Int32) (x4 : Int32) (g : Mem), f_X11_selects_l37 n Z a fu x1 x2 x3 x4 g = some (rr, gg) → V x Z 0 0 37 [(0, va_rf (some a)), (1, .int x1), (2, .int x2), (3, .int x3), (4, .int x4)] [] g := by
  intro fu
  induction fu with
  | zero => intro x1 x2 x3 x4 g h; cases h
  | succ fu ih =>
    intro x1 x2 x3 x4 g h
    unfold f_X11_selects_l37 at h
    refine V_iload hM.c 4 dX11_selects_37 rfl ?_
    refine V_aload_n hM.c 0 dX11_selects_39 rfl rfl ?_
    replace h := drf_some h
    obtain ⟨b13, e14, h⟩ := h
    refine G9_19 hM.c tw_126 hz0 e14 dX11_selects_40 ?_
    refine V_iload_n hM.c 2 dX11_selects_43 rfl rfl ?_
    replace h := grd_some h
    obtain ⟨z15, h⟩ := h
    replace h := grd_some h
    obtain ⟨c16, h⟩ := h
    refine V_iald hM.c z15 c16 dX11_selects_44 ?_
    refine V_icmp_ge hM.c 132 dX11_selects_45 (by decide) (fun c17 => ?_) (fun c17 => ?_)
    · replace h := ite_p h c17
      refine V_aload_n hM.c 0 dX11_selects_132 rfl rfl ?_
      refine V_iconst (v := 1) hM.c dX11_selects_133 (by decide) ?_
      replace h := bnd_some h
      obtain ⟨r18, g19, e20, h⟩ := h
      refine V_callV (As := [.int (1 : Int32)]) (c := 9) (T := TX11) (N := 32) hM.c hM.a mq_X11_replaces mi_X11_replaces tw_504 (hM.d (by decide)) hM.z rfl (by omega) (zc_X11_replaces e20) (vm_X11_replaces e20) rfl (Nat.le_of_ble_eq_true rfl) dX11_selects_134 ?_
      exact V_vretE hM h dX11_selects_137
    · replace h := ite_n h c17
      refine V_aload_n hM.c 0 dX11_selects_48 rfl rfl ?_
      replace h := drf_some h
      obtain ⟨b21, e22, h⟩ := h
      refine G9_20 hM.c tw_127 hz0 e22 dX11_selects_49 ?_
      refine V_bipush (v := 32) hM.c dX11_selects_52 (by decide) ?_
      refine V_iload_n hM.c 2 dX11_selects_54 rfl rfl ?_
      refine V_imul hM.c dX11_selects_55 ?_
      refine V_iload hM.c 4 dX11_selects_56 rfl ?_
      refine V_iadd hM.c dX11_selects_58 ?_
      replace h := grd_some h
      obtain ⟨z23, h⟩ := h
      replace h := grd_some h
      obtain ⟨c24, h⟩ := h
      refine V_iald hM.c z23 c24 dX11_selects_59 ?_
      refine V_istore (L' := [(5, .int (gI g b21 (((32 : Int32) * x2) + x4).toNatClampNeg)), (0, va_rf (some a)), (1, .int x1), (2, .int x2), (3, .int x3), (4, .int x4)]) hM.c dX11_selects_60 (by decide) rfl ?_
      refine V_aload_n hM.c 1 dX11_selects_62 rfl rfl ?_
      replace h := drf_some h
      obtain ⟨b25, e26, h⟩ := h
      refine G9_9 hM.c tw_118 hz0 e26 dX11_selects_63 ?_
      refine V_iload_n hM.c 2 dX11_selects_66 rfl rfl ?_
      replace h := grd_some h
      obtain ⟨z27, h⟩ := h
      replace h := grd_some h
      obtain ⟨c28, h⟩ := h
      refine V_iald hM.c z27 c28 dX11_selects_67 ?_
      refine V_bipush (v := 61) hM.c dX11_selects_68 (by decide) ?_
      refine V_icmp_ne hM.c 82 dX11_selects_70 (by decide) (fun c29 => ?_) (fun c29 => ?_)
      · replace h := ite_n h c29
        refine V_iload hM.c 0 dX11_selects_82 rfl ?_
        refine V_iload_n hM.c 4 dX11_selects_84 rfl rfl ?_
        refine V_aload_n hM.c 1 dX11_selects_85 rfl rfl ?_
        replace h := drf_some h
        obtain ⟨b30, e31, h⟩ := h
        refine G9_11 hM.c tw_120 hz0 e31 dX11_selects_86 ?_
        refine V_iload_n hM.c 2 dX11_selects_89 rfl rfl ?_
        replace h := grd_some h
        obtain ⟨z32, h⟩ := h
        replace h := grd_some h
        obtain ⟨c33, h⟩ := h
        refine V_iald hM.c z32 c33 dX11_selects_90 ?_
        replace h := bnd_some h
        obtain ⟨r34, g35, e36, h⟩ := h
        refine V_callS (As := [.int (gI g b21 (((32 : Int32) * x2) + x4).toNatClampNeg), .int x3, .int (gI g b30 x1.toNatClampNeg)]) hM.c hM.a mq_X11_digit mi_X11_digit tw_497 (hM.d (by decide)) hM.z (vm_X11_digit e36) rfl (Nat.le_of_ble_eq_true rfl) dX11_selects_91 ?_
        refine V_sub [1, 2, 3, 4, 5, 0] rfl ?_
        exact vl_X11_selects_l94 hM hz0 ih h
      · replace h := ite_p h c29
        refine V_aload_n hM.c 1 dX11_selects_73 rfl rfl ?_
        replace h := drf_some h
        obtain ⟨b37, e38, h⟩ := h
        refine G9_11 hM.c tw_120 hz0 e38 dX11_selects_74 ?_
        refine V_iload_n hM.c 2 dX11_selects_77 rfl rfl ?_
        replace h := grd_some h
        obtain ⟨z39, h⟩ := h
        replace h := grd_some h
        obtain ⟨c40, h⟩ := h
        refine V_iald hM.c z39 c40 dX11_selects_78 ?_
        refine V_goto hM.c 94 dX11_selects_79 (by decide) ?_
        refine V_sub [1, 2, 3, 4, 5, 0] rfl ?_
        exact vl_X11_selects_l94 hM hz0 ih h
def f_X11_selects (n : Nat) (Z : Zt) (a : Nat) (x1 : Int32) (g : Mem) : Option (Unit × Mem) := grd (zk Z a = 10) (drf (zf Z a 18) (fun b1 => grd (zk Z b1 = 12) (grd (inr ((gI g a 24) - (1 : Int32)) (zl Z b1)) (drf (zf Z a 18) (fun b5 => grd (zk Z b5 = 12) (grd (inr (gI g a 24) (zl Z b5)) (drf (zf Z a 19) (fun b9 => grd (zk Z b9 = 12) (grd (inr (gI (sI g b5 (gI g a 24).toNatClampNeg (gI g b1 ((gI g a 24) - (1 : Int32)).toNatClampNeg)) a 24) (zl Z b9)) (f_X11_selects_l37 n Z a n x1 ((gI g a 24) - (1 : Int32)) (gI g b1 ((gI g a 24) - (1 : Int32)).toNatClampNeg) (0 : Int32) (sI (sI g b5 (gI g a 24).toNatClampNeg (gI g b1 ((gI g a 24) - (1 : Int32)).toNatClampNeg)) b9 (gI (sI g b5 (gI g a 24).toNatClampNeg (gI g b1 ((gI g a 24) - (1 : Int32)).toNatClampNeg)) a 24).toNatClampNeg (0 : Int32))))))))))))
theorem mq_X11_selects : Mq yX11_selects cX11_selects 7 none 1 := ⟨tw_496, tw_5, ⟨by decide +kernel, by decide +kernel, by decide +kernel⟩, by decide⟩
theorem mi_X11_selects : Cond.instanceMethod yX11_selects ∈ TB ∧ Cond.selects yX11_selects.cls yX11_selects yX11_selects ∈ TB := ⟨tw_494, tw_495⟩
theorem zc_X11_selects {n : Nat} {Z : Zt} {a : Nat} {x1 : Int32} {g : Mem} {q : Unit × Mem} (h : f_X11_selects n Z a x1 g = some q) : zk Z a = 10 := (grd_some h).1
set_option maxHeartbeats 4000000 in
set_option maxRecDepth 100000 in
theorem vm_X11_selects {n : Nat} {Z : Zt} {a : Nat} {x1 : Int32} {g : Mem} {rr : Unit} {gg : Mem} (h : f_X11_selects n Z a x1 g = some (rr, gg)) : VM yX11_selects cX11_selects 7 none 3 [.ref a, .int x1] Z g none gg := by
  unfold f_X11_selects at h
  replace h := grd_some h
  obtain ⟨hz0, h⟩ := h
  refine VM.of (by decide +kernel) (Nat.le_of_ble_eq_true rfl) (fun x hM => ?_)
  have hM : Cm x cX11_selects RX11 7 none 3 Z none gg := hM
  show V x Z 0 0 0 [(0, va_rf (some a)), (1, .int x1)] [] g
  refine V_aload_n hM.c 0 dX11_selects_0 rfl rfl ?_
  refine G9_24 hM.c tw_471 hz0 dX11_selects_1 ?_
  refine V_iconst (v := 1) hM.c dX11_selects_4 (by decide) ?_
  refine V_isub hM.c dX11_selects_5 ?_
  refine V_istore_n (i := 2) (L' := [(2, .int ((gI g a 24) - (1 : Int32))), (0, va_rf (some a)), (1, .int x1)]) hM.c dX11_selects_6 rfl (by decide) rfl ?_
  refine V_aload_n hM.c 1 dX11_selects_7 rfl rfl ?_
  replace h := drf_some h
  obtain ⟨b1, e2, h⟩ := h
  refine G9_18 hM.c tw_125 hz0 e2 dX11_selects_8 ?_
  refine V_iload_n hM.c 0 dX11_selects_11 rfl rfl ?_
  replace h := grd_some h
  obtain ⟨z3, h⟩ := h
  replace h := grd_some h
  obtain ⟨c4, h⟩ := h
  refine V_iald hM.c z3 c4 dX11_selects_12 ?_
  refine V_istore_n (i := 3) (L' := [(3, .int (gI g b1 ((gI g a 24) - (1 : Int32)).toNatClampNeg)), (2, .int ((gI g a 24) - (1 : Int32))), (0, va_rf (some a)), (1, .int x1)]) hM.c dX11_selects_13 rfl (by decide) rfl ?_
  refine V_aload_n hM.c 2 dX11_selects_14 rfl rfl ?_
  replace h := drf_some h
  obtain ⟨b5, e6, h⟩ := h
  refine G9_18 hM.c tw_125 hz0 e6 dX11_selects_15 ?_
  refine V_aload_n hM.c 2 dX11_selects_18 rfl rfl ?_
  refine G9_24 hM.c tw_471 hz0 dX11_selects_19 ?_
  refine V_iload_n hM.c 0 dX11_selects_22 rfl rfl ?_
  replace h := grd_some h
  obtain ⟨z7, h⟩ := h
  replace h := grd_some h
  obtain ⟨c8, h⟩ := h
  refine V_iast hM.c z7 c8 hM.a dX11_selects_23 ?_
  refine V_aload_n hM.c 2 dX11_selects_24 rfl rfl ?_
  replace h := drf_some h
  obtain ⟨b9, e10, h⟩ := h
  refine G9_19 hM.c tw_126 hz0 e10 dX11_selects_25 ?_
  refine V_aload_n hM.c 2 dX11_selects_28 rfl rfl ?_
  refine G9_24 hM.c tw_471 hz0 dX11_selects_29 ?_
  refine V_iconst (v := 0) hM.c dX11_selects_32 (by decide) ?_
  replace h := grd_some h
  obtain ⟨z11, h⟩ := h
  replace h := grd_some h
  obtain ⟨c12, h⟩ := h
  refine V_iast hM.c z11 c12 hM.a dX11_selects_33 ?_
  refine V_iconst (v := 0) hM.c dX11_selects_34 (by decide) ?_
  refine V_istore (L' := [(4, .int (0 : Int32)), (3, .int (gI g b1 ((gI g a 24) - (1 : Int32)).toNatClampNeg)), (2, .int ((gI g a 24) - (1 : Int32))), (0, va_rf (some a)), (1, .int x1)]) hM.c dX11_selects_35 (by decide) rfl ?_
  refine V_sub [3, 4, 2, 1, 0] rfl ?_
  exact vl_X11_selects_l37 hM hz0  _ _ _ _ _ _ h
def f_X11_projected_l8 (n : Nat) (Z : Zt) : Nat → Int32 → Int32 → Int32 → Int32 → Int32 → Mem → Option (Int32 × Mem)
  | 0, _, _, _, _, _, _ => none
  | fu + 1, x0, x1, x3, x4, x5, g => if x5 < 0 then (some (x4, g)) else (bnd (f_X11_digit n Z x0 x1 ((x3 >>> (((2 : Int32) * x5) &&& 31)) &&& (3 : Int32)) g) (fun r2 g3 => f_X11_projected_l8 n Z fu x0 x1 x3 (((10 : Int32) * x4) + r2) (x5 + (-1 : Int32)) g3))
set_option maxHeartbeats 4000000 in
set_option maxRecDepth 100000 in
theorem vl_X11_projected_l8 {x : Cq} {n : Nat} {Z : Zt} {rr : Int32} {gg : Mem} (hM : Cm x cX11_projected RX11 6 (some .int) 2 Z (some (.int rr)) gg) : ∀ (fu : Nat) (x0 : Int32) (x1 : Int32) (x3 : Int32) (x4 : Int32) (x5 : Int32) (g : Mem), f_X11_projected_l8 n Z fu x0 x1 x3 x4 x5 g = some (rr, gg) → V x Z 0 0 8 [(0, .int x0), (1, .int x1), (3, .int x3), (4, .int x4), (5, .int x5)] [] g := by
  intro fu
  induction fu with
  | zero => intro x0 x1 x3 x4 x5 g h; cases h
  | succ fu ih =>
    intro x0 x1 x3 x4 x5 g h
    unfold f_X11_projected_l8 at h
    refine V_iload hM.c 4 dX11_projected_8 rfl ?_
    refine V_if_lt hM.c 40 dX11_projected_10 (by decide) (fun c1 => ?_) (fun c1 => ?_)
    · replace h := ite_p h c1
      refine V_iload hM.c 3 dX11_projected_40 rfl ?_
      exact V_iretE hM h dX11_projected_42
    · replace h := ite_n h c1
      refine V_bipush (v := 10) hM.c dX11_projected_13 (by decide) ?_
      refine V_iload hM.c 3 dX11_projected_15 rfl ?_
      refine V_imul hM.c dX11_projected_17 ?_
      refine V_iload_n hM.c 0 dX11_projected_18 rfl rfl ?_
      refine V_iload_n hM.c 1 dX11_projected_19 rfl rfl ?_
      refine V_iload_n hM.c 2 dX11_projected_20 rfl rfl ?_
      refine V_iconst (v := 2) hM.c dX11_projected_21 (by decide) ?_
      refine V_iload hM.c 4 dX11_projected_22 rfl ?_
      refine V_imul hM.c dX11_projected_24 ?_
      refine V_ishr hM.c dX11_projected_25 ?_
      refine V_iconst (v := 3) hM.c dX11_projected_26 (by decide) ?_
      refine V_iand hM.c dX11_projected_27 ?_
      replace h := bnd_some h
      obtain ⟨r2, g3, e4, h⟩ := h
      refine V_callS (As := [.int x0, .int x1, .int ((x3 >>> (((2 : Int32) * x5) &&& 31)) &&& (3 : Int32))]) hM.c hM.a mq_X11_digit mi_X11_digit tw_497 (hM.d (by decide)) hM.z (vm_X11_digit e4) rfl (Nat.le_of_ble_eq_true rfl) dX11_projected_28 ?_
      refine V_iadd hM.c dX11_projected_31 ?_
      refine V_istore (L' := [(4, .int (((10 : Int32) * x4) + r2)), (0, .int x0), (1, .int x1), (3, .int x3), (5, .int x5)]) hM.c dX11_projected_32 (by decide) rfl ?_
      refine V_iinc (v := (x5 + (-1 : Int32))) (L' := [(5, .int (x5 + (-1 : Int32))), (4, .int (((10 : Int32) * x4) + r2)), (0, .int x0), (1, .int x1), (3, .int x3)]) hM.c 4 dX11_projected_34 rfl rfl (by decide) rfl ?_
      refine V_goto hM.c 8 dX11_projected_37 (by decide) ?_
      refine V_sub [2, 3, 4, 1, 0] rfl ?_
      exact ih _ _ _ _ _ _ h
def f_X11_projected (n : Nat) (Z : Zt) (x0 : Int32) (x1 : Int32) (x2 : Int32) (x3 : Int32) (g : Mem) : Option (Int32 × Mem) := f_X11_projected_l8 n Z n x0 x1 x3 (0 : Int32) (x2 - (1 : Int32)) g
theorem mq_X11_projected : Mq yX11_projected cX11_projected 6 (some .int) 4 := ⟨tw_514, tw_5, ⟨by decide +kernel, by decide +kernel, by decide +kernel⟩, by decide⟩
theorem mi_X11_projected : Cond.static yX11_projected ∈ TB := tw_513
set_option maxHeartbeats 4000000 in
set_option maxRecDepth 100000 in
theorem vm_X11_projected {n : Nat} {Z : Zt} {x0 : Int32} {x1 : Int32} {x2 : Int32} {x3 : Int32} {g : Mem} {rr : Int32} {gg : Mem} (h : f_X11_projected n Z x0 x1 x2 x3 g = some (rr, gg)) : VM yX11_projected cX11_projected 6 (some .int) 2 [.int x0, .int x1, .int x2, .int x3] Z g (some (.int rr)) gg := by
  unfold f_X11_projected at h
  refine VM.of (by decide +kernel) (Nat.le_of_ble_eq_true rfl) (fun x hM => ?_)
  have hM : Cm x cX11_projected RX11 6 (some .int) 2 Z (some (.int rr)) gg := hM
  show V x Z 0 0 0 [(0, .int x0), (1, .int x1), (2, .int x2), (3, .int x3)] [] g
  refine V_iconst (v := 0) hM.c dX11_projected_0 (by decide) ?_
  refine V_istore (L' := [(4, .int (0 : Int32)), (0, .int x0), (1, .int x1), (2, .int x2), (3, .int x3)]) hM.c dX11_projected_1 (by decide) rfl ?_
  refine V_iload_n hM.c 3 dX11_projected_3 rfl rfl ?_
  refine V_iconst (v := 1) hM.c dX11_projected_4 (by decide) ?_
  refine V_isub hM.c dX11_projected_5 ?_
  refine V_istore (L' := [(5, .int (x2 - (1 : Int32))), (4, .int (0 : Int32)), (0, .int x0), (1, .int x1), (2, .int x2), (3, .int x3)]) hM.c dX11_projected_6 (by decide) rfl ?_
  refine V_sub [2, 3, 5, 1, 0] rfl ?_
  exact vl_X11_projected_l8 hM  _ _ _ _ _ _ _ h
def f_X11_projects_l34 (n : Nat) (Z : Zt) (a : Nat) : Nat → Int32 → Int32 → Int32 → Mem → Option (Unit × Mem)
  | 0, _, _, _, _ => none
  | fu + 1, x1, x2, x3, g => drf (zf Z a 19) (fun b13 => grd (zk Z b13 = 12) (grd (inr x2 (zl Z b13)) (if (gI g b13 x2.toNatClampNeg) ≤ x3 then (bnd (f_X11_replaces n Z a (1 : Int32) g) (fun r18 g19 => some ((), g19))) else (if (gI g a 25) = 0 then (drf (zf Z a 20) (fun b25 => grd (zk Z b25 = 12) (grd (inr (((32 : Int32) * x2) + x3) (zl Z b25)) (drf (zf Z a 18) (fun b29 => grd (zk Z b29 = 12) (grd (inr x2 (zl Z b29)) (drf (zf Z a 10) (fun b33 => grd (zk Z b33 = 12) (grd (inr x1 (zl Z b33)) (drf (zf Z a 11) (fun b37 => grd (zk Z b37 = 12) (grd (inr x1 (zl Z b37)) (bnd (f_X11_projected n Z (gI g b25 (((32 : Int32) * x2) + x3).toNatClampNeg) (gI g b29 x2.toNatClampNeg) (gI g b33 x1.toNatClampNeg) (gI g b37 x1.toNatClampNeg) g) (fun r41 g42 => bnd (f_X11_addsRow n Z a x2 x3 (gI g a 24) r41 g42) (fun r44 g45 => f_X11_projects_l34 n Z a fu x1 x2 (x3 + 1) g45))))))))))))))) else (bnd (f_X11_replaces n Z a (1 : Int32) g) (fun r22 g23 => some ((), g23)))))))
set_option maxHeartbeats 4000000 in
set_option maxRecDepth 100000 in
theorem vl_X11_projects_l34 {x : Cq} {n : Nat} {Z : Zt} {a : Nat} {rr : Unit} {gg : Mem} (hM : Cm x cX11_projects RX11 4 none 3 Z none gg) (hz0 : zk Z a = 10) : ∀ (fu : Nat) (x1 : Int32) (x2 : Int32) (x3 : Int32) (g : Mem), f_X11_projects_l34 n Z a fu x1 x2 x3 g = some (rr, gg) → V x Z 0 0 34 [(0, va_rf (some a)), (1, .int x1), (2, .int x2), (3, .int x3)] [] g := by
  intro fu
  induction fu with
  | zero => intro x1 x2 x3 g h; cases h
  | succ fu ih =>
    intro x1 x2 x3 g h
    unfold f_X11_projects_l34 at h
    refine V_iload_n hM.c 3 dX11_projects_34 rfl rfl ?_
    refine V_aload_n hM.c 0 dX11_projects_35 rfl rfl ?_
    replace h := drf_some h
    obtain ⟨b13, e14, h⟩ := h
    refine G9_19 hM.c tw_126 hz0 e14 dX11_projects_36 ?_
    refine V_iload_n hM.c 2 dX11_projects_39 rfl rfl ?_
    replace h := grd_some h
    obtain ⟨z15, h⟩ := h
    replace h := grd_some h
    obtain ⟨c16, h⟩ := h
    refine V_iald hM.c z15 c16 dX11_projects_40 ?_
    refine V_icmp_ge hM.c 99 dX11_projects_41 (by decide) (fun c17 => ?_) (fun c17 => ?_)
    · replace h := ite_p h c17
      refine V_aload_n hM.c 0 dX11_projects_99 rfl rfl ?_
      refine V_iconst (v := 1) hM.c dX11_projects_100 (by decide) ?_
      replace h := bnd_some h
      obtain ⟨r18, g19, e20, h⟩ := h
      refine V_callV (As := [.int (1 : Int32)]) (c := 9) (T := TX11) (N := 32) hM.c hM.a mq_X11_replaces mi_X11_replaces tw_504 (hM.d (by decide)) hM.z rfl (by omega) (zc_X11_replaces e20) (vm_X11_replaces e20) rfl (Nat.le_of_ble_eq_true rfl) dX11_projects_101 ?_
      exact V_vretE hM h dX11_projects_104
    · replace h := ite_n h c17
      refine V_aload_n hM.c 0 dX11_projects_44 rfl rfl ?_
      refine G9_25 hM.c tw_472 hz0 dX11_projects_45 ?_
      refine V_if_ne hM.c 99 dX11_projects_48 (by decide) (fun c21 => ?_) (fun c21 => ?_)
      · replace h := ite_n h c21
        refine V_aload_n hM.c 0 dX11_projects_99 rfl rfl ?_
        refine V_iconst (v := 1) hM.c dX11_projects_100 (by decide) ?_
        replace h := bnd_some h
        obtain ⟨r22, g23, e24, h⟩ := h
        refine V_callV (As := [.int (1 : Int32)]) (c := 9) (T := TX11) (N := 32) hM.c hM.a mq_X11_replaces mi_X11_replaces tw_504 (hM.d (by decide)) hM.z rfl (by omega) (zc_X11_replaces e24) (vm_X11_replaces e24) rfl (Nat.le_of_ble_eq_true rfl) dX11_projects_101 ?_
        exact V_vretE hM h dX11_projects_104
      · replace h := ite_p h c21
        refine V_aload_n hM.c 0 dX11_projects_51 rfl rfl ?_
        refine V_iload_n hM.c 2 dX11_projects_52 rfl rfl ?_
        refine V_iload_n hM.c 3 dX11_projects_53 rfl rfl ?_
        refine V_aload_n hM.c 0 dX11_projects_54 rfl rfl ?_
        refine G9_24 hM.c tw_471 hz0 dX11_projects_55 ?_
        refine V_aload_n hM.c 0 dX11_projects_58 rfl rfl ?_
        replace h := drf_some h
        obtain ⟨b25, e26, h⟩ := h
        refine G9_20 hM.c tw_127 hz0 e26 dX11_projects_59 ?_
        refine V_bipush (v := 32) hM.c dX11_projects_62 (by decide) ?_
        refine V_iload_n hM.c 2 dX11_projects_64 rfl rfl ?_
        refine V_imul hM.c dX11_projects_65 ?_
        refine V_iload_n hM.c 3 dX11_projects_66 rfl rfl ?_
        refine V_iadd hM.c dX11_projects_67 ?_
        replace h := grd_some h
        obtain ⟨z27, h⟩ := h
        replace h := grd_some h
        obtain ⟨c28, h⟩ := h
        refine V_iald hM.c z27 c28 dX11_projects_68 ?_
        refine V_aload_n hM.c 0 dX11_projects_69 rfl rfl ?_
        replace h := drf_some h
        obtain ⟨b29, e30, h⟩ := h
        refine G9_18 hM.c tw_125 hz0 e30 dX11_projects_70 ?_
        refine V_iload_n hM.c 2 dX11_projects_73 rfl rfl ?_
        replace h := grd_some h
        obtain ⟨z31, h⟩ := h
        replace h := grd_some h
        obtain ⟨c32, h⟩ := h
        refine V_iald hM.c z31 c32 dX11_projects_74 ?_
        refine V_aload_n hM.c 0 dX11_projects_75 rfl rfl ?_
        replace h := drf_some h
        obtain ⟨b33, e34, h⟩ := h
        refine G9_10 hM.c tw_119 hz0 e34 dX11_projects_76 ?_
        refine V_iload_n hM.c 1 dX11_projects_79 rfl rfl ?_
        replace h := grd_some h
        obtain ⟨z35, h⟩ := h
        replace h := grd_some h
        obtain ⟨c36, h⟩ := h
        refine V_iald hM.c z35 c36 dX11_projects_80 ?_
        refine V_aload_n hM.c 0 dX11_projects_81 rfl rfl ?_
        replace h := drf_some h
        obtain ⟨b37, e38, h⟩ := h
        refine G9_11 hM.c tw_120 hz0 e38 dX11_projects_82 ?_
        refine V_iload_n hM.c 1 dX11_projects_85 rfl rfl ?_
        replace h := grd_some h
        obtain ⟨z39, h⟩ := h
        replace h := grd_some h
        obtain ⟨c40, h⟩ := h
        refine V_iald hM.c z39 c40 dX11_projects_86 ?_
        replace h := bnd_some h
        obtain ⟨r41, g42, e43, h⟩ := h
        refine V_callS (As := [.int (gI g b25 (((32 : Int32) * x2) + x3).toNatClampNeg), .int (gI g b29 x2.toNatClampNeg), .int (gI g b33 x1.toNatClampNeg), .int (gI g b37 x1.toNatClampNeg)]) hM.c hM.a mq_X11_projected mi_X11_projected tw_512 (hM.d (by decide)) hM.z (vm_X11_projected e43) rfl (Nat.le_of_ble_eq_true rfl) dX11_projects_87 ?_
        replace h := bnd_some h
        obtain ⟨r44, g45, e46, h⟩ := h
        refine V_callV (As := [.int x2, .int x3, .int (gI g a 24), .int r41]) (c := 9) (T := TX11) (N := 32) hM.c hM.a mq_X11_addsRow mi_X11_addsRow tw_500 (hM.d (by decide)) hM.z rfl (by omega) (zc_X11_addsRow e46) (vm_X11_addsRow e46) rfl (Nat.le_of_ble_eq_true rfl) dX11_projects_90 ?_
        refine V_iinc (v := (x3 + 1)) (L' := [(3, .int (x3 + 1)), (0, va_rf (some a)), (1, .int x1), (2, .int x2)]) hM.c 3 dX11_projects_93 rfl rfl (by decide) rfl ?_
        refine V_goto hM.c 34 dX11_projects_96 (by decide) ?_
        refine V_sub [1, 2, 3, 0] rfl ?_
        exact ih _ _ _ _ h
def f_X11_projects (n : Nat) (Z : Zt) (a : Nat) (x1 : Int32) (g : Mem) : Option (Unit × Mem) := grd (zk Z a = 10) (drf (zf Z a 18) (fun b1 => drf (zf Z a 10) (fun b3 => grd (zk Z b3 = 12) (grd (inr x1 (zl Z b3)) (grd (zk Z b1 = 12) (grd (inr (gI g a 24) (zl Z b1)) (drf (zf Z a 19) (fun b9 => grd (zk Z b9 = 12) (grd (inr (gI (sI g b1 (gI g a 24).toNatClampNeg (gI g b3 x1.toNatClampNeg)) a 24) (zl Z b9)) (f_X11_projects_l34 n Z a n x1 ((gI g a 24) - (1 : Int32)) (0 : Int32) (sI (sI g b1 (gI g a 24).toNatClampNeg (gI g b3 x1.toNatClampNeg)) b9 (gI (sI g b1 (gI g a 24).toNatClampNeg (gI g b3 x1.toNatClampNeg)) a 24).toNatClampNeg (0 : Int32))))))))))))
theorem mq_X11_projects : Mq yX11_projects cX11_projects 4 none 1 := ⟨tw_511, tw_5, ⟨by decide +kernel, by decide +kernel, by decide +kernel⟩, by decide⟩
theorem mi_X11_projects : Cond.instanceMethod yX11_projects ∈ TB ∧ Cond.selects yX11_projects.cls yX11_projects yX11_projects ∈ TB := ⟨tw_509, tw_510⟩
theorem zc_X11_projects {n : Nat} {Z : Zt} {a : Nat} {x1 : Int32} {g : Mem} {q : Unit × Mem} (h : f_X11_projects n Z a x1 g = some q) : zk Z a = 10 := (grd_some h).1
set_option maxHeartbeats 4000000 in
set_option maxRecDepth 100000 in
theorem vm_X11_projects {n : Nat} {Z : Zt} {a : Nat} {x1 : Int32} {g : Mem} {rr : Unit} {gg : Mem} (h : f_X11_projects n Z a x1 g = some (rr, gg)) : VM yX11_projects cX11_projects 4 none 3 [.ref a, .int x1] Z g none gg := by
  unfold f_X11_projects at h
  replace h := grd_some h
  obtain ⟨hz0, h⟩ := h
  refine VM.of (by decide +kernel) (Nat.le_of_ble_eq_true rfl) (fun x hM => ?_)
  have hM : Cm x cX11_projects RX11 4 none 3 Z none gg := hM
  show V x Z 0 0 0 [(0, va_rf (some a)), (1, .int x1)] [] g
  refine V_aload_n hM.c 0 dX11_projects_0 rfl rfl ?_
  refine G9_24 hM.c tw_471 hz0 dX11_projects_1 ?_
  refine V_iconst (v := 1) hM.c dX11_projects_4 (by decide) ?_
  refine V_isub hM.c dX11_projects_5 ?_
  refine V_istore_n (i := 2) (L' := [(2, .int ((gI g a 24) - (1 : Int32))), (0, va_rf (some a)), (1, .int x1)]) hM.c dX11_projects_6 rfl (by decide) rfl ?_
  refine V_aload_n hM.c 1 dX11_projects_7 rfl rfl ?_
  replace h := drf_some h
  obtain ⟨b1, e2, h⟩ := h
  refine G9_18 hM.c tw_125 hz0 e2 dX11_projects_8 ?_
  refine V_aload_n hM.c 1 dX11_projects_11 rfl rfl ?_
  refine G9_24 hM.c tw_471 hz0 dX11_projects_12 ?_
  refine V_aload_n hM.c 1 dX11_projects_15 rfl rfl ?_
  replace h := drf_some h
  obtain ⟨b3, e4, h⟩ := h
  refine G9_10 hM.c tw_119 hz0 e4 dX11_projects_16 ?_
  refine V_iload_n hM.c 2 dX11_projects_19 rfl rfl ?_
  replace h := grd_some h
  obtain ⟨z5, h⟩ := h
  replace h := grd_some h
  obtain ⟨c6, h⟩ := h
  refine V_iald hM.c z5 c6 dX11_projects_20 ?_
  replace h := grd_some h
  obtain ⟨z7, h⟩ := h
  replace h := grd_some h
  obtain ⟨c8, h⟩ := h
  refine V_iast hM.c z7 c8 hM.a dX11_projects_21 ?_
  refine V_aload_n hM.c 1 dX11_projects_22 rfl rfl ?_
  replace h := drf_some h
  obtain ⟨b9, e10, h⟩ := h
  refine G9_19 hM.c tw_126 hz0 e10 dX11_projects_23 ?_
  refine V_aload_n hM.c 1 dX11_projects_26 rfl rfl ?_
  refine G9_24 hM.c tw_471 hz0 dX11_projects_27 ?_
  refine V_iconst (v := 0) hM.c dX11_projects_30 (by decide) ?_
  replace h := grd_some h
  obtain ⟨z11, h⟩ := h
  replace h := grd_some h
  obtain ⟨c12, h⟩ := h
  refine V_iast hM.c z11 c12 hM.a dX11_projects_31 ?_
  refine V_iconst (v := 0) hM.c dX11_projects_32 (by decide) ?_
  refine V_istore_n (i := 3) (L' := [(3, .int (0 : Int32)), (2, .int ((gI g a 24) - (1 : Int32))), (0, va_rf (some a)), (1, .int x1)]) hM.c dX11_projects_33 rfl (by decide) rfl ?_
  refine V_sub [2, 3, 1, 0] rfl ?_
  exact vl_X11_projects_l34 hM hz0  _ _ _ _ _ h
def f_X11_multiplies_l35 (n : Nat) (Z : Zt) (κ14 : Int32 → Int32 → Int32 → Int32 → Mem → Option (Unit × Mem)) (a : Nat) : Nat → Int32 → Int32 → Int32 → Int32 → Int32 → Mem → Option (Unit × Mem)
  | 0, _, _, _, _, _, _ => none
  | fu + 1, x1, x2, x4, x5, x6, g => drf (zf Z a 21) (fun b10 => grd (zk Z b10 = 12) (grd (inr x2 (zl Z b10)) (if (gI g b10 x2.toNatClampNeg) ≤ x6 then (κ14 x1 x2 x4 (x5 + 1) g) else (if (gI g a 25) = 0 then (drf (zf Z a 22) (fun b16 => grd (zk Z b16 = 13) (grd (inr (((32 : Int32) * x1) + x5) (zl Z b16)) (drf (zf Z a 22) (fun b20 => grd (zk Z b20 = 13) (grd (inr (((32 : Int32) * x2) + x6) (zl Z b20)) (drf (zf Z a 23) (fun b24 => grd (zk Z b24 = 13) (grd (inr (((32 : Int32) * x1) + x5) (zl Z b24)) (drf (zf Z a 23) (fun b28 => grd (zk Z b28 = 13) (grd (inr (((32 : Int32) * x2) + x6) (zl Z b28)) (bnd (f_X11_addsTerm n Z a (gI g a 24) x4 ((gJ g b16 (((32 : Int32) * x1) + x5).toNatClampNeg) + (gJ g b20 (((32 : Int32) * x2) + x6).toNatClampNeg)) ((gJ g b24 (((32 : Int32) * x1) + x5).toNatClampNeg) * (gJ g b28 (((32 : Int32) * x2) + x6).toNatClampNeg)) g) (fun r32 g33 => f_X11_multiplies_l35 n Z κ14 a fu x1 x2 x4 x5 (x6 + 1) g33)))))))))))))) else (κ14 x1 x2 x4 (x5 + 1) g)))))
set_option maxHeartbeats 4000000 in
set_option maxRecDepth 100000 in
theorem vl_X11_multiplies_l35 {x : Cq} {n : Nat} {Z : Zt} {κ14 : Int32 → Int32 → Int32 → Int32 → Mem → Option (Unit × Mem)} {a : Nat} {rr : Unit} {gg : Mem} (hM : Cm x cX11_multiplies RX11 7 none 2 Z none gg) (hz0 : zk Z a = 10) (hκ14 : ∀ (y1 : Int32) (y2 : Int32) (y4 : Int32) (y5 : Int32) (y : Mem), κ14 y1 y2 y4 y5 y = some (rr, gg) → V x Z 0 0 14 [(0, va_rf (some a)), (1, .int y1), (2, .int y2), (4, .int y4), (5, .int y5)] [] y) : ∀ (fu : Nat) (x1 : Int32) (x2 : Int32) (x4 : Int32) (x5 : Int32) (x6 : Int32) (g : Mem), f_X11_multiplies_l35 n Z κ14 a fu x1 x2 x4 x5 x6 g = some (rr, gg) → V x Z 0 0 35 [(0, va_rf (some a)), (1, .int x1), (2, .int x2), (4, .int x4), (5, .int x5), (6, .int x6)] [] g := by
  intro fu
  induction fu with
  | zero => intro x1 x2 x4 x5 x6 g h; cases h
  | succ fu ih =>
    intro x1 x2 x4 x5 x6 g h
    unfold f_X11_multiplies_l35 at h
    refine V_iload hM.c 5 dX11_multiplies_35 rfl ?_
    refine V_aload_n hM.c 0 dX11_multiplies_37 rfl rfl ?_
    replace h := drf_some h
    obtain ⟨b10, e11, h⟩ := h
    refine G9_21 hM.c tw_128 hz0 e11 dX11_multiplies_38 ?_
    refine V_iload_n hM.c 2 dX11_multiplies_41 rfl rfl ?_
    replace h := grd_some h
    obtain ⟨z12, h⟩ := h
    replace h := grd_some h
    obtain ⟨c13, h⟩ := h
    refine V_iald hM.c z12 c13 dX11_multiplies_42 ?_
    refine V_icmp_ge hM.c 119 dX11_multiplies_43 (by decide) (fun c14 => ?_) (fun c14 => ?_)
    · replace h := ite_p h c14
      refine V_iinc (v := (x5 + 1)) (L' := [(5, .int (x5 + 1)), (0, va_rf (some a)), (1, .int x1), (2, .int x2), (4, .int x4), (6, .int x6)]) hM.c 4 dX11_multiplies_119 rfl rfl (by decide) rfl ?_
      refine V_goto hM.c 14 dX11_multiplies_122 (by decide) ?_
      refine V_sub [1, 2, 3, 4, 0] rfl ?_
      exact hκ14 _ _ _ _ _ h
    · replace h := ite_n h c14
      refine V_aload_n hM.c 0 dX11_multiplies_46 rfl rfl ?_
      refine G9_25 hM.c tw_472 hz0 dX11_multiplies_47 ?_
      refine V_if_ne hM.c 119 dX11_multiplies_50 (by decide) (fun c15 => ?_) (fun c15 => ?_)
      · replace h := ite_n h c15
        refine V_iinc (v := (x5 + 1)) (L' := [(5, .int (x5 + 1)), (0, va_rf (some a)), (1, .int x1), (2, .int x2), (4, .int x4), (6, .int x6)]) hM.c 4 dX11_multiplies_119 rfl rfl (by decide) rfl ?_
        refine V_goto hM.c 14 dX11_multiplies_122 (by decide) ?_
        refine V_sub [1, 2, 3, 4, 0] rfl ?_
        exact hκ14 _ _ _ _ _ h
      · replace h := ite_p h c15
        refine V_aload_n hM.c 0 dX11_multiplies_53 rfl rfl ?_
        refine V_aload_n hM.c 0 dX11_multiplies_54 rfl rfl ?_
        refine G9_24 hM.c tw_471 hz0 dX11_multiplies_55 ?_
        refine V_iload hM.c 3 dX11_multiplies_58 rfl ?_
        refine V_aload_n hM.c 0 dX11_multiplies_60 rfl rfl ?_
        replace h := drf_some h
        obtain ⟨b16, e17, h⟩ := h
        refine G9_22 hM.c tw_129 hz0 e17 dX11_multiplies_61 ?_
        refine V_bipush (v := 32) hM.c dX11_multiplies_64 (by decide) ?_
        refine V_iload_n hM.c 1 dX11_multiplies_66 rfl rfl ?_
        refine V_imul hM.c dX11_multiplies_67 ?_
        refine V_iload hM.c 4 dX11_multiplies_68 rfl ?_
        refine V_iadd hM.c dX11_multiplies_70 ?_
        replace h := grd_some h
        obtain ⟨z18, h⟩ := h
        replace h := grd_some h
        obtain ⟨c19, h⟩ := h
        refine V_lald hM.c z18 c19 dX11_multiplies_71 ?_
        refine V_aload_n hM.c 0 dX11_multiplies_72 rfl rfl ?_
        replace h := drf_some h
        obtain ⟨b20, e21, h⟩ := h
        refine G9_22 hM.c tw_129 hz0 e21 dX11_multiplies_73 ?_
        refine V_bipush (v := 32) hM.c dX11_multiplies_76 (by decide) ?_
        refine V_iload_n hM.c 2 dX11_multiplies_78 rfl rfl ?_
        refine V_imul hM.c dX11_multiplies_79 ?_
        refine V_iload hM.c 5 dX11_multiplies_80 rfl ?_
        refine V_iadd hM.c dX11_multiplies_82 ?_
        replace h := grd_some h
        obtain ⟨z22, h⟩ := h
        replace h := grd_some h
        obtain ⟨c23, h⟩ := h
        refine V_lald hM.c z22 c23 dX11_multiplies_83 ?_
        refine V_ladd hM.c dX11_multiplies_84 ?_
        refine V_aload_n hM.c 0 dX11_multiplies_85 rfl rfl ?_
        replace h := drf_some h
        obtain ⟨b24, e25, h⟩ := h
        refine G9_23 hM.c tw_130 hz0 e25 dX11_multiplies_86 ?_
        refine V_bipush (v := 32) hM.c dX11_multiplies_89 (by decide) ?_
        refine V_iload_n hM.c 1 dX11_multiplies_91 rfl rfl ?_
        refine V_imul hM.c dX11_multiplies_92 ?_
        refine V_iload hM.c 4 dX11_multiplies_93 rfl ?_
        refine V_iadd hM.c dX11_multiplies_95 ?_
        replace h := grd_some h
        obtain ⟨z26, h⟩ := h
        replace h := grd_some h
        obtain ⟨c27, h⟩ := h
        refine V_lald hM.c z26 c27 dX11_multiplies_96 ?_
        refine V_aload_n hM.c 0 dX11_multiplies_97 rfl rfl ?_
        replace h := drf_some h
        obtain ⟨b28, e29, h⟩ := h
        refine G9_23 hM.c tw_130 hz0 e29 dX11_multiplies_98 ?_
        refine V_bipush (v := 32) hM.c dX11_multiplies_101 (by decide) ?_
        refine V_iload_n hM.c 2 dX11_multiplies_103 rfl rfl ?_
        refine V_imul hM.c dX11_multiplies_104 ?_
        refine V_iload hM.c 5 dX11_multiplies_105 rfl ?_
        refine V_iadd hM.c dX11_multiplies_107 ?_
        replace h := grd_some h
        obtain ⟨z30, h⟩ := h
        replace h := grd_some h
        obtain ⟨c31, h⟩ := h
        refine V_lald hM.c z30 c31 dX11_multiplies_108 ?_
        refine V_lmul hM.c dX11_multiplies_109 ?_
        replace h := bnd_some h
        obtain ⟨r32, g33, e34, h⟩ := h
        refine V_callV (As := [.int (gI g a 24), .int x4, .long ((gJ g b16 (((32 : Int32) * x1) + x5).toNatClampNeg) + (gJ g b20 (((32 : Int32) * x2) + x6).toNatClampNeg)), .long ((gJ g b24 (((32 : Int32) * x1) + x5).toNatClampNeg) * (gJ g b28 (((32 : Int32) * x2) + x6).toNatClampNeg))]) (c := 9) (T := TX11) (N := 32) hM.c hM.a mq_X11_addsTerm mi_X11_addsTerm tw_488 (hM.d (by decide)) hM.z rfl (by omega) (zc_X11_addsTerm e34) (vm_X11_addsTerm e34) rfl (Nat.le_of_ble_eq_true rfl) dX11_multiplies_110 ?_
        refine V_iinc (v := (x6 + 1)) (L' := [(6, .int (x6 + 1)), (0, va_rf (some a)), (1, .int x1), (2, .int x2), (4, .int x4), (5, .int x5)]) hM.c 5 dX11_multiplies_113 rfl rfl (by decide) rfl ?_
        refine V_goto hM.c 35 dX11_multiplies_116 (by decide) ?_
        refine V_sub [1, 2, 3, 4, 5, 0] rfl ?_
        exact ih _ _ _ _ _ _ h
def f_X11_multiplies_l14 (n : Nat) (Z : Zt) (a : Nat) : Nat → Int32 → Int32 → Int32 → Int32 → Mem → Option (Unit × Mem)
  | 0, _, _, _, _, _ => none
  | fu + 1, x1, x2, x4, x5, g => drf (zf Z a 21) (fun b4 => grd (zk Z b4 = 12) (grd (inr x1 (zl Z b4)) (if (gI g b4 x1.toNatClampNeg) ≤ x5 then (some ((), g)) else (if (gI g a 25) = 0 then (f_X11_multiplies_l35 n Z (fun y0 y1 y2 y3 y => f_X11_multiplies_l14 n Z a fu y0 y1 y2 y3 y) a n x1 x2 x4 x5 (0 : Int32) g) else (some ((), g))))))
set_option maxHeartbeats 4000000 in
set_option maxRecDepth 100000 in
theorem vl_X11_multiplies_l14 {x : Cq} {n : Nat} {Z : Zt} {a : Nat} {rr : Unit} {gg : Mem} (hM : Cm x cX11_multiplies RX11 7 none 2 Z none gg) (hz0 : zk Z a = 10) : ∀ (fu : Nat) (x1 : Int32) (x2 : Int32) (x4 : Int32) (x5 : Int32) (g : Mem), f_X11_multiplies_l14 n Z a fu x1 x2 x4 x5 g = some (rr, gg) → V x Z 0 0 14 [(0, va_rf (some a)), (1, .int x1), (2, .int x2), (4, .int x4), (5, .int x5)] [] g := by
  intro fu
  induction fu with
  | zero => intro x1 x2 x4 x5 g h; cases h
  | succ fu ih =>
    intro x1 x2 x4 x5 g h
    unfold f_X11_multiplies_l14 at h
    refine V_iload hM.c 4 dX11_multiplies_14 rfl ?_
    refine V_aload_n hM.c 0 dX11_multiplies_16 rfl rfl ?_
    replace h := drf_some h
    obtain ⟨b4, e5, h⟩ := h
    refine G9_21 hM.c tw_128 hz0 e5 dX11_multiplies_17 ?_
    refine V_iload_n hM.c 1 dX11_multiplies_20 rfl rfl ?_
    replace h := grd_some h
    obtain ⟨z6, h⟩ := h
    replace h := grd_some h
    obtain ⟨c7, h⟩ := h
    refine V_iald hM.c z6 c7 dX11_multiplies_21 ?_
    refine V_icmp_ge hM.c 125 dX11_multiplies_22 (by decide) (fun c8 => ?_) (fun c8 => ?_)
    · replace h := ite_p h c8
      exact V_vretE hM h dX11_multiplies_125
    · replace h := ite_n h c8
      refine V_aload_n hM.c 0 dX11_multiplies_25 rfl rfl ?_
      refine G9_25 hM.c tw_472 hz0 dX11_multiplies_26 ?_
      refine V_if_ne hM.c 125 dX11_multiplies_29 (by decide) (fun c9 => ?_) (fun c9 => ?_)
      · replace h := ite_n h c9
        exact V_vretE hM h dX11_multiplies_125
      · replace h := ite_p h c9
        refine V_iconst (v := 0) hM.c dX11_multiplies_32 (by decide) ?_
        refine V_istore (L' := [(6, .int (0 : Int32)), (0, va_rf (some a)), (1, .int x1), (2, .int x2), (4, .int x4), (5, .int x5)]) hM.c dX11_multiplies_33 (by decide) rfl ?_
        refine V_sub [1, 2, 3, 4, 5, 0] rfl ?_
        exact vl_X11_multiplies_l35 hM hz0 ih _ _ _ _ _ _ _ h
def f_X11_multiplies (n : Nat) (Z : Zt) (a : Nat) (x1 : Int32) (x2 : Int32) (x3 : Int32) (g : Mem) : Option (Unit × Mem) := grd (zk Z a = 10) (bnd (f_X11_rowFor n Z a (gI g a 24) x3 g) (fun r1 g2 => f_X11_multiplies_l14 n Z a n x1 x2 r1 (0 : Int32) g2))
theorem mq_X11_multiplies : Mq yX11_multiplies cX11_multiplies 7 none 3 := ⟨tw_522, tw_5, ⟨by decide +kernel, by decide +kernel, by decide +kernel⟩, by decide⟩
theorem mi_X11_multiplies : Cond.instanceMethod yX11_multiplies ∈ TB ∧ Cond.selects yX11_multiplies.cls yX11_multiplies yX11_multiplies ∈ TB := ⟨tw_520, tw_521⟩
theorem zc_X11_multiplies {n : Nat} {Z : Zt} {a : Nat} {x1 : Int32} {x2 : Int32} {x3 : Int32} {g : Mem} {q : Unit × Mem} (h : f_X11_multiplies n Z a x1 x2 x3 g = some q) : zk Z a = 10 := (grd_some h).1
set_option maxHeartbeats 4000000 in
set_option maxRecDepth 100000 in
theorem vm_X11_multiplies {n : Nat} {Z : Zt} {a : Nat} {x1 : Int32} {x2 : Int32} {x3 : Int32} {g : Mem} {rr : Unit} {gg : Mem} (h : f_X11_multiplies n Z a x1 x2 x3 g = some (rr, gg)) : VM yX11_multiplies cX11_multiplies 7 none 2 [.ref a, .int x1, .int x2, .int x3] Z g none gg := by
  unfold f_X11_multiplies at h
  replace h := grd_some h
  obtain ⟨hz0, h⟩ := h
  refine VM.of (by decide +kernel) (Nat.le_of_ble_eq_true rfl) (fun x hM => ?_)
  have hM : Cm x cX11_multiplies RX11 7 none 2 Z none gg := hM
  show V x Z 0 0 0 [(0, va_rf (some a)), (1, .int x1), (2, .int x2), (3, .int x3)] [] g
  refine V_aload_n hM.c 0 dX11_multiplies_0 rfl rfl ?_
  refine V_aload_n hM.c 0 dX11_multiplies_1 rfl rfl ?_
  refine G9_24 hM.c tw_471 hz0 dX11_multiplies_2 ?_
  refine V_iload_n hM.c 3 dX11_multiplies_5 rfl rfl ?_
  replace h := bnd_some h
  obtain ⟨r1, g2, e3, h⟩ := h
  refine V_callV (As := [.int (gI g a 24), .int x3]) (c := 9) (T := TX11) (N := 32) hM.c hM.a mq_X11_rowFor mi_X11_rowFor tw_477 (hM.d (by decide)) hM.z rfl (by omega) (zc_X11_rowFor e3) (vm_X11_rowFor e3) rfl (Nat.le_of_ble_eq_true rfl) dX11_multiplies_6 ?_
  refine V_istore (L' := [(4, .int r1), (0, va_rf (some a)), (1, .int x1), (2, .int x2), (3, .int x3)]) hM.c dX11_multiplies_9 (by decide) rfl ?_
  refine V_iconst (v := 0) hM.c dX11_multiplies_11 (by decide) ?_
  refine V_istore (L' := [(5, .int (0 : Int32)), (4, .int r1), (0, va_rf (some a)), (1, .int x1), (2, .int x2), (3, .int x3)]) hM.c dX11_multiplies_12 (by decide) rfl ?_
  refine V_sub [2, 3, 4, 1, 0] rfl ?_
  exact vl_X11_multiplies_l14 hM hz0  _ _ _ _ _ _ h
def f_X11_joins_l63 (n : Nat) (Z : Zt) (κ49 : Int32 → Int32 → Int32 → Int32 → Mem → Option (Unit × Mem)) (a : Nat) : Nat → Int32 → Int32 → Int32 → Int32 → Int32 → Mem → Option (Unit × Mem)
  | 0, _, _, _, _, _, _ => none
  | fu + 1, x1, x2, x3, x4, x5, g => drf (zf Z a 19) (fun b25 => grd (zk Z b25 = 12) (grd (inr x3 (zl Z b25)) (if (gI g b25 x3.toNatClampNeg) ≤ x5 then (κ49 x1 x2 x3 (x4 + 1) g) else (if (gI g a 25) = 0 then (drf (zf Z a 20) (fun b31 => grd (zk Z b31 = 12) (grd (inr (((32 : Int32) * x2) + x4) (zl Z b31)) (drf (zf Z a 18) (fun b35 => grd (zk Z b35 = 12) (grd (inr x2 (zl Z b35)) (drf (zf Z a 10) (fun b39 => grd (zk Z b39 = 12) (grd (inr x1 (zl Z b39)) (bnd (f_X11_digit n Z (gI g b31 (((32 : Int32) * x2) + x4).toNatClampNeg) (gI g b35 x2.toNatClampNeg) (gI g b39 x1.toNatClampNeg) g) (fun r43 g44 => drf (zf Z a 20) (fun b46 => grd (zk Z b46 = 12) (grd (inr (((32 : Int32) * x3) + x5) (zl Z b46)) (drf (zf Z a 18) (fun b50 => grd (zk Z b50 = 12) (grd (inr x3 (zl Z b50)) (drf (zf Z a 11) (fun b54 => grd (zk Z b54 = 12) (grd (inr x1 (zl Z b54)) (bnd (f_X11_digit n Z (gI g44 b46 (((32 : Int32) * x3) + x5).toNatClampNeg) (gI g44 b50 x3.toNatClampNeg) (gI g44 b54 x1.toNatClampNeg) g44) (fun r58 g59 => if r43 = r58 then (drf (zf Z a 20) (fun b62 => grd (zk Z b62 = 12) (grd (inr (((32 : Int32) * x2) + x4) (zl Z b62)) (drf (zf Z a 18) (fun b66 => grd (zk Z b66 = 12) (grd (inr x3 (zl Z b66)) (bnd (f_X11_power n Z (gI g59 b66 x3.toNatClampNeg) g59) (fun r70 g71 => drf (zf Z a 20) (fun b73 => grd (zk Z b73 = 12) (grd (inr (((32 : Int32) * x3) + x5) (zl Z b73)) (bnd (f_X11_multiplies n Z a (((32 : Int32) * x2) + x4) (((32 : Int32) * x3) + x5) (((gI g59 b62 (((32 : Int32) * x2) + x4).toNatClampNeg) * r70) + (gI g71 b73 (((32 : Int32) * x3) + x5).toNatClampNeg)) g71) (fun r77 g78 => f_X11_joins_l63 n Z κ49 a fu x1 x2 x3 x4 (x5 + 1) g78)))))))))))) else (f_X11_joins_l63 n Z κ49 a fu x1 x2 x3 x4 (x5 + 1) g59)))))))))))))))))))))) else (κ49 x1 x2 x3 (x4 + 1) g)))))
set_option maxHeartbeats 4000000 in
set_option maxRecDepth 100000 in
theorem vl_X11_joins_l63 {x : Cq} {n : Nat} {Z : Zt} {κ49 : Int32 → Int32 → Int32 → Int32 → Mem → Option (Unit × Mem)} {a : Nat} {rr : Unit} {gg : Mem} (hM : Cm x cX11_joins RX11 8 none 3 Z none gg) (hz0 : zk Z a = 10) (hκ49 : ∀ (y1 : Int32) (y2 : Int32) (y3 : Int32) (y4 : Int32) (y : Mem), κ49 y1 y2 y3 y4 y = some (rr, gg) → V x Z 0 0 49 [(0, va_rf (some a)), (1, .int y1), (2, .int y2), (3, .int y3), (4, .int y4)] [] y) : ∀ (fu : Nat) (x1 : Int32) (x2 : Int32) (x3 : Int32) (x4 : Int32) (x5 : Int32) (g : Mem), f_X11_joins_l63 n Z κ49 a fu x1 x2 x3 x4 x5 g = some (rr, gg) → V x Z 0 0 63 [(0, va_rf (some a)), (1, .int x1), (2, .int x2), (3, .int x3), (4, .int x4), (5, .int x5)] [] g := by
  intro fu
  induction fu with
  | zero => intro x1 x2 x3 x4 x5 g h; cases h
  | succ fu ih =>
    intro x1 x2 x3 x4 x5 g h
    unfold f_X11_joins_l63 at h
    refine V_iload hM.c 5 dX11_joins_63 rfl ?_
    refine V_aload_n hM.c 0 dX11_joins_65 rfl rfl ?_
    replace h := drf_some h
    obtain ⟨b25, e26, h⟩ := h
    refine G9_19 hM.c tw_126 hz0 e26 dX11_joins_66 ?_
    refine V_iload_n hM.c 3 dX11_joins_69 rfl rfl ?_
    replace h := grd_some h
    obtain ⟨z27, h⟩ := h
    replace h := grd_some h
    obtain ⟨c28, h⟩ := h
    refine V_iald hM.c z27 c28 dX11_joins_70 ?_
    refine V_icmp_ge hM.c 185 dX11_joins_71 (by decide) (fun c29 => ?_) (fun c29 => ?_)
    · replace h := ite_p h c29
      refine V_iinc (v := (x4 + 1)) (L' := [(4, .int (x4 + 1)), (0, va_rf (some a)), (1, .int x1), (2, .int x2), (3, .int x3), (5, .int x5)]) hM.c 4 dX11_joins_185 rfl rfl (by decide) rfl ?_
      refine V_goto hM.c 49 dX11_joins_188 (by decide) ?_
      refine V_sub [1, 2, 3, 4, 0] rfl ?_
      exact hκ49 _ _ _ _ _ h
    · replace h := ite_n h c29
      refine V_aload_n hM.c 0 dX11_joins_74 rfl rfl ?_
      refine G9_25 hM.c tw_472 hz0 dX11_joins_75 ?_
      refine V_if_ne hM.c 185 dX11_joins_78 (by decide) (fun c30 => ?_) (fun c30 => ?_)
      · replace h := ite_n h c30
        refine V_iinc (v := (x4 + 1)) (L' := [(4, .int (x4 + 1)), (0, va_rf (some a)), (1, .int x1), (2, .int x2), (3, .int x3), (5, .int x5)]) hM.c 4 dX11_joins_185 rfl rfl (by decide) rfl ?_
        refine V_goto hM.c 49 dX11_joins_188 (by decide) ?_
        refine V_sub [1, 2, 3, 4, 0] rfl ?_
        exact hκ49 _ _ _ _ _ h
      · replace h := ite_p h c30
        refine V_bipush (v := 32) hM.c dX11_joins_81 (by decide) ?_
        refine V_iload_n hM.c 2 dX11_joins_83 rfl rfl ?_
        refine V_imul hM.c dX11_joins_84 ?_
        refine V_iload hM.c 4 dX11_joins_85 rfl ?_
        refine V_iadd hM.c dX11_joins_87 ?_
        refine V_istore (L' := [(6, .int (((32 : Int32) * x2) + x4)), (0, va_rf (some a)), (1, .int x1), (2, .int x2), (3, .int x3), (4, .int x4), (5, .int x5)]) hM.c dX11_joins_88 (by decide) rfl ?_
        refine V_bipush (v := 32) hM.c dX11_joins_90 (by decide) ?_
        refine V_iload_n hM.c 4 dX11_joins_92 rfl rfl ?_
        refine V_imul hM.c dX11_joins_93 ?_
        refine V_iload hM.c 6 dX11_joins_94 rfl ?_
        refine V_iadd hM.c dX11_joins_96 ?_
        refine V_istore (L' := [(7, .int (((32 : Int32) * x3) + x5)), (6, .int (((32 : Int32) * x2) + x4)), (0, va_rf (some a)), (1, .int x1), (2, .int x2), (3, .int x3), (4, .int x4), (5, .int x5)]) hM.c dX11_joins_97 (by decide) rfl ?_
        refine V_aload_n hM.c 2 dX11_joins_99 rfl rfl ?_
        replace h := drf_some h
        obtain ⟨b31, e32, h⟩ := h
        refine G9_20 hM.c tw_127 hz0 e32 dX11_joins_100 ?_
        refine V_iload hM.c 1 dX11_joins_103 rfl ?_
        replace h := grd_some h
        obtain ⟨z33, h⟩ := h
        replace h := grd_some h
        obtain ⟨c34, h⟩ := h
        refine V_iald hM.c z33 c34 dX11_joins_105 ?_
        refine V_aload_n hM.c 2 dX11_joins_106 rfl rfl ?_
        replace h := drf_some h
        obtain ⟨b35, e36, h⟩ := h
        refine G9_18 hM.c tw_125 hz0 e36 dX11_joins_107 ?_
        refine V_iload_n hM.c 4 dX11_joins_110 rfl rfl ?_
        replace h := grd_some h
        obtain ⟨z37, h⟩ := h
        replace h := grd_some h
        obtain ⟨c38, h⟩ := h
        refine V_iald hM.c z37 c38 dX11_joins_111 ?_
        refine V_aload_n hM.c 2 dX11_joins_112 rfl rfl ?_
        replace h := drf_some h
        obtain ⟨b39, e40, h⟩ := h
        refine G9_10 hM.c tw_119 hz0 e40 dX11_joins_113 ?_
        refine V_iload_n hM.c 3 dX11_joins_116 rfl rfl ?_
        replace h := grd_some h
        obtain ⟨z41, h⟩ := h
        replace h := grd_some h
        obtain ⟨c42, h⟩ := h
        refine V_iald hM.c z41 c42 dX11_joins_117 ?_
        replace h := bnd_some h
        obtain ⟨r43, g44, e45, h⟩ := h
        refine V_callS (As := [.int (gI g b31 (((32 : Int32) * x2) + x4).toNatClampNeg), .int (gI g b35 x2.toNatClampNeg), .int (gI g b39 x1.toNatClampNeg)]) hM.c hM.a mq_X11_digit mi_X11_digit tw_497 (hM.d (by decide)) hM.z (vm_X11_digit e45) rfl (Nat.le_of_ble_eq_true rfl) dX11_joins_118 ?_
        refine V_aload_n hM.c 2 dX11_joins_121 rfl rfl ?_
        replace h := drf_some h
        obtain ⟨b46, e47, h⟩ := h
        refine G9_20 hM.c tw_127 hz0 e47 dX11_joins_122 ?_
        refine V_iload hM.c 0 dX11_joins_125 rfl ?_
        replace h := grd_some h
        obtain ⟨z48, h⟩ := h
        replace h := grd_some h
        obtain ⟨c49, h⟩ := h
        refine V_iald hM.c z48 c49 dX11_joins_127 ?_
        refine V_aload_n hM.c 2 dX11_joins_128 rfl rfl ?_
        replace h := drf_some h
        obtain ⟨b50, e51, h⟩ := h
        refine G9_18 hM.c tw_125 hz0 e51 dX11_joins_129 ?_
        refine V_iload_n hM.c 5 dX11_joins_132 rfl rfl ?_
        replace h := grd_some h
        obtain ⟨z52, h⟩ := h
        replace h := grd_some h
        obtain ⟨c53, h⟩ := h
        refine V_iald hM.c z52 c53 dX11_joins_133 ?_
        refine V_aload_n hM.c 2 dX11_joins_134 rfl rfl ?_
        replace h := drf_some h
        obtain ⟨b54, e55, h⟩ := h
        refine G9_11 hM.c tw_120 hz0 e55 dX11_joins_135 ?_
        refine V_iload_n hM.c 3 dX11_joins_138 rfl rfl ?_
        replace h := grd_some h
        obtain ⟨z56, h⟩ := h
        replace h := grd_some h
        obtain ⟨c57, h⟩ := h
        refine V_iald hM.c z56 c57 dX11_joins_139 ?_
        replace h := bnd_some h
        obtain ⟨r58, g59, e60, h⟩ := h
        refine V_callS (As := [.int (gI g44 b46 (((32 : Int32) * x3) + x5).toNatClampNeg), .int (gI g44 b50 x3.toNatClampNeg), .int (gI g44 b54 x1.toNatClampNeg)]) hM.c hM.a mq_X11_digit mi_X11_digit tw_497 (hM.d (by decide)) hM.z (vm_X11_digit e60) rfl (Nat.le_of_ble_eq_true rfl) dX11_joins_140 ?_
        refine V_icmp_ne hM.c 179 dX11_joins_143 (by decide) (fun c61 => ?_) (fun c61 => ?_)
        · replace h := ite_n h c61
          refine V_iinc (v := (x5 + 1)) (L' := [(5, .int (x5 + 1)), (7, .int (((32 : Int32) * x3) + x5)), (6, .int (((32 : Int32) * x2) + x4)), (0, va_rf (some a)), (1, .int x1), (2, .int x2), (3, .int x3), (4, .int x4)]) hM.c 7 dX11_joins_179 rfl rfl (by decide) rfl ?_
          refine V_goto hM.c 63 dX11_joins_182 (by decide) ?_
          refine V_sub [3, 4, 5, 6, 7, 0] rfl ?_
          exact ih _ _ _ _ _ _ h
        · replace h := ite_p h c61
          refine V_aload_n hM.c 2 dX11_joins_146 rfl rfl ?_
          refine V_iload hM.c 1 dX11_joins_147 rfl ?_
          refine V_iload hM.c 0 dX11_joins_149 rfl ?_
          refine V_aload_n hM.c 2 dX11_joins_151 rfl rfl ?_
          replace h := drf_some h
          obtain ⟨b62, e63, h⟩ := h
          refine G9_20 hM.c tw_127 hz0 e63 dX11_joins_152 ?_
          refine V_iload hM.c 1 dX11_joins_155 rfl ?_
          replace h := grd_some h
          obtain ⟨z64, h⟩ := h
          replace h := grd_some h
          obtain ⟨c65, h⟩ := h
          refine V_iald hM.c z64 c65 dX11_joins_157 ?_
          refine V_aload_n hM.c 2 dX11_joins_158 rfl rfl ?_
          replace h := drf_some h
          obtain ⟨b66, e67, h⟩ := h
          refine G9_18 hM.c tw_125 hz0 e67 dX11_joins_159 ?_
          refine V_iload_n hM.c 5 dX11_joins_162 rfl rfl ?_
          replace h := grd_some h
          obtain ⟨z68, h⟩ := h
          replace h := grd_some h
          obtain ⟨c69, h⟩ := h
          refine V_iald hM.c z68 c69 dX11_joins_163 ?_
          replace h := bnd_some h
          obtain ⟨r70, g71, e72, h⟩ := h
          refine V_callS (As := [.int (gI g59 b66 x3.toNatClampNeg)]) hM.c hM.a mq_X11_power mi_X11_power tw_399 (hM.d (by decide)) hM.z (vm_X11_power e72) rfl (Nat.le_of_ble_eq_true rfl) dX11_joins_164 ?_
          refine V_imul hM.c dX11_joins_167 ?_
          refine V_aload_n hM.c 2 dX11_joins_168 rfl rfl ?_
          replace h := drf_some h
          obtain ⟨b73, e74, h⟩ := h
          refine G9_20 hM.c tw_127 hz0 e74 dX11_joins_169 ?_
          refine V_iload hM.c 0 dX11_joins_172 rfl ?_
          replace h := grd_some h
          obtain ⟨z75, h⟩ := h
          replace h := grd_some h
          obtain ⟨c76, h⟩ := h
          refine V_iald hM.c z75 c76 dX11_joins_174 ?_
          refine V_iadd hM.c dX11_joins_175 ?_
          replace h := bnd_some h
          obtain ⟨r77, g78, e79, h⟩ := h
          refine V_callV (As := [.int (((32 : Int32) * x2) + x4), .int (((32 : Int32) * x3) + x5), .int (((gI g59 b62 (((32 : Int32) * x2) + x4).toNatClampNeg) * r70) + (gI g71 b73 (((32 : Int32) * x3) + x5).toNatClampNeg))]) (c := 9) (T := TX11) (N := 32) hM.c hM.a mq_X11_multiplies mi_X11_multiplies tw_519 (hM.d (by decide)) hM.z rfl (by omega) (zc_X11_multiplies e79) (vm_X11_multiplies e79) rfl (Nat.le_of_ble_eq_true rfl) dX11_joins_176 ?_
          refine V_iinc (v := (x5 + 1)) (L' := [(5, .int (x5 + 1)), (7, .int (((32 : Int32) * x3) + x5)), (6, .int (((32 : Int32) * x2) + x4)), (0, va_rf (some a)), (1, .int x1), (2, .int x2), (3, .int x3), (4, .int x4)]) hM.c 7 dX11_joins_179 rfl rfl (by decide) rfl ?_
          refine V_goto hM.c 63 dX11_joins_182 (by decide) ?_
          refine V_sub [3, 4, 5, 6, 7, 0] rfl ?_
          exact ih _ _ _ _ _ _ h
def f_X11_joins_l49 (n : Nat) (Z : Zt) (a : Nat) : Nat → Int32 → Int32 → Int32 → Int32 → Mem → Option (Unit × Mem)
  | 0, _, _, _, _, _ => none
  | fu + 1, x1, x2, x3, x4, g => drf (zf Z a 19) (fun b17 => grd (zk Z b17 = 12) (grd (inr x2 (zl Z b17)) (if (gI g b17 x2.toNatClampNeg) ≤ x4 then (bnd (f_X11_replaces n Z a (2 : Int32) g) (fun r22 g23 => some ((), g23))) else (f_X11_joins_l63 n Z (fun y0 y1 y2 y3 y => f_X11_joins_l49 n Z a fu y0 y1 y2 y3 y) a n x1 x2 x3 x4 (0 : Int32) g))))
set_option maxHeartbeats 4000000 in
set_option maxRecDepth 100000 in
theorem vl_X11_joins_l49 {x : Cq} {n : Nat} {Z : Zt} {a : Nat} {rr : Unit} {gg : Mem} (hM : Cm x cX11_joins RX11 8 none 3 Z none gg) (hz0 : zk Z a = 10) : ∀ (fu : Nat) (x1 : Int32) (x2 : Int32) (x3 : Int32) (x4 : Int32) (g : Mem), f_X11_joins_l49 n Z a fu x1 x2 x3 x4 g = some (rr, gg) → V x Z 0 0 49 [(0, va_rf (some a)), (1, .int x1), (2, .int x2), (3, .int x3), (4, .int x4)] [] g := by
  intro fu
  induction fu with
  | zero => intro x1 x2 x3 x4 g h; cases h
  | succ fu ih =>
    intro x1 x2 x3 x4 g h
    unfold f_X11_joins_l49 at h
    refine V_iload hM.c 4 dX11_joins_49 rfl ?_
    refine V_aload_n hM.c 0 dX11_joins_51 rfl rfl ?_
    replace h := drf_some h
    obtain ⟨b17, e18, h⟩ := h
    refine G9_19 hM.c tw_126 hz0 e18 dX11_joins_52 ?_
    refine V_iload_n hM.c 2 dX11_joins_55 rfl rfl ?_
    replace h := grd_some h
    obtain ⟨z19, h⟩ := h
    replace h := grd_some h
    obtain ⟨c20, h⟩ := h
    refine V_iald hM.c z19 c20 dX11_joins_56 ?_
    refine V_icmp_ge hM.c 191 dX11_joins_57 (by decide) (fun c21 => ?_) (fun c21 => ?_)
    · replace h := ite_p h c21
      refine V_aload_n hM.c 0 dX11_joins_191 rfl rfl ?_
      refine V_iconst (v := 2) hM.c dX11_joins_192 (by decide) ?_
      replace h := bnd_some h
      obtain ⟨r22, g23, e24, h⟩ := h
      refine V_callV (As := [.int (2 : Int32)]) (c := 9) (T := TX11) (N := 32) hM.c hM.a mq_X11_replaces mi_X11_replaces tw_504 (hM.d (by decide)) hM.z rfl (by omega) (zc_X11_replaces e24) (vm_X11_replaces e24) rfl (Nat.le_of_ble_eq_true rfl) dX11_joins_193 ?_
      exact V_vretE hM h dX11_joins_196
    · replace h := ite_n h c21
      refine V_iconst (v := 0) hM.c dX11_joins_60 (by decide) ?_
      refine V_istore (L' := [(5, .int (0 : Int32)), (0, va_rf (some a)), (1, .int x1), (2, .int x2), (3, .int x3), (4, .int x4)]) hM.c dX11_joins_61 (by decide) rfl ?_
      refine V_sub [1, 2, 3, 4, 5, 0] rfl ?_
      exact vl_X11_joins_l63 hM hz0 ih _ _ _ _ _ _ _ h
def f_X11_joins (n : Nat) (Z : Zt) (a : Nat) (x1 : Int32) (g : Mem) : Option (Unit × Mem) := grd (zk Z a = 10) (drf (zf Z a 18) (fun b1 => drf (zf Z a 18) (fun b3 => grd (zk Z b3 = 12) (grd (inr ((gI g a 24) - (2 : Int32)) (zl Z b3)) (drf (zf Z a 18) (fun b7 => grd (zk Z b7 = 12) (grd (inr ((gI g a 24) - (1 : Int32)) (zl Z b7)) (grd (zk Z b1 = 12) (grd (inr (gI g a 24) (zl Z b1)) (drf (zf Z a 19) (fun b13 => grd (zk Z b13 = 12) (grd (inr (gI (sI g b1 (gI g a 24).toNatClampNeg ((gI g b3 ((gI g a 24) - (2 : Int32)).toNatClampNeg) + (gI g b7 ((gI g a 24) - (1 : Int32)).toNatClampNeg))) a 24) (zl Z b13)) (f_X11_joins_l49 n Z a n x1 ((gI g a 24) - (2 : Int32)) ((gI g a 24) - (1 : Int32)) (0 : Int32) (sI (sI g b1 (gI g a 24).toNatClampNeg ((gI g b3 ((gI g a 24) - (2 : Int32)).toNatClampNeg) + (gI g b7 ((gI g a 24) - (1 : Int32)).toNatClampNeg))) b13 (gI (sI g b1 (gI g a 24).toNatClampNeg ((gI g b3 ((gI g a 24) - (2 : Int32)).toNatClampNeg) + (gI g b7 ((gI g a 24) - (1 : Int32)).toNatClampNeg))) a 24).toNatClampNeg (0 : Int32)))))))))))))))
theorem mq_X11_joins : Mq yX11_joins cX11_joins 8 none 1 := ⟨tw_518, tw_5, ⟨by decide +kernel, by decide +kernel, by decide +kernel⟩, by decide⟩
theorem mi_X11_joins : Cond.instanceMethod yX11_joins ∈ TB ∧ Cond.selects yX11_joins.cls yX11_joins yX11_joins ∈ TB := ⟨tw_516, tw_517⟩
theorem zc_X11_joins {n : Nat} {Z : Zt} {a : Nat} {x1 : Int32} {g : Mem} {q : Unit × Mem} (h : f_X11_joins n Z a x1 g = some q) : zk Z a = 10 := (grd_some h).1
set_option maxHeartbeats 4000000 in
set_option maxRecDepth 100000 in
theorem vm_X11_joins {n : Nat} {Z : Zt} {a : Nat} {x1 : Int32} {g : Mem} {rr : Unit} {gg : Mem} (h : f_X11_joins n Z a x1 g = some (rr, gg)) : VM yX11_joins cX11_joins 8 none 3 [.ref a, .int x1] Z g none gg := by
  unfold f_X11_joins at h
  replace h := grd_some h
  obtain ⟨hz0, h⟩ := h
  refine VM.of (by decide +kernel) (Nat.le_of_ble_eq_true rfl) (fun x hM => ?_)
  have hM : Cm x cX11_joins RX11 8 none 3 Z none gg := hM
  show V x Z 0 0 0 [(0, va_rf (some a)), (1, .int x1)] [] g
  refine V_aload_n hM.c 0 dX11_joins_0 rfl rfl ?_
  refine G9_24 hM.c tw_471 hz0 dX11_joins_1 ?_
  refine V_iconst (v := 2) hM.c dX11_joins_4 (by decide) ?_
  refine V_isub hM.c dX11_joins_5 ?_
  refine V_istore_n (i := 2) (L' := [(2, .int ((gI g a 24) - (2 : Int32))), (0, va_rf (some a)), (1, .int x1)]) hM.c dX11_joins_6 rfl (by decide) rfl ?_
  refine V_aload_n hM.c 1 dX11_joins_7 rfl rfl ?_
  refine G9_24 hM.c tw_471 hz0 dX11_joins_8 ?_
  refine V_iconst (v := 1) hM.c dX11_joins_11 (by decide) ?_
  refine V_isub hM.c dX11_joins_12 ?_
  refine V_istore_n (i := 3) (L' := [(3, .int ((gI g a 24) - (1 : Int32))), (2, .int ((gI g a 24) - (2 : Int32))), (0, va_rf (some a)), (1, .int x1)]) hM.c dX11_joins_13 rfl (by decide) rfl ?_
  refine V_aload_n hM.c 2 dX11_joins_14 rfl rfl ?_
  replace h := drf_some h
  obtain ⟨b1, e2, h⟩ := h
  refine G9_18 hM.c tw_125 hz0 e2 dX11_joins_15 ?_
  refine V_aload_n hM.c 2 dX11_joins_18 rfl rfl ?_
  refine G9_24 hM.c tw_471 hz0 dX11_joins_19 ?_
  refine V_aload_n hM.c 2 dX11_joins_22 rfl rfl ?_
  replace h := drf_some h
  obtain ⟨b3, e4, h⟩ := h
  refine G9_18 hM.c tw_125 hz0 e4 dX11_joins_23 ?_
  refine V_iload_n hM.c 1 dX11_joins_26 rfl rfl ?_
  replace h := grd_some h
  obtain ⟨z5, h⟩ := h
  replace h := grd_some h
  obtain ⟨c6, h⟩ := h
  refine V_iald hM.c z5 c6 dX11_joins_27 ?_
  refine V_aload_n hM.c 2 dX11_joins_28 rfl rfl ?_
  replace h := drf_some h
  obtain ⟨b7, e8, h⟩ := h
  refine G9_18 hM.c tw_125 hz0 e8 dX11_joins_29 ?_
  refine V_iload_n hM.c 0 dX11_joins_32 rfl rfl ?_
  replace h := grd_some h
  obtain ⟨z9, h⟩ := h
  replace h := grd_some h
  obtain ⟨c10, h⟩ := h
  refine V_iald hM.c z9 c10 dX11_joins_33 ?_
  refine V_iadd hM.c dX11_joins_34 ?_
  replace h := grd_some h
  obtain ⟨z11, h⟩ := h
  replace h := grd_some h
  obtain ⟨c12, h⟩ := h
  refine V_iast hM.c z11 c12 hM.a dX11_joins_35 ?_
  refine V_aload_n hM.c 2 dX11_joins_36 rfl rfl ?_
  replace h := drf_some h
  obtain ⟨b13, e14, h⟩ := h
  refine G9_19 hM.c tw_126 hz0 e14 dX11_joins_37 ?_
  refine V_aload_n hM.c 2 dX11_joins_40 rfl rfl ?_
  refine G9_24 hM.c tw_471 hz0 dX11_joins_41 ?_
  refine V_iconst (v := 0) hM.c dX11_joins_44 (by decide) ?_
  replace h := grd_some h
  obtain ⟨z15, h⟩ := h
  replace h := grd_some h
  obtain ⟨c16, h⟩ := h
  refine V_iast hM.c z15 c16 hM.a dX11_joins_45 ?_
  refine V_iconst (v := 0) hM.c dX11_joins_46 (by decide) ?_
  refine V_istore (L' := [(4, .int (0 : Int32)), (3, .int ((gI g a 24) - (1 : Int32))), (2, .int ((gI g a 24) - (2 : Int32))), (0, va_rf (some a)), (1, .int x1)]) hM.c dX11_joins_47 (by decide) rfl ?_
  refine V_sub [3, 4, 2, 1, 0] rfl ?_
  exact vl_X11_joins_l49 hM hz0  _ _ _ _ _ _ h
def f_X11_unites_l47 (n : Nat) (Z : Zt) (κ37 : Int32 → Mem → Option (Unit × Mem)) (a : Nat) : Nat → Int32 → Int32 → Mem → Option (Unit × Mem)
  | 0, _, _, _ => none
  | fu + 1, x1, x2, g => drf (zf Z a 19) (fun b17 => grd (zk Z b17 = 12) (grd (inr x1 (zl Z b17)) (if (gI g b17 x1.toNatClampNeg) ≤ x2 then (κ37 (x1 + 1) g) else (if (gI g a 25) = 0 then (drf (zf Z a 20) (fun b23 => grd (zk Z b23 = 12) (grd (inr (((32 : Int32) * x1) + x2) (zl Z b23)) (bnd (f_X11_addsRow n Z a x1 x2 (gI g a 24) (gI g b23 (((32 : Int32) * x1) + x2).toNatClampNeg) g) (fun r27 g28 => f_X11_unites_l47 n Z κ37 a fu x1 (x2 + 1) g28))))) else (κ37 (x1 + 1) g)))))
set_option maxHeartbeats 4000000 in
set_option maxRecDepth 100000 in
theorem vl_X11_unites_l47 {x : Cq} {n : Nat} {Z : Zt} {κ37 : Int32 → Mem → Option (Unit × Mem)} {a : Nat} {rr : Unit} {gg : Mem} (hM : Cm x cX11_unites RX11 3 none 3 Z none gg) (hz0 : zk Z a = 10) (hκ37 : ∀ (y1 : Int32) (y : Mem), κ37 y1 y = some (rr, gg) → V x Z 0 0 37 [(0, va_rf (some a)), (1, .int y1)] [] y) : ∀ (fu : Nat) (x1 : Int32) (x2 : Int32) (g : Mem), f_X11_unites_l47 n Z κ37 a fu x1 x2 g = some (rr, gg) → V x Z 0 0 47 [(0, va_rf (some a)), (1, .int x1), (2, .int x2)] [] g := by
  intro fu
  induction fu with
  | zero => intro x1 x2 g h; cases h
  | succ fu ih =>
    intro x1 x2 g h
    unfold f_X11_unites_l47 at h
    refine V_iload_n hM.c 2 dX11_unites_47 rfl rfl ?_
    refine V_aload_n hM.c 0 dX11_unites_48 rfl rfl ?_
    replace h := drf_some h
    obtain ⟨b17, e18, h⟩ := h
    refine G9_19 hM.c tw_126 hz0 e18 dX11_unites_49 ?_
    refine V_iload_n hM.c 1 dX11_unites_52 rfl rfl ?_
    replace h := grd_some h
    obtain ⟨z19, h⟩ := h
    replace h := grd_some h
    obtain ⟨c20, h⟩ := h
    refine V_iald hM.c z19 c20 dX11_unites_53 ?_
    refine V_icmp_ge hM.c 91 dX11_unites_54 (by decide) (fun c21 => ?_) (fun c21 => ?_)
    · replace h := ite_p h c21
      refine V_iinc (v := (x1 + 1)) (L' := [(1, .int (x1 + 1)), (0, va_rf (some a)), (2, .int x2)]) hM.c 1 dX11_unites_91 rfl rfl (by decide) rfl ?_
      refine V_goto hM.c 37 dX11_unites_94 (by decide) ?_
      refine V_sub [1, 0] rfl ?_
      exact hκ37 _ _ h
    · replace h := ite_n h c21
      refine V_aload_n hM.c 0 dX11_unites_57 rfl rfl ?_
      refine G9_25 hM.c tw_472 hz0 dX11_unites_58 ?_
      refine V_if_ne hM.c 91 dX11_unites_61 (by decide) (fun c22 => ?_) (fun c22 => ?_)
      · replace h := ite_n h c22
        refine V_iinc (v := (x1 + 1)) (L' := [(1, .int (x1 + 1)), (0, va_rf (some a)), (2, .int x2)]) hM.c 1 dX11_unites_91 rfl rfl (by decide) rfl ?_
        refine V_goto hM.c 37 dX11_unites_94 (by decide) ?_
        refine V_sub [1, 0] rfl ?_
        exact hκ37 _ _ h
      · replace h := ite_p h c22
        refine V_aload_n hM.c 0 dX11_unites_64 rfl rfl ?_
        refine V_iload_n hM.c 1 dX11_unites_65 rfl rfl ?_
        refine V_iload_n hM.c 2 dX11_unites_66 rfl rfl ?_
        refine V_aload_n hM.c 0 dX11_unites_67 rfl rfl ?_
        refine G9_24 hM.c tw_471 hz0 dX11_unites_68 ?_
        refine V_aload_n hM.c 0 dX11_unites_71 rfl rfl ?_
        replace h := drf_some h
        obtain ⟨b23, e24, h⟩ := h
        refine G9_20 hM.c tw_127 hz0 e24 dX11_unites_72 ?_
        refine V_bipush (v := 32) hM.c dX11_unites_75 (by decide) ?_
        refine V_iload_n hM.c 1 dX11_unites_77 rfl rfl ?_
        refine V_imul hM.c dX11_unites_78 ?_
        refine V_iload_n hM.c 2 dX11_unites_79 rfl rfl ?_
        refine V_iadd hM.c dX11_unites_80 ?_
        replace h := grd_some h
        obtain ⟨z25, h⟩ := h
        replace h := grd_some h
        obtain ⟨c26, h⟩ := h
        refine V_iald hM.c z25 c26 dX11_unites_81 ?_
        replace h := bnd_some h
        obtain ⟨r27, g28, e29, h⟩ := h
        refine V_callV (As := [.int x1, .int x2, .int (gI g a 24), .int (gI g b23 (((32 : Int32) * x1) + x2).toNatClampNeg)]) (c := 9) (T := TX11) (N := 32) hM.c hM.a mq_X11_addsRow mi_X11_addsRow tw_500 (hM.d (by decide)) hM.z rfl (by omega) (zc_X11_addsRow e29) (vm_X11_addsRow e29) rfl (Nat.le_of_ble_eq_true rfl) dX11_unites_82 ?_
        refine V_iinc (v := (x2 + 1)) (L' := [(2, .int (x2 + 1)), (0, va_rf (some a)), (1, .int x1)]) hM.c 2 dX11_unites_85 rfl rfl (by decide) rfl ?_
        refine V_goto hM.c 47 dX11_unites_88 (by decide) ?_
        refine V_sub [1, 2, 0] rfl ?_
        exact ih _ _ _ h
def f_X11_unites_l37 (n : Nat) (Z : Zt) (a : Nat) : Nat → Int32 → Mem → Option (Unit × Mem)
  | 0, _, _ => none
  | fu + 1, x1, g => if (gI g a 24) ≤ x1 then (bnd (f_X11_replaces n Z a (2 : Int32) g) (fun r14 g15 => some ((), g15))) else (f_X11_unites_l47 n Z (fun y0 y => f_X11_unites_l37 n Z a fu y0 y) a n x1 (0 : Int32) g)
set_option maxHeartbeats 4000000 in
set_option maxRecDepth 100000 in
theorem vl_X11_unites_l37 {x : Cq} {n : Nat} {Z : Zt} {a : Nat} {rr : Unit} {gg : Mem} (hM : Cm x cX11_unites RX11 3 none 3 Z none gg) (hz0 : zk Z a = 10) : ∀ (fu : Nat) (x1 : Int32) (g : Mem), f_X11_unites_l37 n Z a fu x1 g = some (rr, gg) → V x Z 0 0 37 [(0, va_rf (some a)), (1, .int x1)] [] g := by
  intro fu
  induction fu with
  | zero => intro x1 g h; cases h
  | succ fu ih =>
    intro x1 g h
    unfold f_X11_unites_l37 at h
    refine V_iload_n hM.c 1 dX11_unites_37 rfl rfl ?_
    refine V_aload_n hM.c 0 dX11_unites_38 rfl rfl ?_
    refine G9_24 hM.c tw_471 hz0 dX11_unites_39 ?_
    refine V_icmp_ge hM.c 97 dX11_unites_42 (by decide) (fun c13 => ?_) (fun c13 => ?_)
    · replace h := ite_p h c13
      refine V_aload_n hM.c 0 dX11_unites_97 rfl rfl ?_
      refine V_iconst (v := 2) hM.c dX11_unites_98 (by decide) ?_
      replace h := bnd_some h
      obtain ⟨r14, g15, e16, h⟩ := h
      refine V_callV (As := [.int (2 : Int32)]) (c := 9) (T := TX11) (N := 32) hM.c hM.a mq_X11_replaces mi_X11_replaces tw_504 (hM.d (by decide)) hM.z rfl (by omega) (zc_X11_replaces e16) (vm_X11_replaces e16) rfl (Nat.le_of_ble_eq_true rfl) dX11_unites_99 ?_
      exact V_vretE hM h dX11_unites_102
    · replace h := ite_n h c13
      refine V_iconst (v := 0) hM.c dX11_unites_45 (by decide) ?_
      refine V_istore_n (i := 2) (L' := [(2, .int (0 : Int32)), (0, va_rf (some a)), (1, .int x1)]) hM.c dX11_unites_46 rfl (by decide) rfl ?_
      refine V_sub [1, 2, 0] rfl ?_
      exact vl_X11_unites_l47 hM hz0 ih _ _ _ _ h
def f_X11_unites (n : Nat) (Z : Zt) (a : Nat) (g : Mem) : Option (Unit × Mem) := grd (zk Z a = 10) (drf (zf Z a 18) (fun b1 => drf (zf Z a 18) (fun b3 => grd (zk Z b3 = 12) (grd (inr ((gI g a 24) - (2 : Int32)) (zl Z b3)) (grd (zk Z b1 = 12) (grd (inr (gI g a 24) (zl Z b1)) (drf (zf Z a 19) (fun b9 => grd (zk Z b9 = 12) (grd (inr (gI (sI g b1 (gI g a 24).toNatClampNeg (gI g b3 ((gI g a 24) - (2 : Int32)).toNatClampNeg)) a 24) (zl Z b9)) (f_X11_unites_l37 n Z a n ((gI (sI (sI g b1 (gI g a 24).toNatClampNeg (gI g b3 ((gI g a 24) - (2 : Int32)).toNatClampNeg)) b9 (gI (sI g b1 (gI g a 24).toNatClampNeg (gI g b3 ((gI g a 24) - (2 : Int32)).toNatClampNeg)) a 24).toNatClampNeg (0 : Int32)) a 24) - (2 : Int32)) (sI (sI g b1 (gI g a 24).toNatClampNeg (gI g b3 ((gI g a 24) - (2 : Int32)).toNatClampNeg)) b9 (gI (sI g b1 (gI g a 24).toNatClampNeg (gI g b3 ((gI g a 24) - (2 : Int32)).toNatClampNeg)) a 24).toNatClampNeg (0 : Int32))))))))))))
theorem mq_X11_unites : Mq yX11_unites cX11_unites 3 none 0 := ⟨tw_526, tw_5, ⟨by decide +kernel, by decide +kernel, by decide +kernel⟩, by decide⟩
theorem mi_X11_unites : Cond.instanceMethod yX11_unites ∈ TB ∧ Cond.selects yX11_unites.cls yX11_unites yX11_unites ∈ TB := ⟨tw_524, tw_525⟩
theorem zc_X11_unites {n : Nat} {Z : Zt} {a : Nat} {g : Mem} {q : Unit × Mem} (h : f_X11_unites n Z a g = some q) : zk Z a = 10 := (grd_some h).1
set_option maxHeartbeats 4000000 in
set_option maxRecDepth 100000 in
theorem vm_X11_unites {n : Nat} {Z : Zt} {a : Nat} {g : Mem} {rr : Unit} {gg : Mem} (h : f_X11_unites n Z a g = some (rr, gg)) : VM yX11_unites cX11_unites 3 none 3 [.ref a] Z g none gg := by
  unfold f_X11_unites at h
  replace h := grd_some h
  obtain ⟨hz0, h⟩ := h
  refine VM.of (by decide +kernel) (Nat.le_of_ble_eq_true rfl) (fun x hM => ?_)
  have hM : Cm x cX11_unites RX11 3 none 3 Z none gg := hM
  show V x Z 0 0 0 [(0, va_rf (some a))] [] g
  refine V_aload_n hM.c 0 dX11_unites_0 rfl rfl ?_
  replace h := drf_some h
  obtain ⟨b1, e2, h⟩ := h
  refine G9_18 hM.c tw_125 hz0 e2 dX11_unites_1 ?_
  refine V_aload_n hM.c 0 dX11_unites_4 rfl rfl ?_
  refine G9_24 hM.c tw_471 hz0 dX11_unites_5 ?_
  refine V_aload_n hM.c 0 dX11_unites_8 rfl rfl ?_
  replace h := drf_some h
  obtain ⟨b3, e4, h⟩ := h
  refine G9_18 hM.c tw_125 hz0 e4 dX11_unites_9 ?_
  refine V_aload_n hM.c 0 dX11_unites_12 rfl rfl ?_
  refine G9_24 hM.c tw_471 hz0 dX11_unites_13 ?_
  refine V_iconst (v := 2) hM.c dX11_unites_16 (by decide) ?_
  refine V_isub hM.c dX11_unites_17 ?_
  replace h := grd_some h
  obtain ⟨z5, h⟩ := h
  replace h := grd_some h
  obtain ⟨c6, h⟩ := h
  refine V_iald hM.c z5 c6 dX11_unites_18 ?_
  replace h := grd_some h
  obtain ⟨z7, h⟩ := h
  replace h := grd_some h
  obtain ⟨c8, h⟩ := h
  refine V_iast hM.c z7 c8 hM.a dX11_unites_19 ?_
  refine V_aload_n hM.c 0 dX11_unites_20 rfl rfl ?_
  replace h := drf_some h
  obtain ⟨b9, e10, h⟩ := h
  refine G9_19 hM.c tw_126 hz0 e10 dX11_unites_21 ?_
  refine V_aload_n hM.c 0 dX11_unites_24 rfl rfl ?_
  refine G9_24 hM.c tw_471 hz0 dX11_unites_25 ?_
  refine V_iconst (v := 0) hM.c dX11_unites_28 (by decide) ?_
  replace h := grd_some h
  obtain ⟨z11, h⟩ := h
  replace h := grd_some h
  obtain ⟨c12, h⟩ := h
  refine V_iast hM.c z11 c12 hM.a dX11_unites_29 ?_
  refine V_aload_n hM.c 0 dX11_unites_30 rfl rfl ?_
  refine G9_24 hM.c tw_471 hz0 dX11_unites_31 ?_
  refine V_iconst (v := 2) hM.c dX11_unites_34 (by decide) ?_
  refine V_isub hM.c dX11_unites_35 ?_
  refine V_istore_n (i := 1) (L' := [(1, .int ((gI (sI (sI g b1 (gI g a 24).toNatClampNeg (gI g b3 ((gI g a 24) - (2 : Int32)).toNatClampNeg)) b9 (gI (sI g b1 (gI g a 24).toNatClampNeg (gI g b3 ((gI g a 24) - (2 : Int32)).toNatClampNeg)) a 24).toNatClampNeg (0 : Int32)) a 24) - (2 : Int32))), (0, va_rf (some a))]) hM.c dX11_unites_36 rfl (by decide) rfl ?_
  refine V_sub [1, 0] rfl ?_
  exact vl_X11_unites_l37 hM hz0  _ _ _ h
def f_X11_works_l131 (n : Nat) (Z : Zt) (a : Nat) (g : Mem) : Option (Int32 × Mem) := if (gI g a 25) = 0 then (some ((1 : Int32), g)) else (some ((0 : Int32), g))
set_option maxHeartbeats 4000000 in
set_option maxRecDepth 100000 in
theorem vl_X11_works_l131 {x : Cq} {n : Nat} {Z : Zt} {a : Nat} {g : Mem} {rr : Int32} {gg : Mem} (hM : Cm x cX11_works RX11 2 (some .boolean) 4 Z (some (.int rr)) gg) (hz0 : zk Z a = 10) (h : f_X11_works_l131 n Z a  g = some (rr, gg)) : V x Z 0 0 131 [(0, va_rf (some a))] [] g := by
  unfold f_X11_works_l131 at h
  refine V_aload_n hM.c 0 dX11_works_131 rfl rfl ?_
  refine G9_25 hM.c tw_472 hz0 dX11_works_132 ?_
  refine V_if_ne hM.c 142 dX11_works_135 (by decide) (fun c34 => ?_) (fun c34 => ?_)
  · replace h := ite_n h c34
    refine V_iconst (v := 0) hM.c dX11_works_142 (by decide) ?_
    exact V_zretE hM (isz_nar (by decide)) h dX11_works_143
  · replace h := ite_p h c34
    refine V_iconst (v := 1) hM.c dX11_works_138 (by decide) ?_
    refine V_goto hM.c 143 dX11_works_139 (by decide) ?_
    exact V_zretE hM (isz_nar (by decide)) h dX11_works_143
def f_X11_works_l12 (n : Nat) (Z : Zt) (a : Nat) : Nat → Int32 → Mem → Option (Int32 × Mem)
  | 0, _, _ => none
  | fu + 1, x1, g => if (gI g a 12) ≤ x1 then (f_X11_works_l131 n Z a g) else (if (gI g a 25) = 0 then (drf (zf Z a 9) (fun b3 => grd (zk Z b3 = 12) (grd (inr x1 (zl Z b3)) (if (gI g b3 x1.toNatClampNeg) = 61 then (bnd (f_X11_selects n Z a x1 g) (fun r12 g13 => f_X11_works_l12 n Z a fu (x1 + 1) g13)) else (if (gI g b3 x1.toNatClampNeg) = 65 then (drf (zf Z a 10) (fun b15 => grd (zk Z b15 = 12) (grd (inr x1 (zl Z b15)) (bnd (f_X11_pilesTable n Z a (gI g b15 x1.toNatClampNeg) g) (fun r19 g20 => f_X11_works_l12 n Z a fu (x1 + 1) g20))))) else (if (gI g b3 x1.toNatClampNeg) = 106 then (bnd (f_X11_joins n Z a x1 g) (fun r22 g23 => f_X11_works_l12 n Z a fu (x1 + 1) g23)) else (if (gI g b3 x1.toNatClampNeg) = 112 then (bnd (f_X11_projects n Z a x1 g) (fun r25 g26 => f_X11_works_l12 n Z a fu (x1 + 1) g26)) else (if (gI g b3 x1.toNatClampNeg) = 126 then (bnd (f_X11_selects n Z a x1 g) (fun r28 g29 => f_X11_works_l12 n Z a fu (x1 + 1) g29)) else (bnd (f_X11_unites n Z a g) (fun r31 g32 => f_X11_works_l12 n Z a fu (x1 + 1) g32)))))))))) else (f_X11_works_l131 n Z a g))
set_option maxHeartbeats 4000000 in
set_option maxRecDepth 100000 in
theorem vl_X11_works_l12 {x : Cq} {n : Nat} {Z : Zt} {a : Nat} {rr : Int32} {gg : Mem} (hM : Cm x cX11_works RX11 2 (some .boolean) 4 Z (some (.int rr)) gg) (hz0 : zk Z a = 10) : ∀ (fu : Nat) (x1 : Int32) (g : Mem), f_X11_works_l12 n Z a fu x1 g = some (rr, gg) → V x Z 0 0 12 [(0, va_rf (some a)), (1, .int x1)] [] g := by
  intro fu
  induction fu with
  | zero => intro x1 g h; cases h
  | succ fu ih =>
    intro x1 g h
    unfold f_X11_works_l12 at h
    refine V_iload_n hM.c 1 dX11_works_12 rfl rfl ?_
    refine V_aload_n hM.c 0 dX11_works_13 rfl rfl ?_
    refine G9_12 hM.c tw_429 hz0 dX11_works_14 ?_
    refine V_icmp_ge hM.c 131 dX11_works_17 (by decide) (fun c1 => ?_) (fun c1 => ?_)
    · replace h := ite_p h c1
      refine V_sub [0] rfl ?_
      exact vl_X11_works_l131 hM hz0  h
    · replace h := ite_n h c1
      refine V_aload_n hM.c 0 dX11_works_20 rfl rfl ?_
      refine G9_25 hM.c tw_472 hz0 dX11_works_21 ?_
      refine V_if_ne hM.c 131 dX11_works_24 (by decide) (fun c2 => ?_) (fun c2 => ?_)
      · replace h := ite_n h c2
        refine V_sub [0] rfl ?_
        exact vl_X11_works_l131 hM hz0  h
      · replace h := ite_p h c2
        refine V_aload_n hM.c 0 dX11_works_27 rfl rfl ?_
        replace h := drf_some h
        obtain ⟨b3, e4, h⟩ := h
        refine G9_9 hM.c tw_118 hz0 e4 dX11_works_28 ?_
        refine V_iload_n hM.c 1 dX11_works_31 rfl rfl ?_
        replace h := grd_some h
        obtain ⟨z5, h⟩ := h
        replace h := grd_some h
        obtain ⟨c6, h⟩ := h
        refine V_iald hM.c z5 c6 dX11_works_32 ?_
        by_cases c7 : (gI g b3 x1.toNatClampNeg) = 61
        · replace h := ite_p h c7
          refine V_lookK (off := 64) hM.c 97 c7 dX11_works_33 (by decide) (by decide +kernel) (by decide) ?_
          refine V_aload_n hM.c 0 dX11_works_97 rfl rfl ?_
          refine V_iload_n hM.c 1 dX11_works_98 rfl rfl ?_
          replace h := bnd_some h
          obtain ⟨r12, g13, e14, h⟩ := h
          refine V_callV (As := [.int x1]) (c := 9) (T := TX11) (N := 32) hM.c hM.a mq_X11_selects mi_X11_selects tw_493 (hM.d (by decide)) hM.z rfl (by omega) (zc_X11_selects e14) (vm_X11_selects e14) rfl (Nat.le_of_ble_eq_true rfl) dX11_works_99 ?_
          refine V_goto hM.c 125 dX11_works_102 (by decide) ?_
          refine V_iinc (v := (x1 + 1)) (L' := [(1, .int (x1 + 1)), (0, va_rf (some a))]) hM.c 1 dX11_works_125 rfl rfl (by decide) rfl ?_
          refine V_goto hM.c 12 dX11_works_128 (by decide) ?_
          refine V_sub [1, 0] rfl ?_
          exact ih _ _ h
        replace h := ite_n h c7
        by_cases c8 : (gI g b3 x1.toNatClampNeg) = 65
        · replace h := ite_p h c8
          refine V_lookK (off := 51) hM.c 84 c8 dX11_works_33 (by decide) (by decide +kernel) (by decide) ?_
          refine V_aload_n hM.c 0 dX11_works_84 rfl rfl ?_
          refine V_aload_n hM.c 0 dX11_works_85 rfl rfl ?_
          replace h := drf_some h
          obtain ⟨b15, e16, h⟩ := h
          refine G9_10 hM.c tw_119 hz0 e16 dX11_works_86 ?_
          refine V_iload_n hM.c 1 dX11_works_89 rfl rfl ?_
          replace h := grd_some h
          obtain ⟨z17, h⟩ := h
          replace h := grd_some h
          obtain ⟨c18, h⟩ := h
          refine V_iald hM.c z17 c18 dX11_works_90 ?_
          replace h := bnd_some h
          obtain ⟨r19, g20, e21, h⟩ := h
          refine V_callV (As := [.int (gI g b15 x1.toNatClampNeg)]) (c := 9) (T := TX11) (N := 32) hM.c hM.a mq_X11_pilesTable mi_X11_pilesTable tw_473 (hM.d (by decide)) hM.z rfl (by omega) (zc_X11_pilesTable e21) (vm_X11_pilesTable e21) rfl (Nat.le_of_ble_eq_true rfl) dX11_works_91 ?_
          refine V_goto hM.c 125 dX11_works_94 (by decide) ?_
          refine V_iinc (v := (x1 + 1)) (L' := [(1, .int (x1 + 1)), (0, va_rf (some a))]) hM.c 1 dX11_works_125 rfl rfl (by decide) rfl ?_
          refine V_goto hM.c 12 dX11_works_128 (by decide) ?_
          refine V_sub [1, 0] rfl ?_
          exact ih _ _ h
        replace h := ite_n h c8
        by_cases c9 : (gI g b3 x1.toNatClampNeg) = 106
        · replace h := ite_p h c9
          refine V_lookK (off := 80) hM.c 113 c9 dX11_works_33 (by decide) (by decide +kernel) (by decide) ?_
          refine V_aload_n hM.c 0 dX11_works_113 rfl rfl ?_
          refine V_iload_n hM.c 1 dX11_works_114 rfl rfl ?_
          replace h := bnd_some h
          obtain ⟨r22, g23, e24, h⟩ := h
          refine V_callV (As := [.int x1]) (c := 9) (T := TX11) (N := 32) hM.c hM.a mq_X11_joins mi_X11_joins tw_515 (hM.d (by decide)) hM.z rfl (by omega) (zc_X11_joins e24) (vm_X11_joins e24) rfl (Nat.le_of_ble_eq_true rfl) dX11_works_115 ?_
          refine V_goto hM.c 125 dX11_works_118 (by decide) ?_
          refine V_iinc (v := (x1 + 1)) (L' := [(1, .int (x1 + 1)), (0, va_rf (some a))]) hM.c 1 dX11_works_125 rfl rfl (by decide) rfl ?_
          refine V_goto hM.c 12 dX11_works_128 (by decide) ?_
          refine V_sub [1, 0] rfl ?_
          exact ih _ _ h
        replace h := ite_n h c9
        by_cases c10 : (gI g b3 x1.toNatClampNeg) = 112
        · replace h := ite_p h c10
          refine V_lookK (off := 72) hM.c 105 c10 dX11_works_33 (by decide) (by decide +kernel) (by decide) ?_
          refine V_aload_n hM.c 0 dX11_works_105 rfl rfl ?_
          refine V_iload_n hM.c 1 dX11_works_106 rfl rfl ?_
          replace h := bnd_some h
          obtain ⟨r25, g26, e27, h⟩ := h
          refine V_callV (As := [.int x1]) (c := 9) (T := TX11) (N := 32) hM.c hM.a mq_X11_projects mi_X11_projects tw_508 (hM.d (by decide)) hM.z rfl (by omega) (zc_X11_projects e27) (vm_X11_projects e27) rfl (Nat.le_of_ble_eq_true rfl) dX11_works_107 ?_
          refine V_goto hM.c 125 dX11_works_110 (by decide) ?_
          refine V_iinc (v := (x1 + 1)) (L' := [(1, .int (x1 + 1)), (0, va_rf (some a))]) hM.c 1 dX11_works_125 rfl rfl (by decide) rfl ?_
          refine V_goto hM.c 12 dX11_works_128 (by decide) ?_
          refine V_sub [1, 0] rfl ?_
          exact ih _ _ h
        replace h := ite_n h c10
        by_cases c11 : (gI g b3 x1.toNatClampNeg) = 126
        · replace h := ite_p h c11
          refine V_lookK (off := 64) hM.c 97 c11 dX11_works_33 (by decide) (by decide +kernel) (by decide) ?_
          refine V_aload_n hM.c 0 dX11_works_97 rfl rfl ?_
          refine V_iload_n hM.c 1 dX11_works_98 rfl rfl ?_
          replace h := bnd_some h
          obtain ⟨r28, g29, e30, h⟩ := h
          refine V_callV (As := [.int x1]) (c := 9) (T := TX11) (N := 32) hM.c hM.a mq_X11_selects mi_X11_selects tw_493 (hM.d (by decide)) hM.z rfl (by omega) (zc_X11_selects e30) (vm_X11_selects e30) rfl (Nat.le_of_ble_eq_true rfl) dX11_works_99 ?_
          refine V_goto hM.c 125 dX11_works_102 (by decide) ?_
          refine V_iinc (v := (x1 + 1)) (L' := [(1, .int (x1 + 1)), (0, va_rf (some a))]) hM.c 1 dX11_works_125 rfl rfl (by decide) rfl ?_
          refine V_goto hM.c 12 dX11_works_128 (by decide) ?_
          refine V_sub [1, 0] rfl ?_
          exact ih _ _ h
        replace h := ite_n h c11
        refine V_lookD hM.c 121 dX11_works_33 (by decide) ((lv_osw c7 (by decide)).trans ((lv_osw c8 (by decide)).trans ((lv_osw c9 (by decide)).trans ((lv_osw c10 (by decide)).trans ((lv_osw c11 (by decide)).trans (rfl)))))) (by decide) ?_
        refine V_aload_n hM.c 0 dX11_works_121 rfl rfl ?_
        replace h := bnd_some h
        obtain ⟨r31, g32, e33, h⟩ := h
        refine V_callV (As := []) (c := 9) (T := TX11) (N := 32) hM.c hM.a mq_X11_unites mi_X11_unites tw_523 (hM.d (by decide)) hM.z rfl (by omega) (zc_X11_unites e33) (vm_X11_unites e33) rfl (Nat.le_of_ble_eq_true rfl) dX11_works_122 ?_
        refine V_iinc (v := (x1 + 1)) (L' := [(1, .int (x1 + 1)), (0, va_rf (some a))]) hM.c 1 dX11_works_125 rfl rfl (by decide) rfl ?_
        refine V_goto hM.c 12 dX11_works_128 (by decide) ?_
        refine V_sub [1, 0] rfl ?_
        exact ih _ _ h
def f_X11_works (n : Nat) (Z : Zt) (a : Nat) (g : Mem) : Option (Int32 × Mem) := grd (zk Z a = 10) (f_X11_works_l12 n Z a n (0 : Int32) (sI (sI g a 24 (0 : Int32)) a 25 (0 : Int32)))
theorem mq_X11_works : Mq yX11_works cX11_works 2 (some .boolean) 0 := ⟨tw_470, tw_5, ⟨by decide +kernel, by decide +kernel, by decide +kernel⟩, by decide⟩
theorem mi_X11_works : Cond.instanceMethod yX11_works ∈ TB ∧ Cond.selects yX11_works.cls yX11_works yX11_works ∈ TB := ⟨tw_468, tw_469⟩
theorem zc_X11_works {n : Nat} {Z : Zt} {a : Nat} {g : Mem} {q : Int32 × Mem} (h : f_X11_works n Z a g = some q) : zk Z a = 10 := (grd_some h).1
set_option maxHeartbeats 4000000 in
set_option maxRecDepth 100000 in
theorem vm_X11_works {n : Nat} {Z : Zt} {a : Nat} {g : Mem} {rr : Int32} {gg : Mem} (h : f_X11_works n Z a g = some (rr, gg)) : VM yX11_works cX11_works 2 (some .boolean) 4 [.ref a] Z g (some (.int rr)) gg := by
  unfold f_X11_works at h
  replace h := grd_some h
  obtain ⟨hz0, h⟩ := h
  refine VM.of (by decide +kernel) (Nat.le_of_ble_eq_true rfl) (fun x hM => ?_)
  have hM : Cm x cX11_works RX11 2 (some .boolean) 4 Z (some (.int rr)) gg := hM
  show V x Z 0 0 0 [(0, va_rf (some a))] [] g
  refine V_aload_n hM.c 0 dX11_works_0 rfl rfl ?_
  refine V_iconst (v := 0) hM.c dX11_works_1 (by decide) ?_
  refine P9_24 hM.c tw_471 hz0 hM.a dX11_works_2 ?_
  refine V_aload_n hM.c 0 dX11_works_5 rfl rfl ?_
  refine V_iconst (v := 0) hM.c dX11_works_6 (by decide) ?_
  refine P9_25 hM.c tw_472 hz0 (by decide) hM.a dX11_works_7 ?_
  refine V_iconst (v := 0) hM.c dX11_works_10 (by decide) ?_
  refine V_istore_n (i := 1) (L' := [(1, .int (0 : Int32)), (0, va_rf (some a))]) hM.c dX11_works_11 rfl (by decide) rfl ?_
  refine V_sub [1, 0] rfl ?_
  exact vl_X11_works_l12 hM hz0  _ _ _ h
def f_X11_laysAnswer (n : Nat) (Z : Zt) (a : Nat) (g : Mem) : Option (Unit × Mem) := grd (zk Z a = 10) (if (gI g a 26) = 0 then (drf (zf Z a 19) (fun b2 => grd (zk Z b2 = 12) (grd (inr (0 : Int32) (zl Z b2)) (drf (zf Z a 18) (fun b6 => grd (zk Z b6 = 12) (grd (inr (0 : Int32) (zl Z b6)) (drf (zf Z a 0) (fun b10 => grd (zk Z b10 = 12) (grd (inr (84 : Int32) (zl Z b10)) (if (gI (sI (sI (sI g a 26 (1 : Int32)) b2 (0 : Int32).toNatClampNeg (0 : Int32)) b6 (0 : Int32).toNatClampNeg (0 : Int32)) b10 (84 : Int32).toNatClampNeg) ≤ 0 then (some ((), (sI (sI (sI g a 26 (1 : Int32)) b2 (0 : Int32).toNatClampNeg (0 : Int32)) b6 (0 : Int32).toNatClampNeg (0 : Int32)))) else (bnd (f_X11_takesQuery n Z a (sI (sI (sI g a 26 (1 : Int32)) b2 (0 : Int32).toNatClampNeg (0 : Int32)) b6 (0 : Int32).toNatClampNeg (0 : Int32))) (fun r15 g16 => bnd (f_X11_reads n Z a g16) (fun r18 g19 => if r18 = 0 then (some ((), g19)) else (bnd (f_X11_works n Z a g19) (fun r22 g23 => if r22 = 0 then (some ((), g23)) else (some ((), g23))))))))))))))))) else (some ((), g)))
theorem mq_X11_laysAnswer : Mq yX11_laysAnswer cX11_laysAnswer 2 none 0 := ⟨tw_650, tw_5, ⟨by decide +kernel, by decide +kernel, by decide +kernel⟩, by decide⟩
theorem mi_X11_laysAnswer : Cond.instanceMethod yX11_laysAnswer ∈ TB ∧ Cond.selects yX11_laysAnswer.cls yX11_laysAnswer yX11_laysAnswer ∈ TB := ⟨tw_648, tw_649⟩
theorem zc_X11_laysAnswer {n : Nat} {Z : Zt} {a : Nat} {g : Mem} {q : Unit × Mem} (h : f_X11_laysAnswer n Z a g = some q) : zk Z a = 10 := (grd_some h).1
set_option maxHeartbeats 4000000 in
set_option maxRecDepth 100000 in
theorem vm_X11_laysAnswer {n : Nat} {Z : Zt} {a : Nat} {g : Mem} {rr : Unit} {gg : Mem} (h : f_X11_laysAnswer n Z a g = some (rr, gg)) : VM yX11_laysAnswer cX11_laysAnswer 2 none 5 [.ref a] Z g none gg := by
  unfold f_X11_laysAnswer at h
  replace h := grd_some h
  obtain ⟨hz0, h⟩ := h
  refine VM.of (by decide +kernel) (Nat.le_of_ble_eq_true rfl) (fun x hM => ?_)
  have hM : Cm x cX11_laysAnswer RX11 2 none 5 Z none gg := hM
  show V x Z 0 0 0 [(0, va_rf (some a))] [] g
  refine V_aload_n hM.c 0 dX11_laysAnswer_0 rfl rfl ?_
  refine G9_26 hM.c tw_232 hz0 dX11_laysAnswer_1 ?_
  refine V_if_eq hM.c 8 dX11_laysAnswer_4 (by decide) (fun c1 => ?_) (fun c1 => ?_)
  · replace h := ite_p h c1
    refine V_aload_n hM.c 0 dX11_laysAnswer_8 rfl rfl ?_
    refine V_iconst (v := 1) hM.c dX11_laysAnswer_9 (by decide) ?_
    refine P9_26 hM.c tw_232 hz0 (by decide) hM.a dX11_laysAnswer_10 ?_
    refine V_aload_n hM.c 0 dX11_laysAnswer_13 rfl rfl ?_
    replace h := drf_some h
    obtain ⟨b2, e3, h⟩ := h
    refine G9_19 hM.c tw_126 hz0 e3 dX11_laysAnswer_14 ?_
    refine V_iconst (v := 0) hM.c dX11_laysAnswer_17 (by decide) ?_
    refine V_iconst (v := 0) hM.c dX11_laysAnswer_18 (by decide) ?_
    replace h := grd_some h
    obtain ⟨z4, h⟩ := h
    replace h := grd_some h
    obtain ⟨c5, h⟩ := h
    refine V_iast hM.c z4 c5 hM.a dX11_laysAnswer_19 ?_
    refine V_aload_n hM.c 0 dX11_laysAnswer_20 rfl rfl ?_
    replace h := drf_some h
    obtain ⟨b6, e7, h⟩ := h
    refine G9_18 hM.c tw_125 hz0 e7 dX11_laysAnswer_21 ?_
    refine V_iconst (v := 0) hM.c dX11_laysAnswer_24 (by decide) ?_
    refine V_iconst (v := 0) hM.c dX11_laysAnswer_25 (by decide) ?_
    replace h := grd_some h
    obtain ⟨z8, h⟩ := h
    replace h := grd_some h
    obtain ⟨c9, h⟩ := h
    refine V_iast hM.c z8 c9 hM.a dX11_laysAnswer_26 ?_
    refine V_aload_n hM.c 0 dX11_laysAnswer_27 rfl rfl ?_
    replace h := drf_some h
    obtain ⟨b10, e11, h⟩ := h
    refine G9_0 hM.c tw_114 hz0 e11 dX11_laysAnswer_28 ?_
    refine V_bipush (v := 84) hM.c dX11_laysAnswer_31 (by decide) ?_
    replace h := grd_some h
    obtain ⟨z12, h⟩ := h
    replace h := grd_some h
    obtain ⟨c13, h⟩ := h
    refine V_iald hM.c z12 c13 dX11_laysAnswer_33 ?_
    refine V_if_le hM.c 61 dX11_laysAnswer_34 (by decide) (fun c14 => ?_) (fun c14 => ?_)
    · replace h := ite_p h c14
      exact V_vretE hM h dX11_laysAnswer_61
    · replace h := ite_n h c14
      refine V_aload_n hM.c 0 dX11_laysAnswer_37 rfl rfl ?_
      replace h := bnd_some h
      obtain ⟨r15, g16, e17, h⟩ := h
      refine V_callV (As := []) (c := 9) (T := TX11) (N := 32) hM.c hM.a mq_X11_takesQuery mi_X11_takesQuery tw_418 (hM.d (by decide)) hM.z rfl (by omega) (zc_X11_takesQuery e17) (vm_X11_takesQuery e17) rfl (Nat.le_of_ble_eq_true rfl) dX11_laysAnswer_38 ?_
      refine V_aload_n hM.c 0 dX11_laysAnswer_41 rfl rfl ?_
      replace h := bnd_some h
      obtain ⟨r18, g19, e20, h⟩ := h
      refine V_callV (As := []) (c := 9) (T := TX11) (N := 32) hM.c hM.a mq_X11_reads mi_X11_reads tw_423 (hM.d (by decide)) hM.z rfl (by omega) (zc_X11_reads e20) (vm_X11_reads e20) rfl (Nat.le_of_ble_eq_true rfl) dX11_laysAnswer_42 ?_
      refine V_if_eq hM.c 59 dX11_laysAnswer_45 (by decide) (fun c21 => ?_) (fun c21 => ?_)
      · replace h := ite_p h c21
        refine V_iconst (v := 0) hM.c dX11_laysAnswer_59 (by decide) ?_
        refine V_istore_n (i := 1) (L' := [(1, .int (0 : Int32)), (0, va_rf (some a))]) hM.c dX11_laysAnswer_60 rfl (by decide) rfl ?_
        exact V_vretE hM h dX11_laysAnswer_61
      · replace h := ite_n h c21
        refine V_aload_n hM.c 0 dX11_laysAnswer_48 rfl rfl ?_
        replace h := bnd_some h
        obtain ⟨r22, g23, e24, h⟩ := h
        refine V_callV (As := []) (c := 9) (T := TX11) (N := 32) hM.c hM.a mq_X11_works mi_X11_works tw_467 (hM.d (by decide)) hM.z rfl (by omega) (zc_X11_works e24) (vm_X11_works e24) rfl (Nat.le_of_ble_eq_true rfl) dX11_laysAnswer_49 ?_
        refine V_if_eq hM.c 59 dX11_laysAnswer_52 (by decide) (fun c25 => ?_) (fun c25 => ?_)
        · replace h := ite_p h c25
          refine V_iconst (v := 0) hM.c dX11_laysAnswer_59 (by decide) ?_
          refine V_istore_n (i := 1) (L' := [(1, .int (0 : Int32)), (0, va_rf (some a))]) hM.c dX11_laysAnswer_60 rfl (by decide) rfl ?_
          exact V_vretE hM h dX11_laysAnswer_61
        · replace h := ite_n h c25
          refine V_iconst (v := 1) hM.c dX11_laysAnswer_55 (by decide) ?_
          refine V_goto hM.c 60 dX11_laysAnswer_56 (by decide) ?_
          refine V_istore_n (i := 1) (L' := [(1, .int (1 : Int32)), (0, va_rf (some a))]) hM.c dX11_laysAnswer_60 rfl (by decide) rfl ?_
          exact V_vretE hM h dX11_laysAnswer_61
  · replace h := ite_n h c1
    exact V_vretE hM h dX11_laysAnswer_7
def f_X11_isPossible (n : Nat) (Z : Zt) (a : Nat) (g : Mem) : Option (Int32 × Mem) := grd (zk Z a = 10) (drf (zf Z a 0) (fun b1 => grd (zk Z b1 = 12) (grd (inr (84 : Int32) (zl Z b1)) (if (gI g b1 (84 : Int32).toNatClampNeg) = 0 then (some ((1 : Int32), g)) else (bnd (f_X11_takesQuery n Z a g) (fun r6 g7 => bnd (f_X11_reads n Z a (sI g7 a 26 (0 : Int32))) (fun r9 g10 => if r9 = 0 then (some ((0 : Int32), g10)) else (bnd (f_X11_works n Z a g10) (fun r13 g14 => if r13 = 0 then (some ((0 : Int32), g14)) else (some ((1 : Int32), g14)))))))))))
theorem mq_X11_isPossible : Mq yX11_isPossible cX11_isPossible 1 (some .boolean) 0 := ⟨tw_417, tw_5, ⟨by decide +kernel, by decide +kernel, by decide +kernel⟩, by decide⟩
theorem mi_X11_isPossible : Cond.instanceMethod yX11_isPossible ∈ TB ∧ Cond.selects yX11_isPossible.cls yX11_isPossible yX11_isPossible ∈ TB := ⟨tw_415, tw_416⟩
theorem zc_X11_isPossible {n : Nat} {Z : Zt} {a : Nat} {g : Mem} {q : Int32 × Mem} (h : f_X11_isPossible n Z a g = some q) : zk Z a = 10 := (grd_some h).1
set_option maxHeartbeats 4000000 in
set_option maxRecDepth 100000 in
theorem vm_X11_isPossible {n : Nat} {Z : Zt} {a : Nat} {g : Mem} {rr : Int32} {gg : Mem} (h : f_X11_isPossible n Z a g = some (rr, gg)) : VM yX11_isPossible cX11_isPossible 1 (some .boolean) 5 [.ref a] Z g (some (.int rr)) gg := by
  unfold f_X11_isPossible at h
  replace h := grd_some h
  obtain ⟨hz0, h⟩ := h
  refine VM.of (by decide +kernel) (Nat.le_of_ble_eq_true rfl) (fun x hM => ?_)
  have hM : Cm x cX11_isPossible RX11 1 (some .boolean) 5 Z (some (.int rr)) gg := hM
  show V x Z 0 0 0 [(0, va_rf (some a))] [] g
  refine V_aload_n hM.c 0 dX11_isPossible_0 rfl rfl ?_
  replace h := drf_some h
  obtain ⟨b1, e2, h⟩ := h
  refine G9_0 hM.c tw_114 hz0 e2 dX11_isPossible_1 ?_
  refine V_bipush (v := 84) hM.c dX11_isPossible_4 (by decide) ?_
  replace h := grd_some h
  obtain ⟨z3, h⟩ := h
  replace h := grd_some h
  obtain ⟨c4, h⟩ := h
  refine V_iald hM.c z3 c4 dX11_isPossible_6 ?_
  refine V_if_ne hM.c 12 dX11_isPossible_7 (by decide) (fun c5 => ?_) (fun c5 => ?_)
  · replace h := ite_n h c5
    refine V_aload_n hM.c 0 dX11_isPossible_12 rfl rfl ?_
    replace h := bnd_some h
    obtain ⟨r6, g7, e8, h⟩ := h
    refine V_callV (As := []) (c := 9) (T := TX11) (N := 32) hM.c hM.a mq_X11_takesQuery mi_X11_takesQuery tw_418 (hM.d (by decide)) hM.z rfl (by omega) (zc_X11_takesQuery e8) (vm_X11_takesQuery e8) rfl (Nat.le_of_ble_eq_true rfl) dX11_isPossible_13 ?_
    refine V_aload_n hM.c 0 dX11_isPossible_16 rfl rfl ?_
    refine V_iconst (v := 0) hM.c dX11_isPossible_17 (by decide) ?_
    refine P9_26 hM.c tw_232 hz0 (by decide) hM.a dX11_isPossible_18 ?_
    refine V_aload_n hM.c 0 dX11_isPossible_21 rfl rfl ?_
    replace h := bnd_some h
    obtain ⟨r9, g10, e11, h⟩ := h
    refine V_callV (As := []) (c := 9) (T := TX11) (N := 32) hM.c hM.a mq_X11_reads mi_X11_reads tw_423 (hM.d (by decide)) hM.z rfl (by omega) (zc_X11_reads e11) (vm_X11_reads e11) rfl (Nat.le_of_ble_eq_true rfl) dX11_isPossible_22 ?_
    refine V_if_eq hM.c 39 dX11_isPossible_25 (by decide) (fun c12 => ?_) (fun c12 => ?_)
    · replace h := ite_p h c12
      refine V_iconst (v := 0) hM.c dX11_isPossible_39 (by decide) ?_
      exact V_zretE hM (isz_nar (by decide)) h dX11_isPossible_40
    · replace h := ite_n h c12
      refine V_aload_n hM.c 0 dX11_isPossible_28 rfl rfl ?_
      replace h := bnd_some h
      obtain ⟨r13, g14, e15, h⟩ := h
      refine V_callV (As := []) (c := 9) (T := TX11) (N := 32) hM.c hM.a mq_X11_works mi_X11_works tw_467 (hM.d (by decide)) hM.z rfl (by omega) (zc_X11_works e15) (vm_X11_works e15) rfl (Nat.le_of_ble_eq_true rfl) dX11_isPossible_29 ?_
      refine V_if_eq hM.c 39 dX11_isPossible_32 (by decide) (fun c16 => ?_) (fun c16 => ?_)
      · replace h := ite_p h c16
        refine V_iconst (v := 0) hM.c dX11_isPossible_39 (by decide) ?_
        exact V_zretE hM (isz_nar (by decide)) h dX11_isPossible_40
      · replace h := ite_n h c16
        refine V_iconst (v := 1) hM.c dX11_isPossible_35 (by decide) ?_
        refine V_goto hM.c 40 dX11_isPossible_36 (by decide) ?_
        exact V_zretE hM (isz_nar (by decide)) h dX11_isPossible_40
  · replace h := ite_p h c5
    refine V_iconst (v := 1) hM.c dX11_isPossible_10 (by decide) ?_
    exact V_zretE hM (isz_nar (by decide)) h dX11_isPossible_11
def f_X11_hasRows_l4 (n : Nat) (Z : Zt) (a : Nat) : Nat → Int32 → Int32 → Int32 → Mem → Option (Int32 × Mem)
  | 0, _, _, _, _ => none
  | fu + 1, x1, x2, x3, g => if (16 : Int32) ≤ x3 then (grd (isz x2) (some (x2, g))) else (if x2 = 0 then (bnd (f_X11_of n Z a x3 (0 : Int32) g) (fun r4 g5 => if r4 = (x1 + (1 : Int32)) then (f_X11_hasRows_l4 n Z a fu x1 (1 : Int32) (x3 + 1) g5) else (f_X11_hasRows_l4 n Z a fu x1 (0 : Int32) (x3 + 1) g5))) else (f_X11_hasRows_l4 n Z a fu x1 (1 : Int32) (x3 + 1) g))
set_option maxHeartbeats 4000000 in
set_option maxRecDepth 100000 in
theorem vl_X11_hasRows_l4 {x : Cq} {n : Nat} {Z : Zt} {a : Nat} {rr : Int32} {gg : Mem} (hM : Cm x cX11_hasRows RX11 4 (some .boolean) 1 Z (some (.int rr)) gg) (hz0 : zk Z a = 10) : ∀ (fu : Nat) (x1 : Int32) (x2 : Int32) (x3 : Int32) (g : Mem), f_X11_hasRows_l4 n Z a fu x1 x2 x3 g = some (rr, gg) → V x Z 0 0 4 [(0, va_rf (some a)), (1, .int x1), (2, .int x2), (3, .int x3)] [] g := by
  intro fu
  induction fu with
  | zero => intro x1 x2 x3 g h; cases h
  | succ fu ih =>
    intro x1 x2 x3 g h
    unfold f_X11_hasRows_l4 at h
    refine V_iload_n hM.c 3 dX11_hasRows_4 rfl rfl ?_
    refine V_bipush (v := 16) hM.c dX11_hasRows_5 (by decide) ?_
    refine V_icmp_ge hM.c 38 dX11_hasRows_7 (by decide) (fun c1 => ?_) (fun c1 => ?_)
    · replace h := ite_p h c1
      refine V_iload_n hM.c 2 dX11_hasRows_38 rfl rfl ?_
      replace h := grd_some h
      obtain ⟨c2, h⟩ := h
      exact V_zretE hM (isz_nar c2) h dX11_hasRows_39
    · replace h := ite_n h c1
      refine V_iload_n hM.c 2 dX11_hasRows_10 rfl rfl ?_
      refine V_if_ne hM.c 26 dX11_hasRows_11 (by decide) (fun c3 => ?_) (fun c3 => ?_)
      · replace h := ite_n h c3
        refine V_iconst (v := 1) hM.c dX11_hasRows_26 (by decide) ?_
        refine V_goto hM.c 31 dX11_hasRows_27 (by decide) ?_
        refine V_istore_n (i := 2) (L' := [(2, .int (1 : Int32)), (0, va_rf (some a)), (1, .int x1), (3, .int x3)]) hM.c dX11_hasRows_31 rfl (by decide) rfl ?_
        refine V_iinc (v := (x3 + 1)) (L' := [(3, .int (x3 + 1)), (2, .int (1 : Int32)), (0, va_rf (some a)), (1, .int x1)]) hM.c 3 dX11_hasRows_32 rfl rfl (by decide) rfl ?_
        refine V_goto hM.c 4 dX11_hasRows_35 (by decide) ?_
        refine V_sub [2, 3, 1, 0] rfl ?_
        exact ih _ _ _ _ h
      · replace h := ite_p h c3
        refine V_aload_n hM.c 0 dX11_hasRows_14 rfl rfl ?_
        refine V_iload_n hM.c 3 dX11_hasRows_15 rfl rfl ?_
        refine V_iconst (v := 0) hM.c dX11_hasRows_16 (by decide) ?_
        replace h := bnd_some h
        obtain ⟨r4, g5, e6, h⟩ := h
        refine V_callV (As := [.int x3, .int (0 : Int32)]) (c := 9) (T := TX11) (N := 32) hM.c hM.a mq_X11_of mi_X11_of tw_219 (hM.d (by decide)) hM.z rfl (by omega) (zc_X11_of e6) (vm_X11_of e6) rfl (Nat.le_of_ble_eq_true rfl) dX11_hasRows_17 ?_
        refine V_iload_n hM.c 1 dX11_hasRows_20 rfl rfl ?_
        refine V_iconst (v := 1) hM.c dX11_hasRows_21 (by decide) ?_
        refine V_iadd hM.c dX11_hasRows_22 ?_
        refine V_icmp_ne hM.c 30 dX11_hasRows_23 (by decide) (fun c7 => ?_) (fun c7 => ?_)
        · replace h := ite_n h c7
          refine V_iconst (v := 0) hM.c dX11_hasRows_30 (by decide) ?_
          refine V_istore_n (i := 2) (L' := [(2, .int (0 : Int32)), (0, va_rf (some a)), (1, .int x1), (3, .int x3)]) hM.c dX11_hasRows_31 rfl (by decide) rfl ?_
          refine V_iinc (v := (x3 + 1)) (L' := [(3, .int (x3 + 1)), (2, .int (0 : Int32)), (0, va_rf (some a)), (1, .int x1)]) hM.c 3 dX11_hasRows_32 rfl rfl (by decide) rfl ?_
          refine V_goto hM.c 4 dX11_hasRows_35 (by decide) ?_
          refine V_sub [2, 3, 1, 0] rfl ?_
          exact ih _ _ _ _ h
        · replace h := ite_p h c7
          refine V_iconst (v := 1) hM.c dX11_hasRows_26 (by decide) ?_
          refine V_goto hM.c 31 dX11_hasRows_27 (by decide) ?_
          refine V_istore_n (i := 2) (L' := [(2, .int (1 : Int32)), (0, va_rf (some a)), (1, .int x1), (3, .int x3)]) hM.c dX11_hasRows_31 rfl (by decide) rfl ?_
          refine V_iinc (v := (x3 + 1)) (L' := [(3, .int (x3 + 1)), (2, .int (1 : Int32)), (0, va_rf (some a)), (1, .int x1)]) hM.c 3 dX11_hasRows_32 rfl rfl (by decide) rfl ?_
          refine V_goto hM.c 4 dX11_hasRows_35 (by decide) ?_
          refine V_sub [2, 3, 1, 0] rfl ?_
          exact ih _ _ _ _ h
def f_X11_hasRows (n : Nat) (Z : Zt) (a : Nat) (x1 : Int32) (g : Mem) : Option (Int32 × Mem) := grd (zk Z a = 10) (f_X11_hasRows_l4 n Z a n x1 (0 : Int32) (0 : Int32) g)
theorem mq_X11_hasRows : Mq yX11_hasRows cX11_hasRows 4 (some .boolean) 1 := ⟨tw_218, tw_5, ⟨by decide +kernel, by decide +kernel, by decide +kernel⟩, by decide⟩
theorem mi_X11_hasRows : Cond.instanceMethod yX11_hasRows ∈ TB ∧ Cond.selects yX11_hasRows.cls yX11_hasRows yX11_hasRows ∈ TB := ⟨tw_216, tw_217⟩
theorem zc_X11_hasRows {n : Nat} {Z : Zt} {a : Nat} {x1 : Int32} {g : Mem} {q : Int32 × Mem} (h : f_X11_hasRows n Z a x1 g = some q) : zk Z a = 10 := (grd_some h).1
set_option maxHeartbeats 4000000 in
set_option maxRecDepth 100000 in
theorem vm_X11_hasRows {n : Nat} {Z : Zt} {a : Nat} {x1 : Int32} {g : Mem} {rr : Int32} {gg : Mem} (h : f_X11_hasRows n Z a x1 g = some (rr, gg)) : VM yX11_hasRows cX11_hasRows 4 (some .boolean) 1 [.ref a, .int x1] Z g (some (.int rr)) gg := by
  unfold f_X11_hasRows at h
  replace h := grd_some h
  obtain ⟨hz0, h⟩ := h
  refine VM.of (by decide +kernel) (Nat.le_of_ble_eq_true rfl) (fun x hM => ?_)
  have hM : Cm x cX11_hasRows RX11 4 (some .boolean) 1 Z (some (.int rr)) gg := hM
  show V x Z 0 0 0 [(0, va_rf (some a)), (1, .int x1)] [] g
  refine V_iconst (v := 0) hM.c dX11_hasRows_0 (by decide) ?_
  refine V_istore_n (i := 2) (L' := [(2, .int (0 : Int32)), (0, va_rf (some a)), (1, .int x1)]) hM.c dX11_hasRows_1 rfl (by decide) rfl ?_
  refine V_iconst (v := 0) hM.c dX11_hasRows_2 (by decide) ?_
  refine V_istore_n (i := 3) (L' := [(3, .int (0 : Int32)), (2, .int (0 : Int32)), (0, va_rf (some a)), (1, .int x1)]) hM.c dX11_hasRows_3 rfl (by decide) rfl ?_
  refine V_sub [2, 3, 1, 0] rfl ?_
  exact vl_X11_hasRows_l4 hM hz0  _ _ _ _ _ h
def f_X11_occurs_l4 (n : Nat) (Z : Zt) (a : Nat) : Nat → Int32 → Int32 → Int32 → Mem → Option (Int32 × Mem)
  | 0, _, _, _, _ => none
  | fu + 1, x1, x2, x3, g => drf (zf Z a 0) (fun b1 => grd (zk Z b1 = 12) (grd (inr (84 : Int32) (zl Z b1)) (if (gI g b1 (84 : Int32).toNatClampNeg) ≤ x3 then (grd (isz x2) (some (x2, g))) else (if x2 = 0 then (drf (zf Z a 0) (fun b8 => grd (zk Z b8 = 12) (grd (inr ((85 : Int32) + x3) (zl Z b8)) (if (gI g b8 ((85 : Int32) + x3).toNatClampNeg) = ((65 : Int32) + x1) then (f_X11_occurs_l4 n Z a fu x1 (1 : Int32) (x3 + 1) g) else (f_X11_occurs_l4 n Z a fu x1 (0 : Int32) (x3 + 1) g))))) else (f_X11_occurs_l4 n Z a fu x1 (1 : Int32) (x3 + 1) g)))))
set_option maxHeartbeats 4000000 in
set_option maxRecDepth 100000 in
theorem vl_X11_occurs_l4 {x : Cq} {n : Nat} {Z : Zt} {a : Nat} {rr : Int32} {gg : Mem} (hM : Cm x cX11_occurs RX11 4 (some .boolean) 0 Z (some (.int rr)) gg) (hz0 : zk Z a = 10) : ∀ (fu : Nat) (x1 : Int32) (x2 : Int32) (x3 : Int32) (g : Mem), f_X11_occurs_l4 n Z a fu x1 x2 x3 g = some (rr, gg) → V x Z 0 0 4 [(0, va_rf (some a)), (1, .int x1), (2, .int x2), (3, .int x3)] [] g := by
  intro fu
  induction fu with
  | zero => intro x1 x2 x3 g h; cases h
  | succ fu ih =>
    intro x1 x2 x3 g h
    unfold f_X11_occurs_l4 at h
    refine V_iload_n hM.c 3 dX11_occurs_4 rfl rfl ?_
    refine V_aload_n hM.c 0 dX11_occurs_5 rfl rfl ?_
    replace h := drf_some h
    obtain ⟨b1, e2, h⟩ := h
    refine G9_0 hM.c tw_114 hz0 e2 dX11_occurs_6 ?_
    refine V_bipush (v := 84) hM.c dX11_occurs_9 (by decide) ?_
    replace h := grd_some h
    obtain ⟨z3, h⟩ := h
    replace h := grd_some h
    obtain ⟨c4, h⟩ := h
    refine V_iald hM.c z3 c4 dX11_occurs_11 ?_
    refine V_icmp_ge hM.c 47 dX11_occurs_12 (by decide) (fun c5 => ?_) (fun c5 => ?_)
    · replace h := ite_p h c5
      refine V_iload_n hM.c 2 dX11_occurs_47 rfl rfl ?_
      replace h := grd_some h
      obtain ⟨c6, h⟩ := h
      exact V_zretE hM (isz_nar c6) h dX11_occurs_48
    · replace h := ite_n h c5
      refine V_iload_n hM.c 2 dX11_occurs_15 rfl rfl ?_
      refine V_if_ne hM.c 35 dX11_occurs_16 (by decide) (fun c7 => ?_) (fun c7 => ?_)
      · replace h := ite_n h c7
        refine V_iconst (v := 1) hM.c dX11_occurs_35 (by decide) ?_
        refine V_goto hM.c 40 dX11_occurs_36 (by decide) ?_
        refine V_istore_n (i := 2) (L' := [(2, .int (1 : Int32)), (0, va_rf (some a)), (1, .int x1), (3, .int x3)]) hM.c dX11_occurs_40 rfl (by decide) rfl ?_
        refine V_iinc (v := (x3 + 1)) (L' := [(3, .int (x3 + 1)), (2, .int (1 : Int32)), (0, va_rf (some a)), (1, .int x1)]) hM.c 3 dX11_occurs_41 rfl rfl (by decide) rfl ?_
        refine V_goto hM.c 4 dX11_occurs_44 (by decide) ?_
        refine V_sub [2, 3, 1, 0] rfl ?_
        exact ih _ _ _ _ h
      · replace h := ite_p h c7
        refine V_aload_n hM.c 0 dX11_occurs_19 rfl rfl ?_
        replace h := drf_some h
        obtain ⟨b8, e9, h⟩ := h
        refine G9_0 hM.c tw_114 hz0 e9 dX11_occurs_20 ?_
        refine V_bipush (v := 85) hM.c dX11_occurs_23 (by decide) ?_
        refine V_iload_n hM.c 3 dX11_occurs_25 rfl rfl ?_
        refine V_iadd hM.c dX11_occurs_26 ?_
        replace h := grd_some h
        obtain ⟨z10, h⟩ := h
        replace h := grd_some h
        obtain ⟨c11, h⟩ := h
        refine V_iald hM.c z10 c11 dX11_occurs_27 ?_
        refine V_bipush (v := 65) hM.c dX11_occurs_28 (by decide) ?_
        refine V_iload_n hM.c 1 dX11_occurs_30 rfl rfl ?_
        refine V_iadd hM.c dX11_occurs_31 ?_
        refine V_icmp_ne hM.c 39 dX11_occurs_32 (by decide) (fun c12 => ?_) (fun c12 => ?_)
        · replace h := ite_n h c12
          refine V_iconst (v := 0) hM.c dX11_occurs_39 (by decide) ?_
          refine V_istore_n (i := 2) (L' := [(2, .int (0 : Int32)), (0, va_rf (some a)), (1, .int x1), (3, .int x3)]) hM.c dX11_occurs_40 rfl (by decide) rfl ?_
          refine V_iinc (v := (x3 + 1)) (L' := [(3, .int (x3 + 1)), (2, .int (0 : Int32)), (0, va_rf (some a)), (1, .int x1)]) hM.c 3 dX11_occurs_41 rfl rfl (by decide) rfl ?_
          refine V_goto hM.c 4 dX11_occurs_44 (by decide) ?_
          refine V_sub [2, 3, 1, 0] rfl ?_
          exact ih _ _ _ _ h
        · replace h := ite_p h c12
          refine V_iconst (v := 1) hM.c dX11_occurs_35 (by decide) ?_
          refine V_goto hM.c 40 dX11_occurs_36 (by decide) ?_
          refine V_istore_n (i := 2) (L' := [(2, .int (1 : Int32)), (0, va_rf (some a)), (1, .int x1), (3, .int x3)]) hM.c dX11_occurs_40 rfl (by decide) rfl ?_
          refine V_iinc (v := (x3 + 1)) (L' := [(3, .int (x3 + 1)), (2, .int (1 : Int32)), (0, va_rf (some a)), (1, .int x1)]) hM.c 3 dX11_occurs_41 rfl rfl (by decide) rfl ?_
          refine V_goto hM.c 4 dX11_occurs_44 (by decide) ?_
          refine V_sub [2, 3, 1, 0] rfl ?_
          exact ih _ _ _ _ h
def f_X11_occurs (n : Nat) (Z : Zt) (a : Nat) (x1 : Int32) (g : Mem) : Option (Int32 × Mem) := grd (zk Z a = 10) (f_X11_occurs_l4 n Z a n x1 (0 : Int32) (0 : Int32) g)
theorem mq_X11_occurs : Mq yX11_occurs cX11_occurs 4 (some .boolean) 1 := ⟨tw_226, tw_5, ⟨by decide +kernel, by decide +kernel, by decide +kernel⟩, by decide⟩
theorem mi_X11_occurs : Cond.instanceMethod yX11_occurs ∈ TB ∧ Cond.selects yX11_occurs.cls yX11_occurs yX11_occurs ∈ TB := ⟨tw_224, tw_225⟩
theorem zc_X11_occurs {n : Nat} {Z : Zt} {a : Nat} {x1 : Int32} {g : Mem} {q : Int32 × Mem} (h : f_X11_occurs n Z a x1 g = some q) : zk Z a = 10 := (grd_some h).1
set_option maxHeartbeats 4000000 in
set_option maxRecDepth 100000 in
theorem vm_X11_occurs {n : Nat} {Z : Zt} {a : Nat} {x1 : Int32} {g : Mem} {rr : Int32} {gg : Mem} (h : f_X11_occurs n Z a x1 g = some (rr, gg)) : VM yX11_occurs cX11_occurs 4 (some .boolean) 0 [.ref a, .int x1] Z g (some (.int rr)) gg := by
  unfold f_X11_occurs at h
  replace h := grd_some h
  obtain ⟨hz0, h⟩ := h
  refine VM.of (by decide +kernel) (Nat.le_of_ble_eq_true rfl) (fun x hM => ?_)
  have hM : Cm x cX11_occurs RX11 4 (some .boolean) 0 Z (some (.int rr)) gg := hM
  show V x Z 0 0 0 [(0, va_rf (some a)), (1, .int x1)] [] g
  refine V_iconst (v := 0) hM.c dX11_occurs_0 (by decide) ?_
  refine V_istore_n (i := 2) (L' := [(2, .int (0 : Int32)), (0, va_rf (some a)), (1, .int x1)]) hM.c dX11_occurs_1 rfl (by decide) rfl ?_
  refine V_iconst (v := 0) hM.c dX11_occurs_2 (by decide) ?_
  refine V_istore_n (i := 3) (L' := [(3, .int (0 : Int32)), (2, .int (0 : Int32)), (0, va_rf (some a)), (1, .int x1)]) hM.c dX11_occurs_3 rfl (by decide) rfl ?_
  refine V_sub [2, 3, 1, 0] rfl ?_
  exact vl_X11_occurs_l4 hM hz0  _ _ _ _ _ h
def f_X11_setColumns (n : Nat) (Z : Zt) (a : Nat) (x1 : Int32) (x2 : Int32) (g : Mem) : Option (Int32 × Mem) := grd (zk Z a = 10) (bnd (f_X11_isTable n Z x1 g) (fun r1 g2 => if r1 = 0 then (some ((-1 : Int32), g2)) else (bnd (f_X11_in n Z x2 (1 : Int32) (3 : Int32) g2) (fun r5 g6 => if r5 = 0 then (some ((-2 : Int32), g6)) else (bnd (f_X11_hasRows n Z a x1 g6) (fun r9 g10 => if r9 = 0 then (bnd (f_X11_occurs n Z a x1 g10) (fun r13 g14 => if r13 = 0 then (bnd (f_X11_records n Z a g14) (fun r17 g18 => drf (zf Z a 0) (fun b20 => grd (zk Z b20 = 12) (grd (inr x1 (zl Z b20)) (drf (zf Z a 0) (fun b24 => grd (zk Z b24 = 12) (grd (inr x1 (zl Z b24)) (some ((gI g18 b20 x1.toNatClampNeg), (sI g18 b24 x1.toNatClampNeg x2)))))))))) else (some ((-5 : Int32), g14)))) else (some ((-5 : Int32), g10))))))))
theorem mq_X11_setColumns : Mq yX11_setColumns cX11_setColumns 4 (some .int) 2 := ⟨tw_208, tw_5, ⟨by decide +kernel, by decide +kernel, by decide +kernel⟩, by decide⟩
theorem mi_X11_setColumns : Cond.instanceMethod yX11_setColumns ∈ TB ∧ Cond.selects yX11_setColumns.cls yX11_setColumns yX11_setColumns ∈ TB := ⟨tw_206, tw_207⟩
theorem zc_X11_setColumns {n : Nat} {Z : Zt} {a : Nat} {x1 : Int32} {x2 : Int32} {g : Mem} {q : Int32 × Mem} (h : f_X11_setColumns n Z a x1 x2 g = some q) : zk Z a = 10 := (grd_some h).1
set_option maxHeartbeats 4000000 in
set_option maxRecDepth 100000 in
theorem vm_X11_setColumns {n : Nat} {Z : Zt} {a : Nat} {x1 : Int32} {x2 : Int32} {g : Mem} {rr : Int32} {gg : Mem} (h : f_X11_setColumns n Z a x1 x2 g = some (rr, gg)) : VM yX11_setColumns cX11_setColumns 4 (some .int) 2 [.ref a, .int x1, .int x2] Z g (some (.int rr)) gg := by
  unfold f_X11_setColumns at h
  replace h := grd_some h
  obtain ⟨hz0, h⟩ := h
  refine VM.of (by decide +kernel) (Nat.le_of_ble_eq_true rfl) (fun x hM => ?_)
  have hM : Cm x cX11_setColumns RX11 4 (some .int) 2 Z (some (.int rr)) gg := hM
  show V x Z 0 0 0 [(0, va_rf (some a)), (1, .int x1), (2, .int x2)] [] g
  refine V_iload_n hM.c 1 dX11_setColumns_0 rfl rfl ?_
  replace h := bnd_some h
  obtain ⟨r1, g2, e3, h⟩ := h
  refine V_callS (As := [.int x1]) hM.c hM.a mq_X11_isTable mi_X11_isTable tw_209 (hM.d (by decide)) hM.z (vm_X11_isTable e3) rfl (Nat.le_of_ble_eq_true rfl) dX11_setColumns_1 ?_
  refine V_if_ne hM.c 9 dX11_setColumns_4 (by decide) (fun c4 => ?_) (fun c4 => ?_)
  · replace h := ite_n h c4
    refine V_iload_n hM.c 2 dX11_setColumns_9 rfl rfl ?_
    refine V_iconst (v := 1) hM.c dX11_setColumns_10 (by decide) ?_
    refine V_iconst (v := 3) hM.c dX11_setColumns_11 (by decide) ?_
    replace h := bnd_some h
    obtain ⟨r5, g6, e7, h⟩ := h
    refine V_callS (As := [.int x2, .int (1 : Int32), .int (3 : Int32)]) hM.c hM.a mq_X11_in mi_X11_in tw_212 (hM.d (by decide)) hM.z (vm_X11_in e7) rfl (Nat.le_of_ble_eq_true rfl) dX11_setColumns_12 ?_
    refine V_if_ne hM.c 21 dX11_setColumns_15 (by decide) (fun c8 => ?_) (fun c8 => ?_)
    · replace h := ite_n h c8
      refine V_aload_n hM.c 0 dX11_setColumns_21 rfl rfl ?_
      refine V_iload_n hM.c 1 dX11_setColumns_22 rfl rfl ?_
      replace h := bnd_some h
      obtain ⟨r9, g10, e11, h⟩ := h
      refine V_callV (As := [.int x1]) (c := 9) (T := TX11) (N := 32) hM.c hM.a mq_X11_hasRows mi_X11_hasRows tw_215 (hM.d (by decide)) hM.z rfl (by omega) (zc_X11_hasRows e11) (vm_X11_hasRows e11) rfl (Nat.le_of_ble_eq_true rfl) dX11_setColumns_23 ?_
      refine V_if_ne hM.c 37 dX11_setColumns_26 (by decide) (fun c12 => ?_) (fun c12 => ?_)
      · replace h := ite_n h c12
        refine V_bipush (v := -5) hM.c dX11_setColumns_37 (by decide) ?_
        exact V_iretE hM h dX11_setColumns_39
      · replace h := ite_p h c12
        refine V_aload_n hM.c 0 dX11_setColumns_29 rfl rfl ?_
        refine V_iload_n hM.c 1 dX11_setColumns_30 rfl rfl ?_
        replace h := bnd_some h
        obtain ⟨r13, g14, e15, h⟩ := h
        refine V_callV (As := [.int x1]) (c := 9) (T := TX11) (N := 32) hM.c hM.a mq_X11_occurs mi_X11_occurs tw_223 (hM.d (by decide)) hM.z rfl (by omega) (zc_X11_occurs e15) (vm_X11_occurs e15) rfl (Nat.le_of_ble_eq_true rfl) dX11_setColumns_31 ?_
        refine V_if_eq hM.c 40 dX11_setColumns_34 (by decide) (fun c16 => ?_) (fun c16 => ?_)
        · replace h := ite_p h c16
          refine V_aload_n hM.c 0 dX11_setColumns_40 rfl rfl ?_
          replace h := bnd_some h
          obtain ⟨r17, g18, e19, h⟩ := h
          refine V_callV (As := []) (c := 9) (T := TX11) (N := 32) hM.c hM.a mq_X11_records mi_X11_records tw_227 (hM.d (by decide)) hM.z rfl (by omega) (zc_X11_records e19) (vm_X11_records e19) rfl (Nat.le_of_ble_eq_true rfl) dX11_setColumns_41 ?_
          refine V_aload_n hM.c 0 dX11_setColumns_44 rfl rfl ?_
          replace h := drf_some h
          obtain ⟨b20, e21, h⟩ := h
          refine G9_0 hM.c tw_114 hz0 e21 dX11_setColumns_45 ?_
          refine V_iload_n hM.c 1 dX11_setColumns_48 rfl rfl ?_
          replace h := grd_some h
          obtain ⟨z22, h⟩ := h
          replace h := grd_some h
          obtain ⟨c23, h⟩ := h
          refine V_iald hM.c z22 c23 dX11_setColumns_49 ?_
          refine V_istore_n (i := 3) (L' := [(3, .int (gI g18 b20 x1.toNatClampNeg)), (0, va_rf (some a)), (1, .int x1), (2, .int x2)]) hM.c dX11_setColumns_50 rfl (by decide) rfl ?_
          refine V_aload_n hM.c 1 dX11_setColumns_51 rfl rfl ?_
          replace h := drf_some h
          obtain ⟨b24, e25, h⟩ := h
          refine G9_0 hM.c tw_114 hz0 e25 dX11_setColumns_52 ?_
          refine V_iload_n hM.c 2 dX11_setColumns_55 rfl rfl ?_
          refine V_iload_n hM.c 3 dX11_setColumns_56 rfl rfl ?_
          replace h := grd_some h
          obtain ⟨z26, h⟩ := h
          replace h := grd_some h
          obtain ⟨c27, h⟩ := h
          refine V_iast hM.c z26 c27 hM.a dX11_setColumns_57 ?_
          refine V_iload_n hM.c 0 dX11_setColumns_58 rfl rfl ?_
          exact V_iretE hM h dX11_setColumns_59
        · replace h := ite_n h c16
          refine V_bipush (v := -5) hM.c dX11_setColumns_37 (by decide) ?_
          exact V_iretE hM h dX11_setColumns_39
    · replace h := ite_p h c8
      refine V_bipush (v := -2) hM.c dX11_setColumns_18 (by decide) ?_
      exact V_iretE hM h dX11_setColumns_20
  · replace h := ite_p h c4
    refine V_iconst (v := -1) hM.c dX11_setColumns_7 (by decide) ?_
    exact V_iretE hM h dX11_setColumns_8
def f_X11_freeTag_l6 (n : Nat) (Z : Zt) (a : Nat) : Nat → Int32 → Int32 → Mem → Option (Int32 × Mem)
  | 0, _, _, _ => none
  | fu + 1, x1, x2, g => if x2 < 0 then (some (x1, g)) else (bnd (f_X11_of n Z a x2 (0 : Int32) g) (fun r2 g3 => if r2 = 0 then (f_X11_freeTag_l6 n Z a fu x2 (x2 + (-1 : Int32)) g3) else (f_X11_freeTag_l6 n Z a fu x1 (x2 + (-1 : Int32)) g3)))
set_option maxHeartbeats 4000000 in
set_option maxRecDepth 100000 in
theorem vl_X11_freeTag_l6 {x : Cq} {n : Nat} {Z : Zt} {a : Nat} {rr : Int32} {gg : Mem} (hM : Cm x cX11_freeTag RX11 3 (some .int) 1 Z (some (.int rr)) gg) (hz0 : zk Z a = 10) : ∀ (fu : Nat) (x1 : Int32) (x2 : Int32) (g : Mem), f_X11_freeTag_l6 n Z a fu x1 x2 g = some (rr, gg) → V x Z 0 0 6 [(0, va_rf (some a)), (1, .int x1), (2, .int x2)] [] g := by
  intro fu
  induction fu with
  | zero => intro x1 x2 g h; cases h
  | succ fu ih =>
    intro x1 x2 g h
    unfold f_X11_freeTag_l6 at h
    refine V_iload_n hM.c 2 dX11_freeTag_6 rfl rfl ?_
    refine V_if_lt hM.c 31 dX11_freeTag_7 (by decide) (fun c1 => ?_) (fun c1 => ?_)
    · replace h := ite_p h c1
      refine V_iload_n hM.c 1 dX11_freeTag_31 rfl rfl ?_
      exact V_iretE hM h dX11_freeTag_32
    · replace h := ite_n h c1
      refine V_aload_n hM.c 0 dX11_freeTag_10 rfl rfl ?_
      refine V_iload_n hM.c 2 dX11_freeTag_11 rfl rfl ?_
      refine V_iconst (v := 0) hM.c dX11_freeTag_12 (by decide) ?_
      replace h := bnd_some h
      obtain ⟨r2, g3, e4, h⟩ := h
      refine V_callV (As := [.int x2, .int (0 : Int32)]) (c := 9) (T := TX11) (N := 32) hM.c hM.a mq_X11_of mi_X11_of tw_219 (hM.d (by decide)) hM.z rfl (by omega) (zc_X11_of e4) (vm_X11_of e4) rfl (Nat.le_of_ble_eq_true rfl) dX11_freeTag_13 ?_
      refine V_if_ne hM.c 23 dX11_freeTag_16 (by decide) (fun c5 => ?_) (fun c5 => ?_)
      · replace h := ite_n h c5
        refine V_iload_n hM.c 1 dX11_freeTag_23 rfl rfl ?_
        refine V_istore_n (i := 1) (L' := [(1, .int x1), (0, va_rf (some a)), (2, .int x2)]) hM.c dX11_freeTag_24 rfl (by decide) rfl ?_
        refine V_iinc (v := (x2 + (-1 : Int32))) (L' := [(2, .int (x2 + (-1 : Int32))), (1, .int x1), (0, va_rf (some a))]) hM.c 2 dX11_freeTag_25 rfl rfl (by decide) rfl ?_
        refine V_goto hM.c 6 dX11_freeTag_28 (by decide) ?_
        refine V_sub [2, 1, 0] rfl ?_
        exact ih _ _ _ h
      · replace h := ite_p h c5
        refine V_iload_n hM.c 2 dX11_freeTag_19 rfl rfl ?_
        refine V_goto hM.c 24 dX11_freeTag_20 (by decide) ?_
        refine V_istore_n (i := 1) (L' := [(1, .int x2), (0, va_rf (some a)), (2, .int x2)]) hM.c dX11_freeTag_24 rfl (by decide) rfl ?_
        refine V_iinc (v := (x2 + (-1 : Int32))) (L' := [(2, .int (x2 + (-1 : Int32))), (1, .int x2), (0, va_rf (some a))]) hM.c 2 dX11_freeTag_25 rfl rfl (by decide) rfl ?_
        refine V_goto hM.c 6 dX11_freeTag_28 (by decide) ?_
        refine V_sub [2, 1, 0] rfl ?_
        exact ih _ _ _ h
def f_X11_freeTag (n : Nat) (Z : Zt) (a : Nat) (g : Mem) : Option (Int32 × Mem) := grd (zk Z a = 10) (f_X11_freeTag_l6 n Z a n (-6 : Int32) (15 : Int32) g)
theorem mq_X11_freeTag : Mq yX11_freeTag cX11_freeTag 3 (some .int) 0 := ⟨tw_405, tw_5, ⟨by decide +kernel, by decide +kernel, by decide +kernel⟩, by decide⟩
theorem mi_X11_freeTag : Cond.instanceMethod yX11_freeTag ∈ TB ∧ Cond.selects yX11_freeTag.cls yX11_freeTag yX11_freeTag ∈ TB := ⟨tw_403, tw_404⟩
theorem zc_X11_freeTag {n : Nat} {Z : Zt} {a : Nat} {g : Mem} {q : Int32 × Mem} (h : f_X11_freeTag n Z a g = some q) : zk Z a = 10 := (grd_some h).1
set_option maxHeartbeats 4000000 in
set_option maxRecDepth 100000 in
theorem vm_X11_freeTag {n : Nat} {Z : Zt} {a : Nat} {g : Mem} {rr : Int32} {gg : Mem} (h : f_X11_freeTag n Z a g = some (rr, gg)) : VM yX11_freeTag cX11_freeTag 3 (some .int) 1 [.ref a] Z g (some (.int rr)) gg := by
  unfold f_X11_freeTag at h
  replace h := grd_some h
  obtain ⟨hz0, h⟩ := h
  refine VM.of (by decide +kernel) (Nat.le_of_ble_eq_true rfl) (fun x hM => ?_)
  have hM : Cm x cX11_freeTag RX11 3 (some .int) 1 Z (some (.int rr)) gg := hM
  show V x Z 0 0 0 [(0, va_rf (some a))] [] g
  refine V_bipush (v := -6) hM.c dX11_freeTag_0 (by decide) ?_
  refine V_istore_n (i := 1) (L' := [(1, .int (-6 : Int32)), (0, va_rf (some a))]) hM.c dX11_freeTag_2 rfl (by decide) rfl ?_
  refine V_bipush (v := 15) hM.c dX11_freeTag_3 (by decide) ?_
  refine V_istore_n (i := 2) (L' := [(2, .int (15 : Int32)), (1, .int (-6 : Int32)), (0, va_rf (some a))]) hM.c dX11_freeTag_5 rfl (by decide) rfl ?_
  refine V_sub [2, 1, 0] rfl ?_
  exact vl_X11_freeTag_l6 hM hz0  _ _ _ _ h
def f_X11_laysRow_l42 (n : Nat) (Z : Zt) (a : Nat) (x1 : Int32) (s0 : Int32) (s1 : Int32) (s2 : Int32) (s3 : Nat) (g : Mem) : Option (Unit × Mem) := bnd (f_X11_lays n Z s3 s2 s1 s0 g) (fun r12 g13 => bnd (f_X11_lays n Z a x1 (4 : Int32) (0 : Int32) g13) (fun r15 g16 => some ((), g16)))
set_option maxHeartbeats 4000000 in
set_option maxRecDepth 100000 in
theorem vl_X11_laysRow_l42 {x : Cq} {n : Nat} {Z : Zt} {a : Nat} {x1 : Int32} {s0 : Int32} {s1 : Int32} {s2 : Int32} {s3 : Nat} {g : Mem} {rr : Unit} {gg : Mem} (hM : Cm x cX11_laysRow RX11 4 none 1 Z none gg) (hz0 : zk Z a = 10) (h : f_X11_laysRow_l42 n Z a x1 s0 s1 s2 s3 g = some (rr, gg)) : V x Z 0 0 42 [(0, va_rf (some a)), (1, .int x1)] [.int s0, .int s1, .int s2, va_rf (some s3)] g := by
  unfold f_X11_laysRow_l42 at h
  replace h := bnd_some h
  obtain ⟨r12, g13, e14, h⟩ := h
  refine V_callV (As := [.int s2, .int s1, .int s0]) (c := 9) (T := TX11) (N := 32) hM.c hM.a mq_X11_lays mi_X11_lays tw_410 (hM.d (by decide)) hM.z rfl (by omega) (zc_X11_lays e14) (vm_X11_lays e14) rfl (Nat.le_of_ble_eq_true rfl) dX11_laysRow_42 ?_
  refine V_aload_n hM.c 0 dX11_laysRow_45 rfl rfl ?_
  refine V_iload_n hM.c 1 dX11_laysRow_46 rfl rfl ?_
  refine V_iconst (v := 4) hM.c dX11_laysRow_47 (by decide) ?_
  refine V_iconst (v := 0) hM.c dX11_laysRow_48 (by decide) ?_
  replace h := bnd_some h
  obtain ⟨r15, g16, e17, h⟩ := h
  refine V_callV (As := [.int x1, .int (4 : Int32), .int (0 : Int32)]) (c := 9) (T := TX11) (N := 32) hM.c hM.a mq_X11_lays mi_X11_lays tw_410 (hM.d (by decide)) hM.z rfl (by omega) (zc_X11_lays e17) (vm_X11_lays e17) rfl (Nat.le_of_ble_eq_true rfl) dX11_laysRow_49 ?_
  exact V_vretE hM h dX11_laysRow_52
def f_X11_laysRow_l26 (n : Nat) (Z : Zt) (a : Nat) (x1 : Int32) (x2 : Int32) (s0 : Int32) (s1 : Int32) (s2 : Int32) (s3 : Nat) (g : Mem) : Option (Unit × Mem) := bnd (f_X11_lays n Z s3 s2 s1 s0 g) (fun r8 g9 => if x2 = 0 then (f_X11_laysRow_l42 n Z a x1 (0 : Int32) (3 : Int32) x1 a g9) else (f_X11_laysRow_l42 n Z a x1 (100 : Int32) (3 : Int32) x1 a g9))
set_option maxHeartbeats 4000000 in
set_option maxRecDepth 100000 in
theorem vl_X11_laysRow_l26 {x : Cq} {n : Nat} {Z : Zt} {a : Nat} {x1 : Int32} {x2 : Int32} {s0 : Int32} {s1 : Int32} {s2 : Int32} {s3 : Nat} {g : Mem} {rr : Unit} {gg : Mem} (hM : Cm x cX11_laysRow RX11 4 none 1 Z none gg) (hz0 : zk Z a = 10) (h : f_X11_laysRow_l26 n Z a x1 x2 s0 s1 s2 s3 g = some (rr, gg)) : V x Z 0 0 26 [(0, va_rf (some a)), (1, .int x1), (2, .int x2)] [.int s0, .int s1, .int s2, va_rf (some s3)] g := by
  unfold f_X11_laysRow_l26 at h
  replace h := bnd_some h
  obtain ⟨r8, g9, e10, h⟩ := h
  refine V_callV (As := [.int s2, .int s1, .int s0]) (c := 9) (T := TX11) (N := 32) hM.c hM.a mq_X11_lays mi_X11_lays tw_410 (hM.d (by decide)) hM.z rfl (by omega) (zc_X11_lays e10) (vm_X11_lays e10) rfl (Nat.le_of_ble_eq_true rfl) dX11_laysRow_26 ?_
  refine V_aload_n hM.c 0 dX11_laysRow_29 rfl rfl ?_
  refine V_iload_n hM.c 1 dX11_laysRow_30 rfl rfl ?_
  refine V_iconst (v := 3) hM.c dX11_laysRow_31 (by decide) ?_
  refine V_iload_n hM.c 2 dX11_laysRow_32 rfl rfl ?_
  refine V_if_ne hM.c 40 dX11_laysRow_33 (by decide) (fun c11 => ?_) (fun c11 => ?_)
  · replace h := ite_n h c11
    refine V_bipush (v := 100) hM.c dX11_laysRow_40 (by decide) ?_
    refine V_sub [0, 1] rfl ?_
    exact vl_X11_laysRow_l42 hM hz0  h
  · replace h := ite_p h c11
    refine V_iconst (v := 0) hM.c dX11_laysRow_36 (by decide) ?_
    refine V_goto hM.c 42 dX11_laysRow_37 (by decide) ?_
    refine V_sub [0, 1] rfl ?_
    exact vl_X11_laysRow_l42 hM hz0  h
def f_X11_laysRow (n : Nat) (Z : Zt) (a : Nat) (x1 : Int32) (x2 : Int32) (x3 : Int32) (g : Mem) : Option (Unit × Mem) := grd (zk Z a = 10) (bnd (f_X11_lays n Z a x1 (0 : Int32) x2 g) (fun r1 g2 => bnd (f_X11_lays n Z a x1 (1 : Int32) x3 g2) (fun r4 g5 => if x2 = 0 then (f_X11_laysRow_l26 n Z a x1 x2 (0 : Int32) (2 : Int32) x1 a g5) else (f_X11_laysRow_l26 n Z a x1 x2 (1 : Int32) (2 : Int32) x1 a g5))))
theorem mq_X11_laysRow : Mq yX11_laysRow cX11_laysRow 4 none 3 := ⟨tw_409, tw_5, ⟨by decide +kernel, by decide +kernel, by decide +kernel⟩, by decide⟩
theorem mi_X11_laysRow : Cond.instanceMethod yX11_laysRow ∈ TB ∧ Cond.selects yX11_laysRow.cls yX11_laysRow yX11_laysRow ∈ TB := ⟨tw_407, tw_408⟩
theorem zc_X11_laysRow {n : Nat} {Z : Zt} {a : Nat} {x1 : Int32} {x2 : Int32} {x3 : Int32} {g : Mem} {q : Unit × Mem} (h : f_X11_laysRow n Z a x1 x2 x3 g = some q) : zk Z a = 10 := (grd_some h).1
set_option maxHeartbeats 4000000 in
set_option maxRecDepth 100000 in
theorem vm_X11_laysRow {n : Nat} {Z : Zt} {a : Nat} {x1 : Int32} {x2 : Int32} {x3 : Int32} {g : Mem} {rr : Unit} {gg : Mem} (h : f_X11_laysRow n Z a x1 x2 x3 g = some (rr, gg)) : VM yX11_laysRow cX11_laysRow 4 none 1 [.ref a, .int x1, .int x2, .int x3] Z g none gg := by
  unfold f_X11_laysRow at h
  replace h := grd_some h
  obtain ⟨hz0, h⟩ := h
  refine VM.of (by decide +kernel) (Nat.le_of_ble_eq_true rfl) (fun x hM => ?_)
  have hM : Cm x cX11_laysRow RX11 4 none 1 Z none gg := hM
  show V x Z 0 0 0 [(0, va_rf (some a)), (1, .int x1), (2, .int x2), (3, .int x3)] [] g
  refine V_aload_n hM.c 0 dX11_laysRow_0 rfl rfl ?_
  refine V_iload_n hM.c 1 dX11_laysRow_1 rfl rfl ?_
  refine V_iconst (v := 0) hM.c dX11_laysRow_2 (by decide) ?_
  refine V_iload_n hM.c 2 dX11_laysRow_3 rfl rfl ?_
  replace h := bnd_some h
  obtain ⟨r1, g2, e3, h⟩ := h
  refine V_callV (As := [.int x1, .int (0 : Int32), .int x2]) (c := 9) (T := TX11) (N := 32) hM.c hM.a mq_X11_lays mi_X11_lays tw_410 (hM.d (by decide)) hM.z rfl (by omega) (zc_X11_lays e3) (vm_X11_lays e3) rfl (Nat.le_of_ble_eq_true rfl) dX11_laysRow_4 ?_
  refine V_aload_n hM.c 0 dX11_laysRow_7 rfl rfl ?_
  refine V_iload_n hM.c 1 dX11_laysRow_8 rfl rfl ?_
  refine V_iconst (v := 1) hM.c dX11_laysRow_9 (by decide) ?_
  refine V_iload_n hM.c 3 dX11_laysRow_10 rfl rfl ?_
  replace h := bnd_some h
  obtain ⟨r4, g5, e6, h⟩ := h
  refine V_callV (As := [.int x1, .int (1 : Int32), .int x3]) (c := 9) (T := TX11) (N := 32) hM.c hM.a mq_X11_lays mi_X11_lays tw_410 (hM.d (by decide)) hM.z rfl (by omega) (zc_X11_lays e6) (vm_X11_lays e6) rfl (Nat.le_of_ble_eq_true rfl) dX11_laysRow_11 ?_
  refine V_aload_n hM.c 0 dX11_laysRow_14 rfl rfl ?_
  refine V_iload_n hM.c 1 dX11_laysRow_15 rfl rfl ?_
  refine V_iconst (v := 2) hM.c dX11_laysRow_16 (by decide) ?_
  refine V_iload_n hM.c 2 dX11_laysRow_17 rfl rfl ?_
  refine V_if_ne hM.c 25 dX11_laysRow_18 (by decide) (fun c7 => ?_) (fun c7 => ?_)
  · replace h := ite_n h c7
    refine V_iconst (v := 1) hM.c dX11_laysRow_25 (by decide) ?_
    refine V_sub [0, 1, 2] rfl ?_
    exact vl_X11_laysRow_l26 hM hz0  h
  · replace h := ite_p h c7
    refine V_iconst (v := 0) hM.c dX11_laysRow_21 (by decide) ?_
    refine V_goto hM.c 26 dX11_laysRow_22 (by decide) ?_
    refine V_sub [0, 1, 2] rfl ?_
    exact vl_X11_laysRow_l26 hM hz0  h
def f_X11_addRow (n : Nat) (Z : Zt) (a : Nat) (x1 : Int32) (x2 : Int32) (g : Mem) : Option (Int32 × Mem) := grd (zk Z a = 10) (bnd (f_X11_isTable n Z x1 g) (fun r1 g2 => if r1 = 0 then (some ((-1 : Int32), g2)) else (drf (zf Z a 0) (fun b5 => grd (zk Z b5 = 12) (grd (inr x1 (zl Z b5)) (bnd (f_X11_power n Z (gI g2 b5 x1.toNatClampNeg) g2) (fun r9 g10 => bnd (f_X11_in n Z x2 (0 : Int32) (r9 - (1 : Int32)) g10) (fun r12 g13 => if r12 = 0 then (some ((-2 : Int32), g13)) else (bnd (f_X11_freeTag n Z a g13) (fun r16 g17 => if r16 = (-6 : Int32) then (some ((-4 : Int32), g17)) else (bnd (f_X11_laysRow n Z a r16 (x1 + (1 : Int32)) x2 g17) (fun r20 g21 => bnd (f_X11_isPossible n Z a g21) (fun r23 g24 => bnd (f_X11_laysRow n Z a r16 (0 : Int32) (0 : Int32) g24) (fun r26 g27 => if r23 = 0 then (some ((-4 : Int32), (sI g27 a 26 (0 : Int32)))) else (bnd (f_X11_records n Z a (sI g27 a 26 (0 : Int32))) (fun r30 g31 => bnd (f_X11_laysRow n Z a r16 (x1 + (1 : Int32)) x2 g31) (fun r33 g34 => some (r16, g34))))))))))))))))))
theorem mq_X11_addRow : Mq yX11_addRow cX11_addRow 5 (some .int) 2 := ⟨tw_398, tw_5, ⟨by decide +kernel, by decide +kernel, by decide +kernel⟩, by decide⟩
theorem mi_X11_addRow : Cond.instanceMethod yX11_addRow ∈ TB ∧ Cond.selects yX11_addRow.cls yX11_addRow yX11_addRow ∈ TB := ⟨tw_396, tw_397⟩
theorem zc_X11_addRow {n : Nat} {Z : Zt} {a : Nat} {x1 : Int32} {x2 : Int32} {g : Mem} {q : Int32 × Mem} (h : f_X11_addRow n Z a x1 x2 g = some q) : zk Z a = 10 := (grd_some h).1
set_option maxHeartbeats 4000000 in
set_option maxRecDepth 100000 in
theorem vm_X11_addRow {n : Nat} {Z : Zt} {a : Nat} {x1 : Int32} {x2 : Int32} {g : Mem} {rr : Int32} {gg : Mem} (h : f_X11_addRow n Z a x1 x2 g = some (rr, gg)) : VM yX11_addRow cX11_addRow 5 (some .int) 6 [.ref a, .int x1, .int x2] Z g (some (.int rr)) gg := by
  unfold f_X11_addRow at h
  replace h := grd_some h
  obtain ⟨hz0, h⟩ := h
  refine VM.of (by decide +kernel) (Nat.le_of_ble_eq_true rfl) (fun x hM => ?_)
  have hM : Cm x cX11_addRow RX11 5 (some .int) 6 Z (some (.int rr)) gg := hM
  show V x Z 0 0 0 [(0, va_rf (some a)), (1, .int x1), (2, .int x2)] [] g
  refine V_iload_n hM.c 1 dX11_addRow_0 rfl rfl ?_
  replace h := bnd_some h
  obtain ⟨r1, g2, e3, h⟩ := h
  refine V_callS (As := [.int x1]) hM.c hM.a mq_X11_isTable mi_X11_isTable tw_209 (hM.d (by decide)) hM.z (vm_X11_isTable e3) rfl (Nat.le_of_ble_eq_true rfl) dX11_addRow_1 ?_
  refine V_if_ne hM.c 9 dX11_addRow_4 (by decide) (fun c4 => ?_) (fun c4 => ?_)
  · replace h := ite_n h c4
    refine V_iload_n hM.c 2 dX11_addRow_9 rfl rfl ?_
    refine V_iconst (v := 0) hM.c dX11_addRow_10 (by decide) ?_
    refine V_aload_n hM.c 0 dX11_addRow_11 rfl rfl ?_
    replace h := drf_some h
    obtain ⟨b5, e6, h⟩ := h
    refine G9_0 hM.c tw_114 hz0 e6 dX11_addRow_12 ?_
    refine V_iload_n hM.c 1 dX11_addRow_15 rfl rfl ?_
    replace h := grd_some h
    obtain ⟨z7, h⟩ := h
    replace h := grd_some h
    obtain ⟨c8, h⟩ := h
    refine V_iald hM.c z7 c8 dX11_addRow_16 ?_
    replace h := bnd_some h
    obtain ⟨r9, g10, e11, h⟩ := h
    refine V_callS (As := [.int (gI g2 b5 x1.toNatClampNeg)]) hM.c hM.a mq_X11_power mi_X11_power tw_399 (hM.d (by decide)) hM.z (vm_X11_power e11) rfl (Nat.le_of_ble_eq_true rfl) dX11_addRow_17 ?_
    refine V_iconst (v := 1) hM.c dX11_addRow_20 (by decide) ?_
    refine V_isub hM.c dX11_addRow_21 ?_
    replace h := bnd_some h
    obtain ⟨r12, g13, e14, h⟩ := h
    refine V_callS (As := [.int x2, .int (0 : Int32), .int (r9 - (1 : Int32))]) hM.c hM.a mq_X11_in mi_X11_in tw_212 (hM.d (by decide)) hM.z (vm_X11_in e14) rfl (Nat.le_of_ble_eq_true rfl) dX11_addRow_22 ?_
    refine V_if_ne hM.c 31 dX11_addRow_25 (by decide) (fun c15 => ?_) (fun c15 => ?_)
    · replace h := ite_n h c15
      refine V_aload_n hM.c 0 dX11_addRow_31 rfl rfl ?_
      replace h := bnd_some h
      obtain ⟨r16, g17, e18, h⟩ := h
      refine V_callV (As := []) (c := 9) (T := TX11) (N := 32) hM.c hM.a mq_X11_freeTag mi_X11_freeTag tw_402 (hM.d (by decide)) hM.z rfl (by omega) (zc_X11_freeTag e18) (vm_X11_freeTag e18) rfl (Nat.le_of_ble_eq_true rfl) dX11_addRow_32 ?_
      refine V_istore_n (i := 3) (L' := [(3, .int r16), (0, va_rf (some a)), (1, .int x1), (2, .int x2)]) hM.c dX11_addRow_35 rfl (by decide) rfl ?_
      refine V_iload_n hM.c 0 dX11_addRow_36 rfl rfl ?_
      refine V_bipush (v := -6) hM.c dX11_addRow_37 (by decide) ?_
      refine V_icmp_ne hM.c 45 dX11_addRow_39 (by decide) (fun c19 => ?_) (fun c19 => ?_)
      · replace h := ite_n h c19
        refine V_aload_n hM.c 1 dX11_addRow_45 rfl rfl ?_
        refine V_iload_n hM.c 0 dX11_addRow_46 rfl rfl ?_
        refine V_iload_n hM.c 2 dX11_addRow_47 rfl rfl ?_
        refine V_iconst (v := 1) hM.c dX11_addRow_48 (by decide) ?_
        refine V_iadd hM.c dX11_addRow_49 ?_
        refine V_iload_n hM.c 3 dX11_addRow_50 rfl rfl ?_
        replace h := bnd_some h
        obtain ⟨r20, g21, e22, h⟩ := h
        refine V_callV (As := [.int r16, .int (x1 + (1 : Int32)), .int x2]) (c := 9) (T := TX11) (N := 32) hM.c hM.a mq_X11_laysRow mi_X11_laysRow tw_406 (hM.d (by decide)) hM.z rfl (by omega) (zc_X11_laysRow e22) (vm_X11_laysRow e22) rfl (Nat.le_of_ble_eq_true rfl) dX11_addRow_51 ?_
        refine V_aload_n hM.c 1 dX11_addRow_54 rfl rfl ?_
        replace h := bnd_some h
        obtain ⟨r23, g24, e25, h⟩ := h
        refine V_callV (As := []) (c := 9) (T := TX11) (N := 32) hM.c hM.a mq_X11_isPossible mi_X11_isPossible tw_414 (hM.d (by decide)) hM.z rfl (by omega) (zc_X11_isPossible e25) (vm_X11_isPossible e25) rfl (Nat.le_of_ble_eq_true rfl) dX11_addRow_55 ?_
        refine V_istore (L' := [(4, .int r23), (3, .int r16), (0, va_rf (some a)), (1, .int x1), (2, .int x2)]) hM.c dX11_addRow_58 (by decide) rfl ?_
        refine V_aload_n hM.c 2 dX11_addRow_60 rfl rfl ?_
        refine V_iload_n hM.c 1 dX11_addRow_61 rfl rfl ?_
        refine V_iconst (v := 0) hM.c dX11_addRow_62 (by decide) ?_
        refine V_iconst (v := 0) hM.c dX11_addRow_63 (by decide) ?_
        replace h := bnd_some h
        obtain ⟨r26, g27, e28, h⟩ := h
        refine V_callV (As := [.int r16, .int (0 : Int32), .int (0 : Int32)]) (c := 9) (T := TX11) (N := 32) hM.c hM.a mq_X11_laysRow mi_X11_laysRow tw_406 (hM.d (by decide)) hM.z rfl (by omega) (zc_X11_laysRow e28) (vm_X11_laysRow e28) rfl (Nat.le_of_ble_eq_true rfl) dX11_addRow_64 ?_
        refine V_aload_n hM.c 2 dX11_addRow_67 rfl rfl ?_
        refine V_iconst (v := 0) hM.c dX11_addRow_68 (by decide) ?_
        refine P9_26 hM.c tw_232 hz0 (by decide) hM.a dX11_addRow_69 ?_
        refine V_iload hM.c 0 dX11_addRow_72 rfl ?_
        refine V_if_ne hM.c 80 dX11_addRow_74 (by decide) (fun c29 => ?_) (fun c29 => ?_)
        · replace h := ite_n h c29
          refine V_aload_n hM.c 2 dX11_addRow_80 rfl rfl ?_
          replace h := bnd_some h
          obtain ⟨r30, g31, e32, h⟩ := h
          refine V_callV (As := []) (c := 9) (T := TX11) (N := 32) hM.c hM.a mq_X11_records mi_X11_records tw_227 (hM.d (by decide)) hM.z rfl (by omega) (zc_X11_records e32) (vm_X11_records e32) rfl (Nat.le_of_ble_eq_true rfl) dX11_addRow_81 ?_
          refine V_aload_n hM.c 2 dX11_addRow_84 rfl rfl ?_
          refine V_iload_n hM.c 1 dX11_addRow_85 rfl rfl ?_
          refine V_iload_n hM.c 3 dX11_addRow_86 rfl rfl ?_
          refine V_iconst (v := 1) hM.c dX11_addRow_87 (by decide) ?_
          refine V_iadd hM.c dX11_addRow_88 ?_
          refine V_iload_n hM.c 4 dX11_addRow_89 rfl rfl ?_
          replace h := bnd_some h
          obtain ⟨r33, g34, e35, h⟩ := h
          refine V_callV (As := [.int r16, .int (x1 + (1 : Int32)), .int x2]) (c := 9) (T := TX11) (N := 32) hM.c hM.a mq_X11_laysRow mi_X11_laysRow tw_406 (hM.d (by decide)) hM.z rfl (by omega) (zc_X11_laysRow e35) (vm_X11_laysRow e35) rfl (Nat.le_of_ble_eq_true rfl) dX11_addRow_90 ?_
          refine V_iload_n hM.c 1 dX11_addRow_93 rfl rfl ?_
          exact V_iretE hM h dX11_addRow_94
        · replace h := ite_p h c29
          refine V_bipush (v := -4) hM.c dX11_addRow_77 (by decide) ?_
          exact V_iretE hM h dX11_addRow_79
      · replace h := ite_p h c19
        refine V_bipush (v := -4) hM.c dX11_addRow_42 (by decide) ?_
        exact V_iretE hM h dX11_addRow_44
    · replace h := ite_p h c15
      refine V_bipush (v := -2) hM.c dX11_addRow_28 (by decide) ?_
      exact V_iretE hM h dX11_addRow_30
  · replace h := ite_p h c4
    refine V_iconst (v := -1) hM.c dX11_addRow_7 (by decide) ?_
    exact V_iretE hM h dX11_addRow_8
def f_X11_ones_l4 (n : Nat) (Z : Zt) : Nat → Int32 → Int32 → Mem → Option (Int32 × Mem)
  | 0, _, _, _ => none
  | fu + 1, x1, x2, g => if x2 = 0 then (some (x1, g)) else (f_X11_ones_l4 n Z fu (x1 + 1) (x2 &&& (x2 - (1 : Int32))) g)
set_option maxHeartbeats 4000000 in
set_option maxRecDepth 100000 in
theorem vl_X11_ones_l4 {x : Cq} {n : Nat} {Z : Zt} {rr : Int32} {gg : Mem} (hM : Cm x cX11_ones RX11 3 (some .int) 0 Z (some (.int rr)) gg) : ∀ (fu : Nat) (x1 : Int32) (x2 : Int32) (g : Mem), f_X11_ones_l4 n Z fu x1 x2 g = some (rr, gg) → V x Z 0 0 4 [(1, .int x1), (2, .int x2)] [] g := by
  intro fu
  induction fu with
  | zero => intro x1 x2 g h; cases h
  | succ fu ih =>
    intro x1 x2 g h
    unfold f_X11_ones_l4 at h
    refine V_iload_n hM.c 1 dX11_ones_4 rfl rfl ?_
    refine V_if_eq hM.c 20 dX11_ones_5 (by decide) (fun c1 => ?_) (fun c1 => ?_)
    · replace h := ite_p h c1
      refine V_iload_n hM.c 0 dX11_ones_20 rfl rfl ?_
      exact V_iretE hM h dX11_ones_21
    · replace h := ite_n h c1
      refine V_iinc (v := (x1 + 1)) (L' := [(1, .int (x1 + 1)), (2, .int x2)]) hM.c 0 dX11_ones_8 rfl rfl (by decide) rfl ?_
      refine V_iload_n hM.c 1 dX11_ones_11 rfl rfl ?_
      refine V_iload_n hM.c 1 dX11_ones_12 rfl rfl ?_
      refine V_iconst (v := 1) hM.c dX11_ones_13 (by decide) ?_
      refine V_isub hM.c dX11_ones_14 ?_
      refine V_iand hM.c dX11_ones_15 ?_
      refine V_istore_n (i := 2) (L' := [(2, .int (x2 &&& (x2 - (1 : Int32)))), (1, .int (x1 + 1))]) hM.c dX11_ones_16 rfl (by decide) rfl ?_
      refine V_goto hM.c 4 dX11_ones_17 (by decide) ?_
      refine V_sub [1, 0] rfl ?_
      exact ih _ _ _ h
def f_X11_ones (n : Nat) (Z : Zt) (x0 : Int32) (g : Mem) : Option (Int32 × Mem) := f_X11_ones_l4 n Z n (0 : Int32) x0 g
theorem mq_X11_ones : Mq yX11_ones cX11_ones 3 (some .int) 1 := ⟨tw_565, tw_5, ⟨by decide +kernel, by decide +kernel, by decide +kernel⟩, by decide⟩
theorem mi_X11_ones : Cond.static yX11_ones ∈ TB := tw_564
set_option maxHeartbeats 4000000 in
set_option maxRecDepth 100000 in
theorem vm_X11_ones {n : Nat} {Z : Zt} {x0 : Int32} {g : Mem} {rr : Int32} {gg : Mem} (h : f_X11_ones n Z x0 g = some (rr, gg)) : VM yX11_ones cX11_ones 3 (some .int) 0 [.int x0] Z g (some (.int rr)) gg := by
  unfold f_X11_ones at h
  refine VM.of (by decide +kernel) (Nat.le_of_ble_eq_true rfl) (fun x hM => ?_)
  have hM : Cm x cX11_ones RX11 3 (some .int) 0 Z (some (.int rr)) gg := hM
  show V x Z 0 0 0 [(0, .int x0)] [] g
  refine V_iconst (v := 0) hM.c dX11_ones_0 (by decide) ?_
  refine V_istore_n (i := 1) (L' := [(1, .int (0 : Int32)), (0, .int x0)]) hM.c dX11_ones_1 rfl (by decide) rfl ?_
  refine V_iload_n hM.c 1 dX11_ones_2 rfl rfl ?_
  refine V_istore_n (i := 2) (L' := [(2, .int x0), (1, .int (0 : Int32)), (0, .int x0)]) hM.c dX11_ones_3 rfl (by decide) rfl ?_
  refine V_sub [1, 0] rfl ?_
  exact vl_X11_ones_l4 hM  _ _ _ _ h
def f_X11_dropRow (n : Nat) (Z : Zt) (a : Nat) (x1 : Int32) (g : Mem) : Option (Int32 × Mem) := grd (zk Z a = 10) (bnd (f_X11_isTag n Z a x1 g) (fun r1 g2 => if r1 = 0 then (some ((-1 : Int32), g2)) else (bnd (f_X11_records n Z a g2) (fun r5 g6 => bnd (f_X11_laysRow n Z a x1 (0 : Int32) (0 : Int32) g6) (fun r8 g9 => bnd (f_X11_mask n Z a (0 : Int32) g9) (fun r11 g12 => bnd (f_X11_ones n Z r11 g12) (fun r14 g15 => some (r14, g15))))))))
theorem mq_X11_dropRow : Mq yX11_dropRow cX11_dropRow 2 (some .int) 1 := ⟨tw_554, tw_5, ⟨by decide +kernel, by decide +kernel, by decide +kernel⟩, by decide⟩
theorem mi_X11_dropRow : Cond.instanceMethod yX11_dropRow ∈ TB ∧ Cond.selects yX11_dropRow.cls yX11_dropRow yX11_dropRow ∈ TB := ⟨tw_552, tw_553⟩
theorem zc_X11_dropRow {n : Nat} {Z : Zt} {a : Nat} {x1 : Int32} {g : Mem} {q : Int32 × Mem} (h : f_X11_dropRow n Z a x1 g = some q) : zk Z a = 10 := (grd_some h).1
set_option maxHeartbeats 4000000 in
set_option maxRecDepth 100000 in
theorem vm_X11_dropRow {n : Nat} {Z : Zt} {a : Nat} {x1 : Int32} {g : Mem} {rr : Int32} {gg : Mem} (h : f_X11_dropRow n Z a x1 g = some (rr, gg)) : VM yX11_dropRow cX11_dropRow 2 (some .int) 2 [.ref a, .int x1] Z g (some (.int rr)) gg := by
  unfold f_X11_dropRow at h
  replace h := grd_some h
  obtain ⟨hz0, h⟩ := h
  refine VM.of (by decide +kernel) (Nat.le_of_ble_eq_true rfl) (fun x hM => ?_)
  have hM : Cm x cX11_dropRow RX11 2 (some .int) 2 Z (some (.int rr)) gg := hM
  show V x Z 0 0 0 [(0, va_rf (some a)), (1, .int x1)] [] g
  refine V_aload_n hM.c 0 dX11_dropRow_0 rfl rfl ?_
  refine V_iload_n hM.c 1 dX11_dropRow_1 rfl rfl ?_
  replace h := bnd_some h
  obtain ⟨r1, g2, e3, h⟩ := h
  refine V_callV (As := [.int x1]) (c := 9) (T := TX11) (N := 32) hM.c hM.a mq_X11_isTag mi_X11_isTag tw_555 (hM.d (by decide)) hM.z rfl (by omega) (zc_X11_isTag e3) (vm_X11_isTag e3) rfl (Nat.le_of_ble_eq_true rfl) dX11_dropRow_2 ?_
  refine V_if_ne hM.c 10 dX11_dropRow_5 (by decide) (fun c4 => ?_) (fun c4 => ?_)
  · replace h := ite_n h c4
    refine V_aload_n hM.c 0 dX11_dropRow_10 rfl rfl ?_
    replace h := bnd_some h
    obtain ⟨r5, g6, e7, h⟩ := h
    refine V_callV (As := []) (c := 9) (T := TX11) (N := 32) hM.c hM.a mq_X11_records mi_X11_records tw_227 (hM.d (by decide)) hM.z rfl (by omega) (zc_X11_records e7) (vm_X11_records e7) rfl (Nat.le_of_ble_eq_true rfl) dX11_dropRow_11 ?_
    refine V_aload_n hM.c 0 dX11_dropRow_14 rfl rfl ?_
    refine V_iload_n hM.c 1 dX11_dropRow_15 rfl rfl ?_
    refine V_iconst (v := 0) hM.c dX11_dropRow_16 (by decide) ?_
    refine V_iconst (v := 0) hM.c dX11_dropRow_17 (by decide) ?_
    replace h := bnd_some h
    obtain ⟨r8, g9, e10, h⟩ := h
    refine V_callV (As := [.int x1, .int (0 : Int32), .int (0 : Int32)]) (c := 9) (T := TX11) (N := 32) hM.c hM.a mq_X11_laysRow mi_X11_laysRow tw_406 (hM.d (by decide)) hM.z rfl (by omega) (zc_X11_laysRow e10) (vm_X11_laysRow e10) rfl (Nat.le_of_ble_eq_true rfl) dX11_dropRow_18 ?_
    refine V_aload_n hM.c 0 dX11_dropRow_21 rfl rfl ?_
    refine V_iconst (v := 0) hM.c dX11_dropRow_22 (by decide) ?_
    replace h := bnd_some h
    obtain ⟨r11, g12, e13, h⟩ := h
    refine V_callV (As := [.int (0 : Int32)]) (c := 9) (T := TX11) (N := 32) hM.c hM.a mq_X11_mask mi_X11_mask tw_559 (hM.d (by decide)) hM.z rfl (by omega) (zc_X11_mask e13) (vm_X11_mask e13) rfl (Nat.le_of_ble_eq_true rfl) dX11_dropRow_23 ?_
    replace h := bnd_some h
    obtain ⟨r14, g15, e16, h⟩ := h
    refine V_callS (As := [.int r11]) hM.c hM.a mq_X11_ones mi_X11_ones tw_563 (hM.d (by decide)) hM.z (vm_X11_ones e16) rfl (Nat.le_of_ble_eq_true rfl) dX11_dropRow_26 ?_
    exact V_iretE hM h dX11_dropRow_29
  · replace h := ite_p h c4
    refine V_iconst (v := -1) hM.c dX11_dropRow_8 (by decide) ?_
    exact V_iretE hM h dX11_dropRow_9
def f_X11_setCost (n : Nat) (Z : Zt) (a : Nat) (x1 : Int32) (x2 : Int32) (g : Mem) : Option (Int32 × Mem) := grd (zk Z a = 10) (bnd (f_X11_isTag n Z a x1 g) (fun r1 g2 => if r1 = 0 then (some ((-1 : Int32), g2)) else (bnd (f_X11_in n Z x2 (0 : Int32) (999 : Int32) g2) (fun r5 g6 => if r5 = 0 then (some ((-2 : Int32), g6)) else (bnd (f_X11_records n Z a g6) (fun r9 g10 => bnd (f_X11_of n Z a x1 (2 : Int32) g10) (fun r12 g13 => bnd (f_X11_lays n Z a x1 (2 : Int32) x2 g13) (fun r15 g16 => some (r12, g16)))))))))
theorem mq_X11_setCost : Mq yX11_setCost cX11_setCost 4 (some .int) 2 := ⟨tw_581, tw_5, ⟨by decide +kernel, by decide +kernel, by decide +kernel⟩, by decide⟩
theorem mi_X11_setCost : Cond.instanceMethod yX11_setCost ∈ TB ∧ Cond.selects yX11_setCost.cls yX11_setCost yX11_setCost ∈ TB := ⟨tw_579, tw_580⟩
theorem zc_X11_setCost {n : Nat} {Z : Zt} {a : Nat} {x1 : Int32} {x2 : Int32} {g : Mem} {q : Int32 × Mem} (h : f_X11_setCost n Z a x1 x2 g = some q) : zk Z a = 10 := (grd_some h).1
set_option maxHeartbeats 4000000 in
set_option maxRecDepth 100000 in
theorem vm_X11_setCost {n : Nat} {Z : Zt} {a : Nat} {x1 : Int32} {x2 : Int32} {g : Mem} {rr : Int32} {gg : Mem} (h : f_X11_setCost n Z a x1 x2 g = some (rr, gg)) : VM yX11_setCost cX11_setCost 4 (some .int) 2 [.ref a, .int x1, .int x2] Z g (some (.int rr)) gg := by
  unfold f_X11_setCost at h
  replace h := grd_some h
  obtain ⟨hz0, h⟩ := h
  refine VM.of (by decide +kernel) (Nat.le_of_ble_eq_true rfl) (fun x hM => ?_)
  have hM : Cm x cX11_setCost RX11 4 (some .int) 2 Z (some (.int rr)) gg := hM
  show V x Z 0 0 0 [(0, va_rf (some a)), (1, .int x1), (2, .int x2)] [] g
  refine V_aload_n hM.c 0 dX11_setCost_0 rfl rfl ?_
  refine V_iload_n hM.c 1 dX11_setCost_1 rfl rfl ?_
  replace h := bnd_some h
  obtain ⟨r1, g2, e3, h⟩ := h
  refine V_callV (As := [.int x1]) (c := 9) (T := TX11) (N := 32) hM.c hM.a mq_X11_isTag mi_X11_isTag tw_555 (hM.d (by decide)) hM.z rfl (by omega) (zc_X11_isTag e3) (vm_X11_isTag e3) rfl (Nat.le_of_ble_eq_true rfl) dX11_setCost_2 ?_
  refine V_if_ne hM.c 10 dX11_setCost_5 (by decide) (fun c4 => ?_) (fun c4 => ?_)
  · replace h := ite_n h c4
    refine V_iload_n hM.c 2 dX11_setCost_10 rfl rfl ?_
    refine V_iconst (v := 0) hM.c dX11_setCost_11 (by decide) ?_
    refine V_sipush (v := 999) hM.c dX11_setCost_12 (by decide) ?_
    replace h := bnd_some h
    obtain ⟨r5, g6, e7, h⟩ := h
    refine V_callS (As := [.int x2, .int (0 : Int32), .int (999 : Int32)]) hM.c hM.a mq_X11_in mi_X11_in tw_212 (hM.d (by decide)) hM.z (vm_X11_in e7) rfl (Nat.le_of_ble_eq_true rfl) dX11_setCost_15 ?_
    refine V_if_ne hM.c 24 dX11_setCost_18 (by decide) (fun c8 => ?_) (fun c8 => ?_)
    · replace h := ite_n h c8
      refine V_aload_n hM.c 0 dX11_setCost_24 rfl rfl ?_
      replace h := bnd_some h
      obtain ⟨r9, g10, e11, h⟩ := h
      refine V_callV (As := []) (c := 9) (T := TX11) (N := 32) hM.c hM.a mq_X11_records mi_X11_records tw_227 (hM.d (by decide)) hM.z rfl (by omega) (zc_X11_records e11) (vm_X11_records e11) rfl (Nat.le_of_ble_eq_true rfl) dX11_setCost_25 ?_
      refine V_aload_n hM.c 0 dX11_setCost_28 rfl rfl ?_
      refine V_iload_n hM.c 1 dX11_setCost_29 rfl rfl ?_
      refine V_iconst (v := 2) hM.c dX11_setCost_30 (by decide) ?_
      replace h := bnd_some h
      obtain ⟨r12, g13, e14, h⟩ := h
      refine V_callV (As := [.int x1, .int (2 : Int32)]) (c := 9) (T := TX11) (N := 32) hM.c hM.a mq_X11_of mi_X11_of tw_219 (hM.d (by decide)) hM.z rfl (by omega) (zc_X11_of e14) (vm_X11_of e14) rfl (Nat.le_of_ble_eq_true rfl) dX11_setCost_31 ?_
      refine V_istore_n (i := 3) (L' := [(3, .int r12), (0, va_rf (some a)), (1, .int x1), (2, .int x2)]) hM.c dX11_setCost_34 rfl (by decide) rfl ?_
      refine V_aload_n hM.c 1 dX11_setCost_35 rfl rfl ?_
      refine V_iload_n hM.c 2 dX11_setCost_36 rfl rfl ?_
      refine V_iconst (v := 2) hM.c dX11_setCost_37 (by decide) ?_
      refine V_iload_n hM.c 3 dX11_setCost_38 rfl rfl ?_
      replace h := bnd_some h
      obtain ⟨r15, g16, e17, h⟩ := h
      refine V_callV (As := [.int x1, .int (2 : Int32), .int x2]) (c := 9) (T := TX11) (N := 32) hM.c hM.a mq_X11_lays mi_X11_lays tw_410 (hM.d (by decide)) hM.z rfl (by omega) (zc_X11_lays e17) (vm_X11_lays e17) rfl (Nat.le_of_ble_eq_true rfl) dX11_setCost_39 ?_
      refine V_iload_n hM.c 0 dX11_setCost_42 rfl rfl ?_
      exact V_iretE hM h dX11_setCost_43
    · replace h := ite_p h c8
      refine V_bipush (v := -2) hM.c dX11_setCost_21 (by decide) ?_
      exact V_iretE hM h dX11_setCost_23
  · replace h := ite_p h c4
    refine V_iconst (v := -1) hM.c dX11_setCost_8 (by decide) ?_
    exact V_iretE hM h dX11_setCost_9
def f_X11_setTrust (n : Nat) (Z : Zt) (a : Nat) (x1 : Int32) (x2 : Int32) (g : Mem) : Option (Int32 × Mem) := grd (zk Z a = 10) (bnd (f_X11_isTag n Z a x1 g) (fun r1 g2 => if r1 = 0 then (some ((-1 : Int32), g2)) else (bnd (f_X11_in n Z x2 (0 : Int32) (100 : Int32) g2) (fun r5 g6 => if r5 = 0 then (some ((-2 : Int32), g6)) else (bnd (f_X11_records n Z a g6) (fun r9 g10 => bnd (f_X11_of n Z a x1 (3 : Int32) g10) (fun r12 g13 => bnd (f_X11_lays n Z a x1 (3 : Int32) x2 g13) (fun r15 g16 => some (r12, g16)))))))))
theorem mq_X11_setTrust : Mq yX11_setTrust cX11_setTrust 4 (some .int) 2 := ⟨tw_597, tw_5, ⟨by decide +kernel, by decide +kernel, by decide +kernel⟩, by decide⟩
theorem mi_X11_setTrust : Cond.instanceMethod yX11_setTrust ∈ TB ∧ Cond.selects yX11_setTrust.cls yX11_setTrust yX11_setTrust ∈ TB := ⟨tw_595, tw_596⟩
theorem zc_X11_setTrust {n : Nat} {Z : Zt} {a : Nat} {x1 : Int32} {x2 : Int32} {g : Mem} {q : Int32 × Mem} (h : f_X11_setTrust n Z a x1 x2 g = some q) : zk Z a = 10 := (grd_some h).1
set_option maxHeartbeats 4000000 in
set_option maxRecDepth 100000 in
theorem vm_X11_setTrust {n : Nat} {Z : Zt} {a : Nat} {x1 : Int32} {x2 : Int32} {g : Mem} {rr : Int32} {gg : Mem} (h : f_X11_setTrust n Z a x1 x2 g = some (rr, gg)) : VM yX11_setTrust cX11_setTrust 4 (some .int) 2 [.ref a, .int x1, .int x2] Z g (some (.int rr)) gg := by
  unfold f_X11_setTrust at h
  replace h := grd_some h
  obtain ⟨hz0, h⟩ := h
  refine VM.of (by decide +kernel) (Nat.le_of_ble_eq_true rfl) (fun x hM => ?_)
  have hM : Cm x cX11_setTrust RX11 4 (some .int) 2 Z (some (.int rr)) gg := hM
  show V x Z 0 0 0 [(0, va_rf (some a)), (1, .int x1), (2, .int x2)] [] g
  refine V_aload_n hM.c 0 dX11_setTrust_0 rfl rfl ?_
  refine V_iload_n hM.c 1 dX11_setTrust_1 rfl rfl ?_
  replace h := bnd_some h
  obtain ⟨r1, g2, e3, h⟩ := h
  refine V_callV (As := [.int x1]) (c := 9) (T := TX11) (N := 32) hM.c hM.a mq_X11_isTag mi_X11_isTag tw_555 (hM.d (by decide)) hM.z rfl (by omega) (zc_X11_isTag e3) (vm_X11_isTag e3) rfl (Nat.le_of_ble_eq_true rfl) dX11_setTrust_2 ?_
  refine V_if_ne hM.c 10 dX11_setTrust_5 (by decide) (fun c4 => ?_) (fun c4 => ?_)
  · replace h := ite_n h c4
    refine V_iload_n hM.c 2 dX11_setTrust_10 rfl rfl ?_
    refine V_iconst (v := 0) hM.c dX11_setTrust_11 (by decide) ?_
    refine V_bipush (v := 100) hM.c dX11_setTrust_12 (by decide) ?_
    replace h := bnd_some h
    obtain ⟨r5, g6, e7, h⟩ := h
    refine V_callS (As := [.int x2, .int (0 : Int32), .int (100 : Int32)]) hM.c hM.a mq_X11_in mi_X11_in tw_212 (hM.d (by decide)) hM.z (vm_X11_in e7) rfl (Nat.le_of_ble_eq_true rfl) dX11_setTrust_14 ?_
    refine V_if_ne hM.c 23 dX11_setTrust_17 (by decide) (fun c8 => ?_) (fun c8 => ?_)
    · replace h := ite_n h c8
      refine V_aload_n hM.c 0 dX11_setTrust_23 rfl rfl ?_
      replace h := bnd_some h
      obtain ⟨r9, g10, e11, h⟩ := h
      refine V_callV (As := []) (c := 9) (T := TX11) (N := 32) hM.c hM.a mq_X11_records mi_X11_records tw_227 (hM.d (by decide)) hM.z rfl (by omega) (zc_X11_records e11) (vm_X11_records e11) rfl (Nat.le_of_ble_eq_true rfl) dX11_setTrust_24 ?_
      refine V_aload_n hM.c 0 dX11_setTrust_27 rfl rfl ?_
      refine V_iload_n hM.c 1 dX11_setTrust_28 rfl rfl ?_
      refine V_iconst (v := 3) hM.c dX11_setTrust_29 (by decide) ?_
      replace h := bnd_some h
      obtain ⟨r12, g13, e14, h⟩ := h
      refine V_callV (As := [.int x1, .int (3 : Int32)]) (c := 9) (T := TX11) (N := 32) hM.c hM.a mq_X11_of mi_X11_of tw_219 (hM.d (by decide)) hM.z rfl (by omega) (zc_X11_of e14) (vm_X11_of e14) rfl (Nat.le_of_ble_eq_true rfl) dX11_setTrust_30 ?_
      refine V_istore_n (i := 3) (L' := [(3, .int r12), (0, va_rf (some a)), (1, .int x1), (2, .int x2)]) hM.c dX11_setTrust_33 rfl (by decide) rfl ?_
      refine V_aload_n hM.c 1 dX11_setTrust_34 rfl rfl ?_
      refine V_iload_n hM.c 2 dX11_setTrust_35 rfl rfl ?_
      refine V_iconst (v := 3) hM.c dX11_setTrust_36 (by decide) ?_
      refine V_iload_n hM.c 3 dX11_setTrust_37 rfl rfl ?_
      replace h := bnd_some h
      obtain ⟨r15, g16, e17, h⟩ := h
      refine V_callV (As := [.int x1, .int (3 : Int32), .int x2]) (c := 9) (T := TX11) (N := 32) hM.c hM.a mq_X11_lays mi_X11_lays tw_410 (hM.d (by decide)) hM.z rfl (by omega) (zc_X11_lays e17) (vm_X11_lays e17) rfl (Nat.le_of_ble_eq_true rfl) dX11_setTrust_38 ?_
      refine V_iload_n hM.c 0 dX11_setTrust_41 rfl rfl ?_
      exact V_iretE hM h dX11_setTrust_42
    · replace h := ite_p h c8
      refine V_bipush (v := -2) hM.c dX11_setTrust_20 (by decide) ?_
      exact V_iretE hM h dX11_setTrust_22
  · replace h := ite_p h c4
    refine V_iconst (v := -1) hM.c dX11_setTrust_8 (by decide) ?_
    exact V_iretE hM h dX11_setTrust_9
def f_X11_setOf_l4 (n : Nat) (Z : Zt) : Nat → Int64 → Int32 → Int32 → Mem → Option (Int32 × Mem)
  | 0, _, _, _, _ => none
  | fu + 1, x0, x2, x3, g => if (16 : Int32) ≤ x3 then (some (x2, g)) else (bnd (f_X11_exponentOf n Z x0 x3 g) (fun r2 g3 => if r2 ≤ 0 then (f_X11_setOf_l4 n Z fu x0 (x2 ||| (0 : Int32)) (x3 + 1) g3) else (f_X11_setOf_l4 n Z fu x0 (x2 ||| ((1 : Int32) <<< (x3 &&& 31))) (x3 + 1) g3)))
set_option maxHeartbeats 4000000 in
set_option maxRecDepth 100000 in
theorem vl_X11_setOf_l4 {x : Cq} {n : Nat} {Z : Zt} {rr : Int32} {gg : Mem} (hM : Cm x cX11_setOf RX11 4 (some .int) 1 Z (some (.int rr)) gg) : ∀ (fu : Nat) (x0 : Int64) (x2 : Int32) (x3 : Int32) (g : Mem), f_X11_setOf_l4 n Z fu x0 x2 x3 g = some (rr, gg) → V x Z 0 0 4 [(0, .long x0), (2, .int x2), (3, .int x3)] [] g := by
  intro fu
  induction fu with
  | zero => intro x0 x2 x3 g h; cases h
  | succ fu ih =>
    intro x0 x2 x3 g h
    unfold f_X11_setOf_l4 at h
    refine V_iload_n hM.c 2 dX11_setOf_4 rfl rfl ?_
    refine V_bipush (v := 16) hM.c dX11_setOf_5 (by decide) ?_
    refine V_icmp_ge hM.c 34 dX11_setOf_7 (by decide) (fun c1 => ?_) (fun c1 => ?_)
    · replace h := ite_p h c1
      refine V_iload_n hM.c 1 dX11_setOf_34 rfl rfl ?_
      exact V_iretE hM h dX11_setOf_35
    · replace h := ite_n h c1
      refine V_iload_n hM.c 1 dX11_setOf_10 rfl rfl ?_
      refine V_lload_n hM.c 0 dX11_setOf_11 rfl rfl ?_
      refine V_iload_n hM.c 2 dX11_setOf_12 rfl rfl ?_
      replace h := bnd_some h
      obtain ⟨r2, g3, e4, h⟩ := h
      refine V_callS (As := [.long x0, .int x3]) hM.c hM.a mq_X11_exponentOf mi_X11_exponentOf tw_662 (hM.d (by decide)) hM.z (vm_X11_exponentOf e4) rfl (Nat.le_of_ble_eq_true rfl) dX11_setOf_13 ?_
      refine V_if_le hM.c 25 dX11_setOf_16 (by decide) (fun c5 => ?_) (fun c5 => ?_)
      · replace h := ite_p h c5
        refine V_iconst (v := 0) hM.c dX11_setOf_25 (by decide) ?_
        refine V_ior hM.c dX11_setOf_26 ?_
        refine V_istore_n (i := 2) (L' := [(2, .int (x2 ||| (0 : Int32))), (0, .long x0), (3, .int x3)]) hM.c dX11_setOf_27 rfl (by decide) rfl ?_
        refine V_iinc (v := (x3 + 1)) (L' := [(3, .int (x3 + 1)), (2, .int (x2 ||| (0 : Int32))), (0, .long x0)]) hM.c 2 dX11_setOf_28 rfl rfl (by decide) rfl ?_
        refine V_goto hM.c 4 dX11_setOf_31 (by decide) ?_
        refine V_sub [2, 1, 0] rfl ?_
        exact ih _ _ _ _ h
      · replace h := ite_n h c5
        refine V_iconst (v := 1) hM.c dX11_setOf_19 (by decide) ?_
        refine V_iload_n hM.c 2 dX11_setOf_20 rfl rfl ?_
        refine V_ishl hM.c dX11_setOf_21 ?_
        refine V_goto hM.c 26 dX11_setOf_22 (by decide) ?_
        refine V_ior hM.c dX11_setOf_26 ?_
        refine V_istore_n (i := 2) (L' := [(2, .int (x2 ||| ((1 : Int32) <<< (x3 &&& 31)))), (0, .long x0), (3, .int x3)]) hM.c dX11_setOf_27 rfl (by decide) rfl ?_
        refine V_iinc (v := (x3 + 1)) (L' := [(3, .int (x3 + 1)), (2, .int (x2 ||| ((1 : Int32) <<< (x3 &&& 31)))), (0, .long x0)]) hM.c 2 dX11_setOf_28 rfl rfl (by decide) rfl ?_
        refine V_goto hM.c 4 dX11_setOf_31 (by decide) ?_
        refine V_sub [2, 1, 0] rfl ?_
        exact ih _ _ _ _ h
def f_X11_setOf (n : Nat) (Z : Zt) (x0 : Int64) (g : Mem) : Option (Int32 × Mem) := f_X11_setOf_l4 n Z n x0 (0 : Int32) (0 : Int32) g
theorem mq_X11_setOf : Mq yX11_setOf cX11_setOf 4 (some .int) 1 := ⟨tw_661, tw_5, ⟨by decide +kernel, by decide +kernel, by decide +kernel⟩, by decide⟩
theorem mi_X11_setOf : Cond.static yX11_setOf ∈ TB := tw_660
set_option maxHeartbeats 4000000 in
set_option maxRecDepth 100000 in
theorem vm_X11_setOf {n : Nat} {Z : Zt} {x0 : Int64} {g : Mem} {rr : Int32} {gg : Mem} (h : f_X11_setOf n Z x0 g = some (rr, gg)) : VM yX11_setOf cX11_setOf 4 (some .int) 1 [.long x0] Z g (some (.int rr)) gg := by
  unfold f_X11_setOf at h
  refine VM.of (by decide +kernel) (Nat.le_of_ble_eq_true rfl) (fun x hM => ?_)
  have hM : Cm x cX11_setOf RX11 4 (some .int) 1 Z (some (.int rr)) gg := hM
  show V x Z 0 0 0 [(0, .long x0)] [] g
  refine V_iconst (v := 0) hM.c dX11_setOf_0 (by decide) ?_
  refine V_istore_n (i := 2) (L' := [(2, .int (0 : Int32)), (0, .long x0)]) hM.c dX11_setOf_1 rfl (by decide) rfl ?_
  refine V_iconst (v := 0) hM.c dX11_setOf_2 (by decide) ?_
  refine V_istore_n (i := 3) (L' := [(3, .int (0 : Int32)), (2, .int (0 : Int32)), (0, .long x0)]) hM.c dX11_setOf_3 rfl (by decide) rfl ?_
  refine V_sub [2, 1, 0] rfl ?_
  exact vl_X11_setOf_l4 hM  _ _ _ _ _ h
def f_X11_isAvailable (n : Nat) (Z : Zt) (a : Nat) (x1 : Int32) (x2 : Int32) (x3 : Int32) (g : Mem) : Option (Int32 × Mem) := grd (zk Z a = 10) (drf (zf Z a 22) (fun b1 => grd (zk Z b1 = 13) (grd (inr (((32 : Int32) * x1) + x2) (zl Z b1)) (bnd (f_X11_setOf n Z (gJ g b1 (((32 : Int32) * x1) + x2).toNatClampNeg) g) (fun r5 g6 => if (r5 &&& x3) = 0 then (some ((1 : Int32), g6)) else (some ((0 : Int32), g6)))))))
theorem mq_X11_isAvailable : Mq yX11_isAvailable cX11_isAvailable 4 (some .boolean) 3 := ⟨tw_658, tw_5, ⟨by decide +kernel, by decide +kernel, by decide +kernel⟩, by decide⟩
theorem mi_X11_isAvailable : Cond.instanceMethod yX11_isAvailable ∈ TB ∧ Cond.selects yX11_isAvailable.cls yX11_isAvailable yX11_isAvailable ∈ TB := ⟨tw_656, tw_657⟩
theorem zc_X11_isAvailable {n : Nat} {Z : Zt} {a : Nat} {x1 : Int32} {x2 : Int32} {x3 : Int32} {g : Mem} {q : Int32 × Mem} (h : f_X11_isAvailable n Z a x1 x2 x3 g = some q) : zk Z a = 10 := (grd_some h).1
set_option maxHeartbeats 4000000 in
set_option maxRecDepth 100000 in
theorem vm_X11_isAvailable {n : Nat} {Z : Zt} {a : Nat} {x1 : Int32} {x2 : Int32} {x3 : Int32} {g : Mem} {rr : Int32} {gg : Mem} (h : f_X11_isAvailable n Z a x1 x2 x3 g = some (rr, gg)) : VM yX11_isAvailable cX11_isAvailable 4 (some .boolean) 2 [.ref a, .int x1, .int x2, .int x3] Z g (some (.int rr)) gg := by
  unfold f_X11_isAvailable at h
  replace h := grd_some h
  obtain ⟨hz0, h⟩ := h
  refine VM.of (by decide +kernel) (Nat.le_of_ble_eq_true rfl) (fun x hM => ?_)
  have hM : Cm x cX11_isAvailable RX11 4 (some .boolean) 2 Z (some (.int rr)) gg := hM
  show V x Z 0 0 0 [(0, va_rf (some a)), (1, .int x1), (2, .int x2), (3, .int x3)] [] g
  refine V_aload_n hM.c 0 dX11_isAvailable_0 rfl rfl ?_
  replace h := drf_some h
  obtain ⟨b1, e2, h⟩ := h
  refine G9_22 hM.c tw_129 hz0 e2 dX11_isAvailable_1 ?_
  refine V_bipush (v := 32) hM.c dX11_isAvailable_4 (by decide) ?_
  refine V_iload_n hM.c 1 dX11_isAvailable_6 rfl rfl ?_
  refine V_imul hM.c dX11_isAvailable_7 ?_
  refine V_iload_n hM.c 2 dX11_isAvailable_8 rfl rfl ?_
  refine V_iadd hM.c dX11_isAvailable_9 ?_
  replace h := grd_some h
  obtain ⟨z3, h⟩ := h
  replace h := grd_some h
  obtain ⟨c4, h⟩ := h
  refine V_lald hM.c z3 c4 dX11_isAvailable_10 ?_
  replace h := bnd_some h
  obtain ⟨r5, g6, e7, h⟩ := h
  refine V_callS (As := [.long (gJ g b1 (((32 : Int32) * x1) + x2).toNatClampNeg)]) hM.c hM.a mq_X11_setOf mi_X11_setOf tw_659 (hM.d (by decide)) hM.z (vm_X11_setOf e7) rfl (Nat.le_of_ble_eq_true rfl) dX11_isAvailable_11 ?_
  refine V_iload_n hM.c 3 dX11_isAvailable_14 rfl rfl ?_
  refine V_iand hM.c dX11_isAvailable_15 ?_
  refine V_if_ne hM.c 23 dX11_isAvailable_16 (by decide) (fun c8 => ?_) (fun c8 => ?_)
  · replace h := ite_n h c8
    refine V_iconst (v := 0) hM.c dX11_isAvailable_23 (by decide) ?_
    exact V_zretE hM (isz_nar (by decide)) h dX11_isAvailable_24
  · replace h := ite_p h c8
    refine V_iconst (v := 1) hM.c dX11_isAvailable_19 (by decide) ?_
    refine V_goto hM.c 24 dX11_isAvailable_20 (by decide) ?_
    exact V_zretE hM (isz_nar (by decide)) h dX11_isAvailable_24
def f_X11_isPresent_l5 (n : Nat) (Z : Zt) (a : Nat) : Nat → Int32 → Int32 → Int32 → Int32 → Mem → Option (Int32 × Mem)
  | 0, _, _, _, _, _ => none
  | fu + 1, x1, x2, x3, x4, g => drf (zf Z a 21) (fun b1 => grd (zk Z b1 = 12) (grd (inr x1 (zl Z b1)) (if (gI g b1 x1.toNatClampNeg) ≤ x4 then (grd (isz x3) (some (x3, g))) else (if x3 = 0 then (bnd (f_X11_isAvailable n Z a x1 x4 x2 g) (fun r8 g9 => if r8 = 0 then (f_X11_isPresent_l5 n Z a fu x1 x2 (0 : Int32) (x4 + 1) g9) else (f_X11_isPresent_l5 n Z a fu x1 x2 (1 : Int32) (x4 + 1) g9))) else (f_X11_isPresent_l5 n Z a fu x1 x2 (1 : Int32) (x4 + 1) g)))))
set_option maxHeartbeats 4000000 in
set_option maxRecDepth 100000 in
theorem vl_X11_isPresent_l5 {x : Cq} {n : Nat} {Z : Zt} {a : Nat} {rr : Int32} {gg : Mem} (hM : Cm x cX11_isPresent RX11 5 (some .boolean) 3 Z (some (.int rr)) gg) (hz0 : zk Z a = 10) : ∀ (fu : Nat) (x1 : Int32) (x2 : Int32) (x3 : Int32) (x4 : Int32) (g : Mem), f_X11_isPresent_l5 n Z a fu x1 x2 x3 x4 g = some (rr, gg) → V x Z 0 0 5 [(0, va_rf (some a)), (1, .int x1), (2, .int x2), (3, .int x3), (4, .int x4)] [] g := by
  intro fu
  induction fu with
  | zero => intro x1 x2 x3 x4 g h; cases h
  | succ fu ih =>
    intro x1 x2 x3 x4 g h
    unfold f_X11_isPresent_l5 at h
    refine V_iload hM.c 4 dX11_isPresent_5 rfl ?_
    refine V_aload_n hM.c 0 dX11_isPresent_7 rfl rfl ?_
    replace h := drf_some h
    obtain ⟨b1, e2, h⟩ := h
    refine G9_21 hM.c tw_128 hz0 e2 dX11_isPresent_8 ?_
    refine V_iload_n hM.c 1 dX11_isPresent_11 rfl rfl ?_
    replace h := grd_some h
    obtain ⟨z3, h⟩ := h
    replace h := grd_some h
    obtain ⟨c4, h⟩ := h
    refine V_iald hM.c z3 c4 dX11_isPresent_12 ?_
    refine V_icmp_ge hM.c 43 dX11_isPresent_13 (by decide) (fun c5 => ?_) (fun c5 => ?_)
    · replace h := ite_p h c5
      refine V_iload_n hM.c 3 dX11_isPresent_43 rfl rfl ?_
      replace h := grd_some h
      obtain ⟨c6, h⟩ := h
      exact V_zretE hM (isz_nar c6) h dX11_isPresent_44
    · replace h := ite_n h c5
      refine V_iload_n hM.c 3 dX11_isPresent_16 rfl rfl ?_
      refine V_if_ne hM.c 31 dX11_isPresent_17 (by decide) (fun c7 => ?_) (fun c7 => ?_)
      · replace h := ite_n h c7
        refine V_iconst (v := 1) hM.c dX11_isPresent_31 (by decide) ?_
        refine V_goto hM.c 36 dX11_isPresent_32 (by decide) ?_
        refine V_istore_n (i := 3) (L' := [(3, .int (1 : Int32)), (0, va_rf (some a)), (1, .int x1), (2, .int x2), (4, .int x4)]) hM.c dX11_isPresent_36 rfl (by decide) rfl ?_
        refine V_iinc (v := (x4 + 1)) (L' := [(4, .int (x4 + 1)), (3, .int (1 : Int32)), (0, va_rf (some a)), (1, .int x1), (2, .int x2)]) hM.c 4 dX11_isPresent_37 rfl rfl (by decide) rfl ?_
        refine V_goto hM.c 5 dX11_isPresent_40 (by decide) ?_
        refine V_sub [2, 3, 4, 1, 0] rfl ?_
        exact ih _ _ _ _ _ h
      · replace h := ite_p h c7
        refine V_aload_n hM.c 0 dX11_isPresent_20 rfl rfl ?_
        refine V_iload_n hM.c 1 dX11_isPresent_21 rfl rfl ?_
        refine V_iload hM.c 4 dX11_isPresent_22 rfl ?_
        refine V_iload_n hM.c 2 dX11_isPresent_24 rfl rfl ?_
        replace h := bnd_some h
        obtain ⟨r8, g9, e10, h⟩ := h
        refine V_callV (As := [.int x1, .int x4, .int x2]) (c := 9) (T := TX11) (N := 32) hM.c hM.a mq_X11_isAvailable mi_X11_isAvailable tw_655 (hM.d (by decide)) hM.z rfl (by omega) (zc_X11_isAvailable e10) (vm_X11_isAvailable e10) rfl (Nat.le_of_ble_eq_true rfl) dX11_isPresent_25 ?_
        refine V_if_eq hM.c 35 dX11_isPresent_28 (by decide) (fun c11 => ?_) (fun c11 => ?_)
        · replace h := ite_p h c11
          refine V_iconst (v := 0) hM.c dX11_isPresent_35 (by decide) ?_
          refine V_istore_n (i := 3) (L' := [(3, .int (0 : Int32)), (0, va_rf (some a)), (1, .int x1), (2, .int x2), (4, .int x4)]) hM.c dX11_isPresent_36 rfl (by decide) rfl ?_
          refine V_iinc (v := (x4 + 1)) (L' := [(4, .int (x4 + 1)), (3, .int (0 : Int32)), (0, va_rf (some a)), (1, .int x1), (2, .int x2)]) hM.c 4 dX11_isPresent_37 rfl rfl (by decide) rfl ?_
          refine V_goto hM.c 5 dX11_isPresent_40 (by decide) ?_
          refine V_sub [2, 3, 4, 1, 0] rfl ?_
          exact ih _ _ _ _ _ h
        · replace h := ite_n h c11
          refine V_iconst (v := 1) hM.c dX11_isPresent_31 (by decide) ?_
          refine V_goto hM.c 36 dX11_isPresent_32 (by decide) ?_
          refine V_istore_n (i := 3) (L' := [(3, .int (1 : Int32)), (0, va_rf (some a)), (1, .int x1), (2, .int x2), (4, .int x4)]) hM.c dX11_isPresent_36 rfl (by decide) rfl ?_
          refine V_iinc (v := (x4 + 1)) (L' := [(4, .int (x4 + 1)), (3, .int (1 : Int32)), (0, va_rf (some a)), (1, .int x1), (2, .int x2)]) hM.c 4 dX11_isPresent_37 rfl rfl (by decide) rfl ?_
          refine V_goto hM.c 5 dX11_isPresent_40 (by decide) ?_
          refine V_sub [2, 3, 4, 1, 0] rfl ?_
          exact ih _ _ _ _ _ h
def f_X11_isPresent (n : Nat) (Z : Zt) (a : Nat) (x1 : Int32) (x2 : Int32) (g : Mem) : Option (Int32 × Mem) := grd (zk Z a = 10) (f_X11_isPresent_l5 n Z a n x1 x2 (0 : Int32) (0 : Int32) g)
theorem mq_X11_isPresent : Mq yX11_isPresent cX11_isPresent 5 (some .boolean) 2 := ⟨tw_654, tw_5, ⟨by decide +kernel, by decide +kernel, by decide +kernel⟩, by decide⟩
theorem mi_X11_isPresent : Cond.instanceMethod yX11_isPresent ∈ TB ∧ Cond.selects yX11_isPresent.cls yX11_isPresent yX11_isPresent ∈ TB := ⟨tw_652, tw_653⟩
theorem zc_X11_isPresent {n : Nat} {Z : Zt} {a : Nat} {x1 : Int32} {x2 : Int32} {g : Mem} {q : Int32 × Mem} (h : f_X11_isPresent n Z a x1 x2 g = some q) : zk Z a = 10 := (grd_some h).1
set_option maxHeartbeats 4000000 in
set_option maxRecDepth 100000 in
theorem vm_X11_isPresent {n : Nat} {Z : Zt} {a : Nat} {x1 : Int32} {x2 : Int32} {g : Mem} {rr : Int32} {gg : Mem} (h : f_X11_isPresent n Z a x1 x2 g = some (rr, gg)) : VM yX11_isPresent cX11_isPresent 5 (some .boolean) 3 [.ref a, .int x1, .int x2] Z g (some (.int rr)) gg := by
  unfold f_X11_isPresent at h
  replace h := grd_some h
  obtain ⟨hz0, h⟩ := h
  refine VM.of (by decide +kernel) (Nat.le_of_ble_eq_true rfl) (fun x hM => ?_)
  have hM : Cm x cX11_isPresent RX11 5 (some .boolean) 3 Z (some (.int rr)) gg := hM
  show V x Z 0 0 0 [(0, va_rf (some a)), (1, .int x1), (2, .int x2)] [] g
  refine V_iconst (v := 0) hM.c dX11_isPresent_0 (by decide) ?_
  refine V_istore_n (i := 3) (L' := [(3, .int (0 : Int32)), (0, va_rf (some a)), (1, .int x1), (2, .int x2)]) hM.c dX11_isPresent_1 rfl (by decide) rfl ?_
  refine V_iconst (v := 0) hM.c dX11_isPresent_2 (by decide) ?_
  refine V_istore (L' := [(4, .int (0 : Int32)), (3, .int (0 : Int32)), (0, va_rf (some a)), (1, .int x1), (2, .int x2)]) hM.c dX11_isPresent_3 (by decide) rfl ?_
  refine V_sub [2, 3, 4, 1, 0] rfl ?_
  exact vl_X11_isPresent_l5 hM hz0  _ _ _ _ _ _ h
def f_X11_presentRows_l8 (n : Nat) (Z : Zt) (a : Nat) : Nat → Int32 → Int32 → Int32 → Mem → Option (Int32 × Mem)
  | 0, _, _, _, _ => none
  | fu + 1, x1, x2, x3, g => drf (zf Z a 19) (fun b4 => grd (zk Z b4 = 12) (grd (inr (0 : Int32) (zl Z b4)) (if (gI g b4 (0 : Int32).toNatClampNeg) ≤ x3 then (some (x2, g)) else (bnd (f_X11_isPresent n Z a x3 x1 g) (fun r9 g10 => if r9 = 0 then (f_X11_presentRows_l8 n Z a fu x1 (x2 + (0 : Int32)) (x3 + 1) g10) else (f_X11_presentRows_l8 n Z a fu x1 (x2 + (1 : Int32)) (x3 + 1) g10))))))
set_option maxHeartbeats 4000000 in
set_option maxRecDepth 100000 in
theorem vl_X11_presentRows_l8 {x : Cq} {n : Nat} {Z : Zt} {a : Nat} {rr : Int32} {gg : Mem} (hM : Cm x cX11_presentRows RX11 4 (some .int) 6 Z (some (.int rr)) gg) (hz0 : zk Z a = 10) : ∀ (fu : Nat) (x1 : Int32) (x2 : Int32) (x3 : Int32) (g : Mem), f_X11_presentRows_l8 n Z a fu x1 x2 x3 g = some (rr, gg) → V x Z 0 0 8 [(0, va_rf (some a)), (1, .int x1), (2, .int x2), (3, .int x3)] [] g := by
  intro fu
  induction fu with
  | zero => intro x1 x2 x3 g h; cases h
  | succ fu ih =>
    intro x1 x2 x3 g h
    unfold f_X11_presentRows_l8 at h
    refine V_iload_n hM.c 3 dX11_presentRows_8 rfl rfl ?_
    refine V_aload_n hM.c 0 dX11_presentRows_9 rfl rfl ?_
    replace h := drf_some h
    obtain ⟨b4, e5, h⟩ := h
    refine G9_19 hM.c tw_126 hz0 e5 dX11_presentRows_10 ?_
    refine V_iconst (v := 0) hM.c dX11_presentRows_13 (by decide) ?_
    replace h := grd_some h
    obtain ⟨z6, h⟩ := h
    replace h := grd_some h
    obtain ⟨c7, h⟩ := h
    refine V_iald hM.c z6 c7 dX11_presentRows_14 ?_
    refine V_icmp_ge hM.c 41 dX11_presentRows_15 (by decide) (fun c8 => ?_) (fun c8 => ?_)
    · replace h := ite_p h c8
      refine V_iload_n hM.c 2 dX11_presentRows_41 rfl rfl ?_
      exact V_iretE hM h dX11_presentRows_42
    · replace h := ite_n h c8
      refine V_iload_n hM.c 2 dX11_presentRows_18 rfl rfl ?_
      refine V_aload_n hM.c 0 dX11_presentRows_19 rfl rfl ?_
      refine V_iload_n hM.c 3 dX11_presentRows_20 rfl rfl ?_
      refine V_iload_n hM.c 1 dX11_presentRows_21 rfl rfl ?_
      replace h := bnd_some h
      obtain ⟨r9, g10, e11, h⟩ := h
      refine V_callV (As := [.int x3, .int x1]) (c := 9) (T := TX11) (N := 32) hM.c hM.a mq_X11_isPresent mi_X11_isPresent tw_651 (hM.d (by decide)) hM.z rfl (by omega) (zc_X11_isPresent e11) (vm_X11_isPresent e11) rfl (Nat.le_of_ble_eq_true rfl) dX11_presentRows_22 ?_
      refine V_if_eq hM.c 32 dX11_presentRows_25 (by decide) (fun c12 => ?_) (fun c12 => ?_)
      · replace h := ite_p h c12
        refine V_iconst (v := 0) hM.c dX11_presentRows_32 (by decide) ?_
        refine V_iadd hM.c dX11_presentRows_33 ?_
        refine V_istore_n (i := 2) (L' := [(2, .int (x2 + (0 : Int32))), (0, va_rf (some a)), (1, .int x1), (3, .int x3)]) hM.c dX11_presentRows_34 rfl (by decide) rfl ?_
        refine V_iinc (v := (x3 + 1)) (L' := [(3, .int (x3 + 1)), (2, .int (x2 + (0 : Int32))), (0, va_rf (some a)), (1, .int x1)]) hM.c 3 dX11_presentRows_35 rfl rfl (by decide) rfl ?_
        refine V_goto hM.c 8 dX11_presentRows_38 (by decide) ?_
        refine V_sub [2, 3, 1, 0] rfl ?_
        exact ih _ _ _ _ h
      · replace h := ite_n h c12
        refine V_iconst (v := 1) hM.c dX11_presentRows_28 (by decide) ?_
        refine V_goto hM.c 33 dX11_presentRows_29 (by decide) ?_
        refine V_iadd hM.c dX11_presentRows_33 ?_
        refine V_istore_n (i := 2) (L' := [(2, .int (x2 + (1 : Int32))), (0, va_rf (some a)), (1, .int x1), (3, .int x3)]) hM.c dX11_presentRows_34 rfl (by decide) rfl ?_
        refine V_iinc (v := (x3 + 1)) (L' := [(3, .int (x3 + 1)), (2, .int (x2 + (1 : Int32))), (0, va_rf (some a)), (1, .int x1)]) hM.c 3 dX11_presentRows_35 rfl rfl (by decide) rfl ?_
        refine V_goto hM.c 8 dX11_presentRows_38 (by decide) ?_
        refine V_sub [2, 3, 1, 0] rfl ?_
        exact ih _ _ _ _ h
def f_X11_presentRows (n : Nat) (Z : Zt) (a : Nat) (x1 : Int32) (g : Mem) : Option (Int32 × Mem) := grd (zk Z a = 10) (bnd (f_X11_laysAnswer n Z a g) (fun r1 g2 => f_X11_presentRows_l8 n Z a n x1 (0 : Int32) (0 : Int32) g2))
theorem mq_X11_presentRows : Mq yX11_presentRows cX11_presentRows 4 (some .int) 1 := ⟨tw_646, tw_5, ⟨by decide +kernel, by decide +kernel, by decide +kernel⟩, by decide⟩
theorem mi_X11_presentRows : Cond.instanceMethod yX11_presentRows ∈ TB ∧ Cond.selects yX11_presentRows.cls yX11_presentRows yX11_presentRows ∈ TB := ⟨tw_644, tw_645⟩
theorem zc_X11_presentRows {n : Nat} {Z : Zt} {a : Nat} {x1 : Int32} {g : Mem} {q : Int32 × Mem} (h : f_X11_presentRows n Z a x1 g = some q) : zk Z a = 10 := (grd_some h).1
set_option maxHeartbeats 4000000 in
set_option maxRecDepth 100000 in
theorem vm_X11_presentRows {n : Nat} {Z : Zt} {a : Nat} {x1 : Int32} {g : Mem} {rr : Int32} {gg : Mem} (h : f_X11_presentRows n Z a x1 g = some (rr, gg)) : VM yX11_presentRows cX11_presentRows 4 (some .int) 6 [.ref a, .int x1] Z g (some (.int rr)) gg := by
  unfold f_X11_presentRows at h
  replace h := grd_some h
  obtain ⟨hz0, h⟩ := h
  refine VM.of (by decide +kernel) (Nat.le_of_ble_eq_true rfl) (fun x hM => ?_)
  have hM : Cm x cX11_presentRows RX11 4 (some .int) 6 Z (some (.int rr)) gg := hM
  show V x Z 0 0 0 [(0, va_rf (some a)), (1, .int x1)] [] g
  refine V_aload_n hM.c 0 dX11_presentRows_0 rfl rfl ?_
  replace h := bnd_some h
  obtain ⟨r1, g2, e3, h⟩ := h
  refine V_callV (As := []) (c := 9) (T := TX11) (N := 32) hM.c hM.a mq_X11_laysAnswer mi_X11_laysAnswer tw_647 (hM.d (by decide)) hM.z rfl (by omega) (zc_X11_laysAnswer e3) (vm_X11_laysAnswer e3) rfl (Nat.le_of_ble_eq_true rfl) dX11_presentRows_1 ?_
  refine V_iconst (v := 0) hM.c dX11_presentRows_4 (by decide) ?_
  refine V_istore_n (i := 2) (L' := [(2, .int (0 : Int32)), (0, va_rf (some a)), (1, .int x1)]) hM.c dX11_presentRows_5 rfl (by decide) rfl ?_
  refine V_iconst (v := 0) hM.c dX11_presentRows_6 (by decide) ?_
  refine V_istore_n (i := 3) (L' := [(3, .int (0 : Int32)), (2, .int (0 : Int32)), (0, va_rf (some a)), (1, .int x1)]) hM.c dX11_presentRows_7 rfl (by decide) rfl ?_
  refine V_sub [2, 3, 1, 0] rfl ?_
  exact vl_X11_presentRows_l8 hM hz0  _ _ _ _ _ h
def f_X11_setWithdrawn_l26 (n : Nat) (Z : Zt) (a : Nat) (s0 : Int32) (s1 : Int32) (s2 : Int32) (s3 : Nat) (g : Mem) : Option (Int32 × Mem) := bnd (f_X11_lays n Z s3 s2 s1 s0 g) (fun r9 g10 => bnd (f_X11_mask n Z a (1 : Int32) g10) (fun r12 g13 => bnd (f_X11_presentRows n Z a r12 g13) (fun r15 g16 => some (r15, g16))))
set_option maxHeartbeats 4000000 in
set_option maxRecDepth 100000 in
theorem vl_X11_setWithdrawn_l26 {x : Cq} {n : Nat} {Z : Zt} {a : Nat} {s0 : Int32} {s1 : Int32} {s2 : Int32} {s3 : Nat} {g : Mem} {rr : Int32} {gg : Mem} (hM : Cm x cX11_setWithdrawn RX11 3 (some .int) 7 Z (some (.int rr)) gg) (hz0 : zk Z a = 10) (h : f_X11_setWithdrawn_l26 n Z a s0 s1 s2 s3 g = some (rr, gg)) : V x Z 0 0 26 [(0, va_rf (some a))] [.int s0, .int s1, .int s2, va_rf (some s3)] g := by
  unfold f_X11_setWithdrawn_l26 at h
  replace h := bnd_some h
  obtain ⟨r9, g10, e11, h⟩ := h
  refine V_callV (As := [.int s2, .int s1, .int s0]) (c := 9) (T := TX11) (N := 32) hM.c hM.a mq_X11_lays mi_X11_lays tw_410 (hM.d (by decide)) hM.z rfl (by omega) (zc_X11_lays e11) (vm_X11_lays e11) rfl (Nat.le_of_ble_eq_true rfl) dX11_setWithdrawn_26 ?_
  refine V_aload_n hM.c 0 dX11_setWithdrawn_29 rfl rfl ?_
  refine V_aload_n hM.c 0 dX11_setWithdrawn_30 rfl rfl ?_
  refine V_iconst (v := 1) hM.c dX11_setWithdrawn_31 (by decide) ?_
  replace h := bnd_some h
  obtain ⟨r12, g13, e14, h⟩ := h
  refine V_callV (As := [.int (1 : Int32)]) (c := 9) (T := TX11) (N := 32) hM.c hM.a mq_X11_mask mi_X11_mask tw_559 (hM.d (by decide)) hM.z rfl (by omega) (zc_X11_mask e14) (vm_X11_mask e14) rfl (Nat.le_of_ble_eq_true rfl) dX11_setWithdrawn_32 ?_
  replace h := bnd_some h
  obtain ⟨r15, g16, e17, h⟩ := h
  refine V_callV (As := [.int r12]) (c := 9) (T := TX11) (N := 32) hM.c hM.a mq_X11_presentRows mi_X11_presentRows tw_643 (hM.d (by decide)) hM.z rfl (by omega) (zc_X11_presentRows e17) (vm_X11_presentRows e17) rfl (Nat.le_of_ble_eq_true rfl) dX11_setWithdrawn_35 ?_
  exact V_iretE hM h dX11_setWithdrawn_38
def f_X11_setWithdrawn (n : Nat) (Z : Zt) (a : Nat) (x1 : Int32) (x2 : Int32) (g : Mem) : Option (Int32 × Mem) := grd (zk Z a = 10) (bnd (f_X11_isTag n Z a x1 g) (fun r1 g2 => if r1 = 0 then (some ((-1 : Int32), g2)) else (bnd (f_X11_records n Z a g2) (fun r5 g6 => if x2 = 0 then (f_X11_setWithdrawn_l26 n Z a (0 : Int32) (4 : Int32) x1 a g6) else (f_X11_setWithdrawn_l26 n Z a (1 : Int32) (4 : Int32) x1 a g6)))))
theorem mq_X11_setWithdrawn : Mq yX11_setWithdrawn cX11_setWithdrawn 3 (some .int) 2 := ⟨tw_642, tw_5, ⟨by decide +kernel, by decide +kernel, by decide +kernel⟩, by decide⟩
theorem mi_X11_setWithdrawn : Cond.instanceMethod yX11_setWithdrawn ∈ TB ∧ Cond.selects yX11_setWithdrawn.cls yX11_setWithdrawn yX11_setWithdrawn ∈ TB := ⟨tw_640, tw_641⟩
theorem zc_X11_setWithdrawn {n : Nat} {Z : Zt} {a : Nat} {x1 : Int32} {x2 : Int32} {g : Mem} {q : Int32 × Mem} (h : f_X11_setWithdrawn n Z a x1 x2 g = some q) : zk Z a = 10 := (grd_some h).1
set_option maxHeartbeats 4000000 in
set_option maxRecDepth 100000 in
theorem vm_X11_setWithdrawn {n : Nat} {Z : Zt} {a : Nat} {x1 : Int32} {x2 : Int32} {g : Mem} {rr : Int32} {gg : Mem} (h : f_X11_setWithdrawn n Z a x1 x2 g = some (rr, gg)) : VM yX11_setWithdrawn cX11_setWithdrawn 3 (some .int) 7 [.ref a, .int x1, .int x2] Z g (some (.int rr)) gg := by
  unfold f_X11_setWithdrawn at h
  replace h := grd_some h
  obtain ⟨hz0, h⟩ := h
  refine VM.of (by decide +kernel) (Nat.le_of_ble_eq_true rfl) (fun x hM => ?_)
  have hM : Cm x cX11_setWithdrawn RX11 3 (some .int) 7 Z (some (.int rr)) gg := hM
  show V x Z 0 0 0 [(0, va_rf (some a)), (1, .int x1), (2, .int x2)] [] g
  refine V_aload_n hM.c 0 dX11_setWithdrawn_0 rfl rfl ?_
  refine V_iload_n hM.c 1 dX11_setWithdrawn_1 rfl rfl ?_
  replace h := bnd_some h
  obtain ⟨r1, g2, e3, h⟩ := h
  refine V_callV (As := [.int x1]) (c := 9) (T := TX11) (N := 32) hM.c hM.a mq_X11_isTag mi_X11_isTag tw_555 (hM.d (by decide)) hM.z rfl (by omega) (zc_X11_isTag e3) (vm_X11_isTag e3) rfl (Nat.le_of_ble_eq_true rfl) dX11_setWithdrawn_2 ?_
  refine V_if_ne hM.c 10 dX11_setWithdrawn_5 (by decide) (fun c4 => ?_) (fun c4 => ?_)
  · replace h := ite_n h c4
    refine V_aload_n hM.c 0 dX11_setWithdrawn_10 rfl rfl ?_
    replace h := bnd_some h
    obtain ⟨r5, g6, e7, h⟩ := h
    refine V_callV (As := []) (c := 9) (T := TX11) (N := 32) hM.c hM.a mq_X11_records mi_X11_records tw_227 (hM.d (by decide)) hM.z rfl (by omega) (zc_X11_records e7) (vm_X11_records e7) rfl (Nat.le_of_ble_eq_true rfl) dX11_setWithdrawn_11 ?_
    refine V_aload_n hM.c 0 dX11_setWithdrawn_14 rfl rfl ?_
    refine V_iload_n hM.c 1 dX11_setWithdrawn_15 rfl rfl ?_
    refine V_iconst (v := 4) hM.c dX11_setWithdrawn_16 (by decide) ?_
    refine V_iload_n hM.c 2 dX11_setWithdrawn_17 rfl rfl ?_
    refine V_if_eq hM.c 25 dX11_setWithdrawn_18 (by decide) (fun c8 => ?_) (fun c8 => ?_)
    · replace h := ite_p h c8
      refine V_iconst (v := 0) hM.c dX11_setWithdrawn_25 (by decide) ?_
      refine V_sub [0] rfl ?_
      exact vl_X11_setWithdrawn_l26 hM hz0  h
    · replace h := ite_n h c8
      refine V_iconst (v := 1) hM.c dX11_setWithdrawn_21 (by decide) ?_
      refine V_goto hM.c 26 dX11_setWithdrawn_22 (by decide) ?_
      refine V_sub [0] rfl ?_
      exact vl_X11_setWithdrawn_l26 hM hz0  h
  · replace h := ite_p h c4
    refine V_iconst (v := -1) hM.c dX11_setWithdrawn_8 (by decide) ?_
    exact V_iretE hM h dX11_setWithdrawn_9
def f_X11_setQuery_l56 (n : Nat) (Z : Zt) (a : Nat) : Nat → Int32 → Mem → Option (Int32 × Mem)
  | 0, _, _ => none
  | fu + 1, x1, g => if (60 : Int32) ≤ x1 then (bnd (f_X11_laysAnswer n Z a g) (fun r24 g25 => drf (zf Z a 19) (fun b27 => grd (zk Z b27 = 12) (grd (inr (0 : Int32) (zl Z b27)) (some ((gI g25 b27 (0 : Int32).toNatClampNeg), g25)))))) else (drf (zf Z a 0) (fun b31 => if (gI g a 4) ≤ x1 then (grd (zk Z b31 = 12) (grd (inr ((85 : Int32) + x1) (zl Z b31)) (f_X11_setQuery_l56 n Z a fu (x1 + 1) (sI g b31 ((85 : Int32) + x1).toNatClampNeg (0 : Int32))))) else (drf (zf Z a 3) (fun b36 => grd (zk Z b36 = 12) (grd (inr x1 (zl Z b36)) (grd (zk Z b31 = 12) (grd (inr ((85 : Int32) + x1) (zl Z b31)) (f_X11_setQuery_l56 n Z a fu (x1 + 1) (sI g b31 ((85 : Int32) + x1).toNatClampNeg (gI g b36 x1.toNatClampNeg))))))))))
set_option maxHeartbeats 4000000 in
set_option maxRecDepth 100000 in
theorem vl_X11_setQuery_l56 {x : Cq} {n : Nat} {Z : Zt} {a : Nat} {rr : Int32} {gg : Mem} (hM : Cm x cX11_setQuery RX11 2 (some .int) 6 Z (some (.int rr)) gg) (hz0 : zk Z a = 10) : ∀ (fu : Nat) (x1 : Int32) (g : Mem), f_X11_setQuery_l56 n Z a fu x1 g = some (rr, gg) → V x Z 0 0 56 [(0, va_rf (some a)), (1, .int x1)] [] g := by
  intro fu
  induction fu with
  | zero => intro x1 g h; cases h
  | succ fu ih =>
    intro x1 g h
    unfold f_X11_setQuery_l56 at h
    refine V_iload_n hM.c 1 dX11_setQuery_56 rfl rfl ?_
    refine V_bipush (v := 60) hM.c dX11_setQuery_57 (by decide) ?_
    refine V_icmp_ge hM.c 95 dX11_setQuery_59 (by decide) (fun c23 => ?_) (fun c23 => ?_)
    · replace h := ite_p h c23
      refine V_aload_n hM.c 0 dX11_setQuery_95 rfl rfl ?_
      replace h := bnd_some h
      obtain ⟨r24, g25, e26, h⟩ := h
      refine V_callV (As := []) (c := 9) (T := TX11) (N := 32) hM.c hM.a mq_X11_laysAnswer mi_X11_laysAnswer tw_647 (hM.d (by decide)) hM.z rfl (by omega) (zc_X11_laysAnswer e26) (vm_X11_laysAnswer e26) rfl (Nat.le_of_ble_eq_true rfl) dX11_setQuery_96 ?_
      refine V_aload_n hM.c 0 dX11_setQuery_99 rfl rfl ?_
      replace h := drf_some h
      obtain ⟨b27, e28, h⟩ := h
      refine G9_19 hM.c tw_126 hz0 e28 dX11_setQuery_100 ?_
      refine V_iconst (v := 0) hM.c dX11_setQuery_103 (by decide) ?_
      replace h := grd_some h
      obtain ⟨z29, h⟩ := h
      replace h := grd_some h
      obtain ⟨c30, h⟩ := h
      refine V_iald hM.c z29 c30 dX11_setQuery_104 ?_
      exact V_iretE hM h dX11_setQuery_105
    · replace h := ite_n h c23
      refine V_aload_n hM.c 0 dX11_setQuery_62 rfl rfl ?_
      replace h := drf_some h
      obtain ⟨b31, e32, h⟩ := h
      refine G9_0 hM.c tw_114 hz0 e32 dX11_setQuery_63 ?_
      refine V_bipush (v := 85) hM.c dX11_setQuery_66 (by decide) ?_
      refine V_iload_n hM.c 1 dX11_setQuery_68 rfl rfl ?_
      refine V_iadd hM.c dX11_setQuery_69 ?_
      refine V_iload_n hM.c 1 dX11_setQuery_70 rfl rfl ?_
      refine V_aload_n hM.c 0 dX11_setQuery_71 rfl rfl ?_
      refine G9_4 hM.c tw_751 hz0 dX11_setQuery_72 ?_
      refine V_icmp_ge hM.c 87 dX11_setQuery_75 (by decide) (fun c33 => ?_) (fun c33 => ?_)
      · replace h := ite_p h c33
        refine V_iconst (v := 0) hM.c dX11_setQuery_87 (by decide) ?_
        replace h := grd_some h
        obtain ⟨z34, h⟩ := h
        replace h := grd_some h
        obtain ⟨c35, h⟩ := h
        refine V_iast hM.c z34 c35 hM.a dX11_setQuery_88 ?_
        refine V_iinc (v := (x1 + 1)) (L' := [(1, .int (x1 + 1)), (0, va_rf (some a))]) hM.c 1 dX11_setQuery_89 rfl rfl (by decide) rfl ?_
        refine V_goto hM.c 56 dX11_setQuery_92 (by decide) ?_
        refine V_sub [1, 0] rfl ?_
        exact ih _ _ h
      · replace h := ite_n h c33
        refine V_aload_n hM.c 0 dX11_setQuery_78 rfl rfl ?_
        replace h := drf_some h
        obtain ⟨b36, e37, h⟩ := h
        refine G9_3 hM.c tw_116 hz0 e37 dX11_setQuery_79 ?_
        refine V_iload_n hM.c 1 dX11_setQuery_82 rfl rfl ?_
        replace h := grd_some h
        obtain ⟨z38, h⟩ := h
        replace h := grd_some h
        obtain ⟨c39, h⟩ := h
        refine V_iald hM.c z38 c39 dX11_setQuery_83 ?_
        refine V_goto hM.c 88 dX11_setQuery_84 (by decide) ?_
        replace h := grd_some h
        obtain ⟨z40, h⟩ := h
        replace h := grd_some h
        obtain ⟨c41, h⟩ := h
        refine V_iast hM.c z40 c41 hM.a dX11_setQuery_88 ?_
        refine V_iinc (v := (x1 + 1)) (L' := [(1, .int (x1 + 1)), (0, va_rf (some a))]) hM.c 1 dX11_setQuery_89 rfl rfl (by decide) rfl ?_
        refine V_goto hM.c 56 dX11_setQuery_92 (by decide) ?_
        refine V_sub [1, 0] rfl ?_
        exact ih _ _ h
def f_X11_setQuery (n : Nat) (Z : Zt) (a : Nat) (g : Mem) : Option (Int32 × Mem) := grd (zk Z a = 10) (bnd (f_X11_takesText n Z a g) (fun r1 g2 => bnd (f_X11_reads n Z a (sI g2 a 26 (0 : Int32))) (fun r4 g5 => if r4 = 0 then (some ((-3 : Int32), g5)) else (bnd (f_X11_fits n Z a g5) (fun r8 g9 => if r8 = 0 then (some ((-5 : Int32), g9)) else (bnd (f_X11_works n Z a g9) (fun r12 g13 => if r12 = 0 then (some ((-4 : Int32), g13)) else (bnd (f_X11_records n Z a g13) (fun r16 g17 => drf (zf Z a 0) (fun b19 => grd (zk Z b19 = 12) (grd (inr (84 : Int32) (zl Z b19)) (f_X11_setQuery_l56 n Z a n (0 : Int32) (sI g17 b19 (84 : Int32).toNatClampNeg (gI g17 a 4))))))))))))))
theorem mq_X11_setQuery : Mq yX11_setQuery cX11_setQuery 2 (some .int) 0 := ⟨tw_750, tw_5, ⟨by decide +kernel, by decide +kernel, by decide +kernel⟩, by decide⟩
theorem mi_X11_setQuery : Cond.instanceMethod yX11_setQuery ∈ TB ∧ Cond.selects yX11_setQuery.cls yX11_setQuery yX11_setQuery ∈ TB := ⟨tw_748, tw_749⟩
theorem zc_X11_setQuery {n : Nat} {Z : Zt} {a : Nat} {g : Mem} {q : Int32 × Mem} (h : f_X11_setQuery n Z a g = some q) : zk Z a = 10 := (grd_some h).1
set_option maxHeartbeats 4000000 in
set_option maxRecDepth 100000 in
theorem vm_X11_setQuery {n : Nat} {Z : Zt} {a : Nat} {g : Mem} {rr : Int32} {gg : Mem} (h : f_X11_setQuery n Z a g = some (rr, gg)) : VM yX11_setQuery cX11_setQuery 2 (some .int) 6 [.ref a] Z g (some (.int rr)) gg := by
  unfold f_X11_setQuery at h
  replace h := grd_some h
  obtain ⟨hz0, h⟩ := h
  refine VM.of (by decide +kernel) (Nat.le_of_ble_eq_true rfl) (fun x hM => ?_)
  have hM : Cm x cX11_setQuery RX11 2 (some .int) 6 Z (some (.int rr)) gg := hM
  show V x Z 0 0 0 [(0, va_rf (some a))] [] g
  refine V_aload_n hM.c 0 dX11_setQuery_0 rfl rfl ?_
  replace h := bnd_some h
  obtain ⟨r1, g2, e3, h⟩ := h
  refine V_callV (As := []) (c := 9) (T := TX11) (N := 32) hM.c hM.a mq_X11_takesText mi_X11_takesText tw_752 (hM.d (by decide)) hM.z rfl (by omega) (zc_X11_takesText e3) (vm_X11_takesText e3) rfl (Nat.le_of_ble_eq_true rfl) dX11_setQuery_1 ?_
  refine V_aload_n hM.c 0 dX11_setQuery_4 rfl rfl ?_
  refine V_iconst (v := 0) hM.c dX11_setQuery_5 (by decide) ?_
  refine P9_26 hM.c tw_232 hz0 (by decide) hM.a dX11_setQuery_6 ?_
  refine V_aload_n hM.c 0 dX11_setQuery_9 rfl rfl ?_
  replace h := bnd_some h
  obtain ⟨r4, g5, e6, h⟩ := h
  refine V_callV (As := []) (c := 9) (T := TX11) (N := 32) hM.c hM.a mq_X11_reads mi_X11_reads tw_423 (hM.d (by decide)) hM.z rfl (by omega) (zc_X11_reads e6) (vm_X11_reads e6) rfl (Nat.le_of_ble_eq_true rfl) dX11_setQuery_10 ?_
  refine V_if_ne hM.c 19 dX11_setQuery_13 (by decide) (fun c7 => ?_) (fun c7 => ?_)
  · replace h := ite_n h c7
    refine V_aload_n hM.c 0 dX11_setQuery_19 rfl rfl ?_
    replace h := bnd_some h
    obtain ⟨r8, g9, e10, h⟩ := h
    refine V_callV (As := []) (c := 9) (T := TX11) (N := 32) hM.c hM.a mq_X11_fits mi_X11_fits tw_756 (hM.d (by decide)) hM.z rfl (by omega) (zc_X11_fits e10) (vm_X11_fits e10) rfl (Nat.le_of_ble_eq_true rfl) dX11_setQuery_20 ?_
    refine V_if_ne hM.c 29 dX11_setQuery_23 (by decide) (fun c11 => ?_) (fun c11 => ?_)
    · replace h := ite_n h c11
      refine V_aload_n hM.c 0 dX11_setQuery_29 rfl rfl ?_
      replace h := bnd_some h
      obtain ⟨r12, g13, e14, h⟩ := h
      refine V_callV (As := []) (c := 9) (T := TX11) (N := 32) hM.c hM.a mq_X11_works mi_X11_works tw_467 (hM.d (by decide)) hM.z rfl (by omega) (zc_X11_works e14) (vm_X11_works e14) rfl (Nat.le_of_ble_eq_true rfl) dX11_setQuery_30 ?_
      refine V_if_ne hM.c 39 dX11_setQuery_33 (by decide) (fun c15 => ?_) (fun c15 => ?_)
      · replace h := ite_n h c15
        refine V_aload_n hM.c 0 dX11_setQuery_39 rfl rfl ?_
        replace h := bnd_some h
        obtain ⟨r16, g17, e18, h⟩ := h
        refine V_callV (As := []) (c := 9) (T := TX11) (N := 32) hM.c hM.a mq_X11_records mi_X11_records tw_227 (hM.d (by decide)) hM.z rfl (by omega) (zc_X11_records e18) (vm_X11_records e18) rfl (Nat.le_of_ble_eq_true rfl) dX11_setQuery_40 ?_
        refine V_aload_n hM.c 0 dX11_setQuery_43 rfl rfl ?_
        replace h := drf_some h
        obtain ⟨b19, e20, h⟩ := h
        refine G9_0 hM.c tw_114 hz0 e20 dX11_setQuery_44 ?_
        refine V_bipush (v := 84) hM.c dX11_setQuery_47 (by decide) ?_
        refine V_aload_n hM.c 0 dX11_setQuery_49 rfl rfl ?_
        refine G9_4 hM.c tw_751 hz0 dX11_setQuery_50 ?_
        replace h := grd_some h
        obtain ⟨z21, h⟩ := h
        replace h := grd_some h
        obtain ⟨c22, h⟩ := h
        refine V_iast hM.c z21 c22 hM.a dX11_setQuery_53 ?_
        refine V_iconst (v := 0) hM.c dX11_setQuery_54 (by decide) ?_
        refine V_istore_n (i := 1) (L' := [(1, .int (0 : Int32)), (0, va_rf (some a))]) hM.c dX11_setQuery_55 rfl (by decide) rfl ?_
        refine V_sub [1, 0] rfl ?_
        exact vl_X11_setQuery_l56 hM hz0  _ _ _ h
      · replace h := ite_p h c15
        refine V_bipush (v := -4) hM.c dX11_setQuery_36 (by decide) ?_
        exact V_iretE hM h dX11_setQuery_38
    · replace h := ite_p h c11
      refine V_bipush (v := -5) hM.c dX11_setQuery_26 (by decide) ?_
      exact V_iretE hM h dX11_setQuery_28
  · replace h := ite_p h c7
    refine V_bipush (v := -3) hM.c dX11_setQuery_16 (by decide) ?_
    exact V_iretE hM h dX11_setQuery_18
def f_X11_dropQuery_l31 (n : Nat) (Z : Zt) (a : Nat) : Nat → Int32 → Int32 → Mem → Option (Int32 × Mem)
  | 0, _, _, _ => none
  | fu + 1, x1, x2, g => if (145 : Int32) ≤ x2 then (some (x1, g)) else (drf (zf Z a 0) (fun b17 => grd (zk Z b17 = 12) (grd (inr x2 (zl Z b17)) (f_X11_dropQuery_l31 n Z a fu x1 (x2 + 1) (sI g b17 x2.toNatClampNeg (0 : Int32))))))
set_option maxHeartbeats 4000000 in
set_option maxRecDepth 100000 in
theorem vl_X11_dropQuery_l31 {x : Cq} {n : Nat} {Z : Zt} {a : Nat} {rr : Int32} {gg : Mem} (hM : Cm x cX11_dropQuery RX11 3 (some .int) 6 Z (some (.int rr)) gg) (hz0 : zk Z a = 10) : ∀ (fu : Nat) (x1 : Int32) (x2 : Int32) (g : Mem), f_X11_dropQuery_l31 n Z a fu x1 x2 g = some (rr, gg) → V x Z 0 0 31 [(0, va_rf (some a)), (1, .int x1), (2, .int x2)] [] g := by
  intro fu
  induction fu with
  | zero => intro x1 x2 g h; cases h
  | succ fu ih =>
    intro x1 x2 g h
    unfold f_X11_dropQuery_l31 at h
    refine V_iload_n hM.c 2 dX11_dropQuery_31 rfl rfl ?_
    refine V_sipush (v := 145) hM.c dX11_dropQuery_32 (by decide) ?_
    refine V_icmp_ge hM.c 51 dX11_dropQuery_35 (by decide) (fun c16 => ?_) (fun c16 => ?_)
    · replace h := ite_p h c16
      refine V_iload_n hM.c 1 dX11_dropQuery_51 rfl rfl ?_
      exact V_iretE hM h dX11_dropQuery_52
    · replace h := ite_n h c16
      refine V_aload_n hM.c 0 dX11_dropQuery_38 rfl rfl ?_
      replace h := drf_some h
      obtain ⟨b17, e18, h⟩ := h
      refine G9_0 hM.c tw_114 hz0 e18 dX11_dropQuery_39 ?_
      refine V_iload_n hM.c 2 dX11_dropQuery_42 rfl rfl ?_
      refine V_iconst (v := 0) hM.c dX11_dropQuery_43 (by decide) ?_
      replace h := grd_some h
      obtain ⟨z19, h⟩ := h
      replace h := grd_some h
      obtain ⟨c20, h⟩ := h
      refine V_iast hM.c z19 c20 hM.a dX11_dropQuery_44 ?_
      refine V_iinc (v := (x2 + 1)) (L' := [(2, .int (x2 + 1)), (0, va_rf (some a)), (1, .int x1)]) hM.c 2 dX11_dropQuery_45 rfl rfl (by decide) rfl ?_
      refine V_goto hM.c 31 dX11_dropQuery_48 (by decide) ?_
      refine V_sub [1, 2, 0] rfl ?_
      exact ih _ _ _ h
def f_X11_dropQuery (n : Nat) (Z : Zt) (a : Nat) (g : Mem) : Option (Int32 × Mem) := grd (zk Z a = 10) (drf (zf Z a 0) (fun b1 => grd (zk Z b1 = 12) (grd (inr (84 : Int32) (zl Z b1)) (if (gI g b1 (84 : Int32).toNatClampNeg) = 0 then (some ((-5 : Int32), g)) else (bnd (f_X11_laysAnswer n Z a g) (fun r6 g7 => drf (zf Z a 19) (fun b9 => grd (zk Z b9 = 12) (grd (inr (0 : Int32) (zl Z b9)) (bnd (f_X11_records n Z a g7) (fun r13 g14 => f_X11_dropQuery_l31 n Z a n (gI g7 b9 (0 : Int32).toNatClampNeg) (84 : Int32) g14))))))))))
theorem mq_X11_dropQuery : Mq yX11_dropQuery cX11_dropQuery 3 (some .int) 0 := ⟨tw_776, tw_5, ⟨by decide +kernel, by decide +kernel, by decide +kernel⟩, by decide⟩
theorem mi_X11_dropQuery : Cond.instanceMethod yX11_dropQuery ∈ TB ∧ Cond.selects yX11_dropQuery.cls yX11_dropQuery yX11_dropQuery ∈ TB := ⟨tw_774, tw_775⟩
theorem zc_X11_dropQuery {n : Nat} {Z : Zt} {a : Nat} {g : Mem} {q : Int32 × Mem} (h : f_X11_dropQuery n Z a g = some q) : zk Z a = 10 := (grd_some h).1
set_option maxHeartbeats 4000000 in
set_option maxRecDepth 100000 in
theorem vm_X11_dropQuery {n : Nat} {Z : Zt} {a : Nat} {g : Mem} {rr : Int32} {gg : Mem} (h : f_X11_dropQuery n Z a g = some (rr, gg)) : VM yX11_dropQuery cX11_dropQuery 3 (some .int) 6 [.ref a] Z g (some (.int rr)) gg := by
  unfold f_X11_dropQuery at h
  replace h := grd_some h
  obtain ⟨hz0, h⟩ := h
  refine VM.of (by decide +kernel) (Nat.le_of_ble_eq_true rfl) (fun x hM => ?_)
  have hM : Cm x cX11_dropQuery RX11 3 (some .int) 6 Z (some (.int rr)) gg := hM
  show V x Z 0 0 0 [(0, va_rf (some a))] [] g
  refine V_aload_n hM.c 0 dX11_dropQuery_0 rfl rfl ?_
  replace h := drf_some h
  obtain ⟨b1, e2, h⟩ := h
  refine G9_0 hM.c tw_114 hz0 e2 dX11_dropQuery_1 ?_
  refine V_bipush (v := 84) hM.c dX11_dropQuery_4 (by decide) ?_
  replace h := grd_some h
  obtain ⟨z3, h⟩ := h
  replace h := grd_some h
  obtain ⟨c4, h⟩ := h
  refine V_iald hM.c z3 c4 dX11_dropQuery_6 ?_
  refine V_if_ne hM.c 13 dX11_dropQuery_7 (by decide) (fun c5 => ?_) (fun c5 => ?_)
  · replace h := ite_n h c5
    refine V_aload_n hM.c 0 dX11_dropQuery_13 rfl rfl ?_
    replace h := bnd_some h
    obtain ⟨r6, g7, e8, h⟩ := h
    refine V_callV (As := []) (c := 9) (T := TX11) (N := 32) hM.c hM.a mq_X11_laysAnswer mi_X11_laysAnswer tw_647 (hM.d (by decide)) hM.z rfl (by omega) (zc_X11_laysAnswer e8) (vm_X11_laysAnswer e8) rfl (Nat.le_of_ble_eq_true rfl) dX11_dropQuery_14 ?_
    refine V_aload_n hM.c 0 dX11_dropQuery_17 rfl rfl ?_
    replace h := drf_some h
    obtain ⟨b9, e10, h⟩ := h
    refine G9_19 hM.c tw_126 hz0 e10 dX11_dropQuery_18 ?_
    refine V_iconst (v := 0) hM.c dX11_dropQuery_21 (by decide) ?_
    replace h := grd_some h
    obtain ⟨z11, h⟩ := h
    replace h := grd_some h
    obtain ⟨c12, h⟩ := h
    refine V_iald hM.c z11 c12 dX11_dropQuery_22 ?_
    refine V_istore_n (i := 1) (L' := [(1, .int (gI g7 b9 (0 : Int32).toNatClampNeg)), (0, va_rf (some a))]) hM.c dX11_dropQuery_23 rfl (by decide) rfl ?_
    refine V_aload_n hM.c 1 dX11_dropQuery_24 rfl rfl ?_
    replace h := bnd_some h
    obtain ⟨r13, g14, e15, h⟩ := h
    refine V_callV (As := []) (c := 9) (T := TX11) (N := 32) hM.c hM.a mq_X11_records mi_X11_records tw_227 (hM.d (by decide)) hM.z rfl (by omega) (zc_X11_records e15) (vm_X11_records e15) rfl (Nat.le_of_ble_eq_true rfl) dX11_dropQuery_25 ?_
    refine V_bipush (v := 84) hM.c dX11_dropQuery_28 (by decide) ?_
    refine V_istore_n (i := 2) (L' := [(2, .int (84 : Int32)), (1, .int (gI g7 b9 (0 : Int32).toNatClampNeg)), (0, va_rf (some a))]) hM.c dX11_dropQuery_30 rfl (by decide) rfl ?_
    refine V_sub [2, 1, 0] rfl ?_
    exact vl_X11_dropQuery_l31 hM hz0  _ _ _ _ h
  · replace h := ite_p h c5
    refine V_bipush (v := -5) hM.c dX11_dropQuery_10 (by decide) ?_
    exact V_iretE hM h dX11_dropQuery_12
def f_X11_append (n : Nat) (Z : Zt) (a : Nat) (x1 : Int32) (g : Mem) : Option (Int32 × Mem) := grd (zk Z a = 10) (bnd (f_X11_in n Z x1 (32 : Int32) (126 : Int32) g) (fun r1 g2 => if r1 = 0 then (some ((-2 : Int32), g2)) else (if (gI g2 a 4) = (60 : Int32) then (some ((-4 : Int32), g2)) else (drf (zf Z a 3) (fun b6 => grd (zk Z b6 = 12) (grd (inr (gI g2 a 4) (zl Z b6)) (some ((gI (sI (sI g2 b6 (gI g2 a 4).toNatClampNeg x1) a 4 ((gI (sI g2 b6 (gI g2 a 4).toNatClampNeg x1) a 4) + (1 : Int32))) a 4), (sI (sI g2 b6 (gI g2 a 4).toNatClampNeg x1) a 4 ((gI (sI g2 b6 (gI g2 a 4).toNatClampNeg x1) a 4) + (1 : Int32)))))))))))
theorem mq_X11_append : Mq yX11_append cX11_append 2 (some .int) 1 := ⟨tw_785, tw_5, ⟨by decide +kernel, by decide +kernel, by decide +kernel⟩, by decide⟩
theorem mi_X11_append : Cond.instanceMethod yX11_append ∈ TB ∧ Cond.selects yX11_append.cls yX11_append yX11_append ∈ TB := ⟨tw_783, tw_784⟩
theorem zc_X11_append {n : Nat} {Z : Zt} {a : Nat} {x1 : Int32} {g : Mem} {q : Int32 × Mem} (h : f_X11_append n Z a x1 g = some q) : zk Z a = 10 := (grd_some h).1
set_option maxHeartbeats 4000000 in
set_option maxRecDepth 100000 in
theorem vm_X11_append {n : Nat} {Z : Zt} {a : Nat} {x1 : Int32} {g : Mem} {rr : Int32} {gg : Mem} (h : f_X11_append n Z a x1 g = some (rr, gg)) : VM yX11_append cX11_append 2 (some .int) 1 [.ref a, .int x1] Z g (some (.int rr)) gg := by
  unfold f_X11_append at h
  replace h := grd_some h
  obtain ⟨hz0, h⟩ := h
  refine VM.of (by decide +kernel) (Nat.le_of_ble_eq_true rfl) (fun x hM => ?_)
  have hM : Cm x cX11_append RX11 2 (some .int) 1 Z (some (.int rr)) gg := hM
  show V x Z 0 0 0 [(0, va_rf (some a)), (1, .int x1)] [] g
  refine V_iload_n hM.c 1 dX11_append_0 rfl rfl ?_
  refine V_bipush (v := 32) hM.c dX11_append_1 (by decide) ?_
  refine V_bipush (v := 126) hM.c dX11_append_3 (by decide) ?_
  replace h := bnd_some h
  obtain ⟨r1, g2, e3, h⟩ := h
  refine V_callS (As := [.int x1, .int (32 : Int32), .int (126 : Int32)]) hM.c hM.a mq_X11_in mi_X11_in tw_212 (hM.d (by decide)) hM.z (vm_X11_in e3) rfl (Nat.le_of_ble_eq_true rfl) dX11_append_5 ?_
  refine V_if_ne hM.c 14 dX11_append_8 (by decide) (fun c4 => ?_) (fun c4 => ?_)
  · replace h := ite_n h c4
    refine V_aload_n hM.c 0 dX11_append_14 rfl rfl ?_
    refine G9_4 hM.c tw_751 hz0 dX11_append_15 ?_
    refine V_bipush (v := 60) hM.c dX11_append_18 (by decide) ?_
    refine V_icmp_ne hM.c 26 dX11_append_20 (by decide) (fun c5 => ?_) (fun c5 => ?_)
    · replace h := ite_n h c5
      refine V_aload_n hM.c 0 dX11_append_26 rfl rfl ?_
      replace h := drf_some h
      obtain ⟨b6, e7, h⟩ := h
      refine G9_3 hM.c tw_116 hz0 e7 dX11_append_27 ?_
      refine V_aload_n hM.c 0 dX11_append_30 rfl rfl ?_
      refine G9_4 hM.c tw_751 hz0 dX11_append_31 ?_
      refine V_iload_n hM.c 1 dX11_append_34 rfl rfl ?_
      replace h := grd_some h
      obtain ⟨z8, h⟩ := h
      replace h := grd_some h
      obtain ⟨c9, h⟩ := h
      refine V_iast hM.c z8 c9 hM.a dX11_append_35 ?_
      refine V_aload_n hM.c 0 dX11_append_36 rfl rfl ?_
      refine V_dup hM.c dX11_append_37 (rf_cat _) ?_
      refine G9_4 hM.c tw_751 hz0 dX11_append_38 ?_
      refine V_iconst (v := 1) hM.c dX11_append_41 (by decide) ?_
      refine V_iadd hM.c dX11_append_42 ?_
      refine P9_4 hM.c tw_751 hz0 hM.a dX11_append_43 ?_
      refine V_aload_n hM.c 0 dX11_append_46 rfl rfl ?_
      refine G9_4 hM.c tw_751 hz0 dX11_append_47 ?_
      exact V_iretE hM h dX11_append_50
    · replace h := ite_p h c5
      refine V_bipush (v := -4) hM.c dX11_append_23 (by decide) ?_
      exact V_iretE hM h dX11_append_25
  · replace h := ite_p h c4
    refine V_bipush (v := -2) hM.c dX11_append_11 (by decide) ?_
    exact V_iretE hM h dX11_append_13
def f_X11_clearText (n : Nat) (Z : Zt) (a : Nat) (g : Mem) : Option (Int32 × Mem) := grd (zk Z a = 10) (some ((gI g a 4), (sI g a 4 (0 : Int32))))
theorem mq_X11_clearText : Mq yX11_clearText cX11_clearText 2 (some .int) 0 := ⟨tw_793, tw_5, ⟨by decide +kernel, by decide +kernel, by decide +kernel⟩, by decide⟩
theorem mi_X11_clearText : Cond.instanceMethod yX11_clearText ∈ TB ∧ Cond.selects yX11_clearText.cls yX11_clearText yX11_clearText ∈ TB := ⟨tw_791, tw_792⟩
theorem zc_X11_clearText {n : Nat} {Z : Zt} {a : Nat} {g : Mem} {q : Int32 × Mem} (h : f_X11_clearText n Z a g = some q) : zk Z a = 10 := (grd_some h).1
set_option maxHeartbeats 4000000 in
set_option maxRecDepth 100000 in
theorem vm_X11_clearText {n : Nat} {Z : Zt} {a : Nat} {g : Mem} {rr : Int32} {gg : Mem} (h : f_X11_clearText n Z a g = some (rr, gg)) : VM yX11_clearText cX11_clearText 2 (some .int) 0 [.ref a] Z g (some (.int rr)) gg := by
  unfold f_X11_clearText at h
  replace h := grd_some h
  obtain ⟨hz0, h⟩ := h
  refine VM.of (by decide +kernel) (Nat.le_of_ble_eq_true rfl) (fun x hM => ?_)
  have hM : Cm x cX11_clearText RX11 2 (some .int) 0 Z (some (.int rr)) gg := hM
  show V x Z 0 0 0 [(0, va_rf (some a))] [] g
  refine V_aload_n hM.c 0 dX11_clearText_0 rfl rfl ?_
  refine G9_4 hM.c tw_751 hz0 dX11_clearText_1 ?_
  refine V_istore_n (i := 1) (L' := [(1, .int (gI g a 4)), (0, va_rf (some a))]) hM.c dX11_clearText_4 rfl (by decide) rfl ?_
  refine V_aload_n hM.c 1 dX11_clearText_5 rfl rfl ?_
  refine V_iconst (v := 0) hM.c dX11_clearText_6 (by decide) ?_
  refine P9_4 hM.c tw_751 hz0 hM.a dX11_clearText_7 ?_
  refine V_iload_n hM.c 0 dX11_clearText_10 rfl rfl ?_
  exact V_iretE hM h dX11_clearText_11
def f_X11_fault (n : Nat) (Z : Zt) (a : Nat) (g : Mem) : Option (Int32 × Mem) := grd (zk Z a = 10) (bnd (f_X11_takesText n Z a g) (fun r1 g2 => bnd (f_X11_reads n Z a (sI g2 a 26 (0 : Int32))) (fun r4 g5 => if r4 = 0 then (some ((gI g5 a 7), g5)) else (some ((-6 : Int32), g5)))))
theorem mq_X11_fault : Mq yX11_fault cX11_fault 1 (some .int) 0 := ⟨tw_805, tw_5, ⟨by decide +kernel, by decide +kernel, by decide +kernel⟩, by decide⟩
theorem mi_X11_fault : Cond.instanceMethod yX11_fault ∈ TB ∧ Cond.selects yX11_fault.cls yX11_fault yX11_fault ∈ TB := ⟨tw_803, tw_804⟩
theorem zc_X11_fault {n : Nat} {Z : Zt} {a : Nat} {g : Mem} {q : Int32 × Mem} (h : f_X11_fault n Z a g = some q) : zk Z a = 10 := (grd_some h).1
set_option maxHeartbeats 4000000 in
set_option maxRecDepth 100000 in
theorem vm_X11_fault {n : Nat} {Z : Zt} {a : Nat} {g : Mem} {rr : Int32} {gg : Mem} (h : f_X11_fault n Z a g = some (rr, gg)) : VM yX11_fault cX11_fault 1 (some .int) 5 [.ref a] Z g (some (.int rr)) gg := by
  unfold f_X11_fault at h
  replace h := grd_some h
  obtain ⟨hz0, h⟩ := h
  refine VM.of (by decide +kernel) (Nat.le_of_ble_eq_true rfl) (fun x hM => ?_)
  have hM : Cm x cX11_fault RX11 1 (some .int) 5 Z (some (.int rr)) gg := hM
  show V x Z 0 0 0 [(0, va_rf (some a))] [] g
  refine V_aload_n hM.c 0 dX11_fault_0 rfl rfl ?_
  replace h := bnd_some h
  obtain ⟨r1, g2, e3, h⟩ := h
  refine V_callV (As := []) (c := 9) (T := TX11) (N := 32) hM.c hM.a mq_X11_takesText mi_X11_takesText tw_752 (hM.d (by decide)) hM.z rfl (by omega) (zc_X11_takesText e3) (vm_X11_takesText e3) rfl (Nat.le_of_ble_eq_true rfl) dX11_fault_1 ?_
  refine V_aload_n hM.c 0 dX11_fault_4 rfl rfl ?_
  refine V_iconst (v := 0) hM.c dX11_fault_5 (by decide) ?_
  refine P9_26 hM.c tw_232 hz0 (by decide) hM.a dX11_fault_6 ?_
  refine V_aload_n hM.c 0 dX11_fault_9 rfl rfl ?_
  replace h := bnd_some h
  obtain ⟨r4, g5, e6, h⟩ := h
  refine V_callV (As := []) (c := 9) (T := TX11) (N := 32) hM.c hM.a mq_X11_reads mi_X11_reads tw_423 (hM.d (by decide)) hM.z rfl (by omega) (zc_X11_reads e6) (vm_X11_reads e6) rfl (Nat.le_of_ble_eq_true rfl) dX11_fault_10 ?_
  refine V_if_eq hM.c 21 dX11_fault_13 (by decide) (fun c7 => ?_) (fun c7 => ?_)
  · replace h := ite_p h c7
    refine V_aload_n hM.c 0 dX11_fault_21 rfl rfl ?_
    refine G9_7 hM.c tw_427 hz0 dX11_fault_22 ?_
    exact V_iretE hM h dX11_fault_25
  · replace h := ite_n h c7
    refine V_bipush (v := -6) hM.c dX11_fault_16 (by decide) ?_
    refine V_goto hM.c 25 dX11_fault_18 (by decide) ?_
    exact V_iretE hM h dX11_fault_25
def f_X11_undo_l22 (n : Nat) (Z : Zt) (a : Nat) : Nat → Int32 → Mem → Option (Int32 × Mem)
  | 0, _, _ => none
  | fu + 1, x1, g => if (145 : Int32) ≤ x1 then (some ((gI (sI g a 26 (0 : Int32)) a 2), (sI g a 26 (0 : Int32)))) else (drf (zf Z a 0) (fun b3 => drf (zf Z a 1) (fun b5 => grd (zk Z b5 = 12) (grd (inr (((145 : Int32) * (gI g a 2)) + x1) (zl Z b5)) (grd (zk Z b3 = 12) (grd (inr x1 (zl Z b3)) (f_X11_undo_l22 n Z a fu (x1 + 1) (sI g b3 x1.toNatClampNeg (gI g b5 (((145 : Int32) * (gI g a 2)) + x1).toNatClampNeg)))))))))
set_option maxHeartbeats 4000000 in
set_option maxRecDepth 100000 in
theorem vl_X11_undo_l22 {x : Cq} {n : Nat} {Z : Zt} {a : Nat} {rr : Int32} {gg : Mem} (hM : Cm x cX11_undo RX11 2 (some .int) 0 Z (some (.int rr)) gg) (hz0 : zk Z a = 10) : ∀ (fu : Nat) (x1 : Int32) (g : Mem), f_X11_undo_l22 n Z a fu x1 g = some (rr, gg) → V x Z 0 0 22 [(0, va_rf (some a)), (1, .int x1)] [] g := by
  intro fu
  induction fu with
  | zero => intro x1 g h; cases h
  | succ fu ih =>
    intro x1 g h
    unfold f_X11_undo_l22 at h
    refine V_iload_n hM.c 1 dX11_undo_22 rfl rfl ?_
    refine V_sipush (v := 145) hM.c dX11_undo_23 (by decide) ?_
    refine V_icmp_ge hM.c 56 dX11_undo_26 (by decide) (fun c2 => ?_) (fun c2 => ?_)
    · replace h := ite_p h c2
      refine V_aload_n hM.c 0 dX11_undo_56 rfl rfl ?_
      refine V_iconst (v := 0) hM.c dX11_undo_57 (by decide) ?_
      refine P9_26 hM.c tw_232 hz0 (by decide) hM.a dX11_undo_58 ?_
      refine V_aload_n hM.c 0 dX11_undo_61 rfl rfl ?_
      refine G9_2 hM.c tw_231 hz0 dX11_undo_62 ?_
      exact V_iretE hM h dX11_undo_65
    · replace h := ite_n h c2
      refine V_aload_n hM.c 0 dX11_undo_29 rfl rfl ?_
      replace h := drf_some h
      obtain ⟨b3, e4, h⟩ := h
      refine G9_0 hM.c tw_114 hz0 e4 dX11_undo_30 ?_
      refine V_iload_n hM.c 1 dX11_undo_33 rfl rfl ?_
      refine V_aload_n hM.c 0 dX11_undo_34 rfl rfl ?_
      replace h := drf_some h
      obtain ⟨b5, e6, h⟩ := h
      refine G9_1 hM.c tw_115 hz0 e6 dX11_undo_35 ?_
      refine V_sipush (v := 145) hM.c dX11_undo_38 (by decide) ?_
      refine V_aload_n hM.c 0 dX11_undo_41 rfl rfl ?_
      refine G9_2 hM.c tw_231 hz0 dX11_undo_42 ?_
      refine V_imul hM.c dX11_undo_45 ?_
      refine V_iload_n hM.c 1 dX11_undo_46 rfl rfl ?_
      refine V_iadd hM.c dX11_undo_47 ?_
      replace h := grd_some h
      obtain ⟨z7, h⟩ := h
      replace h := grd_some h
      obtain ⟨c8, h⟩ := h
      refine V_iald hM.c z7 c8 dX11_undo_48 ?_
      replace h := grd_some h
      obtain ⟨z9, h⟩ := h
      replace h := grd_some h
      obtain ⟨c10, h⟩ := h
      refine V_iast hM.c z9 c10 hM.a dX11_undo_49 ?_
      refine V_iinc (v := (x1 + 1)) (L' := [(1, .int (x1 + 1)), (0, va_rf (some a))]) hM.c 1 dX11_undo_50 rfl rfl (by decide) rfl ?_
      refine V_goto hM.c 22 dX11_undo_53 (by decide) ?_
      refine V_sub [1, 0] rfl ?_
      exact ih _ _ h
def f_X11_undo (n : Nat) (Z : Zt) (a : Nat) (g : Mem) : Option (Int32 × Mem) := grd (zk Z a = 10) (if (gI g a 2) = 0 then (some ((-6 : Int32), g)) else (f_X11_undo_l22 n Z a n (0 : Int32) (sI g a 2 ((gI g a 2) - (1 : Int32)))))
theorem mq_X11_undo : Mq yX11_undo cX11_undo 2 (some .int) 0 := ⟨tw_821, tw_5, ⟨by decide +kernel, by decide +kernel, by decide +kernel⟩, by decide⟩
theorem mi_X11_undo : Cond.instanceMethod yX11_undo ∈ TB ∧ Cond.selects yX11_undo.cls yX11_undo yX11_undo ∈ TB := ⟨tw_819, tw_820⟩
theorem zc_X11_undo {n : Nat} {Z : Zt} {a : Nat} {g : Mem} {q : Int32 × Mem} (h : f_X11_undo n Z a g = some q) : zk Z a = 10 := (grd_some h).1
set_option maxHeartbeats 4000000 in
set_option maxRecDepth 100000 in
theorem vm_X11_undo {n : Nat} {Z : Zt} {a : Nat} {g : Mem} {rr : Int32} {gg : Mem} (h : f_X11_undo n Z a g = some (rr, gg)) : VM yX11_undo cX11_undo 2 (some .int) 0 [.ref a] Z g (some (.int rr)) gg := by
  unfold f_X11_undo at h
  replace h := grd_some h
  obtain ⟨hz0, h⟩ := h
  refine VM.of (by decide +kernel) (Nat.le_of_ble_eq_true rfl) (fun x hM => ?_)
  have hM : Cm x cX11_undo RX11 2 (some .int) 0 Z (some (.int rr)) gg := hM
  show V x Z 0 0 0 [(0, va_rf (some a))] [] g
  refine V_aload_n hM.c 0 dX11_undo_0 rfl rfl ?_
  refine G9_2 hM.c tw_231 hz0 dX11_undo_1 ?_
  refine V_if_ne hM.c 10 dX11_undo_4 (by decide) (fun c1 => ?_) (fun c1 => ?_)
  · replace h := ite_n h c1
    refine V_aload_n hM.c 0 dX11_undo_10 rfl rfl ?_
    refine V_dup hM.c dX11_undo_11 (rf_cat _) ?_
    refine G9_2 hM.c tw_231 hz0 dX11_undo_12 ?_
    refine V_iconst (v := 1) hM.c dX11_undo_15 (by decide) ?_
    refine V_isub hM.c dX11_undo_16 ?_
    refine P9_2 hM.c tw_231 hz0 hM.a dX11_undo_17 ?_
    refine V_iconst (v := 0) hM.c dX11_undo_20 (by decide) ?_
    refine V_istore_n (i := 1) (L' := [(1, .int (0 : Int32)), (0, va_rf (some a))]) hM.c dX11_undo_21 rfl (by decide) rfl ?_
    refine V_sub [1, 0] rfl ?_
    exact vl_X11_undo_l22 hM hz0  _ _ _ h
  · replace h := ite_p h c1
    refine V_bipush (v := -6) hM.c dX11_undo_7 (by decide) ?_
    exact V_iretE hM h dX11_undo_9
def f_X11_columns (n : Nat) (Z : Zt) (a : Nat) (x1 : Int32) (g : Mem) : Option (Int32 × Mem) := grd (zk Z a = 10) (bnd (f_X11_isTable n Z x1 g) (fun r1 g2 => if r1 = 0 then (some ((-1 : Int32), g2)) else (drf (zf Z a 0) (fun b5 => grd (zk Z b5 = 12) (grd (inr x1 (zl Z b5)) (some ((gI g2 b5 x1.toNatClampNeg), g2)))))))
theorem mq_X11_columns : Mq yX11_columns cX11_columns 2 (some .int) 1 := ⟨tw_829, tw_5, ⟨by decide +kernel, by decide +kernel, by decide +kernel⟩, by decide⟩
theorem mi_X11_columns : Cond.instanceMethod yX11_columns ∈ TB ∧ Cond.selects yX11_columns.cls yX11_columns yX11_columns ∈ TB := ⟨tw_827, tw_828⟩
theorem zc_X11_columns {n : Nat} {Z : Zt} {a : Nat} {x1 : Int32} {g : Mem} {q : Int32 × Mem} (h : f_X11_columns n Z a x1 g = some q) : zk Z a = 10 := (grd_some h).1
set_option maxHeartbeats 4000000 in
set_option maxRecDepth 100000 in
theorem vm_X11_columns {n : Nat} {Z : Zt} {a : Nat} {x1 : Int32} {g : Mem} {rr : Int32} {gg : Mem} (h : f_X11_columns n Z a x1 g = some (rr, gg)) : VM yX11_columns cX11_columns 2 (some .int) 2 [.ref a, .int x1] Z g (some (.int rr)) gg := by
  unfold f_X11_columns at h
  replace h := grd_some h
  obtain ⟨hz0, h⟩ := h
  refine VM.of (by decide +kernel) (Nat.le_of_ble_eq_true rfl) (fun x hM => ?_)
  have hM : Cm x cX11_columns RX11 2 (some .int) 2 Z (some (.int rr)) gg := hM
  show V x Z 0 0 0 [(0, va_rf (some a)), (1, .int x1)] [] g
  refine V_iload_n hM.c 1 dX11_columns_0 rfl rfl ?_
  replace h := bnd_some h
  obtain ⟨r1, g2, e3, h⟩ := h
  refine V_callS (As := [.int x1]) hM.c hM.a mq_X11_isTable mi_X11_isTable tw_209 (hM.d (by decide)) hM.z (vm_X11_isTable e3) rfl (Nat.le_of_ble_eq_true rfl) dX11_columns_1 ?_
  refine V_if_eq hM.c 16 dX11_columns_4 (by decide) (fun c4 => ?_) (fun c4 => ?_)
  · replace h := ite_p h c4
    refine V_iconst (v := -1) hM.c dX11_columns_16 (by decide) ?_
    exact V_iretE hM h dX11_columns_17
  · replace h := ite_n h c4
    refine V_aload_n hM.c 0 dX11_columns_7 rfl rfl ?_
    replace h := drf_some h
    obtain ⟨b5, e6, h⟩ := h
    refine G9_0 hM.c tw_114 hz0 e6 dX11_columns_8 ?_
    refine V_iload_n hM.c 1 dX11_columns_11 rfl rfl ?_
    replace h := grd_some h
    obtain ⟨z7, h⟩ := h
    replace h := grd_some h
    obtain ⟨c8, h⟩ := h
    refine V_iald hM.c z7 c8 dX11_columns_12 ?_
    refine V_goto hM.c 17 dX11_columns_13 (by decide) ?_
    exact V_iretE hM h dX11_columns_17
def f_X11_tags (n : Nat) (Z : Zt) (a : Nat) (g : Mem) : Option (Int32 × Mem) := grd (zk Z a = 10) (bnd (f_X11_mask n Z a (0 : Int32) g) (fun r1 g2 => some (r1, g2)))
theorem mq_X11_tags : Mq yX11_tags cX11_tags 1 (some .int) 0 := ⟨tw_837, tw_5, ⟨by decide +kernel, by decide +kernel, by decide +kernel⟩, by decide⟩
theorem mi_X11_tags : Cond.instanceMethod yX11_tags ∈ TB ∧ Cond.selects yX11_tags.cls yX11_tags yX11_tags ∈ TB := ⟨tw_835, tw_836⟩
theorem zc_X11_tags {n : Nat} {Z : Zt} {a : Nat} {g : Mem} {q : Int32 × Mem} (h : f_X11_tags n Z a g = some q) : zk Z a = 10 := (grd_some h).1
set_option maxHeartbeats 4000000 in
set_option maxRecDepth 100000 in
theorem vm_X11_tags {n : Nat} {Z : Zt} {a : Nat} {g : Mem} {rr : Int32} {gg : Mem} (h : f_X11_tags n Z a g = some (rr, gg)) : VM yX11_tags cX11_tags 1 (some .int) 2 [.ref a] Z g (some (.int rr)) gg := by
  unfold f_X11_tags at h
  replace h := grd_some h
  obtain ⟨hz0, h⟩ := h
  refine VM.of (by decide +kernel) (Nat.le_of_ble_eq_true rfl) (fun x hM => ?_)
  have hM : Cm x cX11_tags RX11 1 (some .int) 2 Z (some (.int rr)) gg := hM
  show V x Z 0 0 0 [(0, va_rf (some a))] [] g
  refine V_aload_n hM.c 0 dX11_tags_0 rfl rfl ?_
  refine V_iconst (v := 0) hM.c dX11_tags_1 (by decide) ?_
  replace h := bnd_some h
  obtain ⟨r1, g2, e3, h⟩ := h
  refine V_callV (As := [.int (0 : Int32)]) (c := 9) (T := TX11) (N := 32) hM.c hM.a mq_X11_mask mi_X11_mask tw_559 (hM.d (by decide)) hM.z rfl (by omega) (zc_X11_mask e3) (vm_X11_mask e3) rfl (Nat.le_of_ble_eq_true rfl) dX11_tags_2 ?_
  exact V_iretE hM h dX11_tags_5
def f_X11_withdrawn (n : Nat) (Z : Zt) (a : Nat) (g : Mem) : Option (Int32 × Mem) := grd (zk Z a = 10) (bnd (f_X11_mask n Z a (1 : Int32) g) (fun r1 g2 => some (r1, g2)))
theorem mq_X11_withdrawn : Mq yX11_withdrawn cX11_withdrawn 1 (some .int) 0 := ⟨tw_845, tw_5, ⟨by decide +kernel, by decide +kernel, by decide +kernel⟩, by decide⟩
theorem mi_X11_withdrawn : Cond.instanceMethod yX11_withdrawn ∈ TB ∧ Cond.selects yX11_withdrawn.cls yX11_withdrawn yX11_withdrawn ∈ TB := ⟨tw_843, tw_844⟩
theorem zc_X11_withdrawn {n : Nat} {Z : Zt} {a : Nat} {g : Mem} {q : Int32 × Mem} (h : f_X11_withdrawn n Z a g = some q) : zk Z a = 10 := (grd_some h).1
set_option maxHeartbeats 4000000 in
set_option maxRecDepth 100000 in
theorem vm_X11_withdrawn {n : Nat} {Z : Zt} {a : Nat} {g : Mem} {rr : Int32} {gg : Mem} (h : f_X11_withdrawn n Z a g = some (rr, gg)) : VM yX11_withdrawn cX11_withdrawn 1 (some .int) 2 [.ref a] Z g (some (.int rr)) gg := by
  unfold f_X11_withdrawn at h
  replace h := grd_some h
  obtain ⟨hz0, h⟩ := h
  refine VM.of (by decide +kernel) (Nat.le_of_ble_eq_true rfl) (fun x hM => ?_)
  have hM : Cm x cX11_withdrawn RX11 1 (some .int) 2 Z (some (.int rr)) gg := hM
  show V x Z 0 0 0 [(0, va_rf (some a))] [] g
  refine V_aload_n hM.c 0 dX11_withdrawn_0 rfl rfl ?_
  refine V_iconst (v := 1) hM.c dX11_withdrawn_1 (by decide) ?_
  replace h := bnd_some h
  obtain ⟨r1, g2, e3, h⟩ := h
  refine V_callV (As := [.int (1 : Int32)]) (c := 9) (T := TX11) (N := 32) hM.c hM.a mq_X11_mask mi_X11_mask tw_559 (hM.d (by decide)) hM.z rfl (by omega) (zc_X11_mask e3) (vm_X11_mask e3) rfl (Nat.le_of_ble_eq_true rfl) dX11_withdrawn_2 ?_
  exact V_iretE hM h dX11_withdrawn_5
def f_X11_tableOf (n : Nat) (Z : Zt) (a : Nat) (x1 : Int32) (g : Mem) : Option (Int32 × Mem) := grd (zk Z a = 10) (bnd (f_X11_isTag n Z a x1 g) (fun r1 g2 => if r1 = 0 then (some ((-1 : Int32), g2)) else (bnd (f_X11_of n Z a x1 (0 : Int32) g2) (fun r5 g6 => some ((r5 - (1 : Int32)), g6)))))
theorem mq_X11_tableOf : Mq yX11_tableOf cX11_tableOf 2 (some .int) 1 := ⟨tw_854, tw_5, ⟨by decide +kernel, by decide +kernel, by decide +kernel⟩, by decide⟩
theorem mi_X11_tableOf : Cond.instanceMethod yX11_tableOf ∈ TB ∧ Cond.selects yX11_tableOf.cls yX11_tableOf yX11_tableOf ∈ TB := ⟨tw_852, tw_853⟩
theorem zc_X11_tableOf {n : Nat} {Z : Zt} {a : Nat} {x1 : Int32} {g : Mem} {q : Int32 × Mem} (h : f_X11_tableOf n Z a x1 g = some q) : zk Z a = 10 := (grd_some h).1
set_option maxHeartbeats 4000000 in
set_option maxRecDepth 100000 in
theorem vm_X11_tableOf {n : Nat} {Z : Zt} {a : Nat} {x1 : Int32} {g : Mem} {rr : Int32} {gg : Mem} (h : f_X11_tableOf n Z a x1 g = some (rr, gg)) : VM yX11_tableOf cX11_tableOf 2 (some .int) 2 [.ref a, .int x1] Z g (some (.int rr)) gg := by
  unfold f_X11_tableOf at h
  replace h := grd_some h
  obtain ⟨hz0, h⟩ := h
  refine VM.of (by decide +kernel) (Nat.le_of_ble_eq_true rfl) (fun x hM => ?_)
  have hM : Cm x cX11_tableOf RX11 2 (some .int) 2 Z (some (.int rr)) gg := hM
  show V x Z 0 0 0 [(0, va_rf (some a)), (1, .int x1)] [] g
  refine V_aload_n hM.c 0 dX11_tableOf_0 rfl rfl ?_
  refine V_iload_n hM.c 1 dX11_tableOf_1 rfl rfl ?_
  replace h := bnd_some h
  obtain ⟨r1, g2, e3, h⟩ := h
  refine V_callV (As := [.int x1]) (c := 9) (T := TX11) (N := 32) hM.c hM.a mq_X11_isTag mi_X11_isTag tw_555 (hM.d (by decide)) hM.z rfl (by omega) (zc_X11_isTag e3) (vm_X11_isTag e3) rfl (Nat.le_of_ble_eq_true rfl) dX11_tableOf_2 ?_
  refine V_if_eq hM.c 19 dX11_tableOf_5 (by decide) (fun c4 => ?_) (fun c4 => ?_)
  · replace h := ite_p h c4
    refine V_iconst (v := -1) hM.c dX11_tableOf_19 (by decide) ?_
    exact V_iretE hM h dX11_tableOf_20
  · replace h := ite_n h c4
    refine V_aload_n hM.c 0 dX11_tableOf_8 rfl rfl ?_
    refine V_iload_n hM.c 1 dX11_tableOf_9 rfl rfl ?_
    refine V_iconst (v := 0) hM.c dX11_tableOf_10 (by decide) ?_
    replace h := bnd_some h
    obtain ⟨r5, g6, e7, h⟩ := h
    refine V_callV (As := [.int x1, .int (0 : Int32)]) (c := 9) (T := TX11) (N := 32) hM.c hM.a mq_X11_of mi_X11_of tw_219 (hM.d (by decide)) hM.z rfl (by omega) (zc_X11_of e7) (vm_X11_of e7) rfl (Nat.le_of_ble_eq_true rfl) dX11_tableOf_11 ?_
    refine V_iconst (v := 1) hM.c dX11_tableOf_14 (by decide) ?_
    refine V_isub hM.c dX11_tableOf_15 ?_
    refine V_goto hM.c 20 dX11_tableOf_16 (by decide) ?_
    exact V_iretE hM h dX11_tableOf_20
def f_X11_value (n : Nat) (Z : Zt) (a : Nat) (x1 : Int32) (x2 : Int32) (g : Mem) : Option (Int32 × Mem) := grd (zk Z a = 10) (bnd (f_X11_isTag n Z a x1 g) (fun r1 g2 => if r1 = 0 then (some ((-1 : Int32), g2)) else (drf (zf Z a 0) (fun b5 => bnd (f_X11_of n Z a x1 (0 : Int32) g2) (fun r7 g8 => grd (zk Z b5 = 12) (grd (inr (r7 - (1 : Int32)) (zl Z b5)) (bnd (f_X11_in n Z x2 (0 : Int32) ((gI g8 b5 (r7 - (1 : Int32)).toNatClampNeg) - (1 : Int32)) g8) (fun r12 g13 => if r12 = 0 then (some ((-1 : Int32), g13)) else (bnd (f_X11_of n Z a x1 (1 : Int32) g13) (fun r16 g17 => bnd (f_X11_digit n Z r16 (gI g8 b5 (r7 - (1 : Int32)).toNatClampNeg) x2 g17) (fun r19 g20 => some (r19, g20))))))))))))
theorem mq_X11_value : Mq yX11_value cX11_value 4 (some .int) 2 := ⟨tw_864, tw_5, ⟨by decide +kernel, by decide +kernel, by decide +kernel⟩, by decide⟩
theorem mi_X11_value : Cond.instanceMethod yX11_value ∈ TB ∧ Cond.selects yX11_value.cls yX11_value yX11_value ∈ TB := ⟨tw_862, tw_863⟩
theorem zc_X11_value {n : Nat} {Z : Zt} {a : Nat} {x1 : Int32} {x2 : Int32} {g : Mem} {q : Int32 × Mem} (h : f_X11_value n Z a x1 x2 g = some q) : zk Z a = 10 := (grd_some h).1
set_option maxHeartbeats 4000000 in
set_option maxRecDepth 100000 in
theorem vm_X11_value {n : Nat} {Z : Zt} {a : Nat} {x1 : Int32} {x2 : Int32} {g : Mem} {rr : Int32} {gg : Mem} (h : f_X11_value n Z a x1 x2 g = some (rr, gg)) : VM yX11_value cX11_value 4 (some .int) 2 [.ref a, .int x1, .int x2] Z g (some (.int rr)) gg := by
  unfold f_X11_value at h
  replace h := grd_some h
  obtain ⟨hz0, h⟩ := h
  refine VM.of (by decide +kernel) (Nat.le_of_ble_eq_true rfl) (fun x hM => ?_)
  have hM : Cm x cX11_value RX11 4 (some .int) 2 Z (some (.int rr)) gg := hM
  show V x Z 0 0 0 [(0, va_rf (some a)), (1, .int x1), (2, .int x2)] [] g
  refine V_aload_n hM.c 0 dX11_value_0 rfl rfl ?_
  refine V_iload_n hM.c 1 dX11_value_1 rfl rfl ?_
  replace h := bnd_some h
  obtain ⟨r1, g2, e3, h⟩ := h
  refine V_callV (As := [.int x1]) (c := 9) (T := TX11) (N := 32) hM.c hM.a mq_X11_isTag mi_X11_isTag tw_555 (hM.d (by decide)) hM.z rfl (by omega) (zc_X11_isTag e3) (vm_X11_isTag e3) rfl (Nat.le_of_ble_eq_true rfl) dX11_value_2 ?_
  refine V_if_ne hM.c 10 dX11_value_5 (by decide) (fun c4 => ?_) (fun c4 => ?_)
  · replace h := ite_n h c4
    refine V_aload_n hM.c 0 dX11_value_10 rfl rfl ?_
    replace h := drf_some h
    obtain ⟨b5, e6, h⟩ := h
    refine G9_0 hM.c tw_114 hz0 e6 dX11_value_11 ?_
    refine V_aload_n hM.c 0 dX11_value_14 rfl rfl ?_
    refine V_iload_n hM.c 1 dX11_value_15 rfl rfl ?_
    refine V_iconst (v := 0) hM.c dX11_value_16 (by decide) ?_
    replace h := bnd_some h
    obtain ⟨r7, g8, e9, h⟩ := h
    refine V_callV (As := [.int x1, .int (0 : Int32)]) (c := 9) (T := TX11) (N := 32) hM.c hM.a mq_X11_of mi_X11_of tw_219 (hM.d (by decide)) hM.z rfl (by omega) (zc_X11_of e9) (vm_X11_of e9) rfl (Nat.le_of_ble_eq_true rfl) dX11_value_17 ?_
    refine V_iconst (v := 1) hM.c dX11_value_20 (by decide) ?_
    refine V_isub hM.c dX11_value_21 ?_
    replace h := grd_some h
    obtain ⟨z10, h⟩ := h
    replace h := grd_some h
    obtain ⟨c11, h⟩ := h
    refine V_iald hM.c z10 c11 dX11_value_22 ?_
    refine V_istore_n (i := 3) (L' := [(3, .int (gI g8 b5 (r7 - (1 : Int32)).toNatClampNeg)), (0, va_rf (some a)), (1, .int x1), (2, .int x2)]) hM.c dX11_value_23 rfl (by decide) rfl ?_
    refine V_iload_n hM.c 3 dX11_value_24 rfl rfl ?_
    refine V_iconst (v := 0) hM.c dX11_value_25 (by decide) ?_
    refine V_iload_n hM.c 0 dX11_value_26 rfl rfl ?_
    refine V_iconst (v := 1) hM.c dX11_value_27 (by decide) ?_
    refine V_isub hM.c dX11_value_28 ?_
    replace h := bnd_some h
    obtain ⟨r12, g13, e14, h⟩ := h
    refine V_callS (As := [.int x2, .int (0 : Int32), .int ((gI g8 b5 (r7 - (1 : Int32)).toNatClampNeg) - (1 : Int32))]) hM.c hM.a mq_X11_in mi_X11_in tw_212 (hM.d (by decide)) hM.z (vm_X11_in e14) rfl (Nat.le_of_ble_eq_true rfl) dX11_value_29 ?_
    refine V_if_eq hM.c 49 dX11_value_32 (by decide) (fun c15 => ?_) (fun c15 => ?_)
    · replace h := ite_p h c15
      refine V_iconst (v := -1) hM.c dX11_value_49 (by decide) ?_
      exact V_iretE hM h dX11_value_50
    · replace h := ite_n h c15
      refine V_aload_n hM.c 1 dX11_value_35 rfl rfl ?_
      refine V_iload_n hM.c 2 dX11_value_36 rfl rfl ?_
      refine V_iconst (v := 1) hM.c dX11_value_37 (by decide) ?_
      replace h := bnd_some h
      obtain ⟨r16, g17, e18, h⟩ := h
      refine V_callV (As := [.int x1, .int (1 : Int32)]) (c := 9) (T := TX11) (N := 32) hM.c hM.a mq_X11_of mi_X11_of tw_219 (hM.d (by decide)) hM.z rfl (by omega) (zc_X11_of e18) (vm_X11_of e18) rfl (Nat.le_of_ble_eq_true rfl) dX11_value_38 ?_
      refine V_iload_n hM.c 0 dX11_value_41 rfl rfl ?_
      refine V_iload_n hM.c 3 dX11_value_42 rfl rfl ?_
      replace h := bnd_some h
      obtain ⟨r19, g20, e21, h⟩ := h
      refine V_callS (As := [.int r16, .int (gI g8 b5 (r7 - (1 : Int32)).toNatClampNeg), .int x2]) hM.c hM.a mq_X11_digit mi_X11_digit tw_497 (hM.d (by decide)) hM.z (vm_X11_digit e21) rfl (Nat.le_of_ble_eq_true rfl) dX11_value_43 ?_
      refine V_goto hM.c 50 dX11_value_46 (by decide) ?_
      exact V_iretE hM h dX11_value_50
  · replace h := ite_p h c4
    refine V_iconst (v := -1) hM.c dX11_value_8 (by decide) ?_
    exact V_iretE hM h dX11_value_9
def f_X11_cost (n : Nat) (Z : Zt) (a : Nat) (x1 : Int32) (g : Mem) : Option (Int32 × Mem) := grd (zk Z a = 10) (bnd (f_X11_isTag n Z a x1 g) (fun r1 g2 => if r1 = 0 then (some ((-1 : Int32), g2)) else (bnd (f_X11_of n Z a x1 (2 : Int32) g2) (fun r5 g6 => some (r5, g6)))))
theorem mq_X11_cost : Mq yX11_cost cX11_cost 2 (some .int) 1 := ⟨tw_872, tw_5, ⟨by decide +kernel, by decide +kernel, by decide +kernel⟩, by decide⟩
theorem mi_X11_cost : Cond.instanceMethod yX11_cost ∈ TB ∧ Cond.selects yX11_cost.cls yX11_cost yX11_cost ∈ TB := ⟨tw_870, tw_871⟩
theorem zc_X11_cost {n : Nat} {Z : Zt} {a : Nat} {x1 : Int32} {g : Mem} {q : Int32 × Mem} (h : f_X11_cost n Z a x1 g = some q) : zk Z a = 10 := (grd_some h).1
set_option maxHeartbeats 4000000 in
set_option maxRecDepth 100000 in
theorem vm_X11_cost {n : Nat} {Z : Zt} {a : Nat} {x1 : Int32} {g : Mem} {rr : Int32} {gg : Mem} (h : f_X11_cost n Z a x1 g = some (rr, gg)) : VM yX11_cost cX11_cost 2 (some .int) 2 [.ref a, .int x1] Z g (some (.int rr)) gg := by
  unfold f_X11_cost at h
  replace h := grd_some h
  obtain ⟨hz0, h⟩ := h
  refine VM.of (by decide +kernel) (Nat.le_of_ble_eq_true rfl) (fun x hM => ?_)
  have hM : Cm x cX11_cost RX11 2 (some .int) 2 Z (some (.int rr)) gg := hM
  show V x Z 0 0 0 [(0, va_rf (some a)), (1, .int x1)] [] g
  refine V_aload_n hM.c 0 dX11_cost_0 rfl rfl ?_
  refine V_iload_n hM.c 1 dX11_cost_1 rfl rfl ?_
  replace h := bnd_some h
  obtain ⟨r1, g2, e3, h⟩ := h
  refine V_callV (As := [.int x1]) (c := 9) (T := TX11) (N := 32) hM.c hM.a mq_X11_isTag mi_X11_isTag tw_555 (hM.d (by decide)) hM.z rfl (by omega) (zc_X11_isTag e3) (vm_X11_isTag e3) rfl (Nat.le_of_ble_eq_true rfl) dX11_cost_2 ?_
  refine V_if_eq hM.c 17 dX11_cost_5 (by decide) (fun c4 => ?_) (fun c4 => ?_)
  · replace h := ite_p h c4
    refine V_iconst (v := -1) hM.c dX11_cost_17 (by decide) ?_
    exact V_iretE hM h dX11_cost_18
  · replace h := ite_n h c4
    refine V_aload_n hM.c 0 dX11_cost_8 rfl rfl ?_
    refine V_iload_n hM.c 1 dX11_cost_9 rfl rfl ?_
    refine V_iconst (v := 2) hM.c dX11_cost_10 (by decide) ?_
    replace h := bnd_some h
    obtain ⟨r5, g6, e7, h⟩ := h
    refine V_callV (As := [.int x1, .int (2 : Int32)]) (c := 9) (T := TX11) (N := 32) hM.c hM.a mq_X11_of mi_X11_of tw_219 (hM.d (by decide)) hM.z rfl (by omega) (zc_X11_of e7) (vm_X11_of e7) rfl (Nat.le_of_ble_eq_true rfl) dX11_cost_11 ?_
    refine V_goto hM.c 18 dX11_cost_14 (by decide) ?_
    exact V_iretE hM h dX11_cost_18
def f_X11_trust (n : Nat) (Z : Zt) (a : Nat) (x1 : Int32) (g : Mem) : Option (Int32 × Mem) := grd (zk Z a = 10) (bnd (f_X11_isTag n Z a x1 g) (fun r1 g2 => if r1 = 0 then (some ((-1 : Int32), g2)) else (bnd (f_X11_of n Z a x1 (3 : Int32) g2) (fun r5 g6 => some (r5, g6)))))
theorem mq_X11_trust : Mq yX11_trust cX11_trust 2 (some .int) 1 := ⟨tw_880, tw_5, ⟨by decide +kernel, by decide +kernel, by decide +kernel⟩, by decide⟩
theorem mi_X11_trust : Cond.instanceMethod yX11_trust ∈ TB ∧ Cond.selects yX11_trust.cls yX11_trust yX11_trust ∈ TB := ⟨tw_878, tw_879⟩
theorem zc_X11_trust {n : Nat} {Z : Zt} {a : Nat} {x1 : Int32} {g : Mem} {q : Int32 × Mem} (h : f_X11_trust n Z a x1 g = some q) : zk Z a = 10 := (grd_some h).1
set_option maxHeartbeats 4000000 in
set_option maxRecDepth 100000 in
theorem vm_X11_trust {n : Nat} {Z : Zt} {a : Nat} {x1 : Int32} {g : Mem} {rr : Int32} {gg : Mem} (h : f_X11_trust n Z a x1 g = some (rr, gg)) : VM yX11_trust cX11_trust 2 (some .int) 2 [.ref a, .int x1] Z g (some (.int rr)) gg := by
  unfold f_X11_trust at h
  replace h := grd_some h
  obtain ⟨hz0, h⟩ := h
  refine VM.of (by decide +kernel) (Nat.le_of_ble_eq_true rfl) (fun x hM => ?_)
  have hM : Cm x cX11_trust RX11 2 (some .int) 2 Z (some (.int rr)) gg := hM
  show V x Z 0 0 0 [(0, va_rf (some a)), (1, .int x1)] [] g
  refine V_aload_n hM.c 0 dX11_trust_0 rfl rfl ?_
  refine V_iload_n hM.c 1 dX11_trust_1 rfl rfl ?_
  replace h := bnd_some h
  obtain ⟨r1, g2, e3, h⟩ := h
  refine V_callV (As := [.int x1]) (c := 9) (T := TX11) (N := 32) hM.c hM.a mq_X11_isTag mi_X11_isTag tw_555 (hM.d (by decide)) hM.z rfl (by omega) (zc_X11_isTag e3) (vm_X11_isTag e3) rfl (Nat.le_of_ble_eq_true rfl) dX11_trust_2 ?_
  refine V_if_eq hM.c 17 dX11_trust_5 (by decide) (fun c4 => ?_) (fun c4 => ?_)
  · replace h := ite_p h c4
    refine V_iconst (v := -1) hM.c dX11_trust_17 (by decide) ?_
    exact V_iretE hM h dX11_trust_18
  · replace h := ite_n h c4
    refine V_aload_n hM.c 0 dX11_trust_8 rfl rfl ?_
    refine V_iload_n hM.c 1 dX11_trust_9 rfl rfl ?_
    refine V_iconst (v := 3) hM.c dX11_trust_10 (by decide) ?_
    replace h := bnd_some h
    obtain ⟨r5, g6, e7, h⟩ := h
    refine V_callV (As := [.int x1, .int (3 : Int32)]) (c := 9) (T := TX11) (N := 32) hM.c hM.a mq_X11_of mi_X11_of tw_219 (hM.d (by decide)) hM.z rfl (by omega) (zc_X11_of e7) (vm_X11_of e7) rfl (Nat.le_of_ble_eq_true rfl) dX11_trust_11 ?_
    refine V_goto hM.c 18 dX11_trust_14 (by decide) ?_
    exact V_iretE hM h dX11_trust_18
def f_X11_queryLength (n : Nat) (Z : Zt) (a : Nat) (g : Mem) : Option (Int32 × Mem) := grd (zk Z a = 10) (drf (zf Z a 0) (fun b1 => grd (zk Z b1 = 12) (grd (inr (84 : Int32) (zl Z b1)) (some ((gI g b1 (84 : Int32).toNatClampNeg), g)))))
theorem mq_X11_queryLength : Mq yX11_queryLength cX11_queryLength 1 (some .int) 0 := ⟨tw_888, tw_5, ⟨by decide +kernel, by decide +kernel, by decide +kernel⟩, by decide⟩
theorem mi_X11_queryLength : Cond.instanceMethod yX11_queryLength ∈ TB ∧ Cond.selects yX11_queryLength.cls yX11_queryLength yX11_queryLength ∈ TB := ⟨tw_886, tw_887⟩
theorem zc_X11_queryLength {n : Nat} {Z : Zt} {a : Nat} {g : Mem} {q : Int32 × Mem} (h : f_X11_queryLength n Z a g = some q) : zk Z a = 10 := (grd_some h).1
set_option maxHeartbeats 4000000 in
set_option maxRecDepth 100000 in
theorem vm_X11_queryLength {n : Nat} {Z : Zt} {a : Nat} {g : Mem} {rr : Int32} {gg : Mem} (h : f_X11_queryLength n Z a g = some (rr, gg)) : VM yX11_queryLength cX11_queryLength 1 (some .int) 0 [.ref a] Z g (some (.int rr)) gg := by
  unfold f_X11_queryLength at h
  replace h := grd_some h
  obtain ⟨hz0, h⟩ := h
  refine VM.of (by decide +kernel) (Nat.le_of_ble_eq_true rfl) (fun x hM => ?_)
  have hM : Cm x cX11_queryLength RX11 1 (some .int) 0 Z (some (.int rr)) gg := hM
  show V x Z 0 0 0 [(0, va_rf (some a))] [] g
  refine V_aload_n hM.c 0 dX11_queryLength_0 rfl rfl ?_
  replace h := drf_some h
  obtain ⟨b1, e2, h⟩ := h
  refine G9_0 hM.c tw_114 hz0 e2 dX11_queryLength_1 ?_
  refine V_bipush (v := 84) hM.c dX11_queryLength_4 (by decide) ?_
  replace h := grd_some h
  obtain ⟨z3, h⟩ := h
  replace h := grd_some h
  obtain ⟨c4, h⟩ := h
  refine V_iald hM.c z3 c4 dX11_queryLength_6 ?_
  exact V_iretE hM h dX11_queryLength_7
def f_X11_queryAt (n : Nat) (Z : Zt) (a : Nat) (x1 : Int32) (g : Mem) : Option (Int32 × Mem) := grd (zk Z a = 10) (drf (zf Z a 0) (fun b1 => grd (zk Z b1 = 12) (grd (inr (84 : Int32) (zl Z b1)) (bnd (f_X11_in n Z x1 (0 : Int32) ((gI g b1 (84 : Int32).toNatClampNeg) - (1 : Int32)) g) (fun r5 g6 => if r5 = 0 then (some ((-1 : Int32), g6)) else (drf (zf Z a 0) (fun b9 => grd (zk Z b9 = 12) (grd (inr ((85 : Int32) + x1) (zl Z b9)) (some ((gI g6 b9 ((85 : Int32) + x1).toNatClampNeg), g6))))))))))
theorem mq_X11_queryAt : Mq yX11_queryAt cX11_queryAt 2 (some .int) 1 := ⟨tw_897, tw_5, ⟨by decide +kernel, by decide +kernel, by decide +kernel⟩, by decide⟩
theorem mi_X11_queryAt : Cond.instanceMethod yX11_queryAt ∈ TB ∧ Cond.selects yX11_queryAt.cls yX11_queryAt yX11_queryAt ∈ TB := ⟨tw_895, tw_896⟩
theorem zc_X11_queryAt {n : Nat} {Z : Zt} {a : Nat} {x1 : Int32} {g : Mem} {q : Int32 × Mem} (h : f_X11_queryAt n Z a x1 g = some q) : zk Z a = 10 := (grd_some h).1
set_option maxHeartbeats 4000000 in
set_option maxRecDepth 100000 in
theorem vm_X11_queryAt {n : Nat} {Z : Zt} {a : Nat} {x1 : Int32} {g : Mem} {rr : Int32} {gg : Mem} (h : f_X11_queryAt n Z a x1 g = some (rr, gg)) : VM yX11_queryAt cX11_queryAt 2 (some .int) 1 [.ref a, .int x1] Z g (some (.int rr)) gg := by
  unfold f_X11_queryAt at h
  replace h := grd_some h
  obtain ⟨hz0, h⟩ := h
  refine VM.of (by decide +kernel) (Nat.le_of_ble_eq_true rfl) (fun x hM => ?_)
  have hM : Cm x cX11_queryAt RX11 2 (some .int) 1 Z (some (.int rr)) gg := hM
  show V x Z 0 0 0 [(0, va_rf (some a)), (1, .int x1)] [] g
  refine V_iload_n hM.c 1 dX11_queryAt_0 rfl rfl ?_
  refine V_iconst (v := 0) hM.c dX11_queryAt_1 (by decide) ?_
  refine V_aload_n hM.c 0 dX11_queryAt_2 rfl rfl ?_
  replace h := drf_some h
  obtain ⟨b1, e2, h⟩ := h
  refine G9_0 hM.c tw_114 hz0 e2 dX11_queryAt_3 ?_
  refine V_bipush (v := 84) hM.c dX11_queryAt_6 (by decide) ?_
  replace h := grd_some h
  obtain ⟨z3, h⟩ := h
  replace h := grd_some h
  obtain ⟨c4, h⟩ := h
  refine V_iald hM.c z3 c4 dX11_queryAt_8 ?_
  refine V_iconst (v := 1) hM.c dX11_queryAt_9 (by decide) ?_
  refine V_isub hM.c dX11_queryAt_10 ?_
  replace h := bnd_some h
  obtain ⟨r5, g6, e7, h⟩ := h
  refine V_callS (As := [.int x1, .int (0 : Int32), .int ((gI g b1 (84 : Int32).toNatClampNeg) - (1 : Int32))]) hM.c hM.a mq_X11_in mi_X11_in tw_212 (hM.d (by decide)) hM.z (vm_X11_in e7) rfl (Nat.le_of_ble_eq_true rfl) dX11_queryAt_11 ?_
  refine V_if_eq hM.c 29 dX11_queryAt_14 (by decide) (fun c8 => ?_) (fun c8 => ?_)
  · replace h := ite_p h c8
    refine V_iconst (v := -1) hM.c dX11_queryAt_29 (by decide) ?_
    exact V_iretE hM h dX11_queryAt_30
  · replace h := ite_n h c8
    refine V_aload_n hM.c 0 dX11_queryAt_17 rfl rfl ?_
    replace h := drf_some h
    obtain ⟨b9, e10, h⟩ := h
    refine G9_0 hM.c tw_114 hz0 e10 dX11_queryAt_18 ?_
    refine V_bipush (v := 85) hM.c dX11_queryAt_21 (by decide) ?_
    refine V_iload_n hM.c 1 dX11_queryAt_23 rfl rfl ?_
    refine V_iadd hM.c dX11_queryAt_24 ?_
    replace h := grd_some h
    obtain ⟨z11, h⟩ := h
    replace h := grd_some h
    obtain ⟨c12, h⟩ := h
    refine V_iald hM.c z11 c12 dX11_queryAt_25 ?_
    refine V_goto hM.c 30 dX11_queryAt_26 (by decide) ?_
    exact V_iretE hM h dX11_queryAt_30
def f_X11_isRow (n : Nat) (Z : Zt) (a : Nat) (x1 : Int32) (g : Mem) : Option (Int32 × Mem) := grd (zk Z a = 10) (bnd (f_X11_laysAnswer n Z a g) (fun r1 g2 => drf (zf Z a 19) (fun b4 => grd (zk Z b4 = 12) (grd (inr (0 : Int32) (zl Z b4)) (bnd (f_X11_in n Z x1 (0 : Int32) ((gI g2 b4 (0 : Int32).toNatClampNeg) - (1 : Int32)) g2) (fun r8 g9 => grd (isz r8) (some (r8, g9))))))))
theorem mq_X11_isRow : Mq yX11_isRow cX11_isRow 2 (some .boolean) 1 := ⟨tw_925, tw_5, ⟨by decide +kernel, by decide +kernel, by decide +kernel⟩, by decide⟩
theorem mi_X11_isRow : Cond.instanceMethod yX11_isRow ∈ TB ∧ Cond.selects yX11_isRow.cls yX11_isRow yX11_isRow ∈ TB := ⟨tw_923, tw_924⟩
theorem zc_X11_isRow {n : Nat} {Z : Zt} {a : Nat} {x1 : Int32} {g : Mem} {q : Int32 × Mem} (h : f_X11_isRow n Z a x1 g = some q) : zk Z a = 10 := (grd_some h).1
set_option maxHeartbeats 4000000 in
set_option maxRecDepth 100000 in
theorem vm_X11_isRow {n : Nat} {Z : Zt} {a : Nat} {x1 : Int32} {g : Mem} {rr : Int32} {gg : Mem} (h : f_X11_isRow n Z a x1 g = some (rr, gg)) : VM yX11_isRow cX11_isRow 2 (some .boolean) 6 [.ref a, .int x1] Z g (some (.int rr)) gg := by
  unfold f_X11_isRow at h
  replace h := grd_some h
  obtain ⟨hz0, h⟩ := h
  refine VM.of (by decide +kernel) (Nat.le_of_ble_eq_true rfl) (fun x hM => ?_)
  have hM : Cm x cX11_isRow RX11 2 (some .boolean) 6 Z (some (.int rr)) gg := hM
  show V x Z 0 0 0 [(0, va_rf (some a)), (1, .int x1)] [] g
  refine V_aload_n hM.c 0 dX11_isRow_0 rfl rfl ?_
  replace h := bnd_some h
  obtain ⟨r1, g2, e3, h⟩ := h
  refine V_callV (As := []) (c := 9) (T := TX11) (N := 32) hM.c hM.a mq_X11_laysAnswer mi_X11_laysAnswer tw_647 (hM.d (by decide)) hM.z rfl (by omega) (zc_X11_laysAnswer e3) (vm_X11_laysAnswer e3) rfl (Nat.le_of_ble_eq_true rfl) dX11_isRow_1 ?_
  refine V_iload_n hM.c 1 dX11_isRow_4 rfl rfl ?_
  refine V_iconst (v := 0) hM.c dX11_isRow_5 (by decide) ?_
  refine V_aload_n hM.c 0 dX11_isRow_6 rfl rfl ?_
  replace h := drf_some h
  obtain ⟨b4, e5, h⟩ := h
  refine G9_19 hM.c tw_126 hz0 e5 dX11_isRow_7 ?_
  refine V_iconst (v := 0) hM.c dX11_isRow_10 (by decide) ?_
  replace h := grd_some h
  obtain ⟨z6, h⟩ := h
  replace h := grd_some h
  obtain ⟨c7, h⟩ := h
  refine V_iald hM.c z6 c7 dX11_isRow_11 ?_
  refine V_iconst (v := 1) hM.c dX11_isRow_12 (by decide) ?_
  refine V_isub hM.c dX11_isRow_13 ?_
  replace h := bnd_some h
  obtain ⟨r8, g9, e10, h⟩ := h
  refine V_callS (As := [.int x1, .int (0 : Int32), .int ((gI g2 b4 (0 : Int32).toNatClampNeg) - (1 : Int32))]) hM.c hM.a mq_X11_in mi_X11_in tw_212 (hM.d (by decide)) hM.z (vm_X11_in e10) rfl (Nat.le_of_ble_eq_true rfl) dX11_isRow_14 ?_
  replace h := grd_some h
  obtain ⟨c11, h⟩ := h
  exact V_zretE hM (isz_nar c11) h dX11_isRow_17
def f_X11_answerRows (n : Nat) (Z : Zt) (a : Nat) (g : Mem) : Option (Int32 × Mem) := grd (zk Z a = 10) (bnd (f_X11_laysAnswer n Z a g) (fun r1 g2 => drf (zf Z a 19) (fun b4 => grd (zk Z b4 = 12) (grd (inr (0 : Int32) (zl Z b4)) (some ((gI g2 b4 (0 : Int32).toNatClampNeg), g2))))))
theorem mq_X11_answerRows : Mq yX11_answerRows cX11_answerRows 1 (some .int) 0 := ⟨tw_902, tw_5, ⟨by decide +kernel, by decide +kernel, by decide +kernel⟩, by decide⟩
theorem mi_X11_answerRows : Cond.instanceMethod yX11_answerRows ∈ TB ∧ Cond.selects yX11_answerRows.cls yX11_answerRows yX11_answerRows ∈ TB := ⟨tw_900, tw_901⟩
theorem zc_X11_answerRows {n : Nat} {Z : Zt} {a : Nat} {g : Mem} {q : Int32 × Mem} (h : f_X11_answerRows n Z a g = some q) : zk Z a = 10 := (grd_some h).1
set_option maxHeartbeats 4000000 in
set_option maxRecDepth 100000 in
theorem vm_X11_answerRows {n : Nat} {Z : Zt} {a : Nat} {g : Mem} {rr : Int32} {gg : Mem} (h : f_X11_answerRows n Z a g = some (rr, gg)) : VM yX11_answerRows cX11_answerRows 1 (some .int) 6 [.ref a] Z g (some (.int rr)) gg := by
  unfold f_X11_answerRows at h
  replace h := grd_some h
  obtain ⟨hz0, h⟩ := h
  refine VM.of (by decide +kernel) (Nat.le_of_ble_eq_true rfl) (fun x hM => ?_)
  have hM : Cm x cX11_answerRows RX11 1 (some .int) 6 Z (some (.int rr)) gg := hM
  show V x Z 0 0 0 [(0, va_rf (some a))] [] g
  refine V_aload_n hM.c 0 dX11_answerRows_0 rfl rfl ?_
  replace h := bnd_some h
  obtain ⟨r1, g2, e3, h⟩ := h
  refine V_callV (As := []) (c := 9) (T := TX11) (N := 32) hM.c hM.a mq_X11_laysAnswer mi_X11_laysAnswer tw_647 (hM.d (by decide)) hM.z rfl (by omega) (zc_X11_laysAnswer e3) (vm_X11_laysAnswer e3) rfl (Nat.le_of_ble_eq_true rfl) dX11_answerRows_1 ?_
  refine V_aload_n hM.c 0 dX11_answerRows_4 rfl rfl ?_
  replace h := drf_some h
  obtain ⟨b4, e5, h⟩ := h
  refine G9_19 hM.c tw_126 hz0 e5 dX11_answerRows_5 ?_
  refine V_iconst (v := 0) hM.c dX11_answerRows_8 (by decide) ?_
  replace h := grd_some h
  obtain ⟨z6, h⟩ := h
  replace h := grd_some h
  obtain ⟨c7, h⟩ := h
  refine V_iald hM.c z6 c7 dX11_answerRows_9 ?_
  exact V_iretE hM h dX11_answerRows_10
def f_X11_answerColumns (n : Nat) (Z : Zt) (a : Nat) (g : Mem) : Option (Int32 × Mem) := grd (zk Z a = 10) (bnd (f_X11_laysAnswer n Z a g) (fun r1 g2 => drf (zf Z a 18) (fun b4 => grd (zk Z b4 = 12) (grd (inr (0 : Int32) (zl Z b4)) (some ((gI g2 b4 (0 : Int32).toNatClampNeg), g2))))))
theorem mq_X11_answerColumns : Mq yX11_answerColumns cX11_answerColumns 1 (some .int) 0 := ⟨tw_911, tw_5, ⟨by decide +kernel, by decide +kernel, by decide +kernel⟩, by decide⟩
theorem mi_X11_answerColumns : Cond.instanceMethod yX11_answerColumns ∈ TB ∧ Cond.selects yX11_answerColumns.cls yX11_answerColumns yX11_answerColumns ∈ TB := ⟨tw_909, tw_910⟩
theorem zc_X11_answerColumns {n : Nat} {Z : Zt} {a : Nat} {g : Mem} {q : Int32 × Mem} (h : f_X11_answerColumns n Z a g = some q) : zk Z a = 10 := (grd_some h).1
set_option maxHeartbeats 4000000 in
set_option maxRecDepth 100000 in
theorem vm_X11_answerColumns {n : Nat} {Z : Zt} {a : Nat} {g : Mem} {rr : Int32} {gg : Mem} (h : f_X11_answerColumns n Z a g = some (rr, gg)) : VM yX11_answerColumns cX11_answerColumns 1 (some .int) 6 [.ref a] Z g (some (.int rr)) gg := by
  unfold f_X11_answerColumns at h
  replace h := grd_some h
  obtain ⟨hz0, h⟩ := h
  refine VM.of (by decide +kernel) (Nat.le_of_ble_eq_true rfl) (fun x hM => ?_)
  have hM : Cm x cX11_answerColumns RX11 1 (some .int) 6 Z (some (.int rr)) gg := hM
  show V x Z 0 0 0 [(0, va_rf (some a))] [] g
  refine V_aload_n hM.c 0 dX11_answerColumns_0 rfl rfl ?_
  replace h := bnd_some h
  obtain ⟨r1, g2, e3, h⟩ := h
  refine V_callV (As := []) (c := 9) (T := TX11) (N := 32) hM.c hM.a mq_X11_laysAnswer mi_X11_laysAnswer tw_647 (hM.d (by decide)) hM.z rfl (by omega) (zc_X11_laysAnswer e3) (vm_X11_laysAnswer e3) rfl (Nat.le_of_ble_eq_true rfl) dX11_answerColumns_1 ?_
  refine V_aload_n hM.c 0 dX11_answerColumns_4 rfl rfl ?_
  replace h := drf_some h
  obtain ⟨b4, e5, h⟩ := h
  refine G9_18 hM.c tw_125 hz0 e5 dX11_answerColumns_5 ?_
  refine V_iconst (v := 0) hM.c dX11_answerColumns_8 (by decide) ?_
  replace h := grd_some h
  obtain ⟨z6, h⟩ := h
  replace h := grd_some h
  obtain ⟨c7, h⟩ := h
  refine V_iald hM.c z6 c7 dX11_answerColumns_9 ?_
  exact V_iretE hM h dX11_answerColumns_10
def f_X11_answerValue (n : Nat) (Z : Zt) (a : Nat) (x1 : Int32) (x2 : Int32) (g : Mem) : Option (Int32 × Mem) := grd (zk Z a = 10) (bnd (f_X11_isRow n Z a x1 g) (fun r1 g2 => if r1 = 0 then (some ((-1 : Int32), g2)) else (drf (zf Z a 18) (fun b5 => grd (zk Z b5 = 12) (grd (inr (0 : Int32) (zl Z b5)) (bnd (f_X11_in n Z x2 (0 : Int32) ((gI g2 b5 (0 : Int32).toNatClampNeg) - (1 : Int32)) g2) (fun r9 g10 => if r9 = 0 then (some ((-1 : Int32), g10)) else (drf (zf Z a 20) (fun b13 => grd (zk Z b13 = 12) (grd (inr x1 (zl Z b13)) (drf (zf Z a 18) (fun b17 => grd (zk Z b17 = 12) (grd (inr (0 : Int32) (zl Z b17)) (bnd (f_X11_digit n Z (gI g10 b13 x1.toNatClampNeg) (gI g10 b17 (0 : Int32).toNatClampNeg) x2 g10) (fun r21 g22 => some (r21, g22))))))))))))))))
theorem mq_X11_answerValue : Mq yX11_answerValue cX11_answerValue 3 (some .int) 2 := ⟨tw_921, tw_5, ⟨by decide +kernel, by decide +kernel, by decide +kernel⟩, by decide⟩
theorem mi_X11_answerValue : Cond.instanceMethod yX11_answerValue ∈ TB ∧ Cond.selects yX11_answerValue.cls yX11_answerValue yX11_answerValue ∈ TB := ⟨tw_919, tw_920⟩
theorem zc_X11_answerValue {n : Nat} {Z : Zt} {a : Nat} {x1 : Int32} {x2 : Int32} {g : Mem} {q : Int32 × Mem} (h : f_X11_answerValue n Z a x1 x2 g = some q) : zk Z a = 10 := (grd_some h).1
set_option maxHeartbeats 4000000 in
set_option maxRecDepth 100000 in
theorem vm_X11_answerValue {n : Nat} {Z : Zt} {a : Nat} {x1 : Int32} {x2 : Int32} {g : Mem} {rr : Int32} {gg : Mem} (h : f_X11_answerValue n Z a x1 x2 g = some (rr, gg)) : VM yX11_answerValue cX11_answerValue 3 (some .int) 7 [.ref a, .int x1, .int x2] Z g (some (.int rr)) gg := by
  unfold f_X11_answerValue at h
  replace h := grd_some h
  obtain ⟨hz0, h⟩ := h
  refine VM.of (by decide +kernel) (Nat.le_of_ble_eq_true rfl) (fun x hM => ?_)
  have hM : Cm x cX11_answerValue RX11 3 (some .int) 7 Z (some (.int rr)) gg := hM
  show V x Z 0 0 0 [(0, va_rf (some a)), (1, .int x1), (2, .int x2)] [] g
  refine V_aload_n hM.c 0 dX11_answerValue_0 rfl rfl ?_
  refine V_iload_n hM.c 1 dX11_answerValue_1 rfl rfl ?_
  replace h := bnd_some h
  obtain ⟨r1, g2, e3, h⟩ := h
  refine V_callV (As := [.int x1]) (c := 9) (T := TX11) (N := 32) hM.c hM.a mq_X11_isRow mi_X11_isRow tw_922 (hM.d (by decide)) hM.z rfl (by omega) (zc_X11_isRow e3) (vm_X11_isRow e3) rfl (Nat.le_of_ble_eq_true rfl) dX11_answerValue_2 ?_
  refine V_if_eq hM.c 43 dX11_answerValue_5 (by decide) (fun c4 => ?_) (fun c4 => ?_)
  · replace h := ite_p h c4
    refine V_iconst (v := -1) hM.c dX11_answerValue_43 (by decide) ?_
    exact V_iretE hM h dX11_answerValue_44
  · replace h := ite_n h c4
    refine V_iload_n hM.c 2 dX11_answerValue_8 rfl rfl ?_
    refine V_iconst (v := 0) hM.c dX11_answerValue_9 (by decide) ?_
    refine V_aload_n hM.c 0 dX11_answerValue_10 rfl rfl ?_
    replace h := drf_some h
    obtain ⟨b5, e6, h⟩ := h
    refine G9_18 hM.c tw_125 hz0 e6 dX11_answerValue_11 ?_
    refine V_iconst (v := 0) hM.c dX11_answerValue_14 (by decide) ?_
    replace h := grd_some h
    obtain ⟨z7, h⟩ := h
    replace h := grd_some h
    obtain ⟨c8, h⟩ := h
    refine V_iald hM.c z7 c8 dX11_answerValue_15 ?_
    refine V_iconst (v := 1) hM.c dX11_answerValue_16 (by decide) ?_
    refine V_isub hM.c dX11_answerValue_17 ?_
    replace h := bnd_some h
    obtain ⟨r9, g10, e11, h⟩ := h
    refine V_callS (As := [.int x2, .int (0 : Int32), .int ((gI g2 b5 (0 : Int32).toNatClampNeg) - (1 : Int32))]) hM.c hM.a mq_X11_in mi_X11_in tw_212 (hM.d (by decide)) hM.z (vm_X11_in e11) rfl (Nat.le_of_ble_eq_true rfl) dX11_answerValue_18 ?_
    refine V_if_eq hM.c 43 dX11_answerValue_21 (by decide) (fun c12 => ?_) (fun c12 => ?_)
    · replace h := ite_p h c12
      refine V_iconst (v := -1) hM.c dX11_answerValue_43 (by decide) ?_
      exact V_iretE hM h dX11_answerValue_44
    · replace h := ite_n h c12
      refine V_aload_n hM.c 0 dX11_answerValue_24 rfl rfl ?_
      replace h := drf_some h
      obtain ⟨b13, e14, h⟩ := h
      refine G9_20 hM.c tw_127 hz0 e14 dX11_answerValue_25 ?_
      refine V_iload_n hM.c 1 dX11_answerValue_28 rfl rfl ?_
      replace h := grd_some h
      obtain ⟨z15, h⟩ := h
      replace h := grd_some h
      obtain ⟨c16, h⟩ := h
      refine V_iald hM.c z15 c16 dX11_answerValue_29 ?_
      refine V_aload_n hM.c 0 dX11_answerValue_30 rfl rfl ?_
      replace h := drf_some h
      obtain ⟨b17, e18, h⟩ := h
      refine G9_18 hM.c tw_125 hz0 e18 dX11_answerValue_31 ?_
      refine V_iconst (v := 0) hM.c dX11_answerValue_34 (by decide) ?_
      replace h := grd_some h
      obtain ⟨z19, h⟩ := h
      replace h := grd_some h
      obtain ⟨c20, h⟩ := h
      refine V_iald hM.c z19 c20 dX11_answerValue_35 ?_
      refine V_iload_n hM.c 2 dX11_answerValue_36 rfl rfl ?_
      replace h := bnd_some h
      obtain ⟨r21, g22, e23, h⟩ := h
      refine V_callS (As := [.int (gI g10 b13 x1.toNatClampNeg), .int (gI g10 b17 (0 : Int32).toNatClampNeg), .int x2]) hM.c hM.a mq_X11_digit mi_X11_digit tw_497 (hM.d (by decide)) hM.z (vm_X11_digit e23) rfl (Nat.le_of_ble_eq_true rfl) dX11_answerValue_37 ?_
      refine V_goto hM.c 44 dX11_answerValue_40 (by decide) ?_
      exact V_iretE hM h dX11_answerValue_44
def f_X11_flat_l5 (n : Nat) (Z : Zt) : Nat → Int64 → Int64 → Int32 → Mem → Option (Int64 × Mem)
  | 0, _, _, _, _ => none
  | fu + 1, x0, x2, x4, g => if (16 : Int32) ≤ x4 then (some (x2, g)) else (bnd (f_X11_exponentOf n Z x0 x4 g) (fun r2 g3 => if r2 ≤ 0 then (f_X11_flat_l5 n Z fu x0 (x2 + (0 : Int64)) (x4 + 1) g3) else (bnd (f_X11_tagAlone n Z x4 g3) (fun r6 g7 => f_X11_flat_l5 n Z fu x0 (x2 + r6) (x4 + 1) g7))))
set_option maxHeartbeats 4000000 in
set_option maxRecDepth 100000 in
theorem vl_X11_flat_l5 {x : Cq} {n : Nat} {Z : Zt} {rr : Int64} {gg : Mem} (hM : Cm x cX11_flat RX11 5 (some .long) 1 Z (some (.long rr)) gg) : ∀ (fu : Nat) (x0 : Int64) (x2 : Int64) (x4 : Int32) (g : Mem), f_X11_flat_l5 n Z fu x0 x2 x4 g = some (rr, gg) → V x Z 0 0 5 [(0, .long x0), (2, .long x2), (4, .int x4)] [] g := by
  intro fu
  induction fu with
  | zero => intro x0 x2 x4 g h; cases h
  | succ fu ih =>
    intro x0 x2 x4 g h
    unfold f_X11_flat_l5 at h
    refine V_iload hM.c 2 dX11_flat_5 rfl ?_
    refine V_bipush (v := 16) hM.c dX11_flat_7 (by decide) ?_
    refine V_icmp_ge hM.c 39 dX11_flat_9 (by decide) (fun c1 => ?_) (fun c1 => ?_)
    · replace h := ite_p h c1
      refine V_lload_n hM.c 1 dX11_flat_39 rfl rfl ?_
      exact V_lretE hM h dX11_flat_40
    · replace h := ite_n h c1
      refine V_lload_n hM.c 1 dX11_flat_12 rfl rfl ?_
      refine V_lload_n hM.c 0 dX11_flat_13 rfl rfl ?_
      refine V_iload hM.c 2 dX11_flat_14 rfl ?_
      replace h := bnd_some h
      obtain ⟨r2, g3, e4, h⟩ := h
      refine V_callS (As := [.long x0, .int x4]) hM.c hM.a mq_X11_exponentOf mi_X11_exponentOf tw_662 (hM.d (by decide)) hM.z (vm_X11_exponentOf e4) rfl (Nat.le_of_ble_eq_true rfl) dX11_flat_16 ?_
      refine V_if_le hM.c 30 dX11_flat_19 (by decide) (fun c5 => ?_) (fun c5 => ?_)
      · replace h := ite_p h c5
        refine V_lconst (v := 0) hM.c dX11_flat_30 (by decide) ?_
        refine V_ladd hM.c dX11_flat_31 ?_
        refine V_lstore_n (i := 2) (L' := [(2, .long (x2 + (0 : Int64))), (0, .long x0), (4, .int x4)]) hM.c dX11_flat_32 rfl (by decide) rfl ?_
        refine V_iinc (v := (x4 + 1)) (L' := [(4, .int (x4 + 1)), (2, .long (x2 + (0 : Int64))), (0, .long x0)]) hM.c 2 dX11_flat_33 rfl rfl (by decide) rfl ?_
        refine V_goto hM.c 5 dX11_flat_36 (by decide) ?_
        refine V_sub [2, 1, 0] rfl ?_
        exact ih _ _ _ _ h
      · replace h := ite_n h c5
        refine V_iload hM.c 2 dX11_flat_22 rfl ?_
        replace h := bnd_some h
        obtain ⟨r6, g7, e8, h⟩ := h
        refine V_callS (As := [.int x4]) hM.c hM.a mq_X11_tagAlone mi_X11_tagAlone tw_485 (hM.d (by decide)) hM.z (vm_X11_tagAlone e8) rfl (Nat.le_of_ble_eq_true rfl) dX11_flat_24 ?_
        refine V_goto hM.c 31 dX11_flat_27 (by decide) ?_
        refine V_ladd hM.c dX11_flat_31 ?_
        refine V_lstore_n (i := 2) (L' := [(2, .long (x2 + r6)), (0, .long x0), (4, .int x4)]) hM.c dX11_flat_32 rfl (by decide) rfl ?_
        refine V_iinc (v := (x4 + 1)) (L' := [(4, .int (x4 + 1)), (2, .long (x2 + r6)), (0, .long x0)]) hM.c 2 dX11_flat_33 rfl rfl (by decide) rfl ?_
        refine V_goto hM.c 5 dX11_flat_36 (by decide) ?_
        refine V_sub [2, 1, 0] rfl ?_
        exact ih _ _ _ _ h
def f_X11_flat (n : Nat) (Z : Zt) (x0 : Int64) (g : Mem) : Option (Int64 × Mem) := f_X11_flat_l5 n Z n x0 (0 : Int64) (0 : Int32) g
theorem mq_X11_flat : Mq yX11_flat cX11_flat 5 (some .long) 1 := ⟨tw_977, tw_5, ⟨by decide +kernel, by decide +kernel, by decide +kernel⟩, by decide⟩
theorem mi_X11_flat : Cond.static yX11_flat ∈ TB := tw_976
set_option maxHeartbeats 4000000 in
set_option maxRecDepth 100000 in
theorem vm_X11_flat {n : Nat} {Z : Zt} {x0 : Int64} {g : Mem} {rr : Int64} {gg : Mem} (h : f_X11_flat n Z x0 g = some (rr, gg)) : VM yX11_flat cX11_flat 5 (some .long) 1 [.long x0] Z g (some (.long rr)) gg := by
  unfold f_X11_flat at h
  refine VM.of (by decide +kernel) (Nat.le_of_ble_eq_true rfl) (fun x hM => ?_)
  have hM : Cm x cX11_flat RX11 5 (some .long) 1 Z (some (.long rr)) gg := hM
  show V x Z 0 0 0 [(0, .long x0)] [] g
  refine V_lconst (v := 0) hM.c dX11_flat_0 (by decide) ?_
  refine V_lstore_n (i := 2) (L' := [(2, .long (0 : Int64)), (0, .long x0)]) hM.c dX11_flat_1 rfl (by decide) rfl ?_
  refine V_iconst (v := 0) hM.c dX11_flat_2 (by decide) ?_
  refine V_istore (L' := [(4, .int (0 : Int32)), (2, .long (0 : Int64)), (0, .long x0)]) hM.c dX11_flat_3 (by decide) rfl ?_
  refine V_sub [2, 1, 0] rfl ?_
  exact vl_X11_flat_l5 hM  _ _ _ _ _ h
def f_X11_isWider_l19 (n : Nat) (Z : Zt) (a : Nat) : Nat → Int32 → Int32 → Int32 → Int32 → Mem → Option (Int32 × Mem)
  | 0, _, _, _, _, _ => none
  | fu + 1, x1, x2, x3, x4, g => drf (zf Z a 21) (fun b8 => grd (zk Z b8 = 12) (grd (inr (416 : Int32) (zl Z b8)) (if (gI g b8 (416 : Int32).toNatClampNeg) ≤ x4 then (grd (isz x3) (some (x3, g))) else (drf (zf Z a 22) (fun b14 => grd (zk Z b14 = 13) (grd (inr ((13312 : Int32) + x4) (zl Z b14)) (bnd (f_X11_setOf n Z (gJ g b14 ((13312 : Int32) + x4).toNatClampNeg) g) (fun r18 g19 => if x3 = 0 then (if x4 = x1 then (f_X11_isWider_l19 n Z a fu x1 x2 (0 : Int32) (x4 + 1) g19) else (if (x2 &&& r18) = r18 then (f_X11_isWider_l19 n Z a fu x1 x2 (1 : Int32) (x4 + 1) g19) else (f_X11_isWider_l19 n Z a fu x1 x2 (0 : Int32) (x4 + 1) g19))) else (f_X11_isWider_l19 n Z a fu x1 x2 (1 : Int32) (x4 + 1) g19)))))))))
set_option maxHeartbeats 4000000 in
set_option maxRecDepth 100000 in
theorem vl_X11_isWider_l19 {x : Cq} {n : Nat} {Z : Zt} {a : Nat} {rr : Int32} {gg : Mem} (hM : Cm x cX11_isWider RX11 6 (some .boolean) 2 Z (some (.int rr)) gg) (hz0 : zk Z a = 10) : ∀ (fu : Nat) (x1 : Int32) (x2 : Int32) (x3 : Int32) (x4 : Int32) (g : Mem), f_X11_isWider_l19 n Z a fu x1 x2 x3 x4 g = some (rr, gg) → V x Z 0 0 19 [(0, va_rf (some a)), (1, .int x1), (2, .int x2), (3, .int x3), (4, .int x4)] [] g := by
  intro fu
  induction fu with
  | zero => intro x1 x2 x3 x4 g h; cases h
  | succ fu ih =>
    intro x1 x2 x3 x4 g h
    unfold f_X11_isWider_l19 at h
    refine V_iload hM.c 4 dX11_isWider_19 rfl ?_
    refine V_aload_n hM.c 0 dX11_isWider_21 rfl rfl ?_
    replace h := drf_some h
    obtain ⟨b8, e9, h⟩ := h
    refine G9_21 hM.c tw_128 hz0 e9 dX11_isWider_22 ?_
    refine V_sipush (v := 416) hM.c dX11_isWider_25 (by decide) ?_
    replace h := grd_some h
    obtain ⟨z10, h⟩ := h
    replace h := grd_some h
    obtain ⟨c11, h⟩ := h
    refine V_iald hM.c z10 c11 dX11_isWider_28 ?_
    refine V_icmp_ge hM.c 79 dX11_isWider_29 (by decide) (fun c12 => ?_) (fun c12 => ?_)
    · replace h := ite_p h c12
      refine V_iload_n hM.c 3 dX11_isWider_79 rfl rfl ?_
      replace h := grd_some h
      obtain ⟨c13, h⟩ := h
      exact V_zretE hM (isz_nar c13) h dX11_isWider_80
    · replace h := ite_n h c12
      refine V_aload_n hM.c 0 dX11_isWider_32 rfl rfl ?_
      replace h := drf_some h
      obtain ⟨b14, e15, h⟩ := h
      refine G9_22 hM.c tw_129 hz0 e15 dX11_isWider_33 ?_
      refine V_sipush (v := 13312) hM.c dX11_isWider_36 (by decide) ?_
      refine V_iload hM.c 4 dX11_isWider_39 rfl ?_
      refine V_iadd hM.c dX11_isWider_41 ?_
      replace h := grd_some h
      obtain ⟨z16, h⟩ := h
      replace h := grd_some h
      obtain ⟨c17, h⟩ := h
      refine V_lald hM.c z16 c17 dX11_isWider_42 ?_
      replace h := bnd_some h
      obtain ⟨r18, g19, e20, h⟩ := h
      refine V_callS (As := [.long (gJ g b14 ((13312 : Int32) + x4).toNatClampNeg)]) hM.c hM.a mq_X11_setOf mi_X11_setOf tw_659 (hM.d (by decide)) hM.z (vm_X11_setOf e20) rfl (Nat.le_of_ble_eq_true rfl) dX11_isWider_43 ?_
      refine V_istore (L' := [(5, .int r18), (0, va_rf (some a)), (1, .int x1), (2, .int x2), (3, .int x3), (4, .int x4)]) hM.c dX11_isWider_46 (by decide) rfl ?_
      refine V_iload_n hM.c 4 dX11_isWider_48 rfl rfl ?_
      refine V_if_ne hM.c 67 dX11_isWider_49 (by decide) (fun c21 => ?_) (fun c21 => ?_)
      · replace h := ite_n h c21
        refine V_iconst (v := 1) hM.c dX11_isWider_67 (by decide) ?_
        refine V_goto hM.c 72 dX11_isWider_68 (by decide) ?_
        refine V_istore_n (i := 3) (L' := [(3, .int (1 : Int32)), (5, .int r18), (0, va_rf (some a)), (1, .int x1), (2, .int x2), (4, .int x4)]) hM.c dX11_isWider_72 rfl (by decide) rfl ?_
        refine V_iinc (v := (x4 + 1)) (L' := [(4, .int (x4 + 1)), (3, .int (1 : Int32)), (5, .int r18), (0, va_rf (some a)), (1, .int x1), (2, .int x2)]) hM.c 5 dX11_isWider_73 rfl rfl (by decide) rfl ?_
        refine V_goto hM.c 19 dX11_isWider_76 (by decide) ?_
        refine V_sub [3, 4, 5, 1, 0] rfl ?_
        exact ih _ _ _ _ _ h
      · replace h := ite_p h c21
        refine V_iload hM.c 5 dX11_isWider_52 rfl ?_
        refine V_iload_n hM.c 2 dX11_isWider_54 rfl rfl ?_
        refine V_icmp_eq hM.c 71 dX11_isWider_55 (by decide) (fun c22 => ?_) (fun c22 => ?_)
        · replace h := ite_p h c22
          refine V_iconst (v := 0) hM.c dX11_isWider_71 (by decide) ?_
          refine V_istore_n (i := 3) (L' := [(3, .int (0 : Int32)), (5, .int r18), (0, va_rf (some a)), (1, .int x1), (2, .int x2), (4, .int x4)]) hM.c dX11_isWider_72 rfl (by decide) rfl ?_
          refine V_iinc (v := (x4 + 1)) (L' := [(4, .int (x4 + 1)), (3, .int (0 : Int32)), (5, .int r18), (0, va_rf (some a)), (1, .int x1), (2, .int x2)]) hM.c 5 dX11_isWider_73 rfl rfl (by decide) rfl ?_
          refine V_goto hM.c 19 dX11_isWider_76 (by decide) ?_
          refine V_sub [3, 4, 5, 1, 0] rfl ?_
          exact ih _ _ _ _ _ h
        · replace h := ite_n h c22
          refine V_iload_n hM.c 3 dX11_isWider_58 rfl rfl ?_
          refine V_iload hM.c 0 dX11_isWider_59 rfl ?_
          refine V_iand hM.c dX11_isWider_61 ?_
          refine V_iload hM.c 0 dX11_isWider_62 rfl ?_
          refine V_icmp_ne hM.c 71 dX11_isWider_64 (by decide) (fun c23 => ?_) (fun c23 => ?_)
          · replace h := ite_n h c23
            refine V_iconst (v := 0) hM.c dX11_isWider_71 (by decide) ?_
            refine V_istore_n (i := 3) (L' := [(3, .int (0 : Int32)), (5, .int r18), (0, va_rf (some a)), (1, .int x1), (2, .int x2), (4, .int x4)]) hM.c dX11_isWider_72 rfl (by decide) rfl ?_
            refine V_iinc (v := (x4 + 1)) (L' := [(4, .int (x4 + 1)), (3, .int (0 : Int32)), (5, .int r18), (0, va_rf (some a)), (1, .int x1), (2, .int x2)]) hM.c 5 dX11_isWider_73 rfl rfl (by decide) rfl ?_
            refine V_goto hM.c 19 dX11_isWider_76 (by decide) ?_
            refine V_sub [3, 4, 5, 1, 0] rfl ?_
            exact ih _ _ _ _ _ h
          · replace h := ite_p h c23
            refine V_iconst (v := 1) hM.c dX11_isWider_67 (by decide) ?_
            refine V_goto hM.c 72 dX11_isWider_68 (by decide) ?_
            refine V_istore_n (i := 3) (L' := [(3, .int (1 : Int32)), (5, .int r18), (0, va_rf (some a)), (1, .int x1), (2, .int x2), (4, .int x4)]) hM.c dX11_isWider_72 rfl (by decide) rfl ?_
            refine V_iinc (v := (x4 + 1)) (L' := [(4, .int (x4 + 1)), (3, .int (1 : Int32)), (5, .int r18), (0, va_rf (some a)), (1, .int x1), (2, .int x2)]) hM.c 5 dX11_isWider_73 rfl rfl (by decide) rfl ?_
            refine V_goto hM.c 19 dX11_isWider_76 (by decide) ?_
            refine V_sub [3, 4, 5, 1, 0] rfl ?_
            exact ih _ _ _ _ _ h
def f_X11_isWider (n : Nat) (Z : Zt) (a : Nat) (x1 : Int32) (g : Mem) : Option (Int32 × Mem) := grd (zk Z a = 10) (drf (zf Z a 22) (fun b1 => grd (zk Z b1 = 13) (grd (inr ((13312 : Int32) + x1) (zl Z b1)) (bnd (f_X11_setOf n Z (gJ g b1 ((13312 : Int32) + x1).toNatClampNeg) g) (fun r5 g6 => f_X11_isWider_l19 n Z a n x1 r5 (0 : Int32) (0 : Int32) g6)))))
theorem mq_X11_isWider : Mq yX11_isWider cX11_isWider 6 (some .boolean) 1 := ⟨tw_985, tw_5, ⟨by decide +kernel, by decide +kernel, by decide +kernel⟩, by decide⟩
theorem mi_X11_isWider : Cond.instanceMethod yX11_isWider ∈ TB ∧ Cond.selects yX11_isWider.cls yX11_isWider yX11_isWider ∈ TB := ⟨tw_983, tw_984⟩
theorem zc_X11_isWider {n : Nat} {Z : Zt} {a : Nat} {x1 : Int32} {g : Mem} {q : Int32 × Mem} (h : f_X11_isWider n Z a x1 g = some q) : zk Z a = 10 := (grd_some h).1
set_option maxHeartbeats 4000000 in
set_option maxRecDepth 100000 in
theorem vm_X11_isWider {n : Nat} {Z : Zt} {a : Nat} {x1 : Int32} {g : Mem} {rr : Int32} {gg : Mem} (h : f_X11_isWider n Z a x1 g = some (rr, gg)) : VM yX11_isWider cX11_isWider 6 (some .boolean) 2 [.ref a, .int x1] Z g (some (.int rr)) gg := by
  unfold f_X11_isWider at h
  replace h := grd_some h
  obtain ⟨hz0, h⟩ := h
  refine VM.of (by decide +kernel) (Nat.le_of_ble_eq_true rfl) (fun x hM => ?_)
  have hM : Cm x cX11_isWider RX11 6 (some .boolean) 2 Z (some (.int rr)) gg := hM
  show V x Z 0 0 0 [(0, va_rf (some a)), (1, .int x1)] [] g
  refine V_aload_n hM.c 0 dX11_isWider_0 rfl rfl ?_
  replace h := drf_some h
  obtain ⟨b1, e2, h⟩ := h
  refine G9_22 hM.c tw_129 hz0 e2 dX11_isWider_1 ?_
  refine V_sipush (v := 13312) hM.c dX11_isWider_4 (by decide) ?_
  refine V_iload_n hM.c 1 dX11_isWider_7 rfl rfl ?_
  refine V_iadd hM.c dX11_isWider_8 ?_
  replace h := grd_some h
  obtain ⟨z3, h⟩ := h
  replace h := grd_some h
  obtain ⟨c4, h⟩ := h
  refine V_lald hM.c z3 c4 dX11_isWider_9 ?_
  replace h := bnd_some h
  obtain ⟨r5, g6, e7, h⟩ := h
  refine V_callS (As := [.long (gJ g b1 ((13312 : Int32) + x1).toNatClampNeg)]) hM.c hM.a mq_X11_setOf mi_X11_setOf tw_659 (hM.d (by decide)) hM.z (vm_X11_setOf e7) rfl (Nat.le_of_ble_eq_true rfl) dX11_isWider_10 ?_
  refine V_istore_n (i := 2) (L' := [(2, .int r5), (0, va_rf (some a)), (1, .int x1)]) hM.c dX11_isWider_13 rfl (by decide) rfl ?_
  refine V_iconst (v := 0) hM.c dX11_isWider_14 (by decide) ?_
  refine V_istore_n (i := 3) (L' := [(3, .int (0 : Int32)), (2, .int r5), (0, va_rf (some a)), (1, .int x1)]) hM.c dX11_isWider_15 rfl (by decide) rfl ?_
  refine V_iconst (v := 0) hM.c dX11_isWider_16 (by decide) ?_
  refine V_istore (L' := [(4, .int (0 : Int32)), (3, .int (0 : Int32)), (2, .int r5), (0, va_rf (some a)), (1, .int x1)]) hM.c dX11_isWider_17 (by decide) rfl ?_
  refine V_sub [3, 4, 2, 1, 0] rfl ?_
  exact vl_X11_isWider_l19 hM hz0  _ _ _ _ _ _ h
def f_X11_dropsWider_l35 (n : Nat) (Z : Zt) (a : Nat) : Nat → Int32 → Int32 → Mem → Option (Unit × Mem)
  | 0, _, _, _ => none
  | fu + 1, x1, x2, g => drf (zf Z a 21) (fun b13 => grd (zk Z b13 = 12) (grd (inr (416 : Int32) (zl Z b13)) (if (gI g b13 (416 : Int32).toNatClampNeg) ≤ x2 then (drf (zf Z a 21) (fun b18 => grd (zk Z b18 = 12) (grd (inr (416 : Int32) (zl Z b18)) (some ((), (sI g b18 (416 : Int32).toNatClampNeg x1)))))) else (drf (zf Z a 27) (fun b22 => grd (zk Z b22 = 14) (grd (inr x2 (zl Z b22)) (if (gI g b22 x2.toNatClampNeg) = 0 then (drf (zf Z a 22) (fun b27 => drf (zf Z a 22) (fun b29 => grd (zk Z b29 = 13) (grd (inr ((13312 : Int32) + x2) (zl Z b29)) (grd (zk Z b27 = 13) (grd (inr ((13312 : Int32) + x1) (zl Z b27)) (f_X11_dropsWider_l35 n Z a fu (x1 + 1) (x2 + 1) (sJ g b27 ((13312 : Int32) + x1).toNatClampNeg (gJ g b29 ((13312 : Int32) + x2).toNatClampNeg))))))))) else (f_X11_dropsWider_l35 n Z a fu x1 (x2 + 1) g))))))))
set_option maxHeartbeats 4000000 in
set_option maxRecDepth 100000 in
theorem vl_X11_dropsWider_l35 {x : Cq} {n : Nat} {Z : Zt} {a : Nat} {rr : Unit} {gg : Mem} (hM : Cm x cX11_dropsWider RX11 3 none 3 Z none gg) (hz0 : zk Z a = 10) : ∀ (fu : Nat) (x1 : Int32) (x2 : Int32) (g : Mem), f_X11_dropsWider_l35 n Z a fu x1 x2 g = some (rr, gg) → V x Z 0 0 35 [(0, va_rf (some a)), (1, .int x1), (2, .int x2)] [] g := by
  intro fu
  induction fu with
  | zero => intro x1 x2 g h; cases h
  | succ fu ih =>
    intro x1 x2 g h
    unfold f_X11_dropsWider_l35 at h
    refine V_iload_n hM.c 2 dX11_dropsWider_35 rfl rfl ?_
    refine V_aload_n hM.c 0 dX11_dropsWider_36 rfl rfl ?_
    replace h := drf_some h
    obtain ⟨b13, e14, h⟩ := h
    refine G9_21 hM.c tw_128 hz0 e14 dX11_dropsWider_37 ?_
    refine V_sipush (v := 416) hM.c dX11_dropsWider_40 (by decide) ?_
    replace h := grd_some h
    obtain ⟨z15, h⟩ := h
    replace h := grd_some h
    obtain ⟨c16, h⟩ := h
    refine V_iald hM.c z15 c16 dX11_dropsWider_43 ?_
    refine V_icmp_ge hM.c 85 dX11_dropsWider_44 (by decide) (fun c17 => ?_) (fun c17 => ?_)
    · replace h := ite_p h c17
      refine V_aload_n hM.c 0 dX11_dropsWider_85 rfl rfl ?_
      replace h := drf_some h
      obtain ⟨b18, e19, h⟩ := h
      refine G9_21 hM.c tw_128 hz0 e19 dX11_dropsWider_86 ?_
      refine V_sipush (v := 416) hM.c dX11_dropsWider_89 (by decide) ?_
      refine V_iload_n hM.c 1 dX11_dropsWider_92 rfl rfl ?_
      replace h := grd_some h
      obtain ⟨z20, h⟩ := h
      replace h := grd_some h
      obtain ⟨c21, h⟩ := h
      refine V_iast hM.c z20 c21 hM.a dX11_dropsWider_93 ?_
      exact V_vretE hM h dX11_dropsWider_94
    · replace h := ite_n h c17
      refine V_aload_n hM.c 0 dX11_dropsWider_47 rfl rfl ?_
      replace h := drf_some h
      obtain ⟨b22, e23, h⟩ := h
      refine G9_27 hM.c tw_132 hz0 e23 dX11_dropsWider_48 ?_
      refine V_iload_n hM.c 2 dX11_dropsWider_51 rfl rfl ?_
      replace h := grd_some h
      obtain ⟨z24, h⟩ := h
      replace h := grd_some h
      obtain ⟨c25, h⟩ := h
      refine V_zald hM.c z24 c25 dX11_dropsWider_52 ?_
      refine V_if_ne hM.c 79 dX11_dropsWider_53 (by decide) (fun c26 => ?_) (fun c26 => ?_)
      · replace h := ite_n h c26
        refine V_iinc (v := (x2 + 1)) (L' := [(2, .int (x2 + 1)), (0, va_rf (some a)), (1, .int x1)]) hM.c 2 dX11_dropsWider_79 rfl rfl (by decide) rfl ?_
        refine V_goto hM.c 35 dX11_dropsWider_82 (by decide) ?_
        refine V_sub [1, 2, 0] rfl ?_
        exact ih _ _ _ h
      · replace h := ite_p h c26
        refine V_aload_n hM.c 0 dX11_dropsWider_56 rfl rfl ?_
        replace h := drf_some h
        obtain ⟨b27, e28, h⟩ := h
        refine G9_22 hM.c tw_129 hz0 e28 dX11_dropsWider_57 ?_
        refine V_sipush (v := 13312) hM.c dX11_dropsWider_60 (by decide) ?_
        refine V_iload_n hM.c 1 dX11_dropsWider_63 rfl rfl ?_
        refine V_iadd hM.c dX11_dropsWider_64 ?_
        refine V_aload_n hM.c 0 dX11_dropsWider_65 rfl rfl ?_
        replace h := drf_some h
        obtain ⟨b29, e30, h⟩ := h
        refine G9_22 hM.c tw_129 hz0 e30 dX11_dropsWider_66 ?_
        refine V_sipush (v := 13312) hM.c dX11_dropsWider_69 (by decide) ?_
        refine V_iload_n hM.c 2 dX11_dropsWider_72 rfl rfl ?_
        refine V_iadd hM.c dX11_dropsWider_73 ?_
        replace h := grd_some h
        obtain ⟨z31, h⟩ := h
        replace h := grd_some h
        obtain ⟨c32, h⟩ := h
        refine V_lald hM.c z31 c32 dX11_dropsWider_74 ?_
        replace h := grd_some h
        obtain ⟨z33, h⟩ := h
        replace h := grd_some h
        obtain ⟨c34, h⟩ := h
        refine V_last hM.c z33 c34 hM.a dX11_dropsWider_75 ?_
        refine V_iinc (v := (x1 + 1)) (L' := [(1, .int (x1 + 1)), (0, va_rf (some a)), (2, .int x2)]) hM.c 1 dX11_dropsWider_76 rfl rfl (by decide) rfl ?_
        refine V_iinc (v := (x2 + 1)) (L' := [(2, .int (x2 + 1)), (1, .int (x1 + 1)), (0, va_rf (some a))]) hM.c 2 dX11_dropsWider_79 rfl rfl (by decide) rfl ?_
        refine V_goto hM.c 35 dX11_dropsWider_82 (by decide) ?_
        refine V_sub [2, 1, 0] rfl ?_
        exact ih _ _ _ h
def f_X11_dropsWider_l2 (n : Nat) (Z : Zt) (a : Nat) : Nat → Int32 → Mem → Option (Unit × Mem)
  | 0, _, _ => none
  | fu + 1, x1, g => drf (zf Z a 21) (fun b1 => grd (zk Z b1 = 12) (grd (inr (416 : Int32) (zl Z b1)) (if (gI g b1 (416 : Int32).toNatClampNeg) ≤ x1 then (f_X11_dropsWider_l35 n Z a n (0 : Int32) (0 : Int32) g) else (drf (zf Z a 27) (fun b6 => bnd (f_X11_isWider n Z a x1 g) (fun r8 g9 => grd (zk Z b6 = 14) (grd (inr x1 (zl Z b6)) (f_X11_dropsWider_l2 n Z a fu (x1 + 1) (sI g9 b6 x1.toNatClampNeg (vp_nar .boolean r8))))))))))
set_option maxHeartbeats 4000000 in
set_option maxRecDepth 100000 in
theorem vl_X11_dropsWider_l2 {x : Cq} {n : Nat} {Z : Zt} {a : Nat} {rr : Unit} {gg : Mem} (hM : Cm x cX11_dropsWider RX11 3 none 3 Z none gg) (hz0 : zk Z a = 10) : ∀ (fu : Nat) (x1 : Int32) (g : Mem), f_X11_dropsWider_l2 n Z a fu x1 g = some (rr, gg) → V x Z 0 0 2 [(0, va_rf (some a)), (1, .int x1)] [] g := by
  intro fu
  induction fu with
  | zero => intro x1 g h; cases h
  | succ fu ih =>
    intro x1 g h
    unfold f_X11_dropsWider_l2 at h
    refine V_iload_n hM.c 1 dX11_dropsWider_2 rfl rfl ?_
    refine V_aload_n hM.c 0 dX11_dropsWider_3 rfl rfl ?_
    replace h := drf_some h
    obtain ⟨b1, e2, h⟩ := h
    refine G9_21 hM.c tw_128 hz0 e2 dX11_dropsWider_4 ?_
    refine V_sipush (v := 416) hM.c dX11_dropsWider_7 (by decide) ?_
    replace h := grd_some h
    obtain ⟨z3, h⟩ := h
    replace h := grd_some h
    obtain ⟨c4, h⟩ := h
    refine V_iald hM.c z3 c4 dX11_dropsWider_10 ?_
    refine V_icmp_ge hM.c 31 dX11_dropsWider_11 (by decide) (fun c5 => ?_) (fun c5 => ?_)
    · replace h := ite_p h c5
      refine V_iconst (v := 0) hM.c dX11_dropsWider_31 (by decide) ?_
      refine V_istore_n (i := 1) (L' := [(1, .int (0 : Int32)), (0, va_rf (some a))]) hM.c dX11_dropsWider_32 rfl (by decide) rfl ?_
      refine V_iconst (v := 0) hM.c dX11_dropsWider_33 (by decide) ?_
      refine V_istore_n (i := 2) (L' := [(2, .int (0 : Int32)), (1, .int (0 : Int32)), (0, va_rf (some a))]) hM.c dX11_dropsWider_34 rfl (by decide) rfl ?_
      refine V_sub [2, 1, 0] rfl ?_
      exact vl_X11_dropsWider_l35 hM hz0  _ _ _ _ h
    · replace h := ite_n h c5
      refine V_aload_n hM.c 0 dX11_dropsWider_14 rfl rfl ?_
      replace h := drf_some h
      obtain ⟨b6, e7, h⟩ := h
      refine G9_27 hM.c tw_132 hz0 e7 dX11_dropsWider_15 ?_
      refine V_iload_n hM.c 1 dX11_dropsWider_18 rfl rfl ?_
      refine V_aload_n hM.c 0 dX11_dropsWider_19 rfl rfl ?_
      refine V_iload_n hM.c 1 dX11_dropsWider_20 rfl rfl ?_
      replace h := bnd_some h
      obtain ⟨r8, g9, e10, h⟩ := h
      refine V_callV (As := [.int x1]) (c := 9) (T := TX11) (N := 32) hM.c hM.a mq_X11_isWider mi_X11_isWider tw_982 (hM.d (by decide)) hM.z rfl (by omega) (zc_X11_isWider e10) (vm_X11_isWider e10) rfl (Nat.le_of_ble_eq_true rfl) dX11_dropsWider_21 ?_
      replace h := grd_some h
      obtain ⟨z11, h⟩ := h
      replace h := grd_some h
      obtain ⟨c12, h⟩ := h
      refine V_zast hM.c z11 c12 hM.a dX11_dropsWider_24 ?_
      refine V_iinc (v := (x1 + 1)) (L' := [(1, .int (x1 + 1)), (0, va_rf (some a))]) hM.c 1 dX11_dropsWider_25 rfl rfl (by decide) rfl ?_
      refine V_goto hM.c 2 dX11_dropsWider_28 (by decide) ?_
      refine V_sub [1, 0] rfl ?_
      exact ih _ _ h
def f_X11_dropsWider (n : Nat) (Z : Zt) (a : Nat) (g : Mem) : Option (Unit × Mem) := grd (zk Z a = 10) (f_X11_dropsWider_l2 n Z a n (0 : Int32) g)
theorem mq_X11_dropsWider : Mq yX11_dropsWider cX11_dropsWider 3 none 0 := ⟨tw_981, tw_5, ⟨by decide +kernel, by decide +kernel, by decide +kernel⟩, by decide⟩
theorem mi_X11_dropsWider : Cond.instanceMethod yX11_dropsWider ∈ TB ∧ Cond.selects yX11_dropsWider.cls yX11_dropsWider yX11_dropsWider ∈ TB := ⟨tw_979, tw_980⟩
theorem zc_X11_dropsWider {n : Nat} {Z : Zt} {a : Nat} {g : Mem} {q : Unit × Mem} (h : f_X11_dropsWider n Z a g = some q) : zk Z a = 10 := (grd_some h).1
set_option maxHeartbeats 4000000 in
set_option maxRecDepth 100000 in
theorem vm_X11_dropsWider {n : Nat} {Z : Zt} {a : Nat} {g : Mem} {rr : Unit} {gg : Mem} (h : f_X11_dropsWider n Z a g = some (rr, gg)) : VM yX11_dropsWider cX11_dropsWider 3 none 3 [.ref a] Z g none gg := by
  unfold f_X11_dropsWider at h
  replace h := grd_some h
  obtain ⟨hz0, h⟩ := h
  refine VM.of (by decide +kernel) (Nat.le_of_ble_eq_true rfl) (fun x hM => ?_)
  have hM : Cm x cX11_dropsWider RX11 3 none 3 Z none gg := hM
  show V x Z 0 0 0 [(0, va_rf (some a))] [] g
  refine V_iconst (v := 0) hM.c dX11_dropsWider_0 (by decide) ?_
  refine V_istore_n (i := 1) (L' := [(1, .int (0 : Int32)), (0, va_rf (some a))]) hM.c dX11_dropsWider_1 rfl (by decide) rfl ?_
  refine V_sub [1, 0] rfl ?_
  exact vl_X11_dropsWider_l2 hM hz0  _ _ _ h
def f_X11_laysForm_l66 (n : Nat) (Z : Zt) (κ24 : Int32 → Int32 → Int32 → Mem → Option (Unit × Mem)) (a : Nat) (x1 : Int32) (x2 : Int32) (x3 : Int32) (s0 : Int64) (s1 : Int32) (s2 : Int32) (s3 : Nat) (g : Mem) : Option (Unit × Mem) := drf (zf Z a 23) (fun b37 => grd (zk Z b37 = 13) (grd (inr (((32 : Int32) * x1) + x3) (zl Z b37)) (bnd (f_X11_addsTerm n Z s3 s2 s1 s0 (gJ g b37 (((32 : Int32) * x1) + x3).toNatClampNeg) g) (fun r41 g42 => κ24 x1 x2 (x3 + 1) g42))))
set_option maxHeartbeats 4000000 in
set_option maxRecDepth 100000 in
theorem vl_X11_laysForm_l66 {x : Cq} {n : Nat} {Z : Zt} {κ24 : Int32 → Int32 → Int32 → Mem → Option (Unit × Mem)} {a : Nat} {x1 : Int32} {x2 : Int32} {x3 : Int32} {s0 : Int64} {s1 : Int32} {s2 : Int32} {s3 : Nat} {g : Mem} {rr : Unit} {gg : Mem} (hM : Cm x cX11_laysForm RX11 6 none 4 Z none gg) (hz0 : zk Z a = 10) (hκ24 : ∀ (y1 : Int32) (y2 : Int32) (y3 : Int32) (y : Mem), κ24 y1 y2 y3 y = some (rr, gg) → V x Z 0 0 24 [(0, va_rf (some a)), (1, .int y1), (2, .int y2), (3, .int y3)] [] y) (h : f_X11_laysForm_l66 n Z κ24 a x1 x2 x3 s0 s1 s2 s3 g = some (rr, gg)) : V x Z 0 0 66 [(0, va_rf (some a)), (1, .int x1), (2, .int x2), (3, .int x3)] [.long s0, .int s1, .int s2, va_rf (some s3)] g := by
  unfold f_X11_laysForm_l66 at h
  refine V_aload_n hM.c 0 dX11_laysForm_66 rfl rfl ?_
  replace h := drf_some h
  obtain ⟨b37, e38, h⟩ := h
  refine G9_23 hM.c tw_130 hz0 e38 dX11_laysForm_67 ?_
  refine V_bipush (v := 32) hM.c dX11_laysForm_70 (by decide) ?_
  refine V_iload_n hM.c 1 dX11_laysForm_72 rfl rfl ?_
  refine V_imul hM.c dX11_laysForm_73 ?_
  refine V_iload_n hM.c 3 dX11_laysForm_74 rfl rfl ?_
  refine V_iadd hM.c dX11_laysForm_75 ?_
  replace h := grd_some h
  obtain ⟨z39, h⟩ := h
  replace h := grd_some h
  obtain ⟨c40, h⟩ := h
  refine V_lald hM.c z39 c40 dX11_laysForm_76 ?_
  replace h := bnd_some h
  obtain ⟨r41, g42, e43, h⟩ := h
  refine V_callV (As := [.int s2, .int s1, .long s0, .long (gJ g b37 (((32 : Int32) * x1) + x3).toNatClampNeg)]) (c := 9) (T := TX11) (N := 32) hM.c hM.a mq_X11_addsTerm mi_X11_addsTerm tw_488 (hM.d (by decide)) hM.z rfl (by omega) (zc_X11_addsTerm e43) (vm_X11_addsTerm e43) rfl (Nat.le_of_ble_eq_true rfl) dX11_laysForm_77 ?_
  refine V_iinc (v := (x3 + 1)) (L' := [(3, .int (x3 + 1)), (0, va_rf (some a)), (1, .int x1), (2, .int x2)]) hM.c 3 dX11_laysForm_80 rfl rfl (by decide) rfl ?_
  refine V_goto hM.c 24 dX11_laysForm_83 (by decide) ?_
  refine V_sub [1, 2, 3, 0] rfl ?_
  exact hκ24 _ _ _ _ h
def f_X11_laysForm_l118 (n : Nat) (Z : Zt) (κ88 : Int32 → Int32 → Mem → Option (Unit × Mem)) (a : Nat) (x2 : Int32) (x3 : Int32) (s0 : Int32) (s1 : Nat) (g : Mem) : Option (Unit × Mem) := drf (zf Z a 23) (fun b44 => grd (zk Z b44 = 13) (grd (inr ((13312 : Int32) + x3) (zl Z b44)) (grd (zk Z s1 = 13) (grd (inr s0 (zl Z s1)) (κ88 x2 (x3 + 1) (sJ g s1 s0.toNatClampNeg (gJ g b44 ((13312 : Int32) + x3).toNatClampNeg)))))))
set_option maxHeartbeats 4000000 in
set_option maxRecDepth 100000 in
theorem vl_X11_laysForm_l118 {x : Cq} {n : Nat} {Z : Zt} {κ88 : Int32 → Int32 → Mem → Option (Unit × Mem)} {a : Nat} {x2 : Int32} {x3 : Int32} {s0 : Int32} {s1 : Nat} {g : Mem} {rr : Unit} {gg : Mem} (hM : Cm x cX11_laysForm RX11 6 none 4 Z none gg) (hz0 : zk Z a = 10) (hκ88 : ∀ (y2 : Int32) (y3 : Int32) (y : Mem), κ88 y2 y3 y = some (rr, gg) → V x Z 0 0 88 [(0, va_rf (some a)), (2, .int y2), (3, .int y3)] [] y) (h : f_X11_laysForm_l118 n Z κ88 a x2 x3 s0 s1 g = some (rr, gg)) : V x Z 0 0 118 [(0, va_rf (some a)), (2, .int x2), (3, .int x3)] [.int s0, va_rf (some s1)] g := by
  unfold f_X11_laysForm_l118 at h
  refine V_aload_n hM.c 0 dX11_laysForm_118 rfl rfl ?_
  replace h := drf_some h
  obtain ⟨b44, e45, h⟩ := h
  refine G9_23 hM.c tw_130 hz0 e45 dX11_laysForm_119 ?_
  refine V_sipush (v := 13312) hM.c dX11_laysForm_122 (by decide) ?_
  refine V_iload_n hM.c 2 dX11_laysForm_125 rfl rfl ?_
  refine V_iadd hM.c dX11_laysForm_126 ?_
  replace h := grd_some h
  obtain ⟨z46, h⟩ := h
  replace h := grd_some h
  obtain ⟨c47, h⟩ := h
  refine V_lald hM.c z46 c47 dX11_laysForm_127 ?_
  refine V_goto hM.c 132 dX11_laysForm_128 (by decide) ?_
  replace h := grd_some h
  obtain ⟨z48, h⟩ := h
  replace h := grd_some h
  obtain ⟨c49, h⟩ := h
  refine V_last hM.c z48 c49 hM.a dX11_laysForm_132 ?_
  refine V_iinc (v := (x3 + 1)) (L' := [(3, .int (x3 + 1)), (0, va_rf (some a)), (2, .int x2)]) hM.c 2 dX11_laysForm_133 rfl rfl (by decide) rfl ?_
  refine V_goto hM.c 88 dX11_laysForm_136 (by decide) ?_
  refine V_sub [1, 2, 0] rfl ?_
  exact hκ88 _ _ _ h
def f_X11_laysForm_l88 (n : Nat) (Z : Zt) (a : Nat) : Nat → Int32 → Int32 → Mem → Option (Unit × Mem)
  | 0, _, _, _ => none
  | fu + 1, x2, x3, g => drf (zf Z a 21) (fun b22 => grd (zk Z b22 = 12) (grd (inr (416 : Int32) (zl Z b22)) (if (gI g b22 (416 : Int32).toNatClampNeg) ≤ x3 then (if x2 = (4 : Int32) then (bnd (f_X11_dropsWider n Z a g) (fun r28 g29 => some ((), g29))) else (some ((), g))) else (drf (zf Z a 23) (fun b31 => if x2 = 0 then (f_X11_laysForm_l118 n Z (fun y0 y1 y => f_X11_laysForm_l88 n Z a fu y0 y1 y) a x2 x3 ((13312 : Int32) + x3) b31 g) else (if x2 = (2 : Int32) then (f_X11_laysForm_l118 n Z (fun y0 y1 y => f_X11_laysForm_l88 n Z a fu y0 y1 y) a x2 x3 ((13312 : Int32) + x3) b31 g) else (grd (zk Z b31 = 13) (grd (inr ((13312 : Int32) + x3) (zl Z b31)) (f_X11_laysForm_l88 n Z a fu x2 (x3 + 1) (sJ g b31 ((13312 : Int32) + x3).toNatClampNeg (1 : Int64)))))))))))
set_option maxHeartbeats 4000000 in
set_option maxRecDepth 100000 in
theorem vl_X11_laysForm_l88 {x : Cq} {n : Nat} {Z : Zt} {a : Nat} {rr : Unit} {gg : Mem} (hM : Cm x cX11_laysForm RX11 6 none 4 Z none gg) (hz0 : zk Z a = 10) : ∀ (fu : Nat) (x2 : Int32) (x3 : Int32) (g : Mem), f_X11_laysForm_l88 n Z a fu x2 x3 g = some (rr, gg) → V x Z 0 0 88 [(0, va_rf (some a)), (2, .int x2), (3, .int x3)] [] g := by
  intro fu
  induction fu with
  | zero => intro x2 x3 g h; cases h
  | succ fu ih =>
    intro x2 x3 g h
    unfold f_X11_laysForm_l88 at h
    refine V_iload_n hM.c 2 dX11_laysForm_88 rfl rfl ?_
    refine V_aload_n hM.c 0 dX11_laysForm_89 rfl rfl ?_
    replace h := drf_some h
    obtain ⟨b22, e23, h⟩ := h
    refine G9_21 hM.c tw_128 hz0 e23 dX11_laysForm_90 ?_
    refine V_sipush (v := 416) hM.c dX11_laysForm_93 (by decide) ?_
    replace h := grd_some h
    obtain ⟨z24, h⟩ := h
    replace h := grd_some h
    obtain ⟨c25, h⟩ := h
    refine V_iald hM.c z24 c25 dX11_laysForm_96 ?_
    refine V_icmp_ge hM.c 139 dX11_laysForm_97 (by decide) (fun c26 => ?_) (fun c26 => ?_)
    · replace h := ite_p h c26
      refine V_iload_n hM.c 1 dX11_laysForm_139 rfl rfl ?_
      refine V_iconst (v := 4) hM.c dX11_laysForm_140 (by decide) ?_
      refine V_icmp_ne hM.c 148 dX11_laysForm_141 (by decide) (fun c27 => ?_) (fun c27 => ?_)
      · replace h := ite_n h c27
        exact V_vretE hM h dX11_laysForm_148
      · replace h := ite_p h c27
        refine V_aload_n hM.c 0 dX11_laysForm_144 rfl rfl ?_
        replace h := bnd_some h
        obtain ⟨r28, g29, e30, h⟩ := h
        refine V_callV (As := []) (c := 9) (T := TX11) (N := 32) hM.c hM.a mq_X11_dropsWider mi_X11_dropsWider tw_978 (hM.d (by decide)) hM.z rfl (by omega) (zc_X11_dropsWider e30) (vm_X11_dropsWider e30) rfl (Nat.le_of_ble_eq_true rfl) dX11_laysForm_145 ?_
        exact V_vretE hM h dX11_laysForm_148
    · replace h := ite_n h c26
      refine V_aload_n hM.c 0 dX11_laysForm_100 rfl rfl ?_
      replace h := drf_some h
      obtain ⟨b31, e32, h⟩ := h
      refine G9_23 hM.c tw_130 hz0 e32 dX11_laysForm_101 ?_
      refine V_sipush (v := 13312) hM.c dX11_laysForm_104 (by decide) ?_
      refine V_iload_n hM.c 2 dX11_laysForm_107 rfl rfl ?_
      refine V_iadd hM.c dX11_laysForm_108 ?_
      refine V_iload_n hM.c 1 dX11_laysForm_109 rfl rfl ?_
      refine V_if_eq hM.c 118 dX11_laysForm_110 (by decide) (fun c33 => ?_) (fun c33 => ?_)
      · replace h := ite_p h c33
        refine V_sub [0, 1, 2] rfl ?_
        exact vl_X11_laysForm_l118 hM hz0 ih h
      · replace h := ite_n h c33
        refine V_iload_n hM.c 1 dX11_laysForm_113 rfl rfl ?_
        refine V_iconst (v := 2) hM.c dX11_laysForm_114 (by decide) ?_
        refine V_icmp_ne hM.c 131 dX11_laysForm_115 (by decide) (fun c34 => ?_) (fun c34 => ?_)
        · replace h := ite_n h c34
          refine V_lconst (v := 1) hM.c dX11_laysForm_131 (by decide) ?_
          replace h := grd_some h
          obtain ⟨z35, h⟩ := h
          replace h := grd_some h
          obtain ⟨c36, h⟩ := h
          refine V_last hM.c z35 c36 hM.a dX11_laysForm_132 ?_
          refine V_iinc (v := (x3 + 1)) (L' := [(3, .int (x3 + 1)), (0, va_rf (some a)), (2, .int x2)]) hM.c 2 dX11_laysForm_133 rfl rfl (by decide) rfl ?_
          refine V_goto hM.c 88 dX11_laysForm_136 (by decide) ?_
          refine V_sub [1, 2, 0] rfl ?_
          exact ih _ _ _ h
        · replace h := ite_p h c34
          refine V_sub [0, 1, 2] rfl ?_
          exact vl_X11_laysForm_l118 hM hz0 ih h
def f_X11_laysForm_l24 (n : Nat) (Z : Zt) (a : Nat) : Nat → Int32 → Int32 → Int32 → Mem → Option (Unit × Mem)
  | 0, _, _, _, _ => none
  | fu + 1, x1, x2, x3, g => drf (zf Z a 21) (fun b9 => grd (zk Z b9 = 12) (grd (inr x1 (zl Z b9)) (if (gI g b9 x1.toNatClampNeg) ≤ x3 then (f_X11_laysForm_l88 n Z a n x2 (0 : Int32) g) else (drf (zf Z a 22) (fun b14 => grd (zk Z b14 = 13) (grd (inr (((32 : Int32) * x1) + x3) (zl Z b14)) (if x2 ≤ (1 : Int32) then (f_X11_laysForm_l66 n Z (fun y0 y1 y2 y => f_X11_laysForm_l24 n Z a fu y0 y1 y2 y) a x1 x2 x3 (gJ g b14 (((32 : Int32) * x1) + x3).toNatClampNeg) (0 : Int32) (13 : Int32) a g) else (bnd (f_X11_flat n Z (gJ g b14 (((32 : Int32) * x1) + x3).toNatClampNeg) g) (fun r19 g20 => f_X11_laysForm_l66 n Z (fun y0 y1 y2 y => f_X11_laysForm_l24 n Z a fu y0 y1 y2 y) a x1 x2 x3 r19 (0 : Int32) (13 : Int32) a g20)))))))))
set_option maxHeartbeats 4000000 in
set_option maxRecDepth 100000 in
theorem vl_X11_laysForm_l24 {x : Cq} {n : Nat} {Z : Zt} {a : Nat} {rr : Unit} {gg : Mem} (hM : Cm x cX11_laysForm RX11 6 none 4 Z none gg) (hz0 : zk Z a = 10) : ∀ (fu : Nat) (x1 : Int32) (x2 : Int32) (x3 : Int32) (g : Mem), f_X11_laysForm_l24 n Z a fu x1 x2 x3 g = some (rr, gg) → V x Z 0 0 24 [(0, va_rf (some a)), (1, .int x1), (2, .int x2), (3, .int x3)] [] g := by
  intro fu
  induction fu with
  | zero => intro x1 x2 x3 g h; cases h
  | succ fu ih =>
    intro x1 x2 x3 g h
    unfold f_X11_laysForm_l24 at h
    refine V_iload_n hM.c 3 dX11_laysForm_24 rfl rfl ?_
    refine V_aload_n hM.c 0 dX11_laysForm_25 rfl rfl ?_
    replace h := drf_some h
    obtain ⟨b9, e10, h⟩ := h
    refine G9_21 hM.c tw_128 hz0 e10 dX11_laysForm_26 ?_
    refine V_iload_n hM.c 1 dX11_laysForm_29 rfl rfl ?_
    replace h := grd_some h
    obtain ⟨z11, h⟩ := h
    replace h := grd_some h
    obtain ⟨c12, h⟩ := h
    refine V_iald hM.c z11 c12 dX11_laysForm_30 ?_
    refine V_icmp_ge hM.c 86 dX11_laysForm_31 (by decide) (fun c13 => ?_) (fun c13 => ?_)
    · replace h := ite_p h c13
      refine V_iconst (v := 0) hM.c dX11_laysForm_86 (by decide) ?_
      refine V_istore_n (i := 3) (L' := [(3, .int (0 : Int32)), (0, va_rf (some a)), (1, .int x1), (2, .int x2)]) hM.c dX11_laysForm_87 rfl (by decide) rfl ?_
      refine V_sub [1, 3, 0] rfl ?_
      exact vl_X11_laysForm_l88 hM hz0  _ _ _ _ h
    · replace h := ite_n h c13
      refine V_aload_n hM.c 0 dX11_laysForm_34 rfl rfl ?_
      replace h := drf_some h
      obtain ⟨b14, e15, h⟩ := h
      refine G9_22 hM.c tw_129 hz0 e15 dX11_laysForm_35 ?_
      refine V_bipush (v := 32) hM.c dX11_laysForm_38 (by decide) ?_
      refine V_iload_n hM.c 1 dX11_laysForm_40 rfl rfl ?_
      refine V_imul hM.c dX11_laysForm_41 ?_
      refine V_iload_n hM.c 3 dX11_laysForm_42 rfl rfl ?_
      refine V_iadd hM.c dX11_laysForm_43 ?_
      replace h := grd_some h
      obtain ⟨z16, h⟩ := h
      replace h := grd_some h
      obtain ⟨c17, h⟩ := h
      refine V_lald hM.c z16 c17 dX11_laysForm_44 ?_
      refine V_lstore (L' := [(4, .long (gJ g b14 (((32 : Int32) * x1) + x3).toNatClampNeg)), (0, va_rf (some a)), (1, .int x1), (2, .int x2), (3, .int x3)]) hM.c dX11_laysForm_45 (by decide) rfl ?_
      refine V_aload_n hM.c 1 dX11_laysForm_47 rfl rfl ?_
      refine V_bipush (v := 13) hM.c dX11_laysForm_48 (by decide) ?_
      refine V_iconst (v := 0) hM.c dX11_laysForm_50 (by decide) ?_
      refine V_iload_n hM.c 3 dX11_laysForm_51 rfl rfl ?_
      refine V_iconst (v := 1) hM.c dX11_laysForm_52 (by decide) ?_
      refine V_icmp_le hM.c 64 dX11_laysForm_53 (by decide) (fun c18 => ?_) (fun c18 => ?_)
      · replace h := ite_p h c18
        refine V_lload hM.c 0 dX11_laysForm_64 rfl ?_
        refine V_sub [1, 2, 3, 4] rfl ?_
        exact vl_X11_laysForm_l66 hM hz0 ih h
      · replace h := ite_n h c18
        refine V_lload hM.c 0 dX11_laysForm_56 rfl ?_
        replace h := bnd_some h
        obtain ⟨r19, g20, e21, h⟩ := h
        refine V_callS (As := [.long (gJ g b14 (((32 : Int32) * x1) + x3).toNatClampNeg)]) hM.c hM.a mq_X11_flat mi_X11_flat tw_975 (hM.d (by decide)) hM.z (vm_X11_flat e21) rfl (Nat.le_of_ble_eq_true rfl) dX11_laysForm_58 ?_
        refine V_goto hM.c 66 dX11_laysForm_61 (by decide) ?_
        refine V_sub [1, 2, 3, 4] rfl ?_
        exact vl_X11_laysForm_l66 hM hz0 ih h
def f_X11_laysForm (n : Nat) (Z : Zt) (a : Nat) (x1 : Int32) (x2 : Int32) (g : Mem) : Option (Unit × Mem) := grd (zk Z a = 10) (drf (zf Z a 19) (fun b1 => grd (zk Z b1 = 12) (grd (inr (13 : Int32) (zl Z b1)) (drf (zf Z a 21) (fun b5 => grd (zk Z b5 = 12) (grd (inr (416 : Int32) (zl Z b5)) (f_X11_laysForm_l24 n Z a n x1 x2 (0 : Int32) (sI (sI (sI g b1 (13 : Int32).toNatClampNeg (1 : Int32)) b5 (416 : Int32).toNatClampNeg (0 : Int32)) a 25 (0 : Int32)))))))))
theorem mq_X11_laysForm : Mq yX11_laysForm cX11_laysForm 6 none 2 := ⟨tw_974, tw_5, ⟨by decide +kernel, by decide +kernel, by decide +kernel⟩, by decide⟩
theorem mi_X11_laysForm : Cond.instanceMethod yX11_laysForm ∈ TB ∧ Cond.selects yX11_laysForm.cls yX11_laysForm yX11_laysForm ∈ TB := ⟨tw_972, tw_973⟩
theorem zc_X11_laysForm {n : Nat} {Z : Zt} {a : Nat} {x1 : Int32} {x2 : Int32} {g : Mem} {q : Unit × Mem} (h : f_X11_laysForm n Z a x1 x2 g = some q) : zk Z a = 10 := (grd_some h).1
set_option maxHeartbeats 4000000 in
set_option maxRecDepth 100000 in
theorem vm_X11_laysForm {n : Nat} {Z : Zt} {a : Nat} {x1 : Int32} {x2 : Int32} {g : Mem} {rr : Unit} {gg : Mem} (h : f_X11_laysForm n Z a x1 x2 g = some (rr, gg)) : VM yX11_laysForm cX11_laysForm 6 none 4 [.ref a, .int x1, .int x2] Z g none gg := by
  unfold f_X11_laysForm at h
  replace h := grd_some h
  obtain ⟨hz0, h⟩ := h
  refine VM.of (by decide +kernel) (Nat.le_of_ble_eq_true rfl) (fun x hM => ?_)
  have hM : Cm x cX11_laysForm RX11 6 none 4 Z none gg := hM
  show V x Z 0 0 0 [(0, va_rf (some a)), (1, .int x1), (2, .int x2)] [] g
  refine V_aload_n hM.c 0 dX11_laysForm_0 rfl rfl ?_
  replace h := drf_some h
  obtain ⟨b1, e2, h⟩ := h
  refine G9_19 hM.c tw_126 hz0 e2 dX11_laysForm_1 ?_
  refine V_bipush (v := 13) hM.c dX11_laysForm_4 (by decide) ?_
  refine V_iconst (v := 1) hM.c dX11_laysForm_6 (by decide) ?_
  replace h := grd_some h
  obtain ⟨z3, h⟩ := h
  replace h := grd_some h
  obtain ⟨c4, h⟩ := h
  refine V_iast hM.c z3 c4 hM.a dX11_laysForm_7 ?_
  refine V_aload_n hM.c 0 dX11_laysForm_8 rfl rfl ?_
  replace h := drf_some h
  obtain ⟨b5, e6, h⟩ := h
  refine G9_21 hM.c tw_128 hz0 e6 dX11_laysForm_9 ?_
  refine V_sipush (v := 416) hM.c dX11_laysForm_12 (by decide) ?_
  refine V_iconst (v := 0) hM.c dX11_laysForm_15 (by decide) ?_
  replace h := grd_some h
  obtain ⟨z7, h⟩ := h
  replace h := grd_some h
  obtain ⟨c8, h⟩ := h
  refine V_iast hM.c z7 c8 hM.a dX11_laysForm_16 ?_
  refine V_aload_n hM.c 0 dX11_laysForm_17 rfl rfl ?_
  refine V_iconst (v := 0) hM.c dX11_laysForm_18 (by decide) ?_
  refine P9_25 hM.c tw_472 hz0 (by decide) hM.a dX11_laysForm_19 ?_
  refine V_iconst (v := 0) hM.c dX11_laysForm_22 (by decide) ?_
  refine V_istore_n (i := 3) (L' := [(3, .int (0 : Int32)), (0, va_rf (some a)), (1, .int x1), (2, .int x2)]) hM.c dX11_laysForm_23 rfl (by decide) rfl ?_
  refine V_sub [1, 2, 3, 0] rfl ?_
  exact vl_X11_laysForm_l24 hM hz0  _ _ _ _ _ h
def f_X11_isForm (n : Nat) (Z : Zt) (x0 : Int32) (g : Mem) : Option (Int32 × Mem) := bnd (f_X11_in n Z x0 (0 : Int32) (4 : Int32) g) (fun r1 g2 => grd (isz r1) (some (r1, g2)))
theorem mq_X11_isForm : Mq yX11_isForm cX11_isForm 1 (some .boolean) 1 := ⟨tw_970, tw_5, ⟨by decide +kernel, by decide +kernel, by decide +kernel⟩, by decide⟩
theorem mi_X11_isForm : Cond.static yX11_isForm ∈ TB := tw_969
set_option maxHeartbeats 4000000 in
set_option maxRecDepth 100000 in
theorem vm_X11_isForm {n : Nat} {Z : Zt} {x0 : Int32} {g : Mem} {rr : Int32} {gg : Mem} (h : f_X11_isForm n Z x0 g = some (rr, gg)) : VM yX11_isForm cX11_isForm 1 (some .boolean) 1 [.int x0] Z g (some (.int rr)) gg := by
  unfold f_X11_isForm at h
  refine VM.of (by decide +kernel) (Nat.le_of_ble_eq_true rfl) (fun x hM => ?_)
  have hM : Cm x cX11_isForm RX11 1 (some .boolean) 1 Z (some (.int rr)) gg := hM
  show V x Z 0 0 0 [(0, .int x0)] [] g
  refine V_iload_n hM.c 0 dX11_isForm_0 rfl rfl ?_
  refine V_iconst (v := 0) hM.c dX11_isForm_1 (by decide) ?_
  refine V_iconst (v := 4) hM.c dX11_isForm_2 (by decide) ?_
  replace h := bnd_some h
  obtain ⟨r1, g2, e3, h⟩ := h
  refine V_callS (As := [.int x0, .int (0 : Int32), .int (4 : Int32)]) hM.c hM.a mq_X11_in mi_X11_in tw_212 (hM.d (by decide)) hM.z (vm_X11_in e3) rfl (Nat.le_of_ble_eq_true rfl) dX11_isForm_3 ?_
  replace h := grd_some h
  obtain ⟨c4, h⟩ := h
  exact V_zretE hM (isz_nar c4) h dX11_isForm_6
def f_X11_terms (n : Nat) (Z : Zt) (a : Nat) (x1 : Int32) (x2 : Int32) (g : Mem) : Option (Int32 × Mem) := grd (zk Z a = 10) (bnd (f_X11_isRow n Z a x1 g) (fun r1 g2 => if r1 = 0 then (some ((-1 : Int32), g2)) else (bnd (f_X11_isForm n Z x2 g2) (fun r5 g6 => if r5 = 0 then (some ((-2 : Int32), g6)) else (bnd (f_X11_laysForm n Z a x1 x2 g6) (fun r9 g10 => drf (zf Z a 21) (fun b12 => grd (zk Z b12 = 12) (grd (inr (416 : Int32) (zl Z b12)) (some ((gI g10 b12 (416 : Int32).toNatClampNeg), g10))))))))))
theorem mq_X11_terms : Mq yX11_terms cX11_terms 3 (some .int) 2 := ⟨tw_967, tw_5, ⟨by decide +kernel, by decide +kernel, by decide +kernel⟩, by decide⟩
theorem mi_X11_terms : Cond.instanceMethod yX11_terms ∈ TB ∧ Cond.selects yX11_terms.cls yX11_terms yX11_terms ∈ TB := ⟨tw_965, tw_966⟩
theorem zc_X11_terms {n : Nat} {Z : Zt} {a : Nat} {x1 : Int32} {x2 : Int32} {g : Mem} {q : Int32 × Mem} (h : f_X11_terms n Z a x1 x2 g = some q) : zk Z a = 10 := (grd_some h).1
set_option maxHeartbeats 4000000 in
set_option maxRecDepth 100000 in
theorem vm_X11_terms {n : Nat} {Z : Zt} {a : Nat} {x1 : Int32} {x2 : Int32} {g : Mem} {rr : Int32} {gg : Mem} (h : f_X11_terms n Z a x1 x2 g = some (rr, gg)) : VM yX11_terms cX11_terms 3 (some .int) 7 [.ref a, .int x1, .int x2] Z g (some (.int rr)) gg := by
  unfold f_X11_terms at h
  replace h := grd_some h
  obtain ⟨hz0, h⟩ := h
  refine VM.of (by decide +kernel) (Nat.le_of_ble_eq_true rfl) (fun x hM => ?_)
  have hM : Cm x cX11_terms RX11 3 (some .int) 7 Z (some (.int rr)) gg := hM
  show V x Z 0 0 0 [(0, va_rf (some a)), (1, .int x1), (2, .int x2)] [] g
  refine V_aload_n hM.c 0 dX11_terms_0 rfl rfl ?_
  refine V_iload_n hM.c 1 dX11_terms_1 rfl rfl ?_
  replace h := bnd_some h
  obtain ⟨r1, g2, e3, h⟩ := h
  refine V_callV (As := [.int x1]) (c := 9) (T := TX11) (N := 32) hM.c hM.a mq_X11_isRow mi_X11_isRow tw_922 (hM.d (by decide)) hM.z rfl (by omega) (zc_X11_isRow e3) (vm_X11_isRow e3) rfl (Nat.le_of_ble_eq_true rfl) dX11_terms_2 ?_
  refine V_if_ne hM.c 10 dX11_terms_5 (by decide) (fun c4 => ?_) (fun c4 => ?_)
  · replace h := ite_n h c4
    refine V_iload_n hM.c 2 dX11_terms_10 rfl rfl ?_
    replace h := bnd_some h
    obtain ⟨r5, g6, e7, h⟩ := h
    refine V_callS (As := [.int x2]) hM.c hM.a mq_X11_isForm mi_X11_isForm tw_968 (hM.d (by decide)) hM.z (vm_X11_isForm e7) rfl (Nat.le_of_ble_eq_true rfl) dX11_terms_11 ?_
    refine V_if_ne hM.c 20 dX11_terms_14 (by decide) (fun c8 => ?_) (fun c8 => ?_)
    · replace h := ite_n h c8
      refine V_aload_n hM.c 0 dX11_terms_20 rfl rfl ?_
      refine V_iload_n hM.c 1 dX11_terms_21 rfl rfl ?_
      refine V_iload_n hM.c 2 dX11_terms_22 rfl rfl ?_
      replace h := bnd_some h
      obtain ⟨r9, g10, e11, h⟩ := h
      refine V_callV (As := [.int x1, .int x2]) (c := 9) (T := TX11) (N := 32) hM.c hM.a mq_X11_laysForm mi_X11_laysForm tw_971 (hM.d (by decide)) hM.z rfl (by omega) (zc_X11_laysForm e11) (vm_X11_laysForm e11) rfl (Nat.le_of_ble_eq_true rfl) dX11_terms_23 ?_
      refine V_aload_n hM.c 0 dX11_terms_26 rfl rfl ?_
      replace h := drf_some h
      obtain ⟨b12, e13, h⟩ := h
      refine G9_21 hM.c tw_128 hz0 e13 dX11_terms_27 ?_
      refine V_sipush (v := 416) hM.c dX11_terms_30 (by decide) ?_
      replace h := grd_some h
      obtain ⟨z14, h⟩ := h
      replace h := grd_some h
      obtain ⟨c15, h⟩ := h
      refine V_iald hM.c z14 c15 dX11_terms_33 ?_
      exact V_iretE hM h dX11_terms_34
    · replace h := ite_p h c8
      refine V_bipush (v := -2) hM.c dX11_terms_17 (by decide) ?_
      exact V_iretE hM h dX11_terms_19
  · replace h := ite_p h c4
    refine V_iconst (v := -1) hM.c dX11_terms_8 (by decide) ?_
    exact V_iretE hM h dX11_terms_9
def f_X11_coefficient (n : Nat) (Z : Zt) (a : Nat) (x1 : Int32) (x2 : Int32) (x3 : Int32) (g : Mem) : Option (Int64 × Mem) := grd (zk Z a = 10) (bnd (f_X11_isRow n Z a x1 g) (fun r1 g2 => if r1 = 0 then (some ((-1 : Int64), g2)) else (bnd (f_X11_isForm n Z x2 g2) (fun r5 g6 => if r5 = 0 then (some ((-2 : Int64), g6)) else (bnd (f_X11_laysForm n Z a x1 x2 g6) (fun r9 g10 => drf (zf Z a 21) (fun b12 => grd (zk Z b12 = 12) (grd (inr (416 : Int32) (zl Z b12)) (bnd (f_X11_in n Z x3 (0 : Int32) ((gI g10 b12 (416 : Int32).toNatClampNeg) - (1 : Int32)) g10) (fun r16 g17 => if r16 = 0 then (some ((-1 : Int64), g17)) else (drf (zf Z a 23) (fun b20 => grd (zk Z b20 = 13) (grd (inr ((13312 : Int32) + x3) (zl Z b20)) (some ((gJ g17 b20 ((13312 : Int32) + x3).toNatClampNeg), g17)))))))))))))))
theorem mq_X11_coefficient : Mq yX11_coefficient cX11_coefficient 4 (some .long) 3 := ⟨tw_997, tw_5, ⟨by decide +kernel, by decide +kernel, by decide +kernel⟩, by decide⟩
theorem mi_X11_coefficient : Cond.instanceMethod yX11_coefficient ∈ TB ∧ Cond.selects yX11_coefficient.cls yX11_coefficient yX11_coefficient ∈ TB := ⟨tw_995, tw_996⟩
theorem zc_X11_coefficient {n : Nat} {Z : Zt} {a : Nat} {x1 : Int32} {x2 : Int32} {x3 : Int32} {g : Mem} {q : Int64 × Mem} (h : f_X11_coefficient n Z a x1 x2 x3 g = some q) : zk Z a = 10 := (grd_some h).1
set_option maxHeartbeats 4000000 in
set_option maxRecDepth 100000 in
theorem vm_X11_coefficient {n : Nat} {Z : Zt} {a : Nat} {x1 : Int32} {x2 : Int32} {x3 : Int32} {g : Mem} {rr : Int64} {gg : Mem} (h : f_X11_coefficient n Z a x1 x2 x3 g = some (rr, gg)) : VM yX11_coefficient cX11_coefficient 4 (some .long) 7 [.ref a, .int x1, .int x2, .int x3] Z g (some (.long rr)) gg := by
  unfold f_X11_coefficient at h
  replace h := grd_some h
  obtain ⟨hz0, h⟩ := h
  refine VM.of (by decide +kernel) (Nat.le_of_ble_eq_true rfl) (fun x hM => ?_)
  have hM : Cm x cX11_coefficient RX11 4 (some .long) 7 Z (some (.long rr)) gg := hM
  show V x Z 0 0 0 [(0, va_rf (some a)), (1, .int x1), (2, .int x2), (3, .int x3)] [] g
  refine V_aload_n hM.c 0 dX11_coefficient_0 rfl rfl ?_
  refine V_iload_n hM.c 1 dX11_coefficient_1 rfl rfl ?_
  replace h := bnd_some h
  obtain ⟨r1, g2, e3, h⟩ := h
  refine V_callV (As := [.int x1]) (c := 9) (T := TX11) (N := 32) hM.c hM.a mq_X11_isRow mi_X11_isRow tw_922 (hM.d (by decide)) hM.z rfl (by omega) (zc_X11_isRow e3) (vm_X11_isRow e3) rfl (Nat.le_of_ble_eq_true rfl) dX11_coefficient_2 ?_
  refine V_if_ne hM.c 12 dX11_coefficient_5 (by decide) (fun c4 => ?_) (fun c4 => ?_)
  · replace h := ite_n h c4
    refine V_iload_n hM.c 2 dX11_coefficient_12 rfl rfl ?_
    replace h := bnd_some h
    obtain ⟨r5, g6, e7, h⟩ := h
    refine V_callS (As := [.int x2]) hM.c hM.a mq_X11_isForm mi_X11_isForm tw_968 (hM.d (by decide)) hM.z (vm_X11_isForm e7) rfl (Nat.le_of_ble_eq_true rfl) dX11_coefficient_13 ?_
    refine V_if_ne hM.c 23 dX11_coefficient_16 (by decide) (fun c8 => ?_) (fun c8 => ?_)
    · replace h := ite_n h c8
      refine V_aload_n hM.c 0 dX11_coefficient_23 rfl rfl ?_
      refine V_iload_n hM.c 1 dX11_coefficient_24 rfl rfl ?_
      refine V_iload_n hM.c 2 dX11_coefficient_25 rfl rfl ?_
      replace h := bnd_some h
      obtain ⟨r9, g10, e11, h⟩ := h
      refine V_callV (As := [.int x1, .int x2]) (c := 9) (T := TX11) (N := 32) hM.c hM.a mq_X11_laysForm mi_X11_laysForm tw_971 (hM.d (by decide)) hM.z rfl (by omega) (zc_X11_laysForm e11) (vm_X11_laysForm e11) rfl (Nat.le_of_ble_eq_true rfl) dX11_coefficient_26 ?_
      refine V_iload_n hM.c 3 dX11_coefficient_29 rfl rfl ?_
      refine V_iconst (v := 0) hM.c dX11_coefficient_30 (by decide) ?_
      refine V_aload_n hM.c 0 dX11_coefficient_31 rfl rfl ?_
      replace h := drf_some h
      obtain ⟨b12, e13, h⟩ := h
      refine G9_21 hM.c tw_128 hz0 e13 dX11_coefficient_32 ?_
      refine V_sipush (v := 416) hM.c dX11_coefficient_35 (by decide) ?_
      replace h := grd_some h
      obtain ⟨z14, h⟩ := h
      replace h := grd_some h
      obtain ⟨c15, h⟩ := h
      refine V_iald hM.c z14 c15 dX11_coefficient_38 ?_
      refine V_iconst (v := 1) hM.c dX11_coefficient_39 (by decide) ?_
      refine V_isub hM.c dX11_coefficient_40 ?_
      replace h := bnd_some h
      obtain ⟨r16, g17, e18, h⟩ := h
      refine V_callS (As := [.int x3, .int (0 : Int32), .int ((gI g10 b12 (416 : Int32).toNatClampNeg) - (1 : Int32))]) hM.c hM.a mq_X11_in mi_X11_in tw_212 (hM.d (by decide)) hM.z (vm_X11_in e18) rfl (Nat.le_of_ble_eq_true rfl) dX11_coefficient_41 ?_
      refine V_if_eq hM.c 60 dX11_coefficient_44 (by decide) (fun c19 => ?_) (fun c19 => ?_)
      · replace h := ite_p h c19
        refine V_ldc2 (v := -1) hM.c tw_998 dX11_coefficient_60 ?_
        exact V_lretE hM h dX11_coefficient_63
      · replace h := ite_n h c19
        refine V_aload_n hM.c 0 dX11_coefficient_47 rfl rfl ?_
        replace h := drf_some h
        obtain ⟨b20, e21, h⟩ := h
        refine G9_23 hM.c tw_130 hz0 e21 dX11_coefficient_48 ?_
        refine V_sipush (v := 13312) hM.c dX11_coefficient_51 (by decide) ?_
        refine V_iload_n hM.c 3 dX11_coefficient_54 rfl rfl ?_
        refine V_iadd hM.c dX11_coefficient_55 ?_
        replace h := grd_some h
        obtain ⟨z22, h⟩ := h
        replace h := grd_some h
        obtain ⟨c23, h⟩ := h
        refine V_lald hM.c z22 c23 dX11_coefficient_56 ?_
        refine V_goto hM.c 63 dX11_coefficient_57 (by decide) ?_
        exact V_lretE hM h dX11_coefficient_63
    · replace h := ite_p h c8
      refine V_ldc2 (v := -2) hM.c tw_999 dX11_coefficient_19 ?_
      exact V_lretE hM h dX11_coefficient_22
  · replace h := ite_p h c4
    refine V_ldc2 (v := -1) hM.c tw_998 dX11_coefficient_8 ?_
    exact V_lretE hM h dX11_coefficient_11
def f_X11_exponent (n : Nat) (Z : Zt) (a : Nat) (x1 : Int32) (x2 : Int32) (x3 : Int32) (x4 : Int32) (g : Mem) : Option (Int32 × Mem) := grd (zk Z a = 10) (bnd (f_X11_isRow n Z a x1 g) (fun r1 g2 => if r1 = 0 then (some ((-1 : Int32), g2)) else (bnd (f_X11_isForm n Z x2 g2) (fun r5 g6 => if r5 = 0 then (some ((-2 : Int32), g6)) else (bnd (f_X11_in n Z x4 (0 : Int32) (15 : Int32) g6) (fun r9 g10 => if r9 = 0 then (some ((-2 : Int32), g10)) else (bnd (f_X11_laysForm n Z a x1 x2 g10) (fun r13 g14 => drf (zf Z a 21) (fun b16 => grd (zk Z b16 = 12) (grd (inr (416 : Int32) (zl Z b16)) (bnd (f_X11_in n Z x3 (0 : Int32) ((gI g14 b16 (416 : Int32).toNatClampNeg) - (1 : Int32)) g14) (fun r20 g21 => if r20 = 0 then (some ((-1 : Int32), g21)) else (drf (zf Z a 22) (fun b24 => grd (zk Z b24 = 13) (grd (inr ((13312 : Int32) + x3) (zl Z b24)) (bnd (f_X11_exponentOf n Z (gJ g21 b24 ((13312 : Int32) + x3).toNatClampNeg) x4 g21) (fun r28 g29 => some (r28, g29))))))))))))))))))
theorem mq_X11_exponent : Mq yX11_exponent cX11_exponent 5 (some .int) 4 := ⟨tw_1011, tw_5, ⟨by decide +kernel, by decide +kernel, by decide +kernel⟩, by decide⟩
theorem mi_X11_exponent : Cond.instanceMethod yX11_exponent ∈ TB ∧ Cond.selects yX11_exponent.cls yX11_exponent yX11_exponent ∈ TB := ⟨tw_1009, tw_1010⟩
theorem zc_X11_exponent {n : Nat} {Z : Zt} {a : Nat} {x1 : Int32} {x2 : Int32} {x3 : Int32} {x4 : Int32} {g : Mem} {q : Int32 × Mem} (h : f_X11_exponent n Z a x1 x2 x3 x4 g = some q) : zk Z a = 10 := (grd_some h).1
set_option maxHeartbeats 4000000 in
set_option maxRecDepth 100000 in
theorem vm_X11_exponent {n : Nat} {Z : Zt} {a : Nat} {x1 : Int32} {x2 : Int32} {x3 : Int32} {x4 : Int32} {g : Mem} {rr : Int32} {gg : Mem} (h : f_X11_exponent n Z a x1 x2 x3 x4 g = some (rr, gg)) : VM yX11_exponent cX11_exponent 5 (some .int) 7 [.ref a, .int x1, .int x2, .int x3, .int x4] Z g (some (.int rr)) gg := by
  unfold f_X11_exponent at h
  replace h := grd_some h
  obtain ⟨hz0, h⟩ := h
  refine VM.of (by decide +kernel) (Nat.le_of_ble_eq_true rfl) (fun x hM => ?_)
  have hM : Cm x cX11_exponent RX11 5 (some .int) 7 Z (some (.int rr)) gg := hM
  show V x Z 0 0 0 [(0, va_rf (some a)), (1, .int x1), (2, .int x2), (3, .int x3), (4, .int x4)] [] g
  refine V_aload_n hM.c 0 dX11_exponent_0 rfl rfl ?_
  refine V_iload_n hM.c 1 dX11_exponent_1 rfl rfl ?_
  replace h := bnd_some h
  obtain ⟨r1, g2, e3, h⟩ := h
  refine V_callV (As := [.int x1]) (c := 9) (T := TX11) (N := 32) hM.c hM.a mq_X11_isRow mi_X11_isRow tw_922 (hM.d (by decide)) hM.z rfl (by omega) (zc_X11_isRow e3) (vm_X11_isRow e3) rfl (Nat.le_of_ble_eq_true rfl) dX11_exponent_2 ?_
  refine V_if_ne hM.c 10 dX11_exponent_5 (by decide) (fun c4 => ?_) (fun c4 => ?_)
  · replace h := ite_n h c4
    refine V_iload_n hM.c 2 dX11_exponent_10 rfl rfl ?_
    replace h := bnd_some h
    obtain ⟨r5, g6, e7, h⟩ := h
    refine V_callS (As := [.int x2]) hM.c hM.a mq_X11_isForm mi_X11_isForm tw_968 (hM.d (by decide)) hM.z (vm_X11_isForm e7) rfl (Nat.le_of_ble_eq_true rfl) dX11_exponent_11 ?_
    refine V_if_eq hM.c 28 dX11_exponent_14 (by decide) (fun c8 => ?_) (fun c8 => ?_)
    · replace h := ite_p h c8
      refine V_bipush (v := -2) hM.c dX11_exponent_28 (by decide) ?_
      exact V_iretE hM h dX11_exponent_30
    · replace h := ite_n h c8
      refine V_iload hM.c 4 dX11_exponent_17 rfl ?_
      refine V_iconst (v := 0) hM.c dX11_exponent_19 (by decide) ?_
      refine V_bipush (v := 15) hM.c dX11_exponent_20 (by decide) ?_
      replace h := bnd_some h
      obtain ⟨r9, g10, e11, h⟩ := h
      refine V_callS (As := [.int x4, .int (0 : Int32), .int (15 : Int32)]) hM.c hM.a mq_X11_in mi_X11_in tw_212 (hM.d (by decide)) hM.z (vm_X11_in e11) rfl (Nat.le_of_ble_eq_true rfl) dX11_exponent_22 ?_
      refine V_if_ne hM.c 31 dX11_exponent_25 (by decide) (fun c12 => ?_) (fun c12 => ?_)
      · replace h := ite_n h c12
        refine V_aload_n hM.c 0 dX11_exponent_31 rfl rfl ?_
        refine V_iload_n hM.c 1 dX11_exponent_32 rfl rfl ?_
        refine V_iload_n hM.c 2 dX11_exponent_33 rfl rfl ?_
        replace h := bnd_some h
        obtain ⟨r13, g14, e15, h⟩ := h
        refine V_callV (As := [.int x1, .int x2]) (c := 9) (T := TX11) (N := 32) hM.c hM.a mq_X11_laysForm mi_X11_laysForm tw_971 (hM.d (by decide)) hM.z rfl (by omega) (zc_X11_laysForm e15) (vm_X11_laysForm e15) rfl (Nat.le_of_ble_eq_true rfl) dX11_exponent_34 ?_
        refine V_iload_n hM.c 3 dX11_exponent_37 rfl rfl ?_
        refine V_iconst (v := 0) hM.c dX11_exponent_38 (by decide) ?_
        refine V_aload_n hM.c 0 dX11_exponent_39 rfl rfl ?_
        replace h := drf_some h
        obtain ⟨b16, e17, h⟩ := h
        refine G9_21 hM.c tw_128 hz0 e17 dX11_exponent_40 ?_
        refine V_sipush (v := 416) hM.c dX11_exponent_43 (by decide) ?_
        replace h := grd_some h
        obtain ⟨z18, h⟩ := h
        replace h := grd_some h
        obtain ⟨c19, h⟩ := h
        refine V_iald hM.c z18 c19 dX11_exponent_46 ?_
        refine V_iconst (v := 1) hM.c dX11_exponent_47 (by decide) ?_
        refine V_isub hM.c dX11_exponent_48 ?_
        replace h := bnd_some h
        obtain ⟨r20, g21, e22, h⟩ := h
        refine V_callS (As := [.int x3, .int (0 : Int32), .int ((gI g14 b16 (416 : Int32).toNatClampNeg) - (1 : Int32))]) hM.c hM.a mq_X11_in mi_X11_in tw_212 (hM.d (by decide)) hM.z (vm_X11_in e22) rfl (Nat.le_of_ble_eq_true rfl) dX11_exponent_49 ?_
        refine V_if_eq hM.c 73 dX11_exponent_52 (by decide) (fun c23 => ?_) (fun c23 => ?_)
        · replace h := ite_p h c23
          refine V_iconst (v := -1) hM.c dX11_exponent_73 (by decide) ?_
          exact V_iretE hM h dX11_exponent_74
        · replace h := ite_n h c23
          refine V_aload_n hM.c 0 dX11_exponent_55 rfl rfl ?_
          replace h := drf_some h
          obtain ⟨b24, e25, h⟩ := h
          refine G9_22 hM.c tw_129 hz0 e25 dX11_exponent_56 ?_
          refine V_sipush (v := 13312) hM.c dX11_exponent_59 (by decide) ?_
          refine V_iload_n hM.c 3 dX11_exponent_62 rfl rfl ?_
          refine V_iadd hM.c dX11_exponent_63 ?_
          replace h := grd_some h
          obtain ⟨z26, h⟩ := h
          replace h := grd_some h
          obtain ⟨c27, h⟩ := h
          refine V_lald hM.c z26 c27 dX11_exponent_64 ?_
          refine V_iload hM.c 4 dX11_exponent_65 rfl ?_
          replace h := bnd_some h
          obtain ⟨r28, g29, e30, h⟩ := h
          refine V_callS (As := [.long (gJ g21 b24 ((13312 : Int32) + x3).toNatClampNeg), .int x4]) hM.c hM.a mq_X11_exponentOf mi_X11_exponentOf tw_662 (hM.d (by decide)) hM.z (vm_X11_exponentOf e30) rfl (Nat.le_of_ble_eq_true rfl) dX11_exponent_67 ?_
          refine V_goto hM.c 74 dX11_exponent_70 (by decide) ?_
          exact V_iretE hM h dX11_exponent_74
      · replace h := ite_p h c12
        refine V_bipush (v := -2) hM.c dX11_exponent_28 (by decide) ?_
        exact V_iretE hM h dX11_exponent_30
  · replace h := ite_p h c4
    refine V_iconst (v := -1) hM.c dX11_exponent_8 (by decide) ?_
    exact V_iretE hM h dX11_exponent_9
def f_X11_tagsOf_l4 (n : Nat) (Z : Zt) (a : Nat) : Nat → Int32 → Int32 → Int32 → Mem → Option (Int32 × Mem)
  | 0, _, _, _, _ => none
  | fu + 1, x1, x2, x3, g => drf (zf Z a 21) (fun b1 => grd (zk Z b1 = 12) (grd (inr x1 (zl Z b1)) (if (gI g b1 x1.toNatClampNeg) ≤ x3 then (some (x2, g)) else (drf (zf Z a 22) (fun b6 => grd (zk Z b6 = 13) (grd (inr (((32 : Int32) * x1) + x3) (zl Z b6)) (bnd (f_X11_setOf n Z (gJ g b6 (((32 : Int32) * x1) + x3).toNatClampNeg) g) (fun r10 g11 => f_X11_tagsOf_l4 n Z a fu x1 (x2 ||| r10) (x3 + 1) g11))))))))
set_option maxHeartbeats 4000000 in
set_option maxRecDepth 100000 in
theorem vl_X11_tagsOf_l4 {x : Cq} {n : Nat} {Z : Zt} {a : Nat} {rr : Int32} {gg : Mem} (hM : Cm x cX11_tagsOf RX11 4 (some .int) 2 Z (some (.int rr)) gg) (hz0 : zk Z a = 10) : ∀ (fu : Nat) (x1 : Int32) (x2 : Int32) (x3 : Int32) (g : Mem), f_X11_tagsOf_l4 n Z a fu x1 x2 x3 g = some (rr, gg) → V x Z 0 0 4 [(0, va_rf (some a)), (1, .int x1), (2, .int x2), (3, .int x3)] [] g := by
  intro fu
  induction fu with
  | zero => intro x1 x2 x3 g h; cases h
  | succ fu ih =>
    intro x1 x2 x3 g h
    unfold f_X11_tagsOf_l4 at h
    refine V_iload_n hM.c 3 dX11_tagsOf_4 rfl rfl ?_
    refine V_aload_n hM.c 0 dX11_tagsOf_5 rfl rfl ?_
    replace h := drf_some h
    obtain ⟨b1, e2, h⟩ := h
    refine G9_21 hM.c tw_128 hz0 e2 dX11_tagsOf_6 ?_
    refine V_iload_n hM.c 1 dX11_tagsOf_9 rfl rfl ?_
    replace h := grd_some h
    obtain ⟨z3, h⟩ := h
    replace h := grd_some h
    obtain ⟨c4, h⟩ := h
    refine V_iald hM.c z3 c4 dX11_tagsOf_10 ?_
    refine V_icmp_ge hM.c 37 dX11_tagsOf_11 (by decide) (fun c5 => ?_) (fun c5 => ?_)
    · replace h := ite_p h c5
      refine V_iload_n hM.c 2 dX11_tagsOf_37 rfl rfl ?_
      exact V_iretE hM h dX11_tagsOf_38
    · replace h := ite_n h c5
      refine V_iload_n hM.c 2 dX11_tagsOf_14 rfl rfl ?_
      refine V_aload_n hM.c 0 dX11_tagsOf_15 rfl rfl ?_
      replace h := drf_some h
      obtain ⟨b6, e7, h⟩ := h
      refine G9_22 hM.c tw_129 hz0 e7 dX11_tagsOf_16 ?_
      refine V_bipush (v := 32) hM.c dX11_tagsOf_19 (by decide) ?_
      refine V_iload_n hM.c 1 dX11_tagsOf_21 rfl rfl ?_
      refine V_imul hM.c dX11_tagsOf_22 ?_
      refine V_iload_n hM.c 3 dX11_tagsOf_23 rfl rfl ?_
      refine V_iadd hM.c dX11_tagsOf_24 ?_
      replace h := grd_some h
      obtain ⟨z8, h⟩ := h
      replace h := grd_some h
      obtain ⟨c9, h⟩ := h
      refine V_lald hM.c z8 c9 dX11_tagsOf_25 ?_
      replace h := bnd_some h
      obtain ⟨r10, g11, e12, h⟩ := h
      refine V_callS (As := [.long (gJ g b6 (((32 : Int32) * x1) + x3).toNatClampNeg)]) hM.c hM.a mq_X11_setOf mi_X11_setOf tw_659 (hM.d (by decide)) hM.z (vm_X11_setOf e12) rfl (Nat.le_of_ble_eq_true rfl) dX11_tagsOf_26 ?_
      refine V_ior hM.c dX11_tagsOf_29 ?_
      refine V_istore_n (i := 2) (L' := [(2, .int (x2 ||| r10)), (0, va_rf (some a)), (1, .int x1), (3, .int x3)]) hM.c dX11_tagsOf_30 rfl (by decide) rfl ?_
      refine V_iinc (v := (x3 + 1)) (L' := [(3, .int (x3 + 1)), (2, .int (x2 ||| r10)), (0, va_rf (some a)), (1, .int x1)]) hM.c 3 dX11_tagsOf_31 rfl rfl (by decide) rfl ?_
      refine V_goto hM.c 4 dX11_tagsOf_34 (by decide) ?_
      refine V_sub [2, 3, 1, 0] rfl ?_
      exact ih _ _ _ _ h
def f_X11_tagsOf (n : Nat) (Z : Zt) (a : Nat) (x1 : Int32) (g : Mem) : Option (Int32 × Mem) := grd (zk Z a = 10) (f_X11_tagsOf_l4 n Z a n x1 (0 : Int32) (0 : Int32) g)
theorem mq_X11_tagsOf : Mq yX11_tagsOf cX11_tagsOf 4 (some .int) 1 := ⟨tw_1031, tw_5, ⟨by decide +kernel, by decide +kernel, by decide +kernel⟩, by decide⟩
theorem mi_X11_tagsOf : Cond.instanceMethod yX11_tagsOf ∈ TB ∧ Cond.selects yX11_tagsOf.cls yX11_tagsOf yX11_tagsOf ∈ TB := ⟨tw_1029, tw_1030⟩
theorem zc_X11_tagsOf {n : Nat} {Z : Zt} {a : Nat} {x1 : Int32} {g : Mem} {q : Int32 × Mem} (h : f_X11_tagsOf n Z a x1 g = some q) : zk Z a = 10 := (grd_some h).1
set_option maxHeartbeats 4000000 in
set_option maxRecDepth 100000 in
theorem vm_X11_tagsOf {n : Nat} {Z : Zt} {a : Nat} {x1 : Int32} {g : Mem} {rr : Int32} {gg : Mem} (h : f_X11_tagsOf n Z a x1 g = some (rr, gg)) : VM yX11_tagsOf cX11_tagsOf 4 (some .int) 2 [.ref a, .int x1] Z g (some (.int rr)) gg := by
  unfold f_X11_tagsOf at h
  replace h := grd_some h
  obtain ⟨hz0, h⟩ := h
  refine VM.of (by decide +kernel) (Nat.le_of_ble_eq_true rfl) (fun x hM => ?_)
  have hM : Cm x cX11_tagsOf RX11 4 (some .int) 2 Z (some (.int rr)) gg := hM
  show V x Z 0 0 0 [(0, va_rf (some a)), (1, .int x1)] [] g
  refine V_iconst (v := 0) hM.c dX11_tagsOf_0 (by decide) ?_
  refine V_istore_n (i := 2) (L' := [(2, .int (0 : Int32)), (0, va_rf (some a)), (1, .int x1)]) hM.c dX11_tagsOf_1 rfl (by decide) rfl ?_
  refine V_iconst (v := 0) hM.c dX11_tagsOf_2 (by decide) ?_
  refine V_istore_n (i := 3) (L' := [(3, .int (0 : Int32)), (2, .int (0 : Int32)), (0, va_rf (some a)), (1, .int x1)]) hM.c dX11_tagsOf_3 rfl (by decide) rfl ?_
  refine V_sub [2, 3, 1, 0] rfl ?_
  exact vl_X11_tagsOf_l4 hM hz0  _ _ _ _ _ h
def f_X11_lineage (n : Nat) (Z : Zt) (a : Nat) (x1 : Int32) (g : Mem) : Option (Int32 × Mem) := grd (zk Z a = 10) (bnd (f_X11_isRow n Z a x1 g) (fun r1 g2 => if r1 = 0 then (some ((-1 : Int32), g2)) else (bnd (f_X11_tagsOf n Z a x1 g2) (fun r5 g6 => some (r5, g6)))))
theorem mq_X11_lineage : Mq yX11_lineage cX11_lineage 2 (some .int) 1 := ⟨tw_1027, tw_5, ⟨by decide +kernel, by decide +kernel, by decide +kernel⟩, by decide⟩
theorem mi_X11_lineage : Cond.instanceMethod yX11_lineage ∈ TB ∧ Cond.selects yX11_lineage.cls yX11_lineage yX11_lineage ∈ TB := ⟨tw_1025, tw_1026⟩
theorem zc_X11_lineage {n : Nat} {Z : Zt} {a : Nat} {x1 : Int32} {g : Mem} {q : Int32 × Mem} (h : f_X11_lineage n Z a x1 g = some q) : zk Z a = 10 := (grd_some h).1
set_option maxHeartbeats 4000000 in
set_option maxRecDepth 100000 in
theorem vm_X11_lineage {n : Nat} {Z : Zt} {a : Nat} {x1 : Int32} {g : Mem} {rr : Int32} {gg : Mem} (h : f_X11_lineage n Z a x1 g = some (rr, gg)) : VM yX11_lineage cX11_lineage 2 (some .int) 7 [.ref a, .int x1] Z g (some (.int rr)) gg := by
  unfold f_X11_lineage at h
  replace h := grd_some h
  obtain ⟨hz0, h⟩ := h
  refine VM.of (by decide +kernel) (Nat.le_of_ble_eq_true rfl) (fun x hM => ?_)
  have hM : Cm x cX11_lineage RX11 2 (some .int) 7 Z (some (.int rr)) gg := hM
  show V x Z 0 0 0 [(0, va_rf (some a)), (1, .int x1)] [] g
  refine V_aload_n hM.c 0 dX11_lineage_0 rfl rfl ?_
  refine V_iload_n hM.c 1 dX11_lineage_1 rfl rfl ?_
  replace h := bnd_some h
  obtain ⟨r1, g2, e3, h⟩ := h
  refine V_callV (As := [.int x1]) (c := 9) (T := TX11) (N := 32) hM.c hM.a mq_X11_isRow mi_X11_isRow tw_922 (hM.d (by decide)) hM.z rfl (by omega) (zc_X11_isRow e3) (vm_X11_isRow e3) rfl (Nat.le_of_ble_eq_true rfl) dX11_lineage_2 ?_
  refine V_if_eq hM.c 16 dX11_lineage_5 (by decide) (fun c4 => ?_) (fun c4 => ?_)
  · replace h := ite_p h c4
    refine V_iconst (v := -1) hM.c dX11_lineage_16 (by decide) ?_
    exact V_iretE hM h dX11_lineage_17
  · replace h := ite_n h c4
    refine V_aload_n hM.c 0 dX11_lineage_8 rfl rfl ?_
    refine V_iload_n hM.c 1 dX11_lineage_9 rfl rfl ?_
    replace h := bnd_some h
    obtain ⟨r5, g6, e7, h⟩ := h
    refine V_callV (As := [.int x1]) (c := 9) (T := TX11) (N := 32) hM.c hM.a mq_X11_tagsOf mi_X11_tagsOf tw_1028 (hM.d (by decide)) hM.z rfl (by omega) (zc_X11_tagsOf e7) (vm_X11_tagsOf e7) rfl (Nat.le_of_ble_eq_true rfl) dX11_lineage_10 ?_
    refine V_goto hM.c 17 dX11_lineage_13 (by decide) ?_
    exact V_iretE hM h dX11_lineage_17
def f_X11_derivations_l17 (n : Nat) (Z : Zt) (a : Nat) : Nat → Int32 → Int64 → Int32 → Mem → Option (Int64 × Mem)
  | 0, _, _, _, _ => none
  | fu + 1, x1, x2, x4, g => drf (zf Z a 21) (fun b5 => grd (zk Z b5 = 12) (grd (inr x1 (zl Z b5)) (if (gI g b5 x1.toNatClampNeg) ≤ x4 then (some (x2, g)) else (bnd (f_X11_mask n Z a (1 : Int32) g) (fun r10 g11 => bnd (f_X11_isAvailable n Z a x1 x4 r10 g11) (fun r13 g14 => if r13 = 0 then (f_X11_derivations_l17 n Z a fu x1 (x2 + (0 : Int64)) (x4 + 1) g14) else (drf (zf Z a 23) (fun b17 => grd (zk Z b17 = 13) (grd (inr (((32 : Int32) * x1) + x4) (zl Z b17)) (f_X11_derivations_l17 n Z a fu x1 (x2 + (gJ g14 b17 (((32 : Int32) * x1) + x4).toNatClampNeg)) (x4 + 1) g14))))))))))
set_option maxHeartbeats 4000000 in
set_option maxRecDepth 100000 in
theorem vl_X11_derivations_l17 {x : Cq} {n : Nat} {Z : Zt} {a : Nat} {rr : Int64} {gg : Mem} (hM : Cm x cX11_derivations RX11 5 (some .long) 7 Z (some (.long rr)) gg) (hz0 : zk Z a = 10) : ∀ (fu : Nat) (x1 : Int32) (x2 : Int64) (x4 : Int32) (g : Mem), f_X11_derivations_l17 n Z a fu x1 x2 x4 g = some (rr, gg) → V x Z 0 0 17 [(0, va_rf (some a)), (1, .int x1), (2, .long x2), (4, .int x4)] [] g := by
  intro fu
  induction fu with
  | zero => intro x1 x2 x4 g h; cases h
  | succ fu ih =>
    intro x1 x2 x4 g h
    unfold f_X11_derivations_l17 at h
    refine V_iload hM.c 3 dX11_derivations_17 rfl ?_
    refine V_aload_n hM.c 0 dX11_derivations_19 rfl rfl ?_
    replace h := drf_some h
    obtain ⟨b5, e6, h⟩ := h
    refine G9_21 hM.c tw_128 hz0 e6 dX11_derivations_20 ?_
    refine V_iload_n hM.c 1 dX11_derivations_23 rfl rfl ?_
    replace h := grd_some h
    obtain ⟨z7, h⟩ := h
    replace h := grd_some h
    obtain ⟨c8, h⟩ := h
    refine V_iald hM.c z7 c8 dX11_derivations_24 ?_
    refine V_icmp_ge hM.c 68 dX11_derivations_25 (by decide) (fun c9 => ?_) (fun c9 => ?_)
    · replace h := ite_p h c9
      refine V_lload_n hM.c 2 dX11_derivations_68 rfl rfl ?_
      exact V_lretE hM h dX11_derivations_69
    · replace h := ite_n h c9
      refine V_lload_n hM.c 2 dX11_derivations_28 rfl rfl ?_
      refine V_aload_n hM.c 0 dX11_derivations_29 rfl rfl ?_
      refine V_iload_n hM.c 1 dX11_derivations_30 rfl rfl ?_
      refine V_iload hM.c 3 dX11_derivations_31 rfl ?_
      refine V_aload_n hM.c 0 dX11_derivations_33 rfl rfl ?_
      refine V_iconst (v := 1) hM.c dX11_derivations_34 (by decide) ?_
      replace h := bnd_some h
      obtain ⟨r10, g11, e12, h⟩ := h
      refine V_callV (As := [.int (1 : Int32)]) (c := 9) (T := TX11) (N := 32) hM.c hM.a mq_X11_mask mi_X11_mask tw_559 (hM.d (by decide)) hM.z rfl (by omega) (zc_X11_mask e12) (vm_X11_mask e12) rfl (Nat.le_of_ble_eq_true rfl) dX11_derivations_35 ?_
      replace h := bnd_some h
      obtain ⟨r13, g14, e15, h⟩ := h
      refine V_callV (As := [.int x1, .int x4, .int r10]) (c := 9) (T := TX11) (N := 32) hM.c hM.a mq_X11_isAvailable mi_X11_isAvailable tw_655 (hM.d (by decide)) hM.z rfl (by omega) (zc_X11_isAvailable e15) (vm_X11_isAvailable e15) rfl (Nat.le_of_ble_eq_true rfl) dX11_derivations_38 ?_
      refine V_if_eq hM.c 59 dX11_derivations_41 (by decide) (fun c16 => ?_) (fun c16 => ?_)
      · replace h := ite_p h c16
        refine V_lconst (v := 0) hM.c dX11_derivations_59 (by decide) ?_
        refine V_ladd hM.c dX11_derivations_60 ?_
        refine V_lstore_n (i := 2) (L' := [(2, .long (x2 + (0 : Int64))), (0, va_rf (some a)), (1, .int x1), (4, .int x4)]) hM.c dX11_derivations_61 rfl (by decide) rfl ?_
        refine V_iinc (v := (x4 + 1)) (L' := [(4, .int (x4 + 1)), (2, .long (x2 + (0 : Int64))), (0, va_rf (some a)), (1, .int x1)]) hM.c 3 dX11_derivations_62 rfl rfl (by decide) rfl ?_
        refine V_goto hM.c 17 dX11_derivations_65 (by decide) ?_
        refine V_sub [2, 3, 1, 0] rfl ?_
        exact ih _ _ _ _ h
      · replace h := ite_n h c16
        refine V_aload_n hM.c 0 dX11_derivations_44 rfl rfl ?_
        replace h := drf_some h
        obtain ⟨b17, e18, h⟩ := h
        refine G9_23 hM.c tw_130 hz0 e18 dX11_derivations_45 ?_
        refine V_bipush (v := 32) hM.c dX11_derivations_48 (by decide) ?_
        refine V_iload_n hM.c 1 dX11_derivations_50 rfl rfl ?_
        refine V_imul hM.c dX11_derivations_51 ?_
        refine V_iload hM.c 3 dX11_derivations_52 rfl ?_
        refine V_iadd hM.c dX11_derivations_54 ?_
        replace h := grd_some h
        obtain ⟨z19, h⟩ := h
        replace h := grd_some h
        obtain ⟨c20, h⟩ := h
        refine V_lald hM.c z19 c20 dX11_derivations_55 ?_
        refine V_goto hM.c 60 dX11_derivations_56 (by decide) ?_
        refine V_ladd hM.c dX11_derivations_60 ?_
        refine V_lstore_n (i := 2) (L' := [(2, .long (x2 + (gJ g14 b17 (((32 : Int32) * x1) + x4).toNatClampNeg))), (0, va_rf (some a)), (1, .int x1), (4, .int x4)]) hM.c dX11_derivations_61 rfl (by decide) rfl ?_
        refine V_iinc (v := (x4 + 1)) (L' := [(4, .int (x4 + 1)), (2, .long (x2 + (gJ g14 b17 (((32 : Int32) * x1) + x4).toNatClampNeg))), (0, va_rf (some a)), (1, .int x1)]) hM.c 3 dX11_derivations_62 rfl rfl (by decide) rfl ?_
        refine V_goto hM.c 17 dX11_derivations_65 (by decide) ?_
        refine V_sub [2, 3, 1, 0] rfl ?_
        exact ih _ _ _ _ h
def f_X11_derivations (n : Nat) (Z : Zt) (a : Nat) (x1 : Int32) (g : Mem) : Option (Int64 × Mem) := grd (zk Z a = 10) (bnd (f_X11_isRow n Z a x1 g) (fun r1 g2 => if r1 = 0 then (some ((-1 : Int64), g2)) else (f_X11_derivations_l17 n Z a n x1 (0 : Int64) (0 : Int32) g2)))
theorem mq_X11_derivations : Mq yX11_derivations cX11_derivations 5 (some .long) 1 := ⟨tw_1048, tw_5, ⟨by decide +kernel, by decide +kernel, by decide +kernel⟩, by decide⟩
theorem mi_X11_derivations : Cond.instanceMethod yX11_derivations ∈ TB ∧ Cond.selects yX11_derivations.cls yX11_derivations yX11_derivations ∈ TB := ⟨tw_1046, tw_1047⟩
theorem zc_X11_derivations {n : Nat} {Z : Zt} {a : Nat} {x1 : Int32} {g : Mem} {q : Int64 × Mem} (h : f_X11_derivations n Z a x1 g = some q) : zk Z a = 10 := (grd_some h).1
set_option maxHeartbeats 4000000 in
set_option maxRecDepth 100000 in
theorem vm_X11_derivations {n : Nat} {Z : Zt} {a : Nat} {x1 : Int32} {g : Mem} {rr : Int64} {gg : Mem} (h : f_X11_derivations n Z a x1 g = some (rr, gg)) : VM yX11_derivations cX11_derivations 5 (some .long) 7 [.ref a, .int x1] Z g (some (.long rr)) gg := by
  unfold f_X11_derivations at h
  replace h := grd_some h
  obtain ⟨hz0, h⟩ := h
  refine VM.of (by decide +kernel) (Nat.le_of_ble_eq_true rfl) (fun x hM => ?_)
  have hM : Cm x cX11_derivations RX11 5 (some .long) 7 Z (some (.long rr)) gg := hM
  show V x Z 0 0 0 [(0, va_rf (some a)), (1, .int x1)] [] g
  refine V_aload_n hM.c 0 dX11_derivations_0 rfl rfl ?_
  refine V_iload_n hM.c 1 dX11_derivations_1 rfl rfl ?_
  replace h := bnd_some h
  obtain ⟨r1, g2, e3, h⟩ := h
  refine V_callV (As := [.int x1]) (c := 9) (T := TX11) (N := 32) hM.c hM.a mq_X11_isRow mi_X11_isRow tw_922 (hM.d (by decide)) hM.z rfl (by omega) (zc_X11_isRow e3) (vm_X11_isRow e3) rfl (Nat.le_of_ble_eq_true rfl) dX11_derivations_2 ?_
  refine V_if_ne hM.c 12 dX11_derivations_5 (by decide) (fun c4 => ?_) (fun c4 => ?_)
  · replace h := ite_n h c4
    refine V_lconst (v := 0) hM.c dX11_derivations_12 (by decide) ?_
    refine V_lstore_n (i := 2) (L' := [(2, .long (0 : Int64)), (0, va_rf (some a)), (1, .int x1)]) hM.c dX11_derivations_13 rfl (by decide) rfl ?_
    refine V_iconst (v := 0) hM.c dX11_derivations_14 (by decide) ?_
    refine V_istore (L' := [(4, .int (0 : Int32)), (2, .long (0 : Int64)), (0, va_rf (some a)), (1, .int x1)]) hM.c dX11_derivations_15 (by decide) rfl ?_
    refine V_sub [2, 3, 1, 0] rfl ?_
    exact vl_X11_derivations_l17 hM hz0  _ _ _ _ _ h
  · replace h := ite_p h c4
    refine V_ldc2 (v := -1) hM.c tw_998 dX11_derivations_8 ?_
    exact V_lretE hM h dX11_derivations_11
def f_X11_costOf_l5 (n : Nat) (Z : Zt) (a : Nat) : Nat → Int64 → Int32 → Int32 → Mem → Option (Int32 × Mem)
  | 0, _, _, _, _ => none
  | fu + 1, x1, x3, x4, g => if (16 : Int32) ≤ x4 then (some (x3, g)) else (bnd (f_X11_exponentOf n Z x1 x4 g) (fun r2 g3 => bnd (f_X11_of n Z a x4 (2 : Int32) g3) (fun r5 g6 => f_X11_costOf_l5 n Z a fu x1 (x3 + (r2 * r5)) (x4 + 1) g6)))
set_option maxHeartbeats 4000000 in
set_option maxRecDepth 100000 in
theorem vl_X11_costOf_l5 {x : Cq} {n : Nat} {Z : Zt} {a : Nat} {rr : Int32} {gg : Mem} (hM : Cm x cX11_costOf RX11 5 (some .int) 1 Z (some (.int rr)) gg) (hz0 : zk Z a = 10) : ∀ (fu : Nat) (x1 : Int64) (x3 : Int32) (x4 : Int32) (g : Mem), f_X11_costOf_l5 n Z a fu x1 x3 x4 g = some (rr, gg) → V x Z 0 0 5 [(0, va_rf (some a)), (1, .long x1), (3, .int x3), (4, .int x4)] [] g := by
  intro fu
  induction fu with
  | zero => intro x1 x3 x4 g h; cases h
  | succ fu ih =>
    intro x1 x3 x4 g h
    unfold f_X11_costOf_l5 at h
    refine V_iload hM.c 3 dX11_costOf_5 rfl ?_
    refine V_bipush (v := 16) hM.c dX11_costOf_7 (by decide) ?_
    refine V_icmp_ge hM.c 35 dX11_costOf_9 (by decide) (fun c1 => ?_) (fun c1 => ?_)
    · replace h := ite_p h c1
      refine V_iload_n hM.c 2 dX11_costOf_35 rfl rfl ?_
      exact V_iretE hM h dX11_costOf_36
    · replace h := ite_n h c1
      refine V_iload_n hM.c 2 dX11_costOf_12 rfl rfl ?_
      refine V_lload_n hM.c 1 dX11_costOf_13 rfl rfl ?_
      refine V_iload hM.c 3 dX11_costOf_14 rfl ?_
      replace h := bnd_some h
      obtain ⟨r2, g3, e4, h⟩ := h
      refine V_callS (As := [.long x1, .int x4]) hM.c hM.a mq_X11_exponentOf mi_X11_exponentOf tw_662 (hM.d (by decide)) hM.z (vm_X11_exponentOf e4) rfl (Nat.le_of_ble_eq_true rfl) dX11_costOf_16 ?_
      refine V_aload_n hM.c 0 dX11_costOf_19 rfl rfl ?_
      refine V_iload hM.c 3 dX11_costOf_20 rfl ?_
      refine V_iconst (v := 2) hM.c dX11_costOf_22 (by decide) ?_
      replace h := bnd_some h
      obtain ⟨r5, g6, e7, h⟩ := h
      refine V_callV (As := [.int x4, .int (2 : Int32)]) (c := 9) (T := TX11) (N := 32) hM.c hM.a mq_X11_of mi_X11_of tw_219 (hM.d (by decide)) hM.z rfl (by omega) (zc_X11_of e7) (vm_X11_of e7) rfl (Nat.le_of_ble_eq_true rfl) dX11_costOf_23 ?_
      refine V_imul hM.c dX11_costOf_26 ?_
      refine V_iadd hM.c dX11_costOf_27 ?_
      refine V_istore_n (i := 3) (L' := [(3, .int (x3 + (r2 * r5))), (0, va_rf (some a)), (1, .long x1), (4, .int x4)]) hM.c dX11_costOf_28 rfl (by decide) rfl ?_
      refine V_iinc (v := (x4 + 1)) (L' := [(4, .int (x4 + 1)), (3, .int (x3 + (r2 * r5))), (0, va_rf (some a)), (1, .long x1)]) hM.c 3 dX11_costOf_29 rfl rfl (by decide) rfl ?_
      refine V_goto hM.c 5 dX11_costOf_32 (by decide) ?_
      refine V_sub [2, 3, 1, 0] rfl ?_
      exact ih _ _ _ _ h
def f_X11_costOf (n : Nat) (Z : Zt) (a : Nat) (x1 : Int64) (g : Mem) : Option (Int32 × Mem) := grd (zk Z a = 10) (f_X11_costOf_l5 n Z a n x1 (0 : Int32) (0 : Int32) g)
theorem mq_X11_costOf : Mq yX11_costOf cX11_costOf 5 (some .int) 1 := ⟨tw_1074, tw_5, ⟨by decide +kernel, by decide +kernel, by decide +kernel⟩, by decide⟩
theorem mi_X11_costOf : Cond.instanceMethod yX11_costOf ∈ TB ∧ Cond.selects yX11_costOf.cls yX11_costOf yX11_costOf ∈ TB := ⟨tw_1072, tw_1073⟩
theorem zc_X11_costOf {n : Nat} {Z : Zt} {a : Nat} {x1 : Int64} {g : Mem} {q : Int32 × Mem} (h : f_X11_costOf n Z a x1 g = some q) : zk Z a = 10 := (grd_some h).1
set_option maxHeartbeats 4000000 in
set_option maxRecDepth 100000 in
theorem vm_X11_costOf {n : Nat} {Z : Zt} {a : Nat} {x1 : Int64} {g : Mem} {rr : Int32} {gg : Mem} (h : f_X11_costOf n Z a x1 g = some (rr, gg)) : VM yX11_costOf cX11_costOf 5 (some .int) 1 [.ref a, .long x1] Z g (some (.int rr)) gg := by
  unfold f_X11_costOf at h
  replace h := grd_some h
  obtain ⟨hz0, h⟩ := h
  refine VM.of (by decide +kernel) (Nat.le_of_ble_eq_true rfl) (fun x hM => ?_)
  have hM : Cm x cX11_costOf RX11 5 (some .int) 1 Z (some (.int rr)) gg := hM
  show V x Z 0 0 0 [(0, va_rf (some a)), (1, .long x1)] [] g
  refine V_iconst (v := 0) hM.c dX11_costOf_0 (by decide) ?_
  refine V_istore_n (i := 3) (L' := [(3, .int (0 : Int32)), (0, va_rf (some a)), (1, .long x1)]) hM.c dX11_costOf_1 rfl (by decide) rfl ?_
  refine V_iconst (v := 0) hM.c dX11_costOf_2 (by decide) ?_
  refine V_istore (L' := [(4, .int (0 : Int32)), (3, .int (0 : Int32)), (0, va_rf (some a)), (1, .long x1)]) hM.c dX11_costOf_3 (by decide) rfl ?_
  refine V_sub [2, 3, 1, 0] rfl ?_
  exact vl_X11_costOf_l5 hM hz0  _ _ _ _ _ h
def f_X11_trustOf_l6 (n : Nat) (Z : Zt) (a : Nat) : Nat → Int64 → Int32 → Int32 → Mem → Option (Int32 × Mem)
  | 0, _, _, _, _ => none
  | fu + 1, x1, x3, x4, g => if (16 : Int32) ≤ x4 then (some (x3, g)) else (bnd (f_X11_exponentOf n Z x1 x4 g) (fun r2 g3 => if r2 ≤ 0 then (f_X11_trustOf_l6 n Z a fu x1 x3 (x4 + 1) g3) else (bnd (f_X11_of n Z a x4 (3 : Int32) g3) (fun r6 g7 => if x3 ≤ r6 then (f_X11_trustOf_l6 n Z a fu x1 x3 (x4 + 1) g7) else (bnd (f_X11_of n Z a x4 (3 : Int32) g7) (fun r10 g11 => f_X11_trustOf_l6 n Z a fu x1 r10 (x4 + 1) g11))))))
set_option maxHeartbeats 4000000 in
set_option maxRecDepth 100000 in
theorem vl_X11_trustOf_l6 {x : Cq} {n : Nat} {Z : Zt} {a : Nat} {rr : Int32} {gg : Mem} (hM : Cm x cX11_trustOf RX11 5 (some .int) 1 Z (some (.int rr)) gg) (hz0 : zk Z a = 10) : ∀ (fu : Nat) (x1 : Int64) (x3 : Int32) (x4 : Int32) (g : Mem), f_X11_trustOf_l6 n Z a fu x1 x3 x4 g = some (rr, gg) → V x Z 0 0 6 [(0, va_rf (some a)), (1, .long x1), (3, .int x3), (4, .int x4)] [] g := by
  intro fu
  induction fu with
  | zero => intro x1 x3 x4 g h; cases h
  | succ fu ih =>
    intro x1 x3 x4 g h
    unfold f_X11_trustOf_l6 at h
    refine V_iload hM.c 3 dX11_trustOf_6 rfl ?_
    refine V_bipush (v := 16) hM.c dX11_trustOf_8 (by decide) ?_
    refine V_icmp_ge hM.c 51 dX11_trustOf_10 (by decide) (fun c1 => ?_) (fun c1 => ?_)
    · replace h := ite_p h c1
      refine V_iload_n hM.c 2 dX11_trustOf_51 rfl rfl ?_
      exact V_iretE hM h dX11_trustOf_52
    · replace h := ite_n h c1
      refine V_lload_n hM.c 1 dX11_trustOf_13 rfl rfl ?_
      refine V_iload hM.c 3 dX11_trustOf_14 rfl ?_
      replace h := bnd_some h
      obtain ⟨r2, g3, e4, h⟩ := h
      refine V_callS (As := [.long x1, .int x4]) hM.c hM.a mq_X11_exponentOf mi_X11_exponentOf tw_662 (hM.d (by decide)) hM.z (vm_X11_exponentOf e4) rfl (Nat.le_of_ble_eq_true rfl) dX11_trustOf_16 ?_
      refine V_if_le hM.c 43 dX11_trustOf_19 (by decide) (fun c5 => ?_) (fun c5 => ?_)
      · replace h := ite_p h c5
        refine V_iload_n hM.c 2 dX11_trustOf_43 rfl rfl ?_
        refine V_istore_n (i := 3) (L' := [(3, .int x3), (0, va_rf (some a)), (1, .long x1), (4, .int x4)]) hM.c dX11_trustOf_44 rfl (by decide) rfl ?_
        refine V_iinc (v := (x4 + 1)) (L' := [(4, .int (x4 + 1)), (3, .int x3), (0, va_rf (some a)), (1, .long x1)]) hM.c 3 dX11_trustOf_45 rfl rfl (by decide) rfl ?_
        refine V_goto hM.c 6 dX11_trustOf_48 (by decide) ?_
        refine V_sub [2, 3, 1, 0] rfl ?_
        exact ih _ _ _ _ h
      · replace h := ite_n h c5
        refine V_aload_n hM.c 0 dX11_trustOf_22 rfl rfl ?_
        refine V_iload hM.c 3 dX11_trustOf_23 rfl ?_
        refine V_iconst (v := 3) hM.c dX11_trustOf_25 (by decide) ?_
        replace h := bnd_some h
        obtain ⟨r6, g7, e8, h⟩ := h
        refine V_callV (As := [.int x4, .int (3 : Int32)]) (c := 9) (T := TX11) (N := 32) hM.c hM.a mq_X11_of mi_X11_of tw_219 (hM.d (by decide)) hM.z rfl (by omega) (zc_X11_of e8) (vm_X11_of e8) rfl (Nat.le_of_ble_eq_true rfl) dX11_trustOf_26 ?_
        refine V_iload_n hM.c 2 dX11_trustOf_29 rfl rfl ?_
        refine V_icmp_ge hM.c 43 dX11_trustOf_30 (by decide) (fun c9 => ?_) (fun c9 => ?_)
        · replace h := ite_p h c9
          refine V_iload_n hM.c 2 dX11_trustOf_43 rfl rfl ?_
          refine V_istore_n (i := 3) (L' := [(3, .int x3), (0, va_rf (some a)), (1, .long x1), (4, .int x4)]) hM.c dX11_trustOf_44 rfl (by decide) rfl ?_
          refine V_iinc (v := (x4 + 1)) (L' := [(4, .int (x4 + 1)), (3, .int x3), (0, va_rf (some a)), (1, .long x1)]) hM.c 3 dX11_trustOf_45 rfl rfl (by decide) rfl ?_
          refine V_goto hM.c 6 dX11_trustOf_48 (by decide) ?_
          refine V_sub [2, 3, 1, 0] rfl ?_
          exact ih _ _ _ _ h
        · replace h := ite_n h c9
          refine V_aload_n hM.c 0 dX11_trustOf_33 rfl rfl ?_
          refine V_iload hM.c 3 dX11_trustOf_34 rfl ?_
          refine V_iconst (v := 3) hM.c dX11_trustOf_36 (by decide) ?_
          replace h := bnd_some h
          obtain ⟨r10, g11, e12, h⟩ := h
          refine V_callV (As := [.int x4, .int (3 : Int32)]) (c := 9) (T := TX11) (N := 32) hM.c hM.a mq_X11_of mi_X11_of tw_219 (hM.d (by decide)) hM.z rfl (by omega) (zc_X11_of e12) (vm_X11_of e12) rfl (Nat.le_of_ble_eq_true rfl) dX11_trustOf_37 ?_
          refine V_goto hM.c 44 dX11_trustOf_40 (by decide) ?_
          refine V_istore_n (i := 3) (L' := [(3, .int r10), (0, va_rf (some a)), (1, .long x1), (4, .int x4)]) hM.c dX11_trustOf_44 rfl (by decide) rfl ?_
          refine V_iinc (v := (x4 + 1)) (L' := [(4, .int (x4 + 1)), (3, .int r10), (0, va_rf (some a)), (1, .long x1)]) hM.c 3 dX11_trustOf_45 rfl rfl (by decide) rfl ?_
          refine V_goto hM.c 6 dX11_trustOf_48 (by decide) ?_
          refine V_sub [2, 3, 1, 0] rfl ?_
          exact ih _ _ _ _ h
def f_X11_trustOf (n : Nat) (Z : Zt) (a : Nat) (x1 : Int64) (g : Mem) : Option (Int32 × Mem) := grd (zk Z a = 10) (f_X11_trustOf_l6 n Z a n x1 (100 : Int32) (0 : Int32) g)
theorem mq_X11_trustOf : Mq yX11_trustOf cX11_trustOf 5 (some .int) 1 := ⟨tw_1104, tw_5, ⟨by decide +kernel, by decide +kernel, by decide +kernel⟩, by decide⟩
theorem mi_X11_trustOf : Cond.instanceMethod yX11_trustOf ∈ TB ∧ Cond.selects yX11_trustOf.cls yX11_trustOf yX11_trustOf ∈ TB := ⟨tw_1102, tw_1103⟩
theorem zc_X11_trustOf {n : Nat} {Z : Zt} {a : Nat} {x1 : Int64} {g : Mem} {q : Int32 × Mem} (h : f_X11_trustOf n Z a x1 g = some q) : zk Z a = 10 := (grd_some h).1
set_option maxHeartbeats 4000000 in
set_option maxRecDepth 100000 in
theorem vm_X11_trustOf {n : Nat} {Z : Zt} {a : Nat} {x1 : Int64} {g : Mem} {rr : Int32} {gg : Mem} (h : f_X11_trustOf n Z a x1 g = some (rr, gg)) : VM yX11_trustOf cX11_trustOf 5 (some .int) 1 [.ref a, .long x1] Z g (some (.int rr)) gg := by
  unfold f_X11_trustOf at h
  replace h := grd_some h
  obtain ⟨hz0, h⟩ := h
  refine VM.of (by decide +kernel) (Nat.le_of_ble_eq_true rfl) (fun x hM => ?_)
  have hM : Cm x cX11_trustOf RX11 5 (some .int) 1 Z (some (.int rr)) gg := hM
  show V x Z 0 0 0 [(0, va_rf (some a)), (1, .long x1)] [] g
  refine V_bipush (v := 100) hM.c dX11_trustOf_0 (by decide) ?_
  refine V_istore_n (i := 3) (L' := [(3, .int (100 : Int32)), (0, va_rf (some a)), (1, .long x1)]) hM.c dX11_trustOf_2 rfl (by decide) rfl ?_
  refine V_iconst (v := 0) hM.c dX11_trustOf_3 (by decide) ?_
  refine V_istore (L' := [(4, .int (0 : Int32)), (3, .int (100 : Int32)), (0, va_rf (some a)), (1, .long x1)]) hM.c dX11_trustOf_4 (by decide) rfl ?_
  refine V_sub [2, 3, 1, 0] rfl ?_
  exact vl_X11_trustOf_l6 hM hz0  _ _ _ _ _ h
def f_X11_confidenceOf_l15 (n : Nat) (Z : Zt) (κ5 : Int64 → UInt32 → Int32 → Mem → Option (UInt32 × Mem)) (a : Nat) : Nat → Int64 → UInt32 → Int32 → Int32 → Mem → Option (UInt32 × Mem)
  | 0, _, _, _, _, _ => none
  | fu + 1, x1, x3, x4, x5, g => bnd (f_X11_exponentOf n Z x1 x4 g) (fun r2 g3 => if r2 ≤ x5 then (κ5 x1 x3 (x4 + 1) g3) else (bnd (f_X11_of n Z a x4 (3 : Int32) g3) (fun r6 g7 => grd (nn32 (FP.fdiv (FP.i2f r6) (1120403456 : UInt32))) (grd (nn32 (FP.fmul x3 (FP.fdiv (FP.i2f r6) (1120403456 : UInt32)))) (f_X11_confidenceOf_l15 n Z κ5 a fu x1 (FP.fmul x3 (FP.fdiv (FP.i2f r6) (1120403456 : UInt32))) x4 (x5 + 1) g7)))))
set_option maxHeartbeats 4000000 in
set_option maxRecDepth 100000 in
theorem vl_X11_confidenceOf_l15 {x : Cq} {n : Nat} {Z : Zt} {κ5 : Int64 → UInt32 → Int32 → Mem → Option (UInt32 × Mem)} {a : Nat} {rr : UInt32} {gg : Mem} (hM : Cm x cX11_confidenceOf RX11 6 (some .float) 1 Z (some (.float rr)) gg) (hz0 : zk Z a = 10) (hκ5 : ∀ (y1 : Int64) (y3 : UInt32) (y4 : Int32) (y : Mem), κ5 y1 y3 y4 y = some (rr, gg) → V x Z 0 0 5 [(0, va_rf (some a)), (1, .long y1), (3, .float y3), (4, .int y4)] [] y) : ∀ (fu : Nat) (x1 : Int64) (x3 : UInt32) (x4 : Int32) (x5 : Int32) (g : Mem), f_X11_confidenceOf_l15 n Z κ5 a fu x1 x3 x4 x5 g = some (rr, gg) → V x Z 0 0 15 [(0, va_rf (some a)), (1, .long x1), (3, .float x3), (4, .int x4), (5, .int x5)] [] g := by
  intro fu
  induction fu with
  | zero => intro x1 x3 x4 x5 g h; cases h
  | succ fu ih =>
    intro x1 x3 x4 x5 g h
    unfold f_X11_confidenceOf_l15 at h
    refine V_iload hM.c 4 dX11_confidenceOf_15 rfl ?_
    refine V_lload_n hM.c 1 dX11_confidenceOf_17 rfl rfl ?_
    refine V_iload hM.c 3 dX11_confidenceOf_18 rfl ?_
    replace h := bnd_some h
    obtain ⟨r2, g3, e4, h⟩ := h
    refine V_callS (As := [.long x1, .int x4]) hM.c hM.a mq_X11_exponentOf mi_X11_exponentOf tw_662 (hM.d (by decide)) hM.z (vm_X11_exponentOf e4) rfl (Nat.le_of_ble_eq_true rfl) dX11_confidenceOf_20 ?_
    refine V_icmp_ge hM.c 47 dX11_confidenceOf_23 (by decide) (fun c5 => ?_) (fun c5 => ?_)
    · replace h := ite_p h c5
      refine V_iinc (v := (x4 + 1)) (L' := [(4, .int (x4 + 1)), (0, va_rf (some a)), (1, .long x1), (3, .float x3), (5, .int x5)]) hM.c 3 dX11_confidenceOf_47 rfl rfl (by decide) rfl ?_
      refine V_goto hM.c 5 dX11_confidenceOf_50 (by decide) ?_
      refine V_sub [1, 2, 3, 0] rfl ?_
      exact hκ5 _ _ _ _ h
    · replace h := ite_n h c5
      refine V_fload_n hM.c 2 dX11_confidenceOf_26 rfl rfl ?_
      refine V_aload_n hM.c 0 dX11_confidenceOf_27 rfl rfl ?_
      refine V_iload hM.c 3 dX11_confidenceOf_28 rfl ?_
      refine V_iconst (v := 3) hM.c dX11_confidenceOf_30 (by decide) ?_
      replace h := bnd_some h
      obtain ⟨r6, g7, e8, h⟩ := h
      refine V_callV (As := [.int x4, .int (3 : Int32)]) (c := 9) (T := TX11) (N := 32) hM.c hM.a mq_X11_of mi_X11_of tw_219 (hM.d (by decide)) hM.z rfl (by omega) (zc_X11_of e8) (vm_X11_of e8) rfl (Nat.le_of_ble_eq_true rfl) dX11_confidenceOf_31 ?_
      refine V_i2f hM.c dX11_confidenceOf_34 ?_
      refine V_ldcwf (v := 1120403456) hM.c tw_1124 dX11_confidenceOf_35 ?_
      replace h := grd_some h
      obtain ⟨c9, h⟩ := h
      refine V_fdiv hM.c c9 dX11_confidenceOf_38 ?_
      replace h := grd_some h
      obtain ⟨c10, h⟩ := h
      refine V_fmul hM.c c10 dX11_confidenceOf_39 ?_
      refine V_fstore_n (i := 3) (L' := [(3, .float (FP.fmul x3 (FP.fdiv (FP.i2f r6) (1120403456 : UInt32)))), (0, va_rf (some a)), (1, .long x1), (4, .int x4), (5, .int x5)]) hM.c dX11_confidenceOf_40 rfl (by decide) rfl ?_
      refine V_iinc (v := (x5 + 1)) (L' := [(5, .int (x5 + 1)), (3, .float (FP.fmul x3 (FP.fdiv (FP.i2f r6) (1120403456 : UInt32)))), (0, va_rf (some a)), (1, .long x1), (4, .int x4)]) hM.c 4 dX11_confidenceOf_41 rfl rfl (by decide) rfl ?_
      refine V_goto hM.c 15 dX11_confidenceOf_44 (by decide) ?_
      refine V_sub [2, 3, 1, 4, 0] rfl ?_
      exact ih _ _ _ _ _ h
def f_X11_confidenceOf_l5 (n : Nat) (Z : Zt) (a : Nat) : Nat → Int64 → UInt32 → Int32 → Mem → Option (UInt32 × Mem)
  | 0, _, _, _, _ => none
  | fu + 1, x1, x3, x4, g => if (16 : Int32) ≤ x4 then (some (x3, g)) else (f_X11_confidenceOf_l15 n Z (fun y0 y1 y2 y => f_X11_confidenceOf_l5 n Z a fu y0 y1 y2 y) a n x1 x3 x4 (0 : Int32) g)
set_option maxHeartbeats 4000000 in
set_option maxRecDepth 100000 in
theorem vl_X11_confidenceOf_l5 {x : Cq} {n : Nat} {Z : Zt} {a : Nat} {rr : UInt32} {gg : Mem} (hM : Cm x cX11_confidenceOf RX11 6 (some .float) 1 Z (some (.float rr)) gg) (hz0 : zk Z a = 10) : ∀ (fu : Nat) (x1 : Int64) (x3 : UInt32) (x4 : Int32) (g : Mem), f_X11_confidenceOf_l5 n Z a fu x1 x3 x4 g = some (rr, gg) → V x Z 0 0 5 [(0, va_rf (some a)), (1, .long x1), (3, .float x3), (4, .int x4)] [] g := by
  intro fu
  induction fu with
  | zero => intro x1 x3 x4 g h; cases h
  | succ fu ih =>
    intro x1 x3 x4 g h
    unfold f_X11_confidenceOf_l5 at h
    refine V_iload hM.c 3 dX11_confidenceOf_5 rfl ?_
    refine V_bipush (v := 16) hM.c dX11_confidenceOf_7 (by decide) ?_
    refine V_icmp_ge hM.c 53 dX11_confidenceOf_9 (by decide) (fun c1 => ?_) (fun c1 => ?_)
    · replace h := ite_p h c1
      refine V_fload_n hM.c 2 dX11_confidenceOf_53 rfl rfl ?_
      exact V_fretE hM h dX11_confidenceOf_54
    · replace h := ite_n h c1
      refine V_iconst (v := 0) hM.c dX11_confidenceOf_12 (by decide) ?_
      refine V_istore (L' := [(5, .int (0 : Int32)), (0, va_rf (some a)), (1, .long x1), (3, .float x3), (4, .int x4)]) hM.c dX11_confidenceOf_13 (by decide) rfl ?_
      refine V_sub [1, 2, 3, 4, 0] rfl ?_
      exact vl_X11_confidenceOf_l15 hM hz0 ih _ _ _ _ _ _ h
def f_X11_confidenceOf (n : Nat) (Z : Zt) (a : Nat) (x1 : Int64) (g : Mem) : Option (UInt32 × Mem) := grd (zk Z a = 10) (f_X11_confidenceOf_l5 n Z a n x1 FP.fconst1 (0 : Int32) g)
theorem mq_X11_confidenceOf : Mq yX11_confidenceOf cX11_confidenceOf 6 (some .float) 1 := ⟨tw_1123, tw_5, ⟨by decide +kernel, by decide +kernel, by decide +kernel⟩, by decide⟩
theorem mi_X11_confidenceOf : Cond.instanceMethod yX11_confidenceOf ∈ TB ∧ Cond.selects yX11_confidenceOf.cls yX11_confidenceOf yX11_confidenceOf ∈ TB := ⟨tw_1121, tw_1122⟩
theorem zc_X11_confidenceOf {n : Nat} {Z : Zt} {a : Nat} {x1 : Int64} {g : Mem} {q : UInt32 × Mem} (h : f_X11_confidenceOf n Z a x1 g = some q) : zk Z a = 10 := (grd_some h).1
set_option maxHeartbeats 4000000 in
set_option maxRecDepth 100000 in
theorem vm_X11_confidenceOf {n : Nat} {Z : Zt} {a : Nat} {x1 : Int64} {g : Mem} {rr : UInt32} {gg : Mem} (h : f_X11_confidenceOf n Z a x1 g = some (rr, gg)) : VM yX11_confidenceOf cX11_confidenceOf 6 (some .float) 1 [.ref a, .long x1] Z g (some (.float rr)) gg := by
  unfold f_X11_confidenceOf at h
  replace h := grd_some h
  obtain ⟨hz0, h⟩ := h
  refine VM.of (by decide +kernel) (Nat.le_of_ble_eq_true rfl) (fun x hM => ?_)
  have hM : Cm x cX11_confidenceOf RX11 6 (some .float) 1 Z (some (.float rr)) gg := hM
  show V x Z 0 0 0 [(0, va_rf (some a)), (1, .long x1)] [] g
  refine V_fconst1 hM.c dX11_confidenceOf_0 ?_
  refine V_fstore_n (i := 3) (L' := [(3, .float FP.fconst1), (0, va_rf (some a)), (1, .long x1)]) hM.c dX11_confidenceOf_1 rfl (by decide) rfl ?_
  refine V_iconst (v := 0) hM.c dX11_confidenceOf_2 (by decide) ?_
  refine V_istore (L' := [(4, .int (0 : Int32)), (3, .float FP.fconst1), (0, va_rf (some a)), (1, .long x1)]) hM.c dX11_confidenceOf_3 (by decide) rfl ?_
  refine V_sub [2, 3, 1, 0] rfl ?_
  exact vl_X11_confidenceOf_l5 hM hz0  _ _ _ _ _ h
def f_X11_cheapest_l82 (n : Nat) (Z : Zt) (κ8 : Int32 → Int32 → Int32 → Int32 → Mem → Option (Int32 × Mem)) (a : Nat) (x1 : Int32) (x3 : Int32) (x4 : Int32) (x5 : Int32) (x6 : Int32) (s0 : Int32) (g : Mem) : Option (Int32 × Mem) := if x6 = 0 then (κ8 x1 s0 x3 (x4 + 1) g) else (κ8 x1 s0 x5 (x4 + 1) g)
set_option maxHeartbeats 4000000 in
set_option maxRecDepth 100000 in
theorem vl_X11_cheapest_l82 {x : Cq} {n : Nat} {Z : Zt} {κ8 : Int32 → Int32 → Int32 → Int32 → Mem → Option (Int32 × Mem)} {a : Nat} {x1 : Int32} {x3 : Int32} {x4 : Int32} {x5 : Int32} {x6 : Int32} {s0 : Int32} {g : Mem} {rr : Int32} {gg : Mem} (hM : Cm x cX11_cheapest RX11 7 (some .int) 3 Z (some (.int rr)) gg) (hz0 : zk Z a = 10) (hκ8 : ∀ (y1 : Int32) (y2 : Int32) (y3 : Int32) (y4 : Int32) (y : Mem), κ8 y1 y2 y3 y4 y = some (rr, gg) → V x Z 0 0 8 [(0, va_rf (some a)), (1, .int y1), (2, .int y2), (3, .int y3), (4, .int y4)] [] y) (h : f_X11_cheapest_l82 n Z κ8 a x1 x3 x4 x5 x6 s0 g = some (rr, gg)) : V x Z 0 0 82 [(0, va_rf (some a)), (1, .int x1), (3, .int x3), (4, .int x4), (5, .int x5), (6, .int x6)] [.int s0] g := by
  unfold f_X11_cheapest_l82 at h
  refine V_istore_n (i := 2) (L' := [(2, .int s0), (0, va_rf (some a)), (1, .int x1), (3, .int x3), (4, .int x4), (5, .int x5), (6, .int x6)]) hM.c dX11_cheapest_82 rfl (by decide) rfl ?_
  refine V_iload hM.c 6 dX11_cheapest_83 rfl ?_
  refine V_if_eq hM.c 93 dX11_cheapest_85 (by decide) (fun c23 => ?_) (fun c23 => ?_)
  · replace h := ite_p h c23
    refine V_iload_n hM.c 3 dX11_cheapest_93 rfl rfl ?_
    refine V_istore_n (i := 3) (L' := [(3, .int x3), (2, .int s0), (0, va_rf (some a)), (1, .int x1), (4, .int x4), (5, .int x5), (6, .int x6)]) hM.c dX11_cheapest_94 rfl (by decide) rfl ?_
    refine V_iinc (v := (x4 + 1)) (L' := [(4, .int (x4 + 1)), (3, .int x3), (2, .int s0), (0, va_rf (some a)), (1, .int x1), (5, .int x5), (6, .int x6)]) hM.c 4 dX11_cheapest_95 rfl rfl (by decide) rfl ?_
    refine V_goto hM.c 8 dX11_cheapest_98 (by decide) ?_
    refine V_sub [3, 4, 2, 1, 0] rfl ?_
    exact hκ8 _ _ _ _ _ h
  · replace h := ite_n h c23
    refine V_iload hM.c 5 dX11_cheapest_88 rfl ?_
    refine V_goto hM.c 94 dX11_cheapest_90 (by decide) ?_
    refine V_istore_n (i := 3) (L' := [(3, .int x5), (2, .int s0), (0, va_rf (some a)), (1, .int x1), (4, .int x4), (5, .int x5), (6, .int x6)]) hM.c dX11_cheapest_94 rfl (by decide) rfl ?_
    refine V_iinc (v := (x4 + 1)) (L' := [(4, .int (x4 + 1)), (3, .int x5), (2, .int s0), (0, va_rf (some a)), (1, .int x1), (5, .int x5), (6, .int x6)]) hM.c 4 dX11_cheapest_95 rfl rfl (by decide) rfl ?_
    refine V_goto hM.c 8 dX11_cheapest_98 (by decide) ?_
    refine V_sub [3, 4, 2, 1, 0] rfl ?_
    exact hκ8 _ _ _ _ _ h
def f_X11_cheapest_l69 (n : Nat) (Z : Zt) (κ8 : Int32 → Int32 → Int32 → Int32 → Mem → Option (Int32 × Mem)) (a : Nat) (x1 : Int32) (x2 : Int32) (x3 : Int32) (x4 : Int32) (x5 : Int32) (s0 : Int32) (g : Mem) : Option (Int32 × Mem) := if s0 = 0 then (f_X11_cheapest_l82 n Z κ8 a x1 x3 x4 x5 s0 x2 g) else (f_X11_cheapest_l82 n Z κ8 a x1 x3 x4 x5 s0 x4 g)
set_option maxHeartbeats 4000000 in
set_option maxRecDepth 100000 in
theorem vl_X11_cheapest_l69 {x : Cq} {n : Nat} {Z : Zt} {κ8 : Int32 → Int32 → Int32 → Int32 → Mem → Option (Int32 × Mem)} {a : Nat} {x1 : Int32} {x2 : Int32} {x3 : Int32} {x4 : Int32} {x5 : Int32} {s0 : Int32} {g : Mem} {rr : Int32} {gg : Mem} (hM : Cm x cX11_cheapest RX11 7 (some .int) 3 Z (some (.int rr)) gg) (hz0 : zk Z a = 10) (hκ8 : ∀ (y1 : Int32) (y2 : Int32) (y3 : Int32) (y4 : Int32) (y : Mem), κ8 y1 y2 y3 y4 y = some (rr, gg) → V x Z 0 0 8 [(0, va_rf (some a)), (1, .int y1), (2, .int y2), (3, .int y3), (4, .int y4)] [] y) (h : f_X11_cheapest_l69 n Z κ8 a x1 x2 x3 x4 x5 s0 g = some (rr, gg)) : V x Z 0 0 69 [(0, va_rf (some a)), (1, .int x1), (2, .int x2), (3, .int x3), (4, .int x4), (5, .int x5)] [.int s0] g := by
  unfold f_X11_cheapest_l69 at h
  refine V_istore (L' := [(6, .int s0), (0, va_rf (some a)), (1, .int x1), (2, .int x2), (3, .int x3), (4, .int x4), (5, .int x5)]) hM.c dX11_cheapest_69 (by decide) rfl ?_
  refine V_iload hM.c 0 dX11_cheapest_71 rfl ?_
  refine V_if_eq hM.c 81 dX11_cheapest_73 (by decide) (fun c22 => ?_) (fun c22 => ?_)
  · replace h := ite_p h c22
    refine V_iload_n hM.c 3 dX11_cheapest_81 rfl rfl ?_
    refine V_sub [1, 2, 4, 5, 6, 0] rfl ?_
    exact vl_X11_cheapest_l82 hM hz0 hκ8 h
  · replace h := ite_n h c22
    refine V_iload hM.c 5 dX11_cheapest_76 rfl ?_
    refine V_goto hM.c 82 dX11_cheapest_78 (by decide) ?_
    refine V_sub [1, 2, 4, 5, 6, 0] rfl ?_
    exact vl_X11_cheapest_l82 hM hz0 hκ8 h
def f_X11_cheapest_l68 (n : Nat) (Z : Zt) (κ8 : Int32 → Int32 → Int32 → Int32 → Mem → Option (Int32 × Mem)) (a : Nat) (x1 : Int32) (x2 : Int32) (x3 : Int32) (x4 : Int32) (x5 : Int32) (g : Mem) : Option (Int32 × Mem) := f_X11_cheapest_l69 n Z κ8 a x1 x2 x3 x4 x5 (0 : Int32) g
set_option maxHeartbeats 4000000 in
set_option maxRecDepth 100000 in
theorem vl_X11_cheapest_l68 {x : Cq} {n : Nat} {Z : Zt} {κ8 : Int32 → Int32 → Int32 → Int32 → Mem → Option (Int32 × Mem)} {a : Nat} {x1 : Int32} {x2 : Int32} {x3 : Int32} {x4 : Int32} {x5 : Int32} {g : Mem} {rr : Int32} {gg : Mem} (hM : Cm x cX11_cheapest RX11 7 (some .int) 3 Z (some (.int rr)) gg) (hz0 : zk Z a = 10) (hκ8 : ∀ (y1 : Int32) (y2 : Int32) (y3 : Int32) (y4 : Int32) (y : Mem), κ8 y1 y2 y3 y4 y = some (rr, gg) → V x Z 0 0 8 [(0, va_rf (some a)), (1, .int y1), (2, .int y2), (3, .int y3), (4, .int y4)] [] y) (h : f_X11_cheapest_l68 n Z κ8 a x1 x2 x3 x4 x5 g = some (rr, gg)) : V x Z 0 0 68 [(0, va_rf (some a)), (1, .int x1), (2, .int x2), (3, .int x3), (4, .int x4), (5, .int x5)] [] g := by
  unfold f_X11_cheapest_l68 at h
  refine V_iconst (v := 0) hM.c dX11_cheapest_68 (by decide) ?_
  refine V_sub [0, 1, 2, 3, 4, 5] rfl ?_
  exact vl_X11_cheapest_l69 hM hz0 hκ8 h
def f_X11_cheapest_l8 (n : Nat) (Z : Zt) (a : Nat) : Nat → Int32 → Int32 → Int32 → Int32 → Mem → Option (Int32 × Mem)
  | 0, _, _, _, _, _ => none
  | fu + 1, x1, x2, x3, x4, g => drf (zf Z a 21) (fun b1 => grd (zk Z b1 = 12) (grd (inr x1 (zl Z b1)) (if (gI g b1 x1.toNatClampNeg) ≤ x4 then (some (x2, g)) else (drf (zf Z a 22) (fun b6 => grd (zk Z b6 = 13) (grd (inr (((32 : Int32) * x1) + x4) (zl Z b6)) (bnd (f_X11_costOf n Z a (gJ g b6 (((32 : Int32) * x1) + x4).toNatClampNeg) g) (fun r10 g11 => bnd (f_X11_mask n Z a (1 : Int32) g11) (fun r13 g14 => bnd (f_X11_isAvailable n Z a x1 x4 r13 g14) (fun r16 g17 => if r16 = 0 then (f_X11_cheapest_l68 n Z (fun y0 y1 y2 y3 y => f_X11_cheapest_l8 n Z a fu y0 y1 y2 y3 y) a x1 x2 x3 x4 r10 g17) else (if x2 = (-6 : Int32) then (f_X11_cheapest_l69 n Z (fun y0 y1 y2 y3 y => f_X11_cheapest_l8 n Z a fu y0 y1 y2 y3 y) a x1 x2 x3 x4 r10 (1 : Int32) g17) else (if x3 ≤ r10 then (f_X11_cheapest_l68 n Z (fun y0 y1 y2 y3 y => f_X11_cheapest_l8 n Z a fu y0 y1 y2 y3 y) a x1 x2 x3 x4 r10 g17) else (f_X11_cheapest_l69 n Z (fun y0 y1 y2 y3 y => f_X11_cheapest_l8 n Z a fu y0 y1 y2 y3 y) a x1 x2 x3 x4 r10 (1 : Int32) g17)))))))))))))
set_option maxHeartbeats 4000000 in
set_option maxRecDepth 100000 in
theorem vl_X11_cheapest_l8 {x : Cq} {n : Nat} {Z : Zt} {a : Nat} {rr : Int32} {gg : Mem} (hM : Cm x cX11_cheapest RX11 7 (some .int) 3 Z (some (.int rr)) gg) (hz0 : zk Z a = 10) : ∀ (fu : Nat) (x1 : Int32) (x2 : Int32) (x3 : Int32) (x4 : Int32) (g : Mem), f_X11_cheapest_l8 n Z a fu x1 x2 x3 x4 g = some (rr, gg) → V x Z 0 0 8 [(0, va_rf (some a)), (1, .int x1), (2, .int x2), (3, .int x3), (4, .int x4)] [] g := by
  intro fu
  induction fu with
  | zero => intro x1 x2 x3 x4 g h; cases h
  | succ fu ih =>
    intro x1 x2 x3 x4 g h
    unfold f_X11_cheapest_l8 at h
    refine V_iload hM.c 4 dX11_cheapest_8 rfl ?_
    refine V_aload_n hM.c 0 dX11_cheapest_10 rfl rfl ?_
    replace h := drf_some h
    obtain ⟨b1, e2, h⟩ := h
    refine G9_21 hM.c tw_128 hz0 e2 dX11_cheapest_11 ?_
    refine V_iload_n hM.c 1 dX11_cheapest_14 rfl rfl ?_
    replace h := grd_some h
    obtain ⟨z3, h⟩ := h
    replace h := grd_some h
    obtain ⟨c4, h⟩ := h
    refine V_iald hM.c z3 c4 dX11_cheapest_15 ?_
    refine V_icmp_ge hM.c 101 dX11_cheapest_16 (by decide) (fun c5 => ?_) (fun c5 => ?_)
    · replace h := ite_p h c5
      refine V_iload_n hM.c 2 dX11_cheapest_101 rfl rfl ?_
      exact V_iretE hM h dX11_cheapest_102
    · replace h := ite_n h c5
      refine V_aload_n hM.c 0 dX11_cheapest_19 rfl rfl ?_
      refine V_aload_n hM.c 0 dX11_cheapest_20 rfl rfl ?_
      replace h := drf_some h
      obtain ⟨b6, e7, h⟩ := h
      refine G9_22 hM.c tw_129 hz0 e7 dX11_cheapest_21 ?_
      refine V_bipush (v := 32) hM.c dX11_cheapest_24 (by decide) ?_
      refine V_iload_n hM.c 1 dX11_cheapest_26 rfl rfl ?_
      refine V_imul hM.c dX11_cheapest_27 ?_
      refine V_iload hM.c 4 dX11_cheapest_28 rfl ?_
      refine V_iadd hM.c dX11_cheapest_30 ?_
      replace h := grd_some h
      obtain ⟨z8, h⟩ := h
      replace h := grd_some h
      obtain ⟨c9, h⟩ := h
      refine V_lald hM.c z8 c9 dX11_cheapest_31 ?_
      replace h := bnd_some h
      obtain ⟨r10, g11, e12, h⟩ := h
      refine V_callV (As := [.long (gJ g b6 (((32 : Int32) * x1) + x4).toNatClampNeg)]) (c := 9) (T := TX11) (N := 32) hM.c hM.a mq_X11_costOf mi_X11_costOf tw_1071 (hM.d (by decide)) hM.z rfl (by omega) (zc_X11_costOf e12) (vm_X11_costOf e12) rfl (Nat.le_of_ble_eq_true rfl) dX11_cheapest_32 ?_
      refine V_istore (L' := [(5, .int r10), (0, va_rf (some a)), (1, .int x1), (2, .int x2), (3, .int x3), (4, .int x4)]) hM.c dX11_cheapest_35 (by decide) rfl ?_
      refine V_aload_n hM.c 1 dX11_cheapest_37 rfl rfl ?_
      refine V_iload_n hM.c 2 dX11_cheapest_38 rfl rfl ?_
      refine V_iload hM.c 5 dX11_cheapest_39 rfl ?_
      refine V_aload_n hM.c 1 dX11_cheapest_41 rfl rfl ?_
      refine V_iconst (v := 1) hM.c dX11_cheapest_42 (by decide) ?_
      replace h := bnd_some h
      obtain ⟨r13, g14, e15, h⟩ := h
      refine V_callV (As := [.int (1 : Int32)]) (c := 9) (T := TX11) (N := 32) hM.c hM.a mq_X11_mask mi_X11_mask tw_559 (hM.d (by decide)) hM.z rfl (by omega) (zc_X11_mask e15) (vm_X11_mask e15) rfl (Nat.le_of_ble_eq_true rfl) dX11_cheapest_43 ?_
      replace h := bnd_some h
      obtain ⟨r16, g17, e18, h⟩ := h
      refine V_callV (As := [.int x1, .int x4, .int r13]) (c := 9) (T := TX11) (N := 32) hM.c hM.a mq_X11_isAvailable mi_X11_isAvailable tw_655 (hM.d (by decide)) hM.z rfl (by omega) (zc_X11_isAvailable e18) (vm_X11_isAvailable e18) rfl (Nat.le_of_ble_eq_true rfl) dX11_cheapest_46 ?_
      refine V_if_eq hM.c 68 dX11_cheapest_49 (by decide) (fun c19 => ?_) (fun c19 => ?_)
      · replace h := ite_p h c19
        refine V_sub [1, 2, 3, 4, 5, 0] rfl ?_
        exact vl_X11_cheapest_l68 hM hz0 ih h
      · replace h := ite_n h c19
        refine V_iload_n hM.c 3 dX11_cheapest_52 rfl rfl ?_
        refine V_bipush (v := -6) hM.c dX11_cheapest_53 (by decide) ?_
        refine V_icmp_eq hM.c 64 dX11_cheapest_55 (by decide) (fun c20 => ?_) (fun c20 => ?_)
        · replace h := ite_p h c20
          refine V_iconst (v := 1) hM.c dX11_cheapest_64 (by decide) ?_
          refine V_goto hM.c 69 dX11_cheapest_65 (by decide) ?_
          refine V_sub [1, 2, 3, 4, 5, 0] rfl ?_
          exact vl_X11_cheapest_l69 hM hz0 ih h
        · replace h := ite_n h c20
          refine V_iload hM.c 0 dX11_cheapest_58 rfl ?_
          refine V_iload_n hM.c 4 dX11_cheapest_60 rfl rfl ?_
          refine V_icmp_ge hM.c 68 dX11_cheapest_61 (by decide) (fun c21 => ?_) (fun c21 => ?_)
          · replace h := ite_p h c21
            refine V_sub [1, 2, 3, 4, 5, 0] rfl ?_
            exact vl_X11_cheapest_l68 hM hz0 ih h
          · replace h := ite_n h c21
            refine V_iconst (v := 1) hM.c dX11_cheapest_64 (by decide) ?_
            refine V_goto hM.c 69 dX11_cheapest_65 (by decide) ?_
            refine V_sub [1, 2, 3, 4, 5, 0] rfl ?_
            exact vl_X11_cheapest_l69 hM hz0 ih h
def f_X11_cheapest (n : Nat) (Z : Zt) (a : Nat) (x1 : Int32) (g : Mem) : Option (Int32 × Mem) := grd (zk Z a = 10) (f_X11_cheapest_l8 n Z a n x1 (-6 : Int32) (0 : Int32) (0 : Int32) g)
theorem mq_X11_cheapest : Mq yX11_cheapest cX11_cheapest 7 (some .int) 1 := ⟨tw_1070, tw_5, ⟨by decide +kernel, by decide +kernel, by decide +kernel⟩, by decide⟩
theorem mi_X11_cheapest : Cond.instanceMethod yX11_cheapest ∈ TB ∧ Cond.selects yX11_cheapest.cls yX11_cheapest yX11_cheapest ∈ TB := ⟨tw_1068, tw_1069⟩
theorem zc_X11_cheapest {n : Nat} {Z : Zt} {a : Nat} {x1 : Int32} {g : Mem} {q : Int32 × Mem} (h : f_X11_cheapest n Z a x1 g = some q) : zk Z a = 10 := (grd_some h).1
set_option maxHeartbeats 4000000 in
set_option maxRecDepth 100000 in
theorem vm_X11_cheapest {n : Nat} {Z : Zt} {a : Nat} {x1 : Int32} {g : Mem} {rr : Int32} {gg : Mem} (h : f_X11_cheapest n Z a x1 g = some (rr, gg)) : VM yX11_cheapest cX11_cheapest 7 (some .int) 3 [.ref a, .int x1] Z g (some (.int rr)) gg := by
  unfold f_X11_cheapest at h
  replace h := grd_some h
  obtain ⟨hz0, h⟩ := h
  refine VM.of (by decide +kernel) (Nat.le_of_ble_eq_true rfl) (fun x hM => ?_)
  have hM : Cm x cX11_cheapest RX11 7 (some .int) 3 Z (some (.int rr)) gg := hM
  show V x Z 0 0 0 [(0, va_rf (some a)), (1, .int x1)] [] g
  refine V_bipush (v := -6) hM.c dX11_cheapest_0 (by decide) ?_
  refine V_istore_n (i := 2) (L' := [(2, .int (-6 : Int32)), (0, va_rf (some a)), (1, .int x1)]) hM.c dX11_cheapest_2 rfl (by decide) rfl ?_
  refine V_iconst (v := 0) hM.c dX11_cheapest_3 (by decide) ?_
  refine V_istore_n (i := 3) (L' := [(3, .int (0 : Int32)), (2, .int (-6 : Int32)), (0, va_rf (some a)), (1, .int x1)]) hM.c dX11_cheapest_4 rfl (by decide) rfl ?_
  refine V_iconst (v := 0) hM.c dX11_cheapest_5 (by decide) ?_
  refine V_istore (L' := [(4, .int (0 : Int32)), (3, .int (0 : Int32)), (2, .int (-6 : Int32)), (0, va_rf (some a)), (1, .int x1)]) hM.c dX11_cheapest_6 (by decide) rfl ?_
  refine V_sub [3, 4, 2, 1, 0] rfl ?_
  exact vl_X11_cheapest_l8 hM hz0  _ _ _ _ _ _ h
def f_X11_leastCost (n : Nat) (Z : Zt) (a : Nat) (x1 : Int32) (g : Mem) : Option (Int32 × Mem) := grd (zk Z a = 10) (bnd (f_X11_isRow n Z a x1 g) (fun r1 g2 => if r1 = 0 then (some ((-1 : Int32), g2)) else (bnd (f_X11_cheapest n Z a x1 g2) (fun r5 g6 => if r5 = (-6 : Int32) then (some ((-6 : Int32), g6)) else (drf (zf Z a 22) (fun b9 => grd (zk Z b9 = 13) (grd (inr (((32 : Int32) * x1) + r5) (zl Z b9)) (bnd (f_X11_costOf n Z a (gJ g6 b9 (((32 : Int32) * x1) + r5).toNatClampNeg) g6) (fun r13 g14 => some (r13, g14))))))))))
theorem mq_X11_leastCost : Mq yX11_leastCost cX11_leastCost 3 (some .int) 1 := ⟨tw_1066, tw_5, ⟨by decide +kernel, by decide +kernel, by decide +kernel⟩, by decide⟩
theorem mi_X11_leastCost : Cond.instanceMethod yX11_leastCost ∈ TB ∧ Cond.selects yX11_leastCost.cls yX11_leastCost yX11_leastCost ∈ TB := ⟨tw_1064, tw_1065⟩
theorem zc_X11_leastCost {n : Nat} {Z : Zt} {a : Nat} {x1 : Int32} {g : Mem} {q : Int32 × Mem} (h : f_X11_leastCost n Z a x1 g = some q) : zk Z a = 10 := (grd_some h).1
set_option maxHeartbeats 4000000 in
set_option maxRecDepth 100000 in
theorem vm_X11_leastCost {n : Nat} {Z : Zt} {a : Nat} {x1 : Int32} {g : Mem} {rr : Int32} {gg : Mem} (h : f_X11_leastCost n Z a x1 g = some (rr, gg)) : VM yX11_leastCost cX11_leastCost 3 (some .int) 7 [.ref a, .int x1] Z g (some (.int rr)) gg := by
  unfold f_X11_leastCost at h
  replace h := grd_some h
  obtain ⟨hz0, h⟩ := h
  refine VM.of (by decide +kernel) (Nat.le_of_ble_eq_true rfl) (fun x hM => ?_)
  have hM : Cm x cX11_leastCost RX11 3 (some .int) 7 Z (some (.int rr)) gg := hM
  show V x Z 0 0 0 [(0, va_rf (some a)), (1, .int x1)] [] g
  refine V_aload_n hM.c 0 dX11_leastCost_0 rfl rfl ?_
  refine V_iload_n hM.c 1 dX11_leastCost_1 rfl rfl ?_
  replace h := bnd_some h
  obtain ⟨r1, g2, e3, h⟩ := h
  refine V_callV (As := [.int x1]) (c := 9) (T := TX11) (N := 32) hM.c hM.a mq_X11_isRow mi_X11_isRow tw_922 (hM.d (by decide)) hM.z rfl (by omega) (zc_X11_isRow e3) (vm_X11_isRow e3) rfl (Nat.le_of_ble_eq_true rfl) dX11_leastCost_2 ?_
  refine V_if_ne hM.c 10 dX11_leastCost_5 (by decide) (fun c4 => ?_) (fun c4 => ?_)
  · replace h := ite_n h c4
    refine V_aload_n hM.c 0 dX11_leastCost_10 rfl rfl ?_
    refine V_iload_n hM.c 1 dX11_leastCost_11 rfl rfl ?_
    replace h := bnd_some h
    obtain ⟨r5, g6, e7, h⟩ := h
    refine V_callV (As := [.int x1]) (c := 9) (T := TX11) (N := 32) hM.c hM.a mq_X11_cheapest mi_X11_cheapest tw_1067 (hM.d (by decide)) hM.z rfl (by omega) (zc_X11_cheapest e7) (vm_X11_cheapest e7) rfl (Nat.le_of_ble_eq_true rfl) dX11_leastCost_12 ?_
    refine V_istore_n (i := 2) (L' := [(2, .int r5), (0, va_rf (some a)), (1, .int x1)]) hM.c dX11_leastCost_15 rfl (by decide) rfl ?_
    refine V_iload_n hM.c 0 dX11_leastCost_16 rfl rfl ?_
    refine V_bipush (v := -6) hM.c dX11_leastCost_17 (by decide) ?_
    refine V_icmp_ne hM.c 27 dX11_leastCost_19 (by decide) (fun c8 => ?_) (fun c8 => ?_)
    · replace h := ite_n h c8
      refine V_aload_n hM.c 1 dX11_leastCost_27 rfl rfl ?_
      refine V_aload_n hM.c 1 dX11_leastCost_28 rfl rfl ?_
      replace h := drf_some h
      obtain ⟨b9, e10, h⟩ := h
      refine G9_22 hM.c tw_129 hz0 e10 dX11_leastCost_29 ?_
      refine V_bipush (v := 32) hM.c dX11_leastCost_32 (by decide) ?_
      refine V_iload_n hM.c 2 dX11_leastCost_34 rfl rfl ?_
      refine V_imul hM.c dX11_leastCost_35 ?_
      refine V_iload_n hM.c 0 dX11_leastCost_36 rfl rfl ?_
      refine V_iadd hM.c dX11_leastCost_37 ?_
      replace h := grd_some h
      obtain ⟨z11, h⟩ := h
      replace h := grd_some h
      obtain ⟨c12, h⟩ := h
      refine V_lald hM.c z11 c12 dX11_leastCost_38 ?_
      replace h := bnd_some h
      obtain ⟨r13, g14, e15, h⟩ := h
      refine V_callV (As := [.long (gJ g6 b9 (((32 : Int32) * x1) + r5).toNatClampNeg)]) (c := 9) (T := TX11) (N := 32) hM.c hM.a mq_X11_costOf mi_X11_costOf tw_1071 (hM.d (by decide)) hM.z rfl (by omega) (zc_X11_costOf e15) (vm_X11_costOf e15) rfl (Nat.le_of_ble_eq_true rfl) dX11_leastCost_39 ?_
      exact V_iretE hM h dX11_leastCost_42
    · replace h := ite_p h c8
      refine V_bipush (v := -6) hM.c dX11_leastCost_22 (by decide) ?_
      refine V_goto hM.c 42 dX11_leastCost_24 (by decide) ?_
      exact V_iretE hM h dX11_leastCost_42
  · replace h := ite_p h c4
    refine V_iconst (v := -1) hM.c dX11_leastCost_8 (by decide) ?_
    exact V_iretE hM h dX11_leastCost_9
def f_X11_cheapestTags (n : Nat) (Z : Zt) (a : Nat) (x1 : Int32) (g : Mem) : Option (Int32 × Mem) := grd (zk Z a = 10) (bnd (f_X11_isRow n Z a x1 g) (fun r1 g2 => if r1 = 0 then (some ((-1 : Int32), g2)) else (bnd (f_X11_cheapest n Z a x1 g2) (fun r5 g6 => if r5 = (-6 : Int32) then (some ((-6 : Int32), g6)) else (drf (zf Z a 22) (fun b9 => grd (zk Z b9 = 13) (grd (inr (((32 : Int32) * x1) + r5) (zl Z b9)) (bnd (f_X11_setOf n Z (gJ g6 b9 (((32 : Int32) * x1) + r5).toNatClampNeg) g6) (fun r13 g14 => some (r13, g14))))))))))
theorem mq_X11_cheapestTags : Mq yX11_cheapestTags cX11_cheapestTags 3 (some .int) 1 := ⟨tw_1083, tw_5, ⟨by decide +kernel, by decide +kernel, by decide +kernel⟩, by decide⟩
theorem mi_X11_cheapestTags : Cond.instanceMethod yX11_cheapestTags ∈ TB ∧ Cond.selects yX11_cheapestTags.cls yX11_cheapestTags yX11_cheapestTags ∈ TB := ⟨tw_1081, tw_1082⟩
theorem zc_X11_cheapestTags {n : Nat} {Z : Zt} {a : Nat} {x1 : Int32} {g : Mem} {q : Int32 × Mem} (h : f_X11_cheapestTags n Z a x1 g = some q) : zk Z a = 10 := (grd_some h).1
set_option maxHeartbeats 4000000 in
set_option maxRecDepth 100000 in
theorem vm_X11_cheapestTags {n : Nat} {Z : Zt} {a : Nat} {x1 : Int32} {g : Mem} {rr : Int32} {gg : Mem} (h : f_X11_cheapestTags n Z a x1 g = some (rr, gg)) : VM yX11_cheapestTags cX11_cheapestTags 3 (some .int) 7 [.ref a, .int x1] Z g (some (.int rr)) gg := by
  unfold f_X11_cheapestTags at h
  replace h := grd_some h
  obtain ⟨hz0, h⟩ := h
  refine VM.of (by decide +kernel) (Nat.le_of_ble_eq_true rfl) (fun x hM => ?_)
  have hM : Cm x cX11_cheapestTags RX11 3 (some .int) 7 Z (some (.int rr)) gg := hM
  show V x Z 0 0 0 [(0, va_rf (some a)), (1, .int x1)] [] g
  refine V_aload_n hM.c 0 dX11_cheapestTags_0 rfl rfl ?_
  refine V_iload_n hM.c 1 dX11_cheapestTags_1 rfl rfl ?_
  replace h := bnd_some h
  obtain ⟨r1, g2, e3, h⟩ := h
  refine V_callV (As := [.int x1]) (c := 9) (T := TX11) (N := 32) hM.c hM.a mq_X11_isRow mi_X11_isRow tw_922 (hM.d (by decide)) hM.z rfl (by omega) (zc_X11_isRow e3) (vm_X11_isRow e3) rfl (Nat.le_of_ble_eq_true rfl) dX11_cheapestTags_2 ?_
  refine V_if_ne hM.c 10 dX11_cheapestTags_5 (by decide) (fun c4 => ?_) (fun c4 => ?_)
  · replace h := ite_n h c4
    refine V_aload_n hM.c 0 dX11_cheapestTags_10 rfl rfl ?_
    refine V_iload_n hM.c 1 dX11_cheapestTags_11 rfl rfl ?_
    replace h := bnd_some h
    obtain ⟨r5, g6, e7, h⟩ := h
    refine V_callV (As := [.int x1]) (c := 9) (T := TX11) (N := 32) hM.c hM.a mq_X11_cheapest mi_X11_cheapest tw_1067 (hM.d (by decide)) hM.z rfl (by omega) (zc_X11_cheapest e7) (vm_X11_cheapest e7) rfl (Nat.le_of_ble_eq_true rfl) dX11_cheapestTags_12 ?_
    refine V_istore_n (i := 2) (L' := [(2, .int r5), (0, va_rf (some a)), (1, .int x1)]) hM.c dX11_cheapestTags_15 rfl (by decide) rfl ?_
    refine V_iload_n hM.c 0 dX11_cheapestTags_16 rfl rfl ?_
    refine V_bipush (v := -6) hM.c dX11_cheapestTags_17 (by decide) ?_
    refine V_icmp_ne hM.c 27 dX11_cheapestTags_19 (by decide) (fun c8 => ?_) (fun c8 => ?_)
    · replace h := ite_n h c8
      refine V_aload_n hM.c 1 dX11_cheapestTags_27 rfl rfl ?_
      replace h := drf_some h
      obtain ⟨b9, e10, h⟩ := h
      refine G9_22 hM.c tw_129 hz0 e10 dX11_cheapestTags_28 ?_
      refine V_bipush (v := 32) hM.c dX11_cheapestTags_31 (by decide) ?_
      refine V_iload_n hM.c 2 dX11_cheapestTags_33 rfl rfl ?_
      refine V_imul hM.c dX11_cheapestTags_34 ?_
      refine V_iload_n hM.c 0 dX11_cheapestTags_35 rfl rfl ?_
      refine V_iadd hM.c dX11_cheapestTags_36 ?_
      replace h := grd_some h
      obtain ⟨z11, h⟩ := h
      replace h := grd_some h
      obtain ⟨c12, h⟩ := h
      refine V_lald hM.c z11 c12 dX11_cheapestTags_37 ?_
      replace h := bnd_some h
      obtain ⟨r13, g14, e15, h⟩ := h
      refine V_callS (As := [.long (gJ g6 b9 (((32 : Int32) * x1) + r5).toNatClampNeg)]) hM.c hM.a mq_X11_setOf mi_X11_setOf tw_659 (hM.d (by decide)) hM.z (vm_X11_setOf e15) rfl (Nat.le_of_ble_eq_true rfl) dX11_cheapestTags_38 ?_
      exact V_iretE hM h dX11_cheapestTags_41
    · replace h := ite_p h c8
      refine V_bipush (v := -6) hM.c dX11_cheapestTags_22 (by decide) ?_
      refine V_goto hM.c 41 dX11_cheapestTags_24 (by decide) ?_
      exact V_iretE hM h dX11_cheapestTags_41
  · replace h := ite_p h c4
    refine V_iconst (v := -1) hM.c dX11_cheapestTags_8 (by decide) ?_
    exact V_iretE hM h dX11_cheapestTags_9
def f_X11_answerTrust_l59 (n : Nat) (Z : Zt) (κ15 : Int32 → Int32 → Int32 → Mem → Option (Int32 × Mem)) (a : Nat) (x1 : Int32) (x2 : Int32) (x3 : Int32) (s0 : Int32) (g : Mem) : Option (Int32 × Mem) := if s0 ≤ x2 then (κ15 x1 x2 (x3 + 1) g) else (κ15 x1 s0 (x3 + 1) g)
set_option maxHeartbeats 4000000 in
set_option maxRecDepth 100000 in
theorem vl_X11_answerTrust_l59 {x : Cq} {n : Nat} {Z : Zt} {κ15 : Int32 → Int32 → Int32 → Mem → Option (Int32 × Mem)} {a : Nat} {x1 : Int32} {x2 : Int32} {x3 : Int32} {s0 : Int32} {g : Mem} {rr : Int32} {gg : Mem} (hM : Cm x cX11_answerTrust RX11 5 (some .int) 7 Z (some (.int rr)) gg) (hz0 : zk Z a = 10) (hκ15 : ∀ (y1 : Int32) (y2 : Int32) (y3 : Int32) (y : Mem), κ15 y1 y2 y3 y = some (rr, gg) → V x Z 0 0 15 [(0, va_rf (some a)), (1, .int y1), (2, .int y2), (3, .int y3)] [] y) (h : f_X11_answerTrust_l59 n Z κ15 a x1 x2 x3 s0 g = some (rr, gg)) : V x Z 0 0 59 [(0, va_rf (some a)), (1, .int x1), (2, .int x2), (3, .int x3)] [.int s0] g := by
  unfold f_X11_answerTrust_l59 at h
  refine V_istore (L' := [(4, .int s0), (0, va_rf (some a)), (1, .int x1), (2, .int x2), (3, .int x3)]) hM.c dX11_answerTrust_59 (by decide) rfl ?_
  refine V_iload hM.c 0 dX11_answerTrust_61 rfl ?_
  refine V_iload_n hM.c 3 dX11_answerTrust_63 rfl rfl ?_
  refine V_icmp_le hM.c 72 dX11_answerTrust_64 (by decide) (fun c24 => ?_) (fun c24 => ?_)
  · replace h := ite_p h c24
    refine V_iload_n hM.c 3 dX11_answerTrust_72 rfl rfl ?_
    refine V_istore_n (i := 2) (L' := [(2, .int x2), (4, .int s0), (0, va_rf (some a)), (1, .int x1), (3, .int x3)]) hM.c dX11_answerTrust_73 rfl (by decide) rfl ?_
    refine V_iinc (v := (x3 + 1)) (L' := [(3, .int (x3 + 1)), (2, .int x2), (4, .int s0), (0, va_rf (some a)), (1, .int x1)]) hM.c 4 dX11_answerTrust_74 rfl rfl (by decide) rfl ?_
    refine V_goto hM.c 15 dX11_answerTrust_77 (by decide) ?_
    refine V_sub [3, 4, 1, 0] rfl ?_
    exact hκ15 _ _ _ _ h
  · replace h := ite_n h c24
    refine V_iload hM.c 0 dX11_answerTrust_67 rfl ?_
    refine V_goto hM.c 73 dX11_answerTrust_69 (by decide) ?_
    refine V_istore_n (i := 2) (L' := [(2, .int s0), (4, .int s0), (0, va_rf (some a)), (1, .int x1), (3, .int x3)]) hM.c dX11_answerTrust_73 rfl (by decide) rfl ?_
    refine V_iinc (v := (x3 + 1)) (L' := [(3, .int (x3 + 1)), (2, .int s0), (4, .int s0), (0, va_rf (some a)), (1, .int x1)]) hM.c 4 dX11_answerTrust_74 rfl rfl (by decide) rfl ?_
    refine V_goto hM.c 15 dX11_answerTrust_77 (by decide) ?_
    refine V_sub [3, 4, 1, 0] rfl ?_
    exact hκ15 _ _ _ _ h
def f_X11_answerTrust_l15 (n : Nat) (Z : Zt) (a : Nat) : Nat → Int32 → Int32 → Int32 → Mem → Option (Int32 × Mem)
  | 0, _, _, _, _ => none
  | fu + 1, x1, x2, x3, g => drf (zf Z a 21) (fun b5 => grd (zk Z b5 = 12) (grd (inr x1 (zl Z b5)) (if (gI g b5 x1.toNatClampNeg) ≤ x3 then (some (x2, g)) else (bnd (f_X11_mask n Z a (1 : Int32) g) (fun r10 g11 => bnd (f_X11_isAvailable n Z a x1 x3 r10 g11) (fun r13 g14 => if r13 = 0 then (f_X11_answerTrust_l59 n Z (fun y0 y1 y2 y => f_X11_answerTrust_l15 n Z a fu y0 y1 y2 y) a x1 x2 x3 (-6 : Int32) g14) else (drf (zf Z a 22) (fun b17 => grd (zk Z b17 = 13) (grd (inr (((32 : Int32) * x1) + x3) (zl Z b17)) (bnd (f_X11_trustOf n Z a (gJ g14 b17 (((32 : Int32) * x1) + x3).toNatClampNeg) g14) (fun r21 g22 => f_X11_answerTrust_l59 n Z (fun y0 y1 y2 y => f_X11_answerTrust_l15 n Z a fu y0 y1 y2 y) a x1 x2 x3 r21 g22)))))))))))
set_option maxHeartbeats 4000000 in
set_option maxRecDepth 100000 in
theorem vl_X11_answerTrust_l15 {x : Cq} {n : Nat} {Z : Zt} {a : Nat} {rr : Int32} {gg : Mem} (hM : Cm x cX11_answerTrust RX11 5 (some .int) 7 Z (some (.int rr)) gg) (hz0 : zk Z a = 10) : ∀ (fu : Nat) (x1 : Int32) (x2 : Int32) (x3 : Int32) (g : Mem), f_X11_answerTrust_l15 n Z a fu x1 x2 x3 g = some (rr, gg) → V x Z 0 0 15 [(0, va_rf (some a)), (1, .int x1), (2, .int x2), (3, .int x3)] [] g := by
  intro fu
  induction fu with
  | zero => intro x1 x2 x3 g h; cases h
  | succ fu ih =>
    intro x1 x2 x3 g h
    unfold f_X11_answerTrust_l15 at h
    refine V_iload_n hM.c 3 dX11_answerTrust_15 rfl rfl ?_
    refine V_aload_n hM.c 0 dX11_answerTrust_16 rfl rfl ?_
    replace h := drf_some h
    obtain ⟨b5, e6, h⟩ := h
    refine G9_21 hM.c tw_128 hz0 e6 dX11_answerTrust_17 ?_
    refine V_iload_n hM.c 1 dX11_answerTrust_20 rfl rfl ?_
    replace h := grd_some h
    obtain ⟨z7, h⟩ := h
    replace h := grd_some h
    obtain ⟨c8, h⟩ := h
    refine V_iald hM.c z7 c8 dX11_answerTrust_21 ?_
    refine V_icmp_ge hM.c 80 dX11_answerTrust_22 (by decide) (fun c9 => ?_) (fun c9 => ?_)
    · replace h := ite_p h c9
      refine V_iload_n hM.c 2 dX11_answerTrust_80 rfl rfl ?_
      exact V_iretE hM h dX11_answerTrust_81
    · replace h := ite_n h c9
      refine V_aload_n hM.c 0 dX11_answerTrust_25 rfl rfl ?_
      refine V_iload_n hM.c 1 dX11_answerTrust_26 rfl rfl ?_
      refine V_iload_n hM.c 3 dX11_answerTrust_27 rfl rfl ?_
      refine V_aload_n hM.c 0 dX11_answerTrust_28 rfl rfl ?_
      refine V_iconst (v := 1) hM.c dX11_answerTrust_29 (by decide) ?_
      replace h := bnd_some h
      obtain ⟨r10, g11, e12, h⟩ := h
      refine V_callV (As := [.int (1 : Int32)]) (c := 9) (T := TX11) (N := 32) hM.c hM.a mq_X11_mask mi_X11_mask tw_559 (hM.d (by decide)) hM.z rfl (by omega) (zc_X11_mask e12) (vm_X11_mask e12) rfl (Nat.le_of_ble_eq_true rfl) dX11_answerTrust_30 ?_
      replace h := bnd_some h
      obtain ⟨r13, g14, e15, h⟩ := h
      refine V_callV (As := [.int x1, .int x3, .int r10]) (c := 9) (T := TX11) (N := 32) hM.c hM.a mq_X11_isAvailable mi_X11_isAvailable tw_655 (hM.d (by decide)) hM.z rfl (by omega) (zc_X11_isAvailable e15) (vm_X11_isAvailable e15) rfl (Nat.le_of_ble_eq_true rfl) dX11_answerTrust_33 ?_
      refine V_if_eq hM.c 57 dX11_answerTrust_36 (by decide) (fun c16 => ?_) (fun c16 => ?_)
      · replace h := ite_p h c16
        refine V_bipush (v := -6) hM.c dX11_answerTrust_57 (by decide) ?_
        refine V_sub [0, 1, 2, 3] rfl ?_
        exact vl_X11_answerTrust_l59 hM hz0 ih h
      · replace h := ite_n h c16
        refine V_aload_n hM.c 0 dX11_answerTrust_39 rfl rfl ?_
        refine V_aload_n hM.c 0 dX11_answerTrust_40 rfl rfl ?_
        replace h := drf_some h
        obtain ⟨b17, e18, h⟩ := h
        refine G9_22 hM.c tw_129 hz0 e18 dX11_answerTrust_41 ?_
        refine V_bipush (v := 32) hM.c dX11_answerTrust_44 (by decide) ?_
        refine V_iload_n hM.c 1 dX11_answerTrust_46 rfl rfl ?_
        refine V_imul hM.c dX11_answerTrust_47 ?_
        refine V_iload_n hM.c 3 dX11_answerTrust_48 rfl rfl ?_
        refine V_iadd hM.c dX11_answerTrust_49 ?_
        replace h := grd_some h
        obtain ⟨z19, h⟩ := h
        replace h := grd_some h
        obtain ⟨c20, h⟩ := h
        refine V_lald hM.c z19 c20 dX11_answerTrust_50 ?_
        replace h := bnd_some h
        obtain ⟨r21, g22, e23, h⟩ := h
        refine V_callV (As := [.long (gJ g14 b17 (((32 : Int32) * x1) + x3).toNatClampNeg)]) (c := 9) (T := TX11) (N := 32) hM.c hM.a mq_X11_trustOf mi_X11_trustOf tw_1101 (hM.d (by decide)) hM.z rfl (by omega) (zc_X11_trustOf e23) (vm_X11_trustOf e23) rfl (Nat.le_of_ble_eq_true rfl) dX11_answerTrust_51 ?_
        refine V_goto hM.c 59 dX11_answerTrust_54 (by decide) ?_
        refine V_sub [0, 1, 2, 3] rfl ?_
        exact vl_X11_answerTrust_l59 hM hz0 ih h
def f_X11_answerTrust (n : Nat) (Z : Zt) (a : Nat) (x1 : Int32) (g : Mem) : Option (Int32 × Mem) := grd (zk Z a = 10) (bnd (f_X11_isRow n Z a x1 g) (fun r1 g2 => if r1 = 0 then (some ((-1 : Int32), g2)) else (f_X11_answerTrust_l15 n Z a n x1 (-6 : Int32) (0 : Int32) g2)))
theorem mq_X11_answerTrust : Mq yX11_answerTrust cX11_answerTrust 5 (some .int) 1 := ⟨tw_1100, tw_5, ⟨by decide +kernel, by decide +kernel, by decide +kernel⟩, by decide⟩
theorem mi_X11_answerTrust : Cond.instanceMethod yX11_answerTrust ∈ TB ∧ Cond.selects yX11_answerTrust.cls yX11_answerTrust yX11_answerTrust ∈ TB := ⟨tw_1098, tw_1099⟩
theorem zc_X11_answerTrust {n : Nat} {Z : Zt} {a : Nat} {x1 : Int32} {g : Mem} {q : Int32 × Mem} (h : f_X11_answerTrust n Z a x1 g = some q) : zk Z a = 10 := (grd_some h).1
set_option maxHeartbeats 4000000 in
set_option maxRecDepth 100000 in
theorem vm_X11_answerTrust {n : Nat} {Z : Zt} {a : Nat} {x1 : Int32} {g : Mem} {rr : Int32} {gg : Mem} (h : f_X11_answerTrust n Z a x1 g = some (rr, gg)) : VM yX11_answerTrust cX11_answerTrust 5 (some .int) 7 [.ref a, .int x1] Z g (some (.int rr)) gg := by
  unfold f_X11_answerTrust at h
  replace h := grd_some h
  obtain ⟨hz0, h⟩ := h
  refine VM.of (by decide +kernel) (Nat.le_of_ble_eq_true rfl) (fun x hM => ?_)
  have hM : Cm x cX11_answerTrust RX11 5 (some .int) 7 Z (some (.int rr)) gg := hM
  show V x Z 0 0 0 [(0, va_rf (some a)), (1, .int x1)] [] g
  refine V_aload_n hM.c 0 dX11_answerTrust_0 rfl rfl ?_
  refine V_iload_n hM.c 1 dX11_answerTrust_1 rfl rfl ?_
  replace h := bnd_some h
  obtain ⟨r1, g2, e3, h⟩ := h
  refine V_callV (As := [.int x1]) (c := 9) (T := TX11) (N := 32) hM.c hM.a mq_X11_isRow mi_X11_isRow tw_922 (hM.d (by decide)) hM.z rfl (by omega) (zc_X11_isRow e3) (vm_X11_isRow e3) rfl (Nat.le_of_ble_eq_true rfl) dX11_answerTrust_2 ?_
  refine V_if_ne hM.c 10 dX11_answerTrust_5 (by decide) (fun c4 => ?_) (fun c4 => ?_)
  · replace h := ite_n h c4
    refine V_bipush (v := -6) hM.c dX11_answerTrust_10 (by decide) ?_
    refine V_istore_n (i := 2) (L' := [(2, .int (-6 : Int32)), (0, va_rf (some a)), (1, .int x1)]) hM.c dX11_answerTrust_12 rfl (by decide) rfl ?_
    refine V_iconst (v := 0) hM.c dX11_answerTrust_13 (by decide) ?_
    refine V_istore_n (i := 3) (L' := [(3, .int (0 : Int32)), (2, .int (-6 : Int32)), (0, va_rf (some a)), (1, .int x1)]) hM.c dX11_answerTrust_14 rfl (by decide) rfl ?_
    refine V_sub [2, 3, 1, 0] rfl ?_
    exact vl_X11_answerTrust_l15 hM hz0  _ _ _ _ _ h
  · replace h := ite_p h c4
    refine V_iconst (v := -1) hM.c dX11_answerTrust_8 (by decide) ?_
    exact V_iretE hM h dX11_answerTrust_9
def f_X11_confidence_l59 (n : Nat) (Z : Zt) (κ16 : Int32 → UInt32 → Int32 → Mem → Option (UInt32 × Mem)) (a : Nat) (x1 : Int32) (x2 : UInt32) (x3 : Int32) (s0 : UInt32) (g : Mem) : Option (UInt32 × Mem) := if (Op.cmpValue (FP.fcmp s0 x2) .l) ≤ 0 then (κ16 x1 x2 (x3 + 1) g) else (κ16 x1 s0 (x3 + 1) g)
set_option maxHeartbeats 4000000 in
set_option maxRecDepth 100000 in
theorem vl_X11_confidence_l59 {x : Cq} {n : Nat} {Z : Zt} {κ16 : Int32 → UInt32 → Int32 → Mem → Option (UInt32 × Mem)} {a : Nat} {x1 : Int32} {x2 : UInt32} {x3 : Int32} {s0 : UInt32} {g : Mem} {rr : UInt32} {gg : Mem} (hM : Cm x cX11_confidence RX11 5 (some .float) 7 Z (some (.float rr)) gg) (hz0 : zk Z a = 10) (hκ16 : ∀ (y1 : Int32) (y2 : UInt32) (y3 : Int32) (y : Mem), κ16 y1 y2 y3 y = some (rr, gg) → V x Z 0 0 16 [(0, va_rf (some a)), (1, .int y1), (2, .float y2), (3, .int y3)] [] y) (h : f_X11_confidence_l59 n Z κ16 a x1 x2 x3 s0 g = some (rr, gg)) : V x Z 0 0 59 [(0, va_rf (some a)), (1, .int x1), (2, .float x2), (3, .int x3)] [.float s0] g := by
  unfold f_X11_confidence_l59 at h
  refine V_fstore (L' := [(4, .float s0), (0, va_rf (some a)), (1, .int x1), (2, .float x2), (3, .int x3)]) hM.c dX11_confidence_59 (by decide) rfl ?_
  refine V_fload hM.c 0 dX11_confidence_61 rfl ?_
  refine V_fload_n hM.c 3 dX11_confidence_63 rfl rfl ?_
  refine V_fcmpl hM.c dX11_confidence_64 ?_
  refine V_if_le hM.c 73 dX11_confidence_65 (by decide) (fun c24 => ?_) (fun c24 => ?_)
  · replace h := ite_p h c24
    refine V_fload_n hM.c 3 dX11_confidence_73 rfl rfl ?_
    refine V_fstore_n (i := 2) (L' := [(2, .float x2), (4, .float s0), (0, va_rf (some a)), (1, .int x1), (3, .int x3)]) hM.c dX11_confidence_74 rfl (by decide) rfl ?_
    refine V_iinc (v := (x3 + 1)) (L' := [(3, .int (x3 + 1)), (2, .float x2), (4, .float s0), (0, va_rf (some a)), (1, .int x1)]) hM.c 4 dX11_confidence_75 rfl rfl (by decide) rfl ?_
    refine V_goto hM.c 16 dX11_confidence_78 (by decide) ?_
    refine V_sub [3, 4, 1, 0] rfl ?_
    exact hκ16 _ _ _ _ h
  · replace h := ite_n h c24
    refine V_fload hM.c 0 dX11_confidence_68 rfl ?_
    refine V_goto hM.c 74 dX11_confidence_70 (by decide) ?_
    refine V_fstore_n (i := 2) (L' := [(2, .float s0), (4, .float s0), (0, va_rf (some a)), (1, .int x1), (3, .int x3)]) hM.c dX11_confidence_74 rfl (by decide) rfl ?_
    refine V_iinc (v := (x3 + 1)) (L' := [(3, .int (x3 + 1)), (2, .float s0), (4, .float s0), (0, va_rf (some a)), (1, .int x1)]) hM.c 4 dX11_confidence_75 rfl rfl (by decide) rfl ?_
    refine V_goto hM.c 16 dX11_confidence_78 (by decide) ?_
    refine V_sub [3, 4, 1, 0] rfl ?_
    exact hκ16 _ _ _ _ h
def f_X11_confidence_l16 (n : Nat) (Z : Zt) (a : Nat) : Nat → Int32 → UInt32 → Int32 → Mem → Option (UInt32 × Mem)
  | 0, _, _, _, _ => none
  | fu + 1, x1, x2, x3, g => drf (zf Z a 21) (fun b5 => grd (zk Z b5 = 12) (grd (inr x1 (zl Z b5)) (if (gI g b5 x1.toNatClampNeg) ≤ x3 then (some (x2, g)) else (bnd (f_X11_mask n Z a (1 : Int32) g) (fun r10 g11 => bnd (f_X11_isAvailable n Z a x1 x3 r10 g11) (fun r13 g14 => if r13 = 0 then (f_X11_confidence_l59 n Z (fun y0 y1 y2 y => f_X11_confidence_l16 n Z a fu y0 y1 y2 y) a x1 x2 x3 FP.fconst0 g14) else (drf (zf Z a 22) (fun b17 => grd (zk Z b17 = 13) (grd (inr (((32 : Int32) * x1) + x3) (zl Z b17)) (bnd (f_X11_confidenceOf n Z a (gJ g14 b17 (((32 : Int32) * x1) + x3).toNatClampNeg) g14) (fun r21 g22 => f_X11_confidence_l59 n Z (fun y0 y1 y2 y => f_X11_confidence_l16 n Z a fu y0 y1 y2 y) a x1 x2 x3 r21 g22)))))))))))
set_option maxHeartbeats 4000000 in
set_option maxRecDepth 100000 in
theorem vl_X11_confidence_l16 {x : Cq} {n : Nat} {Z : Zt} {a : Nat} {rr : UInt32} {gg : Mem} (hM : Cm x cX11_confidence RX11 5 (some .float) 7 Z (some (.float rr)) gg) (hz0 : zk Z a = 10) : ∀ (fu : Nat) (x1 : Int32) (x2 : UInt32) (x3 : Int32) (g : Mem), f_X11_confidence_l16 n Z a fu x1 x2 x3 g = some (rr, gg) → V x Z 0 0 16 [(0, va_rf (some a)), (1, .int x1), (2, .float x2), (3, .int x3)] [] g := by
  intro fu
  induction fu with
  | zero => intro x1 x2 x3 g h; cases h
  | succ fu ih =>
    intro x1 x2 x3 g h
    unfold f_X11_confidence_l16 at h
    refine V_iload_n hM.c 3 dX11_confidence_16 rfl rfl ?_
    refine V_aload_n hM.c 0 dX11_confidence_17 rfl rfl ?_
    replace h := drf_some h
    obtain ⟨b5, e6, h⟩ := h
    refine G9_21 hM.c tw_128 hz0 e6 dX11_confidence_18 ?_
    refine V_iload_n hM.c 1 dX11_confidence_21 rfl rfl ?_
    replace h := grd_some h
    obtain ⟨z7, h⟩ := h
    replace h := grd_some h
    obtain ⟨c8, h⟩ := h
    refine V_iald hM.c z7 c8 dX11_confidence_22 ?_
    refine V_icmp_ge hM.c 81 dX11_confidence_23 (by decide) (fun c9 => ?_) (fun c9 => ?_)
    · replace h := ite_p h c9
      refine V_fload_n hM.c 2 dX11_confidence_81 rfl rfl ?_
      exact V_fretE hM h dX11_confidence_82
    · replace h := ite_n h c9
      refine V_aload_n hM.c 0 dX11_confidence_26 rfl rfl ?_
      refine V_iload_n hM.c 1 dX11_confidence_27 rfl rfl ?_
      refine V_iload_n hM.c 3 dX11_confidence_28 rfl rfl ?_
      refine V_aload_n hM.c 0 dX11_confidence_29 rfl rfl ?_
      refine V_iconst (v := 1) hM.c dX11_confidence_30 (by decide) ?_
      replace h := bnd_some h
      obtain ⟨r10, g11, e12, h⟩ := h
      refine V_callV (As := [.int (1 : Int32)]) (c := 9) (T := TX11) (N := 32) hM.c hM.a mq_X11_mask mi_X11_mask tw_559 (hM.d (by decide)) hM.z rfl (by omega) (zc_X11_mask e12) (vm_X11_mask e12) rfl (Nat.le_of_ble_eq_true rfl) dX11_confidence_31 ?_
      replace h := bnd_some h
      obtain ⟨r13, g14, e15, h⟩ := h
      refine V_callV (As := [.int x1, .int x3, .int r10]) (c := 9) (T := TX11) (N := 32) hM.c hM.a mq_X11_isAvailable mi_X11_isAvailable tw_655 (hM.d (by decide)) hM.z rfl (by omega) (zc_X11_isAvailable e15) (vm_X11_isAvailable e15) rfl (Nat.le_of_ble_eq_true rfl) dX11_confidence_34 ?_
      refine V_if_eq hM.c 58 dX11_confidence_37 (by decide) (fun c16 => ?_) (fun c16 => ?_)
      · replace h := ite_p h c16
        refine V_fconst0 hM.c dX11_confidence_58 ?_
        refine V_sub [0, 1, 2, 3] rfl ?_
        exact vl_X11_confidence_l59 hM hz0 ih h
      · replace h := ite_n h c16
        refine V_aload_n hM.c 0 dX11_confidence_40 rfl rfl ?_
        refine V_aload_n hM.c 0 dX11_confidence_41 rfl rfl ?_
        replace h := drf_some h
        obtain ⟨b17, e18, h⟩ := h
        refine G9_22 hM.c tw_129 hz0 e18 dX11_confidence_42 ?_
        refine V_bipush (v := 32) hM.c dX11_confidence_45 (by decide) ?_
        refine V_iload_n hM.c 1 dX11_confidence_47 rfl rfl ?_
        refine V_imul hM.c dX11_confidence_48 ?_
        refine V_iload_n hM.c 3 dX11_confidence_49 rfl rfl ?_
        refine V_iadd hM.c dX11_confidence_50 ?_
        replace h := grd_some h
        obtain ⟨z19, h⟩ := h
        replace h := grd_some h
        obtain ⟨c20, h⟩ := h
        refine V_lald hM.c z19 c20 dX11_confidence_51 ?_
        replace h := bnd_some h
        obtain ⟨r21, g22, e23, h⟩ := h
        refine V_callV (As := [.long (gJ g14 b17 (((32 : Int32) * x1) + x3).toNatClampNeg)]) (c := 9) (T := TX11) (N := 32) hM.c hM.a mq_X11_confidenceOf mi_X11_confidenceOf tw_1120 (hM.d (by decide)) hM.z rfl (by omega) (zc_X11_confidenceOf e23) (vm_X11_confidenceOf e23) rfl (Nat.le_of_ble_eq_true rfl) dX11_confidence_52 ?_
        refine V_goto hM.c 59 dX11_confidence_55 (by decide) ?_
        refine V_sub [0, 1, 2, 3] rfl ?_
        exact vl_X11_confidence_l59 hM hz0 ih h
def f_X11_confidence (n : Nat) (Z : Zt) (a : Nat) (x1 : Int32) (g : Mem) : Option (UInt32 × Mem) := grd (zk Z a = 10) (bnd (f_X11_isRow n Z a x1 g) (fun r1 g2 => if r1 = 0 then (some ((3212836864 : UInt32), g2)) else (f_X11_confidence_l16 n Z a n x1 FP.fconst0 (0 : Int32) g2)))
theorem mq_X11_confidence : Mq yX11_confidence cX11_confidence 5 (some .float) 1 := ⟨tw_1118, tw_5, ⟨by decide +kernel, by decide +kernel, by decide +kernel⟩, by decide⟩
theorem mi_X11_confidence : Cond.instanceMethod yX11_confidence ∈ TB ∧ Cond.selects yX11_confidence.cls yX11_confidence yX11_confidence ∈ TB := ⟨tw_1116, tw_1117⟩
theorem zc_X11_confidence {n : Nat} {Z : Zt} {a : Nat} {x1 : Int32} {g : Mem} {q : UInt32 × Mem} (h : f_X11_confidence n Z a x1 g = some q) : zk Z a = 10 := (grd_some h).1
set_option maxHeartbeats 4000000 in
set_option maxRecDepth 100000 in
theorem vm_X11_confidence {n : Nat} {Z : Zt} {a : Nat} {x1 : Int32} {g : Mem} {rr : UInt32} {gg : Mem} (h : f_X11_confidence n Z a x1 g = some (rr, gg)) : VM yX11_confidence cX11_confidence 5 (some .float) 7 [.ref a, .int x1] Z g (some (.float rr)) gg := by
  unfold f_X11_confidence at h
  replace h := grd_some h
  obtain ⟨hz0, h⟩ := h
  refine VM.of (by decide +kernel) (Nat.le_of_ble_eq_true rfl) (fun x hM => ?_)
  have hM : Cm x cX11_confidence RX11 5 (some .float) 7 Z (some (.float rr)) gg := hM
  show V x Z 0 0 0 [(0, va_rf (some a)), (1, .int x1)] [] g
  refine V_aload_n hM.c 0 dX11_confidence_0 rfl rfl ?_
  refine V_iload_n hM.c 1 dX11_confidence_1 rfl rfl ?_
  replace h := bnd_some h
  obtain ⟨r1, g2, e3, h⟩ := h
  refine V_callV (As := [.int x1]) (c := 9) (T := TX11) (N := 32) hM.c hM.a mq_X11_isRow mi_X11_isRow tw_922 (hM.d (by decide)) hM.z rfl (by omega) (zc_X11_isRow e3) (vm_X11_isRow e3) rfl (Nat.le_of_ble_eq_true rfl) dX11_confidence_2 ?_
  refine V_if_ne hM.c 12 dX11_confidence_5 (by decide) (fun c4 => ?_) (fun c4 => ?_)
  · replace h := ite_n h c4
    refine V_fconst0 hM.c dX11_confidence_12 ?_
    refine V_fstore_n (i := 2) (L' := [(2, .float FP.fconst0), (0, va_rf (some a)), (1, .int x1)]) hM.c dX11_confidence_13 rfl (by decide) rfl ?_
    refine V_iconst (v := 0) hM.c dX11_confidence_14 (by decide) ?_
    refine V_istore_n (i := 3) (L' := [(3, .int (0 : Int32)), (2, .float FP.fconst0), (0, va_rf (some a)), (1, .int x1)]) hM.c dX11_confidence_15 rfl (by decide) rfl ?_
    refine V_sub [2, 3, 1, 0] rfl ?_
    exact vl_X11_confidence_l16 hM hz0  _ _ _ _ _ h
  · replace h := ite_p h c4
    refine V_ldcwf (v := 3212836864) hM.c tw_1119 dX11_confidence_8 ?_
    exact V_fretE hM h dX11_confidence_11
def f_X11_needed_l23 (n : Nat) (Z : Zt) (a : Nat) : Nat → Int32 → Int32 → Int32 → Int32 → Mem → Option (Int32 × Mem)
  | 0, _, _, _, _, _ => none
  | fu + 1, x1, x2, x3, x4, g => drf (zf Z a 21) (fun b8 => grd (zk Z b8 = 12) (grd (inr x1 (zl Z b8)) (if (gI g b8 x1.toNatClampNeg) ≤ x4 then (bnd (f_X11_isPresent n Z a x1 x2 g) (fun r13 g14 => if r13 = 0 then (some ((-6 : Int32), g14)) else (some (x3, g14)))) else (bnd (f_X11_isAvailable n Z a x1 x4 x2 g) (fun r17 g18 => if r17 = 0 then (f_X11_needed_l23 n Z a fu x1 x2 (x3 &&& (65535 : Int32)) (x4 + 1) g18) else (drf (zf Z a 22) (fun b21 => grd (zk Z b21 = 13) (grd (inr (((32 : Int32) * x1) + x4) (zl Z b21)) (bnd (f_X11_setOf n Z (gJ g18 b21 (((32 : Int32) * x1) + x4).toNatClampNeg) g18) (fun r25 g26 => f_X11_needed_l23 n Z a fu x1 x2 (x3 &&& r25) (x4 + 1) g26))))))))))
set_option maxHeartbeats 4000000 in
set_option maxRecDepth 100000 in
theorem vl_X11_needed_l23 {x : Cq} {n : Nat} {Z : Zt} {a : Nat} {rr : Int32} {gg : Mem} (hM : Cm x cX11_needed RX11 5 (some .int) 7 Z (some (.int rr)) gg) (hz0 : zk Z a = 10) : ∀ (fu : Nat) (x1 : Int32) (x2 : Int32) (x3 : Int32) (x4 : Int32) (g : Mem), f_X11_needed_l23 n Z a fu x1 x2 x3 x4 g = some (rr, gg) → V x Z 0 0 23 [(0, va_rf (some a)), (1, .int x1), (2, .int x2), (3, .int x3), (4, .int x4)] [] g := by
  intro fu
  induction fu with
  | zero => intro x1 x2 x3 x4 g h; cases h
  | succ fu ih =>
    intro x1 x2 x3 x4 g h
    unfold f_X11_needed_l23 at h
    refine V_iload hM.c 4 dX11_needed_23 rfl ?_
    refine V_aload_n hM.c 0 dX11_needed_25 rfl rfl ?_
    replace h := drf_some h
    obtain ⟨b8, e9, h⟩ := h
    refine G9_21 hM.c tw_128 hz0 e9 dX11_needed_26 ?_
    refine V_iload_n hM.c 1 dX11_needed_29 rfl rfl ?_
    replace h := grd_some h
    obtain ⟨z10, h⟩ := h
    replace h := grd_some h
    obtain ⟨c11, h⟩ := h
    refine V_iald hM.c z10 c11 dX11_needed_30 ?_
    refine V_icmp_ge hM.c 75 dX11_needed_31 (by decide) (fun c12 => ?_) (fun c12 => ?_)
    · replace h := ite_p h c12
      refine V_aload_n hM.c 0 dX11_needed_75 rfl rfl ?_
      refine V_iload_n hM.c 1 dX11_needed_76 rfl rfl ?_
      refine V_iload_n hM.c 2 dX11_needed_77 rfl rfl ?_
      replace h := bnd_some h
      obtain ⟨r13, g14, e15, h⟩ := h
      refine V_callV (As := [.int x1, .int x2]) (c := 9) (T := TX11) (N := 32) hM.c hM.a mq_X11_isPresent mi_X11_isPresent tw_651 (hM.d (by decide)) hM.z rfl (by omega) (zc_X11_isPresent e15) (vm_X11_isPresent e15) rfl (Nat.le_of_ble_eq_true rfl) dX11_needed_78 ?_
      refine V_if_eq hM.c 88 dX11_needed_81 (by decide) (fun c16 => ?_) (fun c16 => ?_)
      · replace h := ite_p h c16
        refine V_bipush (v := -6) hM.c dX11_needed_88 (by decide) ?_
        exact V_iretE hM h dX11_needed_90
      · replace h := ite_n h c16
        refine V_iload_n hM.c 3 dX11_needed_84 rfl rfl ?_
        refine V_goto hM.c 90 dX11_needed_85 (by decide) ?_
        exact V_iretE hM h dX11_needed_90
    · replace h := ite_n h c12
      refine V_iload_n hM.c 3 dX11_needed_34 rfl rfl ?_
      refine V_aload_n hM.c 0 dX11_needed_35 rfl rfl ?_
      refine V_iload_n hM.c 1 dX11_needed_36 rfl rfl ?_
      refine V_iload hM.c 4 dX11_needed_37 rfl ?_
      refine V_iload_n hM.c 2 dX11_needed_39 rfl rfl ?_
      replace h := bnd_some h
      obtain ⟨r17, g18, e19, h⟩ := h
      refine V_callV (As := [.int x1, .int x4, .int x2]) (c := 9) (T := TX11) (N := 32) hM.c hM.a mq_X11_isAvailable mi_X11_isAvailable tw_655 (hM.d (by decide)) hM.z rfl (by omega) (zc_X11_isAvailable e19) (vm_X11_isAvailable e19) rfl (Nat.le_of_ble_eq_true rfl) dX11_needed_40 ?_
      refine V_if_eq hM.c 64 dX11_needed_43 (by decide) (fun c20 => ?_) (fun c20 => ?_)
      · replace h := ite_p h c20
        refine V_ldcw (v := 65535) hM.c tw_1133 dX11_needed_64 ?_
        refine V_iand hM.c dX11_needed_67 ?_
        refine V_istore_n (i := 3) (L' := [(3, .int (x3 &&& (65535 : Int32))), (0, va_rf (some a)), (1, .int x1), (2, .int x2), (4, .int x4)]) hM.c dX11_needed_68 rfl (by decide) rfl ?_
        refine V_iinc (v := (x4 + 1)) (L' := [(4, .int (x4 + 1)), (3, .int (x3 &&& (65535 : Int32))), (0, va_rf (some a)), (1, .int x1), (2, .int x2)]) hM.c 4 dX11_needed_69 rfl rfl (by decide) rfl ?_
        refine V_goto hM.c 23 dX11_needed_72 (by decide) ?_
        refine V_sub [2, 3, 4, 1, 0] rfl ?_
        exact ih _ _ _ _ _ h
      · replace h := ite_n h c20
        refine V_aload_n hM.c 0 dX11_needed_46 rfl rfl ?_
        replace h := drf_some h
        obtain ⟨b21, e22, h⟩ := h
        refine G9_22 hM.c tw_129 hz0 e22 dX11_needed_47 ?_
        refine V_bipush (v := 32) hM.c dX11_needed_50 (by decide) ?_
        refine V_iload_n hM.c 1 dX11_needed_52 rfl rfl ?_
        refine V_imul hM.c dX11_needed_53 ?_
        refine V_iload hM.c 4 dX11_needed_54 rfl ?_
        refine V_iadd hM.c dX11_needed_56 ?_
        replace h := grd_some h
        obtain ⟨z23, h⟩ := h
        replace h := grd_some h
        obtain ⟨c24, h⟩ := h
        refine V_lald hM.c z23 c24 dX11_needed_57 ?_
        replace h := bnd_some h
        obtain ⟨r25, g26, e27, h⟩ := h
        refine V_callS (As := [.long (gJ g18 b21 (((32 : Int32) * x1) + x4).toNatClampNeg)]) hM.c hM.a mq_X11_setOf mi_X11_setOf tw_659 (hM.d (by decide)) hM.z (vm_X11_setOf e27) rfl (Nat.le_of_ble_eq_true rfl) dX11_needed_58 ?_
        refine V_goto hM.c 67 dX11_needed_61 (by decide) ?_
        refine V_iand hM.c dX11_needed_67 ?_
        refine V_istore_n (i := 3) (L' := [(3, .int (x3 &&& r25)), (0, va_rf (some a)), (1, .int x1), (2, .int x2), (4, .int x4)]) hM.c dX11_needed_68 rfl (by decide) rfl ?_
        refine V_iinc (v := (x4 + 1)) (L' := [(4, .int (x4 + 1)), (3, .int (x3 &&& r25)), (0, va_rf (some a)), (1, .int x1), (2, .int x2)]) hM.c 4 dX11_needed_69 rfl rfl (by decide) rfl ?_
        refine V_goto hM.c 23 dX11_needed_72 (by decide) ?_
        refine V_sub [2, 3, 4, 1, 0] rfl ?_
        exact ih _ _ _ _ _ h
def f_X11_needed (n : Nat) (Z : Zt) (a : Nat) (x1 : Int32) (g : Mem) : Option (Int32 × Mem) := grd (zk Z a = 10) (bnd (f_X11_isRow n Z a x1 g) (fun r1 g2 => if r1 = 0 then (some ((-1 : Int32), g2)) else (bnd (f_X11_mask n Z a (1 : Int32) g2) (fun r5 g6 => f_X11_needed_l23 n Z a n x1 r5 (65535 : Int32) (0 : Int32) g6))))
theorem mq_X11_needed : Mq yX11_needed cX11_needed 5 (some .int) 1 := ⟨tw_1132, tw_5, ⟨by decide +kernel, by decide +kernel, by decide +kernel⟩, by decide⟩
theorem mi_X11_needed : Cond.instanceMethod yX11_needed ∈ TB ∧ Cond.selects yX11_needed.cls yX11_needed yX11_needed ∈ TB := ⟨tw_1130, tw_1131⟩
theorem zc_X11_needed {n : Nat} {Z : Zt} {a : Nat} {x1 : Int32} {g : Mem} {q : Int32 × Mem} (h : f_X11_needed n Z a x1 g = some q) : zk Z a = 10 := (grd_some h).1
set_option maxHeartbeats 4000000 in
set_option maxRecDepth 100000 in
theorem vm_X11_needed {n : Nat} {Z : Zt} {a : Nat} {x1 : Int32} {g : Mem} {rr : Int32} {gg : Mem} (h : f_X11_needed n Z a x1 g = some (rr, gg)) : VM yX11_needed cX11_needed 5 (some .int) 7 [.ref a, .int x1] Z g (some (.int rr)) gg := by
  unfold f_X11_needed at h
  replace h := grd_some h
  obtain ⟨hz0, h⟩ := h
  refine VM.of (by decide +kernel) (Nat.le_of_ble_eq_true rfl) (fun x hM => ?_)
  have hM : Cm x cX11_needed RX11 5 (some .int) 7 Z (some (.int rr)) gg := hM
  show V x Z 0 0 0 [(0, va_rf (some a)), (1, .int x1)] [] g
  refine V_aload_n hM.c 0 dX11_needed_0 rfl rfl ?_
  refine V_iload_n hM.c 1 dX11_needed_1 rfl rfl ?_
  replace h := bnd_some h
  obtain ⟨r1, g2, e3, h⟩ := h
  refine V_callV (As := [.int x1]) (c := 9) (T := TX11) (N := 32) hM.c hM.a mq_X11_isRow mi_X11_isRow tw_922 (hM.d (by decide)) hM.z rfl (by omega) (zc_X11_isRow e3) (vm_X11_isRow e3) rfl (Nat.le_of_ble_eq_true rfl) dX11_needed_2 ?_
  refine V_if_ne hM.c 10 dX11_needed_5 (by decide) (fun c4 => ?_) (fun c4 => ?_)
  · replace h := ite_n h c4
    refine V_aload_n hM.c 0 dX11_needed_10 rfl rfl ?_
    refine V_iconst (v := 1) hM.c dX11_needed_11 (by decide) ?_
    replace h := bnd_some h
    obtain ⟨r5, g6, e7, h⟩ := h
    refine V_callV (As := [.int (1 : Int32)]) (c := 9) (T := TX11) (N := 32) hM.c hM.a mq_X11_mask mi_X11_mask tw_559 (hM.d (by decide)) hM.z rfl (by omega) (zc_X11_mask e7) (vm_X11_mask e7) rfl (Nat.le_of_ble_eq_true rfl) dX11_needed_12 ?_
    refine V_istore_n (i := 2) (L' := [(2, .int r5), (0, va_rf (some a)), (1, .int x1)]) hM.c dX11_needed_15 rfl (by decide) rfl ?_
    refine V_ldcw (v := 65535) hM.c tw_1133 dX11_needed_16 ?_
    refine V_istore_n (i := 3) (L' := [(3, .int (65535 : Int32)), (2, .int r5), (0, va_rf (some a)), (1, .int x1)]) hM.c dX11_needed_19 rfl (by decide) rfl ?_
    refine V_iconst (v := 0) hM.c dX11_needed_20 (by decide) ?_
    refine V_istore (L' := [(4, .int (0 : Int32)), (3, .int (65535 : Int32)), (2, .int r5), (0, va_rf (some a)), (1, .int x1)]) hM.c dX11_needed_21 (by decide) rfl ?_
    refine V_sub [3, 4, 2, 1, 0] rfl ?_
    exact vl_X11_needed_l23 hM hz0  _ _ _ _ _ _ h
  · replace h := ite_p h c4
    refine V_iconst (v := -1) hM.c dX11_needed_8 (by decide) ?_
    exact V_iretE hM h dX11_needed_9
def f_X11_laysSets_l7 (n : Nat) (Z : Zt) (a : Nat) : Nat → Int32 → Int32 → Int32 → Mem → Option (Unit × Mem)
  | 0, _, _, _, _ => none
  | fu + 1, x1, x2, x3, g => drf (zf Z a 21) (fun b1 => grd (zk Z b1 = 12) (grd (inr x1 (zl Z b1)) (if (gI g b1 x1.toNatClampNeg) ≤ x3 then (some ((), g)) else (bnd (f_X11_isAvailable n Z a x1 x3 x2 g) (fun r6 g7 => if r6 = 0 then (f_X11_laysSets_l7 n Z a fu x1 x2 (x3 + 1) g7) else (drf (zf Z a 28) (fun b10 => drf (zf Z a 22) (fun b12 => grd (zk Z b12 = 13) (grd (inr (((32 : Int32) * x1) + x3) (zl Z b12)) (bnd (f_X11_setOf n Z (gJ g7 b12 (((32 : Int32) * x1) + x3).toNatClampNeg) g7) (fun r16 g17 => grd (zk Z b10 = 12) (grd (inr (gI g7 a 29) (zl Z b10)) (f_X11_laysSets_l7 n Z a fu x1 x2 (x3 + 1) (sI (sI g17 b10 (gI g7 a 29).toNatClampNeg r16) a 29 ((gI (sI g17 b10 (gI g7 a 29).toNatClampNeg r16) a 29) + (1 : Int32))))))))))))))))
set_option maxHeartbeats 4000000 in
set_option maxRecDepth 100000 in
theorem vl_X11_laysSets_l7 {x : Cq} {n : Nat} {Z : Zt} {a : Nat} {rr : Unit} {gg : Mem} (hM : Cm x cX11_laysSets RX11 4 none 3 Z none gg) (hz0 : zk Z a = 10) : ∀ (fu : Nat) (x1 : Int32) (x2 : Int32) (x3 : Int32) (g : Mem), f_X11_laysSets_l7 n Z a fu x1 x2 x3 g = some (rr, gg) → V x Z 0 0 7 [(0, va_rf (some a)), (1, .int x1), (2, .int x2), (3, .int x3)] [] g := by
  intro fu
  induction fu with
  | zero => intro x1 x2 x3 g h; cases h
  | succ fu ih =>
    intro x1 x2 x3 g h
    unfold f_X11_laysSets_l7 at h
    refine V_iload_n hM.c 3 dX11_laysSets_7 rfl rfl ?_
    refine V_aload_n hM.c 0 dX11_laysSets_8 rfl rfl ?_
    replace h := drf_some h
    obtain ⟨b1, e2, h⟩ := h
    refine G9_21 hM.c tw_128 hz0 e2 dX11_laysSets_9 ?_
    refine V_iload_n hM.c 1 dX11_laysSets_12 rfl rfl ?_
    replace h := grd_some h
    obtain ⟨z3, h⟩ := h
    replace h := grd_some h
    obtain ⟨c4, h⟩ := h
    refine V_iald hM.c z3 c4 dX11_laysSets_13 ?_
    refine V_icmp_ge hM.c 66 dX11_laysSets_14 (by decide) (fun c5 => ?_) (fun c5 => ?_)
    · replace h := ite_p h c5
      exact V_vretE hM h dX11_laysSets_66
    · replace h := ite_n h c5
      refine V_aload_n hM.c 0 dX11_laysSets_17 rfl rfl ?_
      refine V_iload_n hM.c 1 dX11_laysSets_18 rfl rfl ?_
      refine V_iload_n hM.c 3 dX11_laysSets_19 rfl rfl ?_
      refine V_iload_n hM.c 2 dX11_laysSets_20 rfl rfl ?_
      replace h := bnd_some h
      obtain ⟨r6, g7, e8, h⟩ := h
      refine V_callV (As := [.int x1, .int x3, .int x2]) (c := 9) (T := TX11) (N := 32) hM.c hM.a mq_X11_isAvailable mi_X11_isAvailable tw_655 (hM.d (by decide)) hM.z rfl (by omega) (zc_X11_isAvailable e8) (vm_X11_isAvailable e8) rfl (Nat.le_of_ble_eq_true rfl) dX11_laysSets_21 ?_
      refine V_if_eq hM.c 60 dX11_laysSets_24 (by decide) (fun c9 => ?_) (fun c9 => ?_)
      · replace h := ite_p h c9
        refine V_iinc (v := (x3 + 1)) (L' := [(3, .int (x3 + 1)), (0, va_rf (some a)), (1, .int x1), (2, .int x2)]) hM.c 3 dX11_laysSets_60 rfl rfl (by decide) rfl ?_
        refine V_goto hM.c 7 dX11_laysSets_63 (by decide) ?_
        refine V_sub [1, 2, 3, 0] rfl ?_
        exact ih _ _ _ _ h
      · replace h := ite_n h c9
        refine V_aload_n hM.c 0 dX11_laysSets_27 rfl rfl ?_
        replace h := drf_some h
        obtain ⟨b10, e11, h⟩ := h
        refine G9_28 hM.c tw_133 hz0 e11 dX11_laysSets_28 ?_
        refine V_aload_n hM.c 0 dX11_laysSets_31 rfl rfl ?_
        refine G9_29 hM.c tw_1170 hz0 dX11_laysSets_32 ?_
        refine V_aload_n hM.c 0 dX11_laysSets_35 rfl rfl ?_
        replace h := drf_some h
        obtain ⟨b12, e13, h⟩ := h
        refine G9_22 hM.c tw_129 hz0 e13 dX11_laysSets_36 ?_
        refine V_bipush (v := 32) hM.c dX11_laysSets_39 (by decide) ?_
        refine V_iload_n hM.c 1 dX11_laysSets_41 rfl rfl ?_
        refine V_imul hM.c dX11_laysSets_42 ?_
        refine V_iload_n hM.c 3 dX11_laysSets_43 rfl rfl ?_
        refine V_iadd hM.c dX11_laysSets_44 ?_
        replace h := grd_some h
        obtain ⟨z14, h⟩ := h
        replace h := grd_some h
        obtain ⟨c15, h⟩ := h
        refine V_lald hM.c z14 c15 dX11_laysSets_45 ?_
        replace h := bnd_some h
        obtain ⟨r16, g17, e18, h⟩ := h
        refine V_callS (As := [.long (gJ g7 b12 (((32 : Int32) * x1) + x3).toNatClampNeg)]) hM.c hM.a mq_X11_setOf mi_X11_setOf tw_659 (hM.d (by decide)) hM.z (vm_X11_setOf e18) rfl (Nat.le_of_ble_eq_true rfl) dX11_laysSets_46 ?_
        replace h := grd_some h
        obtain ⟨z19, h⟩ := h
        replace h := grd_some h
        obtain ⟨c20, h⟩ := h
        refine V_iast hM.c z19 c20 hM.a dX11_laysSets_49 ?_
        refine V_aload_n hM.c 0 dX11_laysSets_50 rfl rfl ?_
        refine V_dup hM.c dX11_laysSets_51 (rf_cat _) ?_
        refine G9_29 hM.c tw_1170 hz0 dX11_laysSets_52 ?_
        refine V_iconst (v := 1) hM.c dX11_laysSets_55 (by decide) ?_
        refine V_iadd hM.c dX11_laysSets_56 ?_
        refine P9_29 hM.c tw_1170 hz0 hM.a dX11_laysSets_57 ?_
        refine V_iinc (v := (x3 + 1)) (L' := [(3, .int (x3 + 1)), (0, va_rf (some a)), (1, .int x1), (2, .int x2)]) hM.c 3 dX11_laysSets_60 rfl rfl (by decide) rfl ?_
        refine V_goto hM.c 7 dX11_laysSets_63 (by decide) ?_
        refine V_sub [1, 2, 3, 0] rfl ?_
        exact ih _ _ _ _ h
def f_X11_laysSets (n : Nat) (Z : Zt) (a : Nat) (x1 : Int32) (x2 : Int32) (g : Mem) : Option (Unit × Mem) := grd (zk Z a = 10) (f_X11_laysSets_l7 n Z a n x1 x2 (0 : Int32) (sI g a 29 (0 : Int32)))
theorem mq_X11_laysSets : Mq yX11_laysSets cX11_laysSets 4 none 2 := ⟨tw_1174, tw_5, ⟨by decide +kernel, by decide +kernel, by decide +kernel⟩, by decide⟩
theorem mi_X11_laysSets : Cond.instanceMethod yX11_laysSets ∈ TB ∧ Cond.selects yX11_laysSets.cls yX11_laysSets yX11_laysSets ∈ TB := ⟨tw_1172, tw_1173⟩
theorem zc_X11_laysSets {n : Nat} {Z : Zt} {a : Nat} {x1 : Int32} {x2 : Int32} {g : Mem} {q : Unit × Mem} (h : f_X11_laysSets n Z a x1 x2 g = some q) : zk Z a = 10 := (grd_some h).1
set_option maxHeartbeats 4000000 in
set_option maxRecDepth 100000 in
theorem vm_X11_laysSets {n : Nat} {Z : Zt} {a : Nat} {x1 : Int32} {x2 : Int32} {g : Mem} {rr : Unit} {gg : Mem} (h : f_X11_laysSets n Z a x1 x2 g = some (rr, gg)) : VM yX11_laysSets cX11_laysSets 4 none 3 [.ref a, .int x1, .int x2] Z g none gg := by
  unfold f_X11_laysSets at h
  replace h := grd_some h
  obtain ⟨hz0, h⟩ := h
  refine VM.of (by decide +kernel) (Nat.le_of_ble_eq_true rfl) (fun x hM => ?_)
  have hM : Cm x cX11_laysSets RX11 4 none 3 Z none gg := hM
  show V x Z 0 0 0 [(0, va_rf (some a)), (1, .int x1), (2, .int x2)] [] g
  refine V_aload_n hM.c 0 dX11_laysSets_0 rfl rfl ?_
  refine V_iconst (v := 0) hM.c dX11_laysSets_1 (by decide) ?_
  refine P9_29 hM.c tw_1170 hz0 hM.a dX11_laysSets_2 ?_
  refine V_iconst (v := 0) hM.c dX11_laysSets_5 (by decide) ?_
  refine V_istore_n (i := 3) (L' := [(3, .int (0 : Int32)), (0, va_rf (some a)), (1, .int x1), (2, .int x2)]) hM.c dX11_laysSets_6 rfl (by decide) rfl ?_
  refine V_sub [1, 2, 3, 0] rfl ?_
  exact vl_X11_laysSets_l7 hM hz0  _ _ _ _ _ h
def f_X11_meetsAll_l4 (n : Nat) (Z : Zt) (a : Nat) : Nat → Int32 → Int32 → Int32 → Mem → Option (Int32 × Mem)
  | 0, _, _, _, _ => none
  | fu + 1, x1, x2, x3, g => if (gI g a 29) ≤ x3 then (grd (isz x2) (some (x2, g))) else (if x2 = 0 then (grd (isz x2) (some (x2, g))) else (drf (zf Z a 28) (fun b5 => grd (zk Z b5 = 12) (grd (inr x3 (zl Z b5)) (if ((gI g b5 x3.toNatClampNeg) &&& x1) = 0 then (f_X11_meetsAll_l4 n Z a fu x1 (0 : Int32) (x3 + 1) g) else (f_X11_meetsAll_l4 n Z a fu x1 (1 : Int32) (x3 + 1) g))))))
set_option maxHeartbeats 4000000 in
set_option maxRecDepth 100000 in
theorem vl_X11_meetsAll_l4 {x : Cq} {n : Nat} {Z : Zt} {a : Nat} {rr : Int32} {gg : Mem} (hM : Cm x cX11_meetsAll RX11 4 (some .boolean) 0 Z (some (.int rr)) gg) (hz0 : zk Z a = 10) : ∀ (fu : Nat) (x1 : Int32) (x2 : Int32) (x3 : Int32) (g : Mem), f_X11_meetsAll_l4 n Z a fu x1 x2 x3 g = some (rr, gg) → V x Z 0 0 4 [(0, va_rf (some a)), (1, .int x1), (2, .int x2), (3, .int x3)] [] g := by
  intro fu
  induction fu with
  | zero => intro x1 x2 x3 g h; cases h
  | succ fu ih =>
    intro x1 x2 x3 g h
    unfold f_X11_meetsAll_l4 at h
    refine V_iload_n hM.c 3 dX11_meetsAll_4 rfl rfl ?_
    refine V_aload_n hM.c 0 dX11_meetsAll_5 rfl rfl ?_
    refine G9_29 hM.c tw_1170 hz0 dX11_meetsAll_6 ?_
    refine V_icmp_ge hM.c 39 dX11_meetsAll_9 (by decide) (fun c1 => ?_) (fun c1 => ?_)
    · replace h := ite_p h c1
      refine V_iload_n hM.c 2 dX11_meetsAll_39 rfl rfl ?_
      replace h := grd_some h
      obtain ⟨c2, h⟩ := h
      exact V_zretE hM (isz_nar c2) h dX11_meetsAll_40
    · replace h := ite_n h c1
      refine V_iload_n hM.c 2 dX11_meetsAll_12 rfl rfl ?_
      refine V_if_eq hM.c 39 dX11_meetsAll_13 (by decide) (fun c3 => ?_) (fun c3 => ?_)
      · replace h := ite_p h c3
        refine V_iload_n hM.c 2 dX11_meetsAll_39 rfl rfl ?_
        replace h := grd_some h
        obtain ⟨c4, h⟩ := h
        exact V_zretE hM (isz_nar c4) h dX11_meetsAll_40
      · replace h := ite_n h c3
        refine V_aload_n hM.c 0 dX11_meetsAll_16 rfl rfl ?_
        replace h := drf_some h
        obtain ⟨b5, e6, h⟩ := h
        refine G9_28 hM.c tw_133 hz0 e6 dX11_meetsAll_17 ?_
        refine V_iload_n hM.c 3 dX11_meetsAll_20 rfl rfl ?_
        replace h := grd_some h
        obtain ⟨z7, h⟩ := h
        replace h := grd_some h
        obtain ⟨c8, h⟩ := h
        refine V_iald hM.c z7 c8 dX11_meetsAll_21 ?_
        refine V_iload_n hM.c 1 dX11_meetsAll_22 rfl rfl ?_
        refine V_iand hM.c dX11_meetsAll_23 ?_
        refine V_if_eq hM.c 31 dX11_meetsAll_24 (by decide) (fun c9 => ?_) (fun c9 => ?_)
        · replace h := ite_p h c9
          refine V_iconst (v := 0) hM.c dX11_meetsAll_31 (by decide) ?_
          refine V_istore_n (i := 2) (L' := [(2, .int (0 : Int32)), (0, va_rf (some a)), (1, .int x1), (3, .int x3)]) hM.c dX11_meetsAll_32 rfl (by decide) rfl ?_
          refine V_iinc (v := (x3 + 1)) (L' := [(3, .int (x3 + 1)), (2, .int (0 : Int32)), (0, va_rf (some a)), (1, .int x1)]) hM.c 3 dX11_meetsAll_33 rfl rfl (by decide) rfl ?_
          refine V_goto hM.c 4 dX11_meetsAll_36 (by decide) ?_
          refine V_sub [2, 3, 1, 0] rfl ?_
          exact ih _ _ _ _ h
        · replace h := ite_n h c9
          refine V_iconst (v := 1) hM.c dX11_meetsAll_27 (by decide) ?_
          refine V_goto hM.c 32 dX11_meetsAll_28 (by decide) ?_
          refine V_istore_n (i := 2) (L' := [(2, .int (1 : Int32)), (0, va_rf (some a)), (1, .int x1), (3, .int x3)]) hM.c dX11_meetsAll_32 rfl (by decide) rfl ?_
          refine V_iinc (v := (x3 + 1)) (L' := [(3, .int (x3 + 1)), (2, .int (1 : Int32)), (0, va_rf (some a)), (1, .int x1)]) hM.c 3 dX11_meetsAll_33 rfl rfl (by decide) rfl ?_
          refine V_goto hM.c 4 dX11_meetsAll_36 (by decide) ?_
          refine V_sub [2, 3, 1, 0] rfl ?_
          exact ih _ _ _ _ h
def f_X11_meetsAll (n : Nat) (Z : Zt) (a : Nat) (x1 : Int32) (g : Mem) : Option (Int32 × Mem) := grd (zk Z a = 10) (f_X11_meetsAll_l4 n Z a n x1 (1 : Int32) (0 : Int32) g)
theorem mq_X11_meetsAll : Mq yX11_meetsAll cX11_meetsAll 4 (some .boolean) 1 := ⟨tw_1178, tw_5, ⟨by decide +kernel, by decide +kernel, by decide +kernel⟩, by decide⟩
theorem mi_X11_meetsAll : Cond.instanceMethod yX11_meetsAll ∈ TB ∧ Cond.selects yX11_meetsAll.cls yX11_meetsAll yX11_meetsAll ∈ TB := ⟨tw_1176, tw_1177⟩
theorem zc_X11_meetsAll {n : Nat} {Z : Zt} {a : Nat} {x1 : Int32} {g : Mem} {q : Int32 × Mem} (h : f_X11_meetsAll n Z a x1 g = some q) : zk Z a = 10 := (grd_some h).1
set_option maxHeartbeats 4000000 in
set_option maxRecDepth 100000 in
theorem vm_X11_meetsAll {n : Nat} {Z : Zt} {a : Nat} {x1 : Int32} {g : Mem} {rr : Int32} {gg : Mem} (h : f_X11_meetsAll n Z a x1 g = some (rr, gg)) : VM yX11_meetsAll cX11_meetsAll 4 (some .boolean) 0 [.ref a, .int x1] Z g (some (.int rr)) gg := by
  unfold f_X11_meetsAll at h
  replace h := grd_some h
  obtain ⟨hz0, h⟩ := h
  refine VM.of (by decide +kernel) (Nat.le_of_ble_eq_true rfl) (fun x hM => ?_)
  have hM : Cm x cX11_meetsAll RX11 4 (some .boolean) 0 Z (some (.int rr)) gg := hM
  show V x Z 0 0 0 [(0, va_rf (some a)), (1, .int x1)] [] g
  refine V_iconst (v := 1) hM.c dX11_meetsAll_0 (by decide) ?_
  refine V_istore_n (i := 2) (L' := [(2, .int (1 : Int32)), (0, va_rf (some a)), (1, .int x1)]) hM.c dX11_meetsAll_1 rfl (by decide) rfl ?_
  refine V_iconst (v := 0) hM.c dX11_meetsAll_2 (by decide) ?_
  refine V_istore_n (i := 3) (L' := [(3, .int (0 : Int32)), (2, .int (1 : Int32)), (0, va_rf (some a)), (1, .int x1)]) hM.c dX11_meetsAll_3 rfl (by decide) rfl ?_
  refine V_sub [2, 3, 1, 0] rfl ?_
  exact vl_X11_meetsAll_l4 hM hz0  _ _ _ _ _ h
def f_X11_hasOne_l4 (n : Nat) (Z : Zt) (a : Nat) : Nat → Int32 → Int32 → Int32 → Mem → Option (Int32 × Mem)
  | 0, _, _, _, _ => none
  | fu + 1, x1, x2, x3, g => if (gI g a 29) ≤ x3 then (grd (isz x2) (some (x2, g))) else (if x2 = 0 then (drf (zf Z a 28) (fun b5 => grd (zk Z b5 = 12) (grd (inr x3 (zl Z b5)) (drf (zf Z a 28) (fun b9 => grd (zk Z b9 = 12) (grd (inr x3 (zl Z b9)) (if ((gI g b5 x3.toNatClampNeg) &&& x1) = (gI g b9 x3.toNatClampNeg) then (f_X11_hasOne_l4 n Z a fu x1 (1 : Int32) (x3 + 1) g) else (f_X11_hasOne_l4 n Z a fu x1 (0 : Int32) (x3 + 1) g)))))))) else (grd (isz x2) (some (x2, g))))
set_option maxHeartbeats 4000000 in
set_option maxRecDepth 100000 in
theorem vl_X11_hasOne_l4 {x : Cq} {n : Nat} {Z : Zt} {a : Nat} {rr : Int32} {gg : Mem} (hM : Cm x cX11_hasOne RX11 4 (some .boolean) 0 Z (some (.int rr)) gg) (hz0 : zk Z a = 10) : ∀ (fu : Nat) (x1 : Int32) (x2 : Int32) (x3 : Int32) (g : Mem), f_X11_hasOne_l4 n Z a fu x1 x2 x3 g = some (rr, gg) → V x Z 0 0 4 [(0, va_rf (some a)), (1, .int x1), (2, .int x2), (3, .int x3)] [] g := by
  intro fu
  induction fu with
  | zero => intro x1 x2 x3 g h; cases h
  | succ fu ih =>
    intro x1 x2 x3 g h
    unfold f_X11_hasOne_l4 at h
    refine V_iload_n hM.c 3 dX11_hasOne_4 rfl rfl ?_
    refine V_aload_n hM.c 0 dX11_hasOne_5 rfl rfl ?_
    refine G9_29 hM.c tw_1170 hz0 dX11_hasOne_6 ?_
    refine V_icmp_ge hM.c 45 dX11_hasOne_9 (by decide) (fun c1 => ?_) (fun c1 => ?_)
    · replace h := ite_p h c1
      refine V_iload_n hM.c 2 dX11_hasOne_45 rfl rfl ?_
      replace h := grd_some h
      obtain ⟨c2, h⟩ := h
      exact V_zretE hM (isz_nar c2) h dX11_hasOne_46
    · replace h := ite_n h c1
      refine V_iload_n hM.c 2 dX11_hasOne_12 rfl rfl ?_
      refine V_if_ne hM.c 45 dX11_hasOne_13 (by decide) (fun c3 => ?_) (fun c3 => ?_)
      · replace h := ite_n h c3
        refine V_iload_n hM.c 2 dX11_hasOne_45 rfl rfl ?_
        replace h := grd_some h
        obtain ⟨c4, h⟩ := h
        exact V_zretE hM (isz_nar c4) h dX11_hasOne_46
      · replace h := ite_p h c3
        refine V_aload_n hM.c 0 dX11_hasOne_16 rfl rfl ?_
        replace h := drf_some h
        obtain ⟨b5, e6, h⟩ := h
        refine G9_28 hM.c tw_133 hz0 e6 dX11_hasOne_17 ?_
        refine V_iload_n hM.c 3 dX11_hasOne_20 rfl rfl ?_
        replace h := grd_some h
        obtain ⟨z7, h⟩ := h
        replace h := grd_some h
        obtain ⟨c8, h⟩ := h
        refine V_iald hM.c z7 c8 dX11_hasOne_21 ?_
        refine V_iload_n hM.c 1 dX11_hasOne_22 rfl rfl ?_
        refine V_iand hM.c dX11_hasOne_23 ?_
        refine V_aload_n hM.c 0 dX11_hasOne_24 rfl rfl ?_
        replace h := drf_some h
        obtain ⟨b9, e10, h⟩ := h
        refine G9_28 hM.c tw_133 hz0 e10 dX11_hasOne_25 ?_
        refine V_iload_n hM.c 3 dX11_hasOne_28 rfl rfl ?_
        replace h := grd_some h
        obtain ⟨z11, h⟩ := h
        replace h := grd_some h
        obtain ⟨c12, h⟩ := h
        refine V_iald hM.c z11 c12 dX11_hasOne_29 ?_
        refine V_icmp_ne hM.c 37 dX11_hasOne_30 (by decide) (fun c13 => ?_) (fun c13 => ?_)
        · replace h := ite_n h c13
          refine V_iconst (v := 0) hM.c dX11_hasOne_37 (by decide) ?_
          refine V_istore_n (i := 2) (L' := [(2, .int (0 : Int32)), (0, va_rf (some a)), (1, .int x1), (3, .int x3)]) hM.c dX11_hasOne_38 rfl (by decide) rfl ?_
          refine V_iinc (v := (x3 + 1)) (L' := [(3, .int (x3 + 1)), (2, .int (0 : Int32)), (0, va_rf (some a)), (1, .int x1)]) hM.c 3 dX11_hasOne_39 rfl rfl (by decide) rfl ?_
          refine V_goto hM.c 4 dX11_hasOne_42 (by decide) ?_
          refine V_sub [2, 3, 1, 0] rfl ?_
          exact ih _ _ _ _ h
        · replace h := ite_p h c13
          refine V_iconst (v := 1) hM.c dX11_hasOne_33 (by decide) ?_
          refine V_goto hM.c 38 dX11_hasOne_34 (by decide) ?_
          refine V_istore_n (i := 2) (L' := [(2, .int (1 : Int32)), (0, va_rf (some a)), (1, .int x1), (3, .int x3)]) hM.c dX11_hasOne_38 rfl (by decide) rfl ?_
          refine V_iinc (v := (x3 + 1)) (L' := [(3, .int (x3 + 1)), (2, .int (1 : Int32)), (0, va_rf (some a)), (1, .int x1)]) hM.c 3 dX11_hasOne_39 rfl rfl (by decide) rfl ?_
          refine V_goto hM.c 4 dX11_hasOne_42 (by decide) ?_
          refine V_sub [2, 3, 1, 0] rfl ?_
          exact ih _ _ _ _ h
def f_X11_hasOne (n : Nat) (Z : Zt) (a : Nat) (x1 : Int32) (g : Mem) : Option (Int32 × Mem) := grd (zk Z a = 10) (f_X11_hasOne_l4 n Z a n x1 (0 : Int32) (0 : Int32) g)
theorem mq_X11_hasOne : Mq yX11_hasOne cX11_hasOne 4 (some .boolean) 1 := ⟨tw_1201, tw_5, ⟨by decide +kernel, by decide +kernel, by decide +kernel⟩, by decide⟩
theorem mi_X11_hasOne : Cond.instanceMethod yX11_hasOne ∈ TB ∧ Cond.selects yX11_hasOne.cls yX11_hasOne yX11_hasOne ∈ TB := ⟨tw_1199, tw_1200⟩
theorem zc_X11_hasOne {n : Nat} {Z : Zt} {a : Nat} {x1 : Int32} {g : Mem} {q : Int32 × Mem} (h : f_X11_hasOne n Z a x1 g = some q) : zk Z a = 10 := (grd_some h).1
set_option maxHeartbeats 4000000 in
set_option maxRecDepth 100000 in
theorem vm_X11_hasOne {n : Nat} {Z : Zt} {a : Nat} {x1 : Int32} {g : Mem} {rr : Int32} {gg : Mem} (h : f_X11_hasOne n Z a x1 g = some (rr, gg)) : VM yX11_hasOne cX11_hasOne 4 (some .boolean) 0 [.ref a, .int x1] Z g (some (.int rr)) gg := by
  unfold f_X11_hasOne at h
  replace h := grd_some h
  obtain ⟨hz0, h⟩ := h
  refine VM.of (by decide +kernel) (Nat.le_of_ble_eq_true rfl) (fun x hM => ?_)
  have hM : Cm x cX11_hasOne RX11 4 (some .boolean) 0 Z (some (.int rr)) gg := hM
  show V x Z 0 0 0 [(0, va_rf (some a)), (1, .int x1)] [] g
  refine V_iconst (v := 0) hM.c dX11_hasOne_0 (by decide) ?_
  refine V_istore_n (i := 2) (L' := [(2, .int (0 : Int32)), (0, va_rf (some a)), (1, .int x1)]) hM.c dX11_hasOne_1 rfl (by decide) rfl ?_
  refine V_iconst (v := 0) hM.c dX11_hasOne_2 (by decide) ?_
  refine V_istore_n (i := 3) (L' := [(3, .int (0 : Int32)), (2, .int (0 : Int32)), (0, va_rf (some a)), (1, .int x1)]) hM.c dX11_hasOne_3 rfl (by decide) rfl ?_
  refine V_sub [2, 3, 1, 0] rfl ?_
  exact vl_X11_hasOne_l4 hM hz0  _ _ _ _ _ h
def f_X11_smallestCut_l61 (n : Nat) (Z : Zt) (κ25 : Int32 → Int32 → Mem → Option (Int32 × Mem)) (a : Nat) (x2 : Int32) (x3 : Int32) (s0 : Int32) (g : Mem) : Option (Int32 × Mem) := if s0 = 0 then (κ25 x2 (x3 + 1) g) else (bnd (f_X11_meetsAll n Z a x3 g) (fun r22 g23 => if r22 = 0 then (κ25 x2 (x3 + 1) g23) else (κ25 x3 (x3 + 1) g23)))
set_option maxHeartbeats 4000000 in
set_option maxRecDepth 100000 in
theorem vl_X11_smallestCut_l61 {x : Cq} {n : Nat} {Z : Zt} {κ25 : Int32 → Int32 → Mem → Option (Int32 × Mem)} {a : Nat} {x2 : Int32} {x3 : Int32} {s0 : Int32} {g : Mem} {rr : Int32} {gg : Mem} (hM : Cm x cX11_smallestCut RX11 5 (some .int) 7 Z (some (.int rr)) gg) (hz0 : zk Z a = 10) (hκ25 : ∀ (y2 : Int32) (y3 : Int32) (y : Mem), κ25 y2 y3 y = some (rr, gg) → V x Z 0 0 25 [(0, va_rf (some a)), (2, .int y2), (3, .int y3)] [] y) (h : f_X11_smallestCut_l61 n Z κ25 a x2 x3 s0 g = some (rr, gg)) : V x Z 0 0 61 [(0, va_rf (some a)), (2, .int x2), (3, .int x3)] [.int s0] g := by
  unfold f_X11_smallestCut_l61 at h
  refine V_istore (L' := [(4, .int s0), (0, va_rf (some a)), (2, .int x2), (3, .int x3)]) hM.c dX11_smallestCut_61 (by decide) rfl ?_
  refine V_iload hM.c 0 dX11_smallestCut_63 rfl ?_
  refine V_if_eq hM.c 80 dX11_smallestCut_65 (by decide) (fun c21 => ?_) (fun c21 => ?_)
  · replace h := ite_p h c21
    refine V_iload_n hM.c 2 dX11_smallestCut_80 rfl rfl ?_
    refine V_istore_n (i := 2) (L' := [(2, .int x2), (4, .int s0), (0, va_rf (some a)), (3, .int x3)]) hM.c dX11_smallestCut_81 rfl (by decide) rfl ?_
    refine V_iinc (v := (x3 + 1)) (L' := [(3, .int (x3 + 1)), (2, .int x2), (4, .int s0), (0, va_rf (some a))]) hM.c 3 dX11_smallestCut_82 rfl rfl (by decide) rfl ?_
    refine V_goto hM.c 25 dX11_smallestCut_85 (by decide) ?_
    refine V_sub [3, 1, 0] rfl ?_
    exact hκ25 _ _ _ h
  · replace h := ite_n h c21
    refine V_aload_n hM.c 1 dX11_smallestCut_68 rfl rfl ?_
    refine V_iload_n hM.c 3 dX11_smallestCut_69 rfl rfl ?_
    replace h := bnd_some h
    obtain ⟨r22, g23, e24, h⟩ := h
    refine V_callV (As := [.int x3]) (c := 9) (T := TX11) (N := 32) hM.c hM.a mq_X11_meetsAll mi_X11_meetsAll tw_1175 (hM.d (by decide)) hM.z rfl (by omega) (zc_X11_meetsAll e24) (vm_X11_meetsAll e24) rfl (Nat.le_of_ble_eq_true rfl) dX11_smallestCut_70 ?_
    refine V_if_eq hM.c 80 dX11_smallestCut_73 (by decide) (fun c25 => ?_) (fun c25 => ?_)
    · replace h := ite_p h c25
      refine V_iload_n hM.c 2 dX11_smallestCut_80 rfl rfl ?_
      refine V_istore_n (i := 2) (L' := [(2, .int x2), (4, .int s0), (0, va_rf (some a)), (3, .int x3)]) hM.c dX11_smallestCut_81 rfl (by decide) rfl ?_
      refine V_iinc (v := (x3 + 1)) (L' := [(3, .int (x3 + 1)), (2, .int x2), (4, .int s0), (0, va_rf (some a))]) hM.c 3 dX11_smallestCut_82 rfl rfl (by decide) rfl ?_
      refine V_goto hM.c 25 dX11_smallestCut_85 (by decide) ?_
      refine V_sub [3, 1, 0] rfl ?_
      exact hκ25 _ _ _ h
    · replace h := ite_n h c25
      refine V_iload_n hM.c 3 dX11_smallestCut_76 rfl rfl ?_
      refine V_goto hM.c 81 dX11_smallestCut_77 (by decide) ?_
      refine V_istore_n (i := 2) (L' := [(2, .int x3), (4, .int s0), (0, va_rf (some a)), (3, .int x3)]) hM.c dX11_smallestCut_81 rfl (by decide) rfl ?_
      refine V_iinc (v := (x3 + 1)) (L' := [(3, .int (x3 + 1)), (2, .int x3), (4, .int s0), (0, va_rf (some a))]) hM.c 3 dX11_smallestCut_82 rfl rfl (by decide) rfl ?_
      refine V_goto hM.c 25 dX11_smallestCut_85 (by decide) ?_
      refine V_sub [3, 1, 0] rfl ?_
      exact hκ25 _ _ _ h
def f_X11_smallestCut_l25 (n : Nat) (Z : Zt) (a : Nat) : Nat → Int32 → Int32 → Mem → Option (Int32 × Mem)
  | 0, _, _, _ => none
  | fu + 1, x2, x3, g => if (65536 : Int32) ≤ x3 then (some (x2, g)) else (if (gI g a 29) ≤ 0 then (some (x2, g)) else (if x2 = (-6 : Int32) then (f_X11_smallestCut_l61 n Z (fun y0 y1 y => f_X11_smallestCut_l25 n Z a fu y0 y1 y) a x2 x3 (1 : Int32) g) else (bnd (f_X11_ones n Z x3 g) (fun r14 g15 => bnd (f_X11_ones n Z x2 g15) (fun r17 g18 => if r17 ≤ r14 then (f_X11_smallestCut_l61 n Z (fun y0 y1 y => f_X11_smallestCut_l25 n Z a fu y0 y1 y) a x2 x3 (0 : Int32) g18) else (f_X11_smallestCut_l61 n Z (fun y0 y1 y => f_X11_smallestCut_l25 n Z a fu y0 y1 y) a x2 x3 (1 : Int32) g18))))))
set_option maxHeartbeats 4000000 in
set_option maxRecDepth 100000 in
theorem vl_X11_smallestCut_l25 {x : Cq} {n : Nat} {Z : Zt} {a : Nat} {rr : Int32} {gg : Mem} (hM : Cm x cX11_smallestCut RX11 5 (some .int) 7 Z (some (.int rr)) gg) (hz0 : zk Z a = 10) : ∀ (fu : Nat) (x2 : Int32) (x3 : Int32) (g : Mem), f_X11_smallestCut_l25 n Z a fu x2 x3 g = some (rr, gg) → V x Z 0 0 25 [(0, va_rf (some a)), (2, .int x2), (3, .int x3)] [] g := by
  intro fu
  induction fu with
  | zero => intro x2 x3 g h; cases h
  | succ fu ih =>
    intro x2 x3 g h
    unfold f_X11_smallestCut_l25 at h
    refine V_iload_n hM.c 2 dX11_smallestCut_25 rfl rfl ?_
    refine V_ldcw (v := 65536) hM.c tw_1169 dX11_smallestCut_26 ?_
    refine V_icmp_ge hM.c 88 dX11_smallestCut_29 (by decide) (fun c11 => ?_) (fun c11 => ?_)
    · replace h := ite_p h c11
      refine V_iload_n hM.c 1 dX11_smallestCut_88 rfl rfl ?_
      exact V_iretE hM h dX11_smallestCut_89
    · replace h := ite_n h c11
      refine V_aload_n hM.c 0 dX11_smallestCut_32 rfl rfl ?_
      refine G9_29 hM.c tw_1170 hz0 dX11_smallestCut_33 ?_
      refine V_if_le hM.c 88 dX11_smallestCut_36 (by decide) (fun c12 => ?_) (fun c12 => ?_)
      · replace h := ite_p h c12
        refine V_iload_n hM.c 1 dX11_smallestCut_88 rfl rfl ?_
        exact V_iretE hM h dX11_smallestCut_89
      · replace h := ite_n h c12
        refine V_iload_n hM.c 1 dX11_smallestCut_39 rfl rfl ?_
        refine V_bipush (v := -6) hM.c dX11_smallestCut_40 (by decide) ?_
        refine V_icmp_eq hM.c 56 dX11_smallestCut_42 (by decide) (fun c13 => ?_) (fun c13 => ?_)
        · replace h := ite_p h c13
          refine V_iconst (v := 1) hM.c dX11_smallestCut_56 (by decide) ?_
          refine V_goto hM.c 61 dX11_smallestCut_57 (by decide) ?_
          refine V_sub [0, 1, 2] rfl ?_
          exact vl_X11_smallestCut_l61 hM hz0 ih h
        · replace h := ite_n h c13
          refine V_iload_n hM.c 2 dX11_smallestCut_45 rfl rfl ?_
          replace h := bnd_some h
          obtain ⟨r14, g15, e16, h⟩ := h
          refine V_callS (As := [.int x3]) hM.c hM.a mq_X11_ones mi_X11_ones tw_563 (hM.d (by decide)) hM.z (vm_X11_ones e16) rfl (Nat.le_of_ble_eq_true rfl) dX11_smallestCut_46 ?_
          refine V_iload_n hM.c 1 dX11_smallestCut_49 rfl rfl ?_
          replace h := bnd_some h
          obtain ⟨r17, g18, e19, h⟩ := h
          refine V_callS (As := [.int x2]) hM.c hM.a mq_X11_ones mi_X11_ones tw_563 (hM.d (by decide)) hM.z (vm_X11_ones e19) rfl (Nat.le_of_ble_eq_true rfl) dX11_smallestCut_50 ?_
          refine V_icmp_ge hM.c 60 dX11_smallestCut_53 (by decide) (fun c20 => ?_) (fun c20 => ?_)
          · replace h := ite_p h c20
            refine V_iconst (v := 0) hM.c dX11_smallestCut_60 (by decide) ?_
            refine V_sub [0, 1, 2] rfl ?_
            exact vl_X11_smallestCut_l61 hM hz0 ih h
          · replace h := ite_n h c20
            refine V_iconst (v := 1) hM.c dX11_smallestCut_56 (by decide) ?_
            refine V_goto hM.c 61 dX11_smallestCut_57 (by decide) ?_
            refine V_sub [0, 1, 2] rfl ?_
            exact vl_X11_smallestCut_l61 hM hz0 ih h
def f_X11_smallestCut (n : Nat) (Z : Zt) (a : Nat) (x1 : Int32) (g : Mem) : Option (Int32 × Mem) := grd (zk Z a = 10) (bnd (f_X11_isRow n Z a x1 g) (fun r1 g2 => if r1 = 0 then (some ((-1 : Int32), g2)) else (bnd (f_X11_mask n Z a (1 : Int32) g2) (fun r5 g6 => bnd (f_X11_laysSets n Z a x1 r5 g6) (fun r8 g9 => f_X11_smallestCut_l25 n Z a n (-6 : Int32) (1 : Int32) g9)))))
theorem mq_X11_smallestCut : Mq yX11_smallestCut cX11_smallestCut 5 (some .int) 1 := ⟨tw_1168, tw_5, ⟨by decide +kernel, by decide +kernel, by decide +kernel⟩, by decide⟩
theorem mi_X11_smallestCut : Cond.instanceMethod yX11_smallestCut ∈ TB ∧ Cond.selects yX11_smallestCut.cls yX11_smallestCut yX11_smallestCut ∈ TB := ⟨tw_1166, tw_1167⟩
theorem zc_X11_smallestCut {n : Nat} {Z : Zt} {a : Nat} {x1 : Int32} {g : Mem} {q : Int32 × Mem} (h : f_X11_smallestCut n Z a x1 g = some q) : zk Z a = 10 := (grd_some h).1
set_option maxHeartbeats 4000000 in
set_option maxRecDepth 100000 in
theorem vm_X11_smallestCut {n : Nat} {Z : Zt} {a : Nat} {x1 : Int32} {g : Mem} {rr : Int32} {gg : Mem} (h : f_X11_smallestCut n Z a x1 g = some (rr, gg)) : VM yX11_smallestCut cX11_smallestCut 5 (some .int) 7 [.ref a, .int x1] Z g (some (.int rr)) gg := by
  unfold f_X11_smallestCut at h
  replace h := grd_some h
  obtain ⟨hz0, h⟩ := h
  refine VM.of (by decide +kernel) (Nat.le_of_ble_eq_true rfl) (fun x hM => ?_)
  have hM : Cm x cX11_smallestCut RX11 5 (some .int) 7 Z (some (.int rr)) gg := hM
  show V x Z 0 0 0 [(0, va_rf (some a)), (1, .int x1)] [] g
  refine V_aload_n hM.c 0 dX11_smallestCut_0 rfl rfl ?_
  refine V_iload_n hM.c 1 dX11_smallestCut_1 rfl rfl ?_
  replace h := bnd_some h
  obtain ⟨r1, g2, e3, h⟩ := h
  refine V_callV (As := [.int x1]) (c := 9) (T := TX11) (N := 32) hM.c hM.a mq_X11_isRow mi_X11_isRow tw_922 (hM.d (by decide)) hM.z rfl (by omega) (zc_X11_isRow e3) (vm_X11_isRow e3) rfl (Nat.le_of_ble_eq_true rfl) dX11_smallestCut_2 ?_
  refine V_if_ne hM.c 10 dX11_smallestCut_5 (by decide) (fun c4 => ?_) (fun c4 => ?_)
  · replace h := ite_n h c4
    refine V_aload_n hM.c 0 dX11_smallestCut_10 rfl rfl ?_
    refine V_iload_n hM.c 1 dX11_smallestCut_11 rfl rfl ?_
    refine V_aload_n hM.c 0 dX11_smallestCut_12 rfl rfl ?_
    refine V_iconst (v := 1) hM.c dX11_smallestCut_13 (by decide) ?_
    replace h := bnd_some h
    obtain ⟨r5, g6, e7, h⟩ := h
    refine V_callV (As := [.int (1 : Int32)]) (c := 9) (T := TX11) (N := 32) hM.c hM.a mq_X11_mask mi_X11_mask tw_559 (hM.d (by decide)) hM.z rfl (by omega) (zc_X11_mask e7) (vm_X11_mask e7) rfl (Nat.le_of_ble_eq_true rfl) dX11_smallestCut_14 ?_
    replace h := bnd_some h
    obtain ⟨r8, g9, e10, h⟩ := h
    refine V_callV (As := [.int x1, .int r5]) (c := 9) (T := TX11) (N := 32) hM.c hM.a mq_X11_laysSets mi_X11_laysSets tw_1171 (hM.d (by decide)) hM.z rfl (by omega) (zc_X11_laysSets e10) (vm_X11_laysSets e10) rfl (Nat.le_of_ble_eq_true rfl) dX11_smallestCut_17 ?_
    refine V_bipush (v := -6) hM.c dX11_smallestCut_20 (by decide) ?_
    refine V_istore_n (i := 2) (L' := [(2, .int (-6 : Int32)), (0, va_rf (some a)), (1, .int x1)]) hM.c dX11_smallestCut_22 rfl (by decide) rfl ?_
    refine V_iconst (v := 1) hM.c dX11_smallestCut_23 (by decide) ?_
    refine V_istore_n (i := 3) (L' := [(3, .int (1 : Int32)), (2, .int (-6 : Int32)), (0, va_rf (some a)), (1, .int x1)]) hM.c dX11_smallestCut_24 rfl (by decide) rfl ?_
    refine V_sub [2, 1, 0] rfl ?_
    exact vl_X11_smallestCut_l25 hM hz0  _ _ _ _ h
  · replace h := ite_p h c4
    refine V_iconst (v := -1) hM.c dX11_smallestCut_8 (by decide) ?_
    exact V_iretE hM h dX11_smallestCut_9
def f_X11_worlds_l58 (n : Nat) (Z : Zt) (κ27 : Int32 → Int32 → Int32 → Mem → Option (Int32 × Mem)) (a : Nat) (x2 : Int32) (x4 : Int32) (s0 : Int32) (g : Mem) : Option (Int32 × Mem) := κ27 x2 (s0 + (0 : Int32)) (x4 + 1) g
set_option maxHeartbeats 4000000 in
set_option maxRecDepth 100000 in
theorem vl_X11_worlds_l58 {x : Cq} {n : Nat} {Z : Zt} {κ27 : Int32 → Int32 → Int32 → Mem → Option (Int32 × Mem)} {a : Nat} {x2 : Int32} {x4 : Int32} {s0 : Int32} {g : Mem} {rr : Int32} {gg : Mem} (hM : Cm x cX11_worlds RX11 5 (some .int) 7 Z (some (.int rr)) gg) (hz0 : zk Z a = 10) (hκ27 : ∀ (y2 : Int32) (y3 : Int32) (y4 : Int32) (y : Mem), κ27 y2 y3 y4 y = some (rr, gg) → V x Z 0 0 27 [(0, va_rf (some a)), (2, .int y2), (3, .int y3), (4, .int y4)] [] y) (h : f_X11_worlds_l58 n Z κ27 a x2 x4 s0 g = some (rr, gg)) : V x Z 0 0 58 [(0, va_rf (some a)), (2, .int x2), (4, .int x4)] [.int s0] g := by
  unfold f_X11_worlds_l58 at h
  refine V_iconst (v := 0) hM.c dX11_worlds_58 (by decide) ?_
  refine V_iadd hM.c dX11_worlds_59 ?_
  refine V_istore_n (i := 3) (L' := [(3, .int (s0 + (0 : Int32))), (0, va_rf (some a)), (2, .int x2), (4, .int x4)]) hM.c dX11_worlds_60 rfl (by decide) rfl ?_
  refine V_iinc (v := (x4 + 1)) (L' := [(4, .int (x4 + 1)), (3, .int (s0 + (0 : Int32))), (0, va_rf (some a)), (2, .int x2)]) hM.c 3 dX11_worlds_61 rfl rfl (by decide) rfl ?_
  refine V_goto hM.c 27 dX11_worlds_64 (by decide) ?_
  refine V_sub [2, 3, 1, 0] rfl ?_
  exact hκ27 _ _ _ _ h
def f_X11_worlds_l27 (n : Nat) (Z : Zt) (a : Nat) : Nat → Int32 → Int32 → Int32 → Mem → Option (Int32 × Mem)
  | 0, _, _, _, _ => none
  | fu + 1, x2, x3, x4, g => if (65536 : Int32) ≤ x4 then (some (x3, g)) else (if (x4 &&& x2) = x4 then (bnd (f_X11_hasOne n Z a x4 g) (fun r13 g14 => if r13 = 0 then (f_X11_worlds_l58 n Z (fun y0 y1 y2 y => f_X11_worlds_l27 n Z a fu y0 y1 y2 y) a x2 x4 x3 g14) else (f_X11_worlds_l27 n Z a fu x2 (x3 + (1 : Int32)) (x4 + 1) g14))) else (f_X11_worlds_l58 n Z (fun y0 y1 y2 y => f_X11_worlds_l27 n Z a fu y0 y1 y2 y) a x2 x4 x3 g))
set_option maxHeartbeats 4000000 in
set_option maxRecDepth 100000 in
theorem vl_X11_worlds_l27 {x : Cq} {n : Nat} {Z : Zt} {a : Nat} {rr : Int32} {gg : Mem} (hM : Cm x cX11_worlds RX11 5 (some .int) 7 Z (some (.int rr)) gg) (hz0 : zk Z a = 10) : ∀ (fu : Nat) (x2 : Int32) (x3 : Int32) (x4 : Int32) (g : Mem), f_X11_worlds_l27 n Z a fu x2 x3 x4 g = some (rr, gg) → V x Z 0 0 27 [(0, va_rf (some a)), (2, .int x2), (3, .int x3), (4, .int x4)] [] g := by
  intro fu
  induction fu with
  | zero => intro x2 x3 x4 g h; cases h
  | succ fu ih =>
    intro x2 x3 x4 g h
    unfold f_X11_worlds_l27 at h
    refine V_iload hM.c 3 dX11_worlds_27 rfl ?_
    refine V_ldcw (v := 65536) hM.c tw_1169 dX11_worlds_29 ?_
    refine V_icmp_ge hM.c 67 dX11_worlds_32 (by decide) (fun c11 => ?_) (fun c11 => ?_)
    · replace h := ite_p h c11
      refine V_iload_n hM.c 2 dX11_worlds_67 rfl rfl ?_
      exact V_iretE hM h dX11_worlds_68
    · replace h := ite_n h c11
      refine V_iload_n hM.c 2 dX11_worlds_35 rfl rfl ?_
      refine V_iload hM.c 3 dX11_worlds_36 rfl ?_
      refine V_iload_n hM.c 1 dX11_worlds_38 rfl rfl ?_
      refine V_iand hM.c dX11_worlds_39 ?_
      refine V_iload hM.c 3 dX11_worlds_40 rfl ?_
      refine V_icmp_ne hM.c 58 dX11_worlds_42 (by decide) (fun c12 => ?_) (fun c12 => ?_)
      · replace h := ite_n h c12
        refine V_sub [0, 1, 3] rfl ?_
        exact vl_X11_worlds_l58 hM hz0 ih h
      · replace h := ite_p h c12
        refine V_aload_n hM.c 0 dX11_worlds_45 rfl rfl ?_
        refine V_iload hM.c 3 dX11_worlds_46 rfl ?_
        replace h := bnd_some h
        obtain ⟨r13, g14, e15, h⟩ := h
        refine V_callV (As := [.int x4]) (c := 9) (T := TX11) (N := 32) hM.c hM.a mq_X11_hasOne mi_X11_hasOne tw_1198 (hM.d (by decide)) hM.z rfl (by omega) (zc_X11_hasOne e15) (vm_X11_hasOne e15) rfl (Nat.le_of_ble_eq_true rfl) dX11_worlds_48 ?_
        refine V_if_eq hM.c 58 dX11_worlds_51 (by decide) (fun c16 => ?_) (fun c16 => ?_)
        · replace h := ite_p h c16
          refine V_sub [0, 1, 3] rfl ?_
          exact vl_X11_worlds_l58 hM hz0 ih h
        · replace h := ite_n h c16
          refine V_iconst (v := 1) hM.c dX11_worlds_54 (by decide) ?_
          refine V_goto hM.c 59 dX11_worlds_55 (by decide) ?_
          refine V_iadd hM.c dX11_worlds_59 ?_
          refine V_istore_n (i := 3) (L' := [(3, .int (x3 + (1 : Int32))), (0, va_rf (some a)), (2, .int x2), (4, .int x4)]) hM.c dX11_worlds_60 rfl (by decide) rfl ?_
          refine V_iinc (v := (x4 + 1)) (L' := [(4, .int (x4 + 1)), (3, .int (x3 + (1 : Int32))), (0, va_rf (some a)), (2, .int x2)]) hM.c 3 dX11_worlds_61 rfl rfl (by decide) rfl ?_
          refine V_goto hM.c 27 dX11_worlds_64 (by decide) ?_
          refine V_sub [2, 3, 1, 0] rfl ?_
          exact ih _ _ _ _ h
def f_X11_worlds (n : Nat) (Z : Zt) (a : Nat) (x1 : Int32) (g : Mem) : Option (Int32 × Mem) := grd (zk Z a = 10) (bnd (f_X11_isRow n Z a x1 g) (fun r1 g2 => if r1 = 0 then (some ((-1 : Int32), g2)) else (bnd (f_X11_laysSets n Z a x1 (0 : Int32) g2) (fun r5 g6 => bnd (f_X11_tagsOf n Z a x1 g6) (fun r8 g9 => f_X11_worlds_l27 n Z a n r8 (0 : Int32) (1 : Int32) g9)))))
theorem mq_X11_worlds : Mq yX11_worlds cX11_worlds 5 (some .int) 1 := ⟨tw_1197, tw_5, ⟨by decide +kernel, by decide +kernel, by decide +kernel⟩, by decide⟩
theorem mi_X11_worlds : Cond.instanceMethod yX11_worlds ∈ TB ∧ Cond.selects yX11_worlds.cls yX11_worlds yX11_worlds ∈ TB := ⟨tw_1195, tw_1196⟩
theorem zc_X11_worlds {n : Nat} {Z : Zt} {a : Nat} {x1 : Int32} {g : Mem} {q : Int32 × Mem} (h : f_X11_worlds n Z a x1 g = some q) : zk Z a = 10 := (grd_some h).1
set_option maxHeartbeats 4000000 in
set_option maxRecDepth 100000 in
theorem vm_X11_worlds {n : Nat} {Z : Zt} {a : Nat} {x1 : Int32} {g : Mem} {rr : Int32} {gg : Mem} (h : f_X11_worlds n Z a x1 g = some (rr, gg)) : VM yX11_worlds cX11_worlds 5 (some .int) 7 [.ref a, .int x1] Z g (some (.int rr)) gg := by
  unfold f_X11_worlds at h
  replace h := grd_some h
  obtain ⟨hz0, h⟩ := h
  refine VM.of (by decide +kernel) (Nat.le_of_ble_eq_true rfl) (fun x hM => ?_)
  have hM : Cm x cX11_worlds RX11 5 (some .int) 7 Z (some (.int rr)) gg := hM
  show V x Z 0 0 0 [(0, va_rf (some a)), (1, .int x1)] [] g
  refine V_aload_n hM.c 0 dX11_worlds_0 rfl rfl ?_
  refine V_iload_n hM.c 1 dX11_worlds_1 rfl rfl ?_
  replace h := bnd_some h
  obtain ⟨r1, g2, e3, h⟩ := h
  refine V_callV (As := [.int x1]) (c := 9) (T := TX11) (N := 32) hM.c hM.a mq_X11_isRow mi_X11_isRow tw_922 (hM.d (by decide)) hM.z rfl (by omega) (zc_X11_isRow e3) (vm_X11_isRow e3) rfl (Nat.le_of_ble_eq_true rfl) dX11_worlds_2 ?_
  refine V_if_ne hM.c 10 dX11_worlds_5 (by decide) (fun c4 => ?_) (fun c4 => ?_)
  · replace h := ite_n h c4
    refine V_aload_n hM.c 0 dX11_worlds_10 rfl rfl ?_
    refine V_iload_n hM.c 1 dX11_worlds_11 rfl rfl ?_
    refine V_iconst (v := 0) hM.c dX11_worlds_12 (by decide) ?_
    replace h := bnd_some h
    obtain ⟨r5, g6, e7, h⟩ := h
    refine V_callV (As := [.int x1, .int (0 : Int32)]) (c := 9) (T := TX11) (N := 32) hM.c hM.a mq_X11_laysSets mi_X11_laysSets tw_1171 (hM.d (by decide)) hM.z rfl (by omega) (zc_X11_laysSets e7) (vm_X11_laysSets e7) rfl (Nat.le_of_ble_eq_true rfl) dX11_worlds_13 ?_
    refine V_aload_n hM.c 0 dX11_worlds_16 rfl rfl ?_
    refine V_iload_n hM.c 1 dX11_worlds_17 rfl rfl ?_
    replace h := bnd_some h
    obtain ⟨r8, g9, e10, h⟩ := h
    refine V_callV (As := [.int x1]) (c := 9) (T := TX11) (N := 32) hM.c hM.a mq_X11_tagsOf mi_X11_tagsOf tw_1028 (hM.d (by decide)) hM.z rfl (by omega) (zc_X11_tagsOf e10) (vm_X11_tagsOf e10) rfl (Nat.le_of_ble_eq_true rfl) dX11_worlds_18 ?_
    refine V_istore_n (i := 2) (L' := [(2, .int r8), (0, va_rf (some a)), (1, .int x1)]) hM.c dX11_worlds_21 rfl (by decide) rfl ?_
    refine V_iconst (v := 0) hM.c dX11_worlds_22 (by decide) ?_
    refine V_istore_n (i := 3) (L' := [(3, .int (0 : Int32)), (2, .int r8), (0, va_rf (some a)), (1, .int x1)]) hM.c dX11_worlds_23 rfl (by decide) rfl ?_
    refine V_iconst (v := 1) hM.c dX11_worlds_24 (by decide) ?_
    refine V_istore (L' := [(4, .int (1 : Int32)), (3, .int (0 : Int32)), (2, .int r8), (0, va_rf (some a)), (1, .int x1)]) hM.c dX11_worlds_25 (by decide) rfl ?_
    refine V_sub [3, 2, 1, 0] rfl ?_
    exact vl_X11_worlds_l27 hM hz0  _ _ _ _ _ h
  · replace h := ite_p h c4
    refine V_iconst (v := -1) hM.c dX11_worlds_8 (by decide) ?_
    exact V_iretE hM h dX11_worlds_9
def f_X11_lostIf (n : Nat) (Z : Zt) (a : Nat) (x1 : Int32) (g : Mem) : Option (Int32 × Mem) := grd (zk Z a = 10) (if x1 < 0 then (some ((-2 : Int32), g)) else (bnd (f_X11_mask n Z a (0 : Int32) g) (fun r2 g3 => if (x1 &&& r2) = x1 then (bnd (f_X11_mask n Z a (1 : Int32) g3) (fun r6 g7 => bnd (f_X11_presentRows n Z a r6 g7) (fun r9 g10 => bnd (f_X11_presentRows n Z a (r6 ||| x1) g10) (fun r12 g13 => some ((r9 - r12), g13))))) else (some ((-2 : Int32), g3)))))
theorem mq_X11_lostIf : Mq yX11_lostIf cX11_lostIf 3 (some .int) 1 := ⟨tw_1209, tw_5, ⟨by decide +kernel, by decide +kernel, by decide +kernel⟩, by decide⟩
theorem mi_X11_lostIf : Cond.instanceMethod yX11_lostIf ∈ TB ∧ Cond.selects yX11_lostIf.cls yX11_lostIf yX11_lostIf ∈ TB := ⟨tw_1207, tw_1208⟩
theorem zc_X11_lostIf {n : Nat} {Z : Zt} {a : Nat} {x1 : Int32} {g : Mem} {q : Int32 × Mem} (h : f_X11_lostIf n Z a x1 g = some q) : zk Z a = 10 := (grd_some h).1
set_option maxHeartbeats 4000000 in
set_option maxRecDepth 100000 in
theorem vm_X11_lostIf {n : Nat} {Z : Zt} {a : Nat} {x1 : Int32} {g : Mem} {rr : Int32} {gg : Mem} (h : f_X11_lostIf n Z a x1 g = some (rr, gg)) : VM yX11_lostIf cX11_lostIf 3 (some .int) 7 [.ref a, .int x1] Z g (some (.int rr)) gg := by
  unfold f_X11_lostIf at h
  replace h := grd_some h
  obtain ⟨hz0, h⟩ := h
  refine VM.of (by decide +kernel) (Nat.le_of_ble_eq_true rfl) (fun x hM => ?_)
  have hM : Cm x cX11_lostIf RX11 3 (some .int) 7 Z (some (.int rr)) gg := hM
  show V x Z 0 0 0 [(0, va_rf (some a)), (1, .int x1)] [] g
  refine V_iload_n hM.c 1 dX11_lostIf_0 rfl rfl ?_
  refine V_if_lt hM.c 15 dX11_lostIf_1 (by decide) (fun c1 => ?_) (fun c1 => ?_)
  · replace h := ite_p h c1
    refine V_bipush (v := -2) hM.c dX11_lostIf_15 (by decide) ?_
    exact V_iretE hM h dX11_lostIf_17
  · replace h := ite_n h c1
    refine V_iload_n hM.c 1 dX11_lostIf_4 rfl rfl ?_
    refine V_aload_n hM.c 0 dX11_lostIf_5 rfl rfl ?_
    refine V_iconst (v := 0) hM.c dX11_lostIf_6 (by decide) ?_
    replace h := bnd_some h
    obtain ⟨r2, g3, e4, h⟩ := h
    refine V_callV (As := [.int (0 : Int32)]) (c := 9) (T := TX11) (N := 32) hM.c hM.a mq_X11_mask mi_X11_mask tw_559 (hM.d (by decide)) hM.z rfl (by omega) (zc_X11_mask e4) (vm_X11_mask e4) rfl (Nat.le_of_ble_eq_true rfl) dX11_lostIf_7 ?_
    refine V_iand hM.c dX11_lostIf_10 ?_
    refine V_iload_n hM.c 1 dX11_lostIf_11 rfl rfl ?_
    refine V_icmp_eq hM.c 18 dX11_lostIf_12 (by decide) (fun c5 => ?_) (fun c5 => ?_)
    · replace h := ite_p h c5
      refine V_aload_n hM.c 0 dX11_lostIf_18 rfl rfl ?_
      refine V_iconst (v := 1) hM.c dX11_lostIf_19 (by decide) ?_
      replace h := bnd_some h
      obtain ⟨r6, g7, e8, h⟩ := h
      refine V_callV (As := [.int (1 : Int32)]) (c := 9) (T := TX11) (N := 32) hM.c hM.a mq_X11_mask mi_X11_mask tw_559 (hM.d (by decide)) hM.z rfl (by omega) (zc_X11_mask e8) (vm_X11_mask e8) rfl (Nat.le_of_ble_eq_true rfl) dX11_lostIf_20 ?_
      refine V_istore_n (i := 2) (L' := [(2, .int r6), (0, va_rf (some a)), (1, .int x1)]) hM.c dX11_lostIf_23 rfl (by decide) rfl ?_
      refine V_aload_n hM.c 1 dX11_lostIf_24 rfl rfl ?_
      refine V_iload_n hM.c 0 dX11_lostIf_25 rfl rfl ?_
      replace h := bnd_some h
      obtain ⟨r9, g10, e11, h⟩ := h
      refine V_callV (As := [.int r6]) (c := 9) (T := TX11) (N := 32) hM.c hM.a mq_X11_presentRows mi_X11_presentRows tw_643 (hM.d (by decide)) hM.z rfl (by omega) (zc_X11_presentRows e11) (vm_X11_presentRows e11) rfl (Nat.le_of_ble_eq_true rfl) dX11_lostIf_26 ?_
      refine V_aload_n hM.c 1 dX11_lostIf_29 rfl rfl ?_
      refine V_iload_n hM.c 0 dX11_lostIf_30 rfl rfl ?_
      refine V_iload_n hM.c 2 dX11_lostIf_31 rfl rfl ?_
      refine V_ior hM.c dX11_lostIf_32 ?_
      replace h := bnd_some h
      obtain ⟨r12, g13, e14, h⟩ := h
      refine V_callV (As := [.int (r6 ||| x1)]) (c := 9) (T := TX11) (N := 32) hM.c hM.a mq_X11_presentRows mi_X11_presentRows tw_643 (hM.d (by decide)) hM.z rfl (by omega) (zc_X11_presentRows e14) (vm_X11_presentRows e14) rfl (Nat.le_of_ble_eq_true rfl) dX11_lostIf_33 ?_
      refine V_isub hM.c dX11_lostIf_36 ?_
      exact V_iretE hM h dX11_lostIf_37
    · replace h := ite_n h c5
      refine V_bipush (v := -2) hM.c dX11_lostIf_15 (by decide) ?_
      exact V_iretE hM h dX11_lostIf_17
def f_X11_prints (n : Nat) (Z : Zt) (a : Nat) (x1 : Int32) (g : Mem) : Option (Unit × Mem) := grd (zk Z a = 10) (drf (zf Z a 30) (fun b1 => grd (zk Z b1 = 12) (grd (inr (gI g a 31) (zl Z b1)) (some ((), (sI (sI g b1 (gI g a 31).toNatClampNeg x1) a 31 ((gI (sI g b1 (gI g a 31).toNatClampNeg x1) a 31) + (1 : Int32))))))))
theorem mq_X11_prints : Mq yX11_prints cX11_prints 2 none 1 := ⟨tw_1232, tw_5, ⟨by decide +kernel, by decide +kernel, by decide +kernel⟩, by decide⟩
theorem mi_X11_prints : Cond.instanceMethod yX11_prints ∈ TB ∧ Cond.selects yX11_prints.cls yX11_prints yX11_prints ∈ TB := ⟨tw_1230, tw_1231⟩
theorem zc_X11_prints {n : Nat} {Z : Zt} {a : Nat} {x1 : Int32} {g : Mem} {q : Unit × Mem} (h : f_X11_prints n Z a x1 g = some q) : zk Z a = 10 := (grd_some h).1
set_option maxHeartbeats 4000000 in
set_option maxRecDepth 100000 in
theorem vm_X11_prints {n : Nat} {Z : Zt} {a : Nat} {x1 : Int32} {g : Mem} {rr : Unit} {gg : Mem} (h : f_X11_prints n Z a x1 g = some (rr, gg)) : VM yX11_prints cX11_prints 2 none 0 [.ref a, .int x1] Z g none gg := by
  unfold f_X11_prints at h
  replace h := grd_some h
  obtain ⟨hz0, h⟩ := h
  refine VM.of (by decide +kernel) (Nat.le_of_ble_eq_true rfl) (fun x hM => ?_)
  have hM : Cm x cX11_prints RX11 2 none 0 Z none gg := hM
  show V x Z 0 0 0 [(0, va_rf (some a)), (1, .int x1)] [] g
  refine V_aload_n hM.c 0 dX11_prints_0 rfl rfl ?_
  replace h := drf_some h
  obtain ⟨b1, e2, h⟩ := h
  refine G9_30 hM.c tw_134 hz0 e2 dX11_prints_1 ?_
  refine V_aload_n hM.c 0 dX11_prints_4 rfl rfl ?_
  refine G9_31 hM.c tw_1228 hz0 dX11_prints_5 ?_
  refine V_iload_n hM.c 1 dX11_prints_8 rfl rfl ?_
  replace h := grd_some h
  obtain ⟨z3, h⟩ := h
  replace h := grd_some h
  obtain ⟨c4, h⟩ := h
  refine V_iast hM.c z3 c4 hM.a dX11_prints_9 ?_
  refine V_aload_n hM.c 0 dX11_prints_10 rfl rfl ?_
  refine V_dup hM.c dX11_prints_11 (rf_cat _) ?_
  refine G9_31 hM.c tw_1228 hz0 dX11_prints_12 ?_
  refine V_iconst (v := 1) hM.c dX11_prints_15 (by decide) ?_
  refine V_iadd hM.c dX11_prints_16 ?_
  refine P9_31 hM.c tw_1228 hz0 hM.a dX11_prints_17 ?_
  exact V_vretE hM h dX11_prints_20
def f_X11_printsNumber_l21 (n : Nat) (Z : Zt) (a : Nat) : Nat → Int64 → Int64 → Mem → Option (Unit × Mem)
  | 0, _, _, _ => none
  | fu + 1, x1, x3, g => if (lg_cmp x3 (0 : Int64)) ≤ 0 then (some ((), g)) else (grd (¬ x3 = 0) (bnd (f_X11_prints n Z a ((48 : Int32) + (((x1 / x3) - (x1 / x3) / (10 : Int64) * (10 : Int64)).toInt32)) g) (fun r5 g6 => f_X11_printsNumber_l21 n Z a fu x1 (x3 / (10 : Int64)) g6)))
set_option maxHeartbeats 4000000 in
set_option maxRecDepth 100000 in
theorem vl_X11_printsNumber_l21 {x : Cq} {n : Nat} {Z : Zt} {a : Nat} {rr : Unit} {gg : Mem} (hM : Cm x cX11_printsNumber RX11 5 none 1 Z none gg) (hz0 : zk Z a = 10) : ∀ (fu : Nat) (x1 : Int64) (x3 : Int64) (g : Mem), f_X11_printsNumber_l21 n Z a fu x1 x3 g = some (rr, gg) → V x Z 0 0 21 [(0, va_rf (some a)), (1, .long x1), (3, .long x3)] [] g := by
  intro fu
  induction fu with
  | zero => intro x1 x3 g h; cases h
  | succ fu ih =>
    intro x1 x3 g h
    unfold f_X11_printsNumber_l21 at h
    refine V_lload_n hM.c 2 dX11_printsNumber_21 rfl rfl ?_
    refine V_lconst (v := 0) hM.c dX11_printsNumber_22 (by decide) ?_
    refine V_lcmp hM.c dX11_printsNumber_23 ?_
    refine V_if_le hM.c 51 dX11_printsNumber_24 (by decide) (fun c3 => ?_) (fun c3 => ?_)
    · replace h := ite_p h c3
      exact V_vretE hM h dX11_printsNumber_51
    · replace h := ite_n h c3
      refine V_aload_n hM.c 0 dX11_printsNumber_27 rfl rfl ?_
      refine V_bipush (v := 48) hM.c dX11_printsNumber_28 (by decide) ?_
      refine V_lload_n hM.c 1 dX11_printsNumber_30 rfl rfl ?_
      refine V_lload_n hM.c 2 dX11_printsNumber_31 rfl rfl ?_
      replace h := grd_some h
      obtain ⟨c4, h⟩ := h
      refine V_ldiv hM.c dX11_printsNumber_32 c4 ?_
      refine V_ldc2 (v := 10) hM.c tw_1242 dX11_printsNumber_33 ?_
      refine V_lrem hM.c dX11_printsNumber_36 (by decide) ?_
      refine V_l2i hM.c dX11_printsNumber_37 ?_
      refine V_iadd hM.c dX11_printsNumber_38 ?_
      replace h := bnd_some h
      obtain ⟨r5, g6, e7, h⟩ := h
      refine V_callV (As := [.int ((48 : Int32) + (((x1 / x3) - (x1 / x3) / (10 : Int64) * (10 : Int64)).toInt32))]) (c := 9) (T := TX11) (N := 32) hM.c hM.a mq_X11_prints mi_X11_prints tw_1229 (hM.d (by decide)) hM.z rfl (by omega) (zc_X11_prints e7) (vm_X11_prints e7) rfl (Nat.le_of_ble_eq_true rfl) dX11_printsNumber_39 ?_
      refine V_lload_n hM.c 2 dX11_printsNumber_42 rfl rfl ?_
      refine V_ldc2 (v := 10) hM.c tw_1242 dX11_printsNumber_43 ?_
      refine V_ldiv hM.c dX11_printsNumber_46 (by decide) ?_
      refine V_lstore_n (i := 3) (L' := [(3, .long (x3 / (10 : Int64))), (0, va_rf (some a)), (1, .long x1)]) hM.c dX11_printsNumber_47 rfl (by decide) rfl ?_
      refine V_goto hM.c 21 dX11_printsNumber_48 (by decide) ?_
      refine V_sub [1, 2, 0] rfl ?_
      exact ih _ _ _ h
def f_X11_printsNumber_l2 (n : Nat) (Z : Zt) (a : Nat) : Nat → Int64 → Int64 → Mem → Option (Unit × Mem)
  | 0, _, _, _ => none
  | fu + 1, x1, x3, g => grd (¬ x3 = 0) (if (lg_cmp (x1 / x3) (9 : Int64)) ≤ 0 then (f_X11_printsNumber_l21 n Z a n x1 x3 g) else (f_X11_printsNumber_l2 n Z a fu x1 (x3 * (10 : Int64)) g))
set_option maxHeartbeats 4000000 in
set_option maxRecDepth 100000 in
theorem vl_X11_printsNumber_l2 {x : Cq} {n : Nat} {Z : Zt} {a : Nat} {rr : Unit} {gg : Mem} (hM : Cm x cX11_printsNumber RX11 5 none 1 Z none gg) (hz0 : zk Z a = 10) : ∀ (fu : Nat) (x1 : Int64) (x3 : Int64) (g : Mem), f_X11_printsNumber_l2 n Z a fu x1 x3 g = some (rr, gg) → V x Z 0 0 2 [(0, va_rf (some a)), (1, .long x1), (3, .long x3)] [] g := by
  intro fu
  induction fu with
  | zero => intro x1 x3 g h; cases h
  | succ fu ih =>
    intro x1 x3 g h
    unfold f_X11_printsNumber_l2 at h
    refine V_lload_n hM.c 1 dX11_printsNumber_2 rfl rfl ?_
    refine V_lload_n hM.c 2 dX11_printsNumber_3 rfl rfl ?_
    replace h := grd_some h
    obtain ⟨c1, h⟩ := h
    refine V_ldiv hM.c dX11_printsNumber_4 c1 ?_
    refine V_ldc2 (v := 9) hM.c tw_1241 dX11_printsNumber_5 ?_
    refine V_lcmp hM.c dX11_printsNumber_8 ?_
    refine V_if_le hM.c 21 dX11_printsNumber_9 (by decide) (fun c2 => ?_) (fun c2 => ?_)
    · replace h := ite_p h c2
      refine V_sub [0, 1, 2] rfl ?_
      exact vl_X11_printsNumber_l21 hM hz0  _ _ _ _ h
    · replace h := ite_n h c2
      refine V_lload_n hM.c 2 dX11_printsNumber_12 rfl rfl ?_
      refine V_ldc2 (v := 10) hM.c tw_1242 dX11_printsNumber_13 ?_
      refine V_lmul hM.c dX11_printsNumber_16 ?_
      refine V_lstore_n (i := 3) (L' := [(3, .long (x3 * (10 : Int64))), (0, va_rf (some a)), (1, .long x1)]) hM.c dX11_printsNumber_17 rfl (by decide) rfl ?_
      refine V_goto hM.c 2 dX11_printsNumber_18 (by decide) ?_
      refine V_sub [1, 2, 0] rfl ?_
      exact ih _ _ _ h
def f_X11_printsNumber (n : Nat) (Z : Zt) (a : Nat) (x1 : Int64) (g : Mem) : Option (Unit × Mem) := grd (zk Z a = 10) (f_X11_printsNumber_l2 n Z a n x1 (1 : Int64) g)
theorem mq_X11_printsNumber : Mq yX11_printsNumber cX11_printsNumber 5 none 1 := ⟨tw_1240, tw_5, ⟨by decide +kernel, by decide +kernel, by decide +kernel⟩, by decide⟩
theorem mi_X11_printsNumber : Cond.instanceMethod yX11_printsNumber ∈ TB ∧ Cond.selects yX11_printsNumber.cls yX11_printsNumber yX11_printsNumber ∈ TB := ⟨tw_1238, tw_1239⟩
theorem zc_X11_printsNumber {n : Nat} {Z : Zt} {a : Nat} {x1 : Int64} {g : Mem} {q : Unit × Mem} (h : f_X11_printsNumber n Z a x1 g = some q) : zk Z a = 10 := (grd_some h).1
set_option maxHeartbeats 4000000 in
set_option maxRecDepth 100000 in
theorem vm_X11_printsNumber {n : Nat} {Z : Zt} {a : Nat} {x1 : Int64} {g : Mem} {rr : Unit} {gg : Mem} (h : f_X11_printsNumber n Z a x1 g = some (rr, gg)) : VM yX11_printsNumber cX11_printsNumber 5 none 1 [.ref a, .long x1] Z g none gg := by
  unfold f_X11_printsNumber at h
  replace h := grd_some h
  obtain ⟨hz0, h⟩ := h
  refine VM.of (by decide +kernel) (Nat.le_of_ble_eq_true rfl) (fun x hM => ?_)
  have hM : Cm x cX11_printsNumber RX11 5 none 1 Z none gg := hM
  show V x Z 0 0 0 [(0, va_rf (some a)), (1, .long x1)] [] g
  refine V_lconst (v := 1) hM.c dX11_printsNumber_0 (by decide) ?_
  refine V_lstore_n (i := 3) (L' := [(3, .long (1 : Int64)), (0, va_rf (some a)), (1, .long x1)]) hM.c dX11_printsNumber_1 rfl (by decide) rfl ?_
  refine V_sub [1, 2, 0] rfl ?_
  exact vl_X11_printsNumber_l2 hM hz0  _ _ _ _ h
def f_X11_printsTerm_l64 (n : Nat) (Z : Zt) (κ31 : Int32 → Int32 → Mem → Option (Unit × Mem)) (a : Nat) (x1 : Int32) (x2 : Int32) (x3 : Int32) (g : Mem) : Option (Unit × Mem) := if x3 ≤ (1 : Int32) then (κ31 x1 (x2 + 1) g) else (bnd (f_X11_prints n Z a (94 : Int32) g) (fun r26 g27 => bnd (f_X11_printsNumber n Z a (x3.toInt64) g27) (fun r29 g30 => κ31 x1 (x2 + 1) g30)))
set_option maxHeartbeats 4000000 in
set_option maxRecDepth 100000 in
theorem vl_X11_printsTerm_l64 {x : Cq} {n : Nat} {Z : Zt} {κ31 : Int32 → Int32 → Mem → Option (Unit × Mem)} {a : Nat} {x1 : Int32} {x2 : Int32} {x3 : Int32} {g : Mem} {rr : Unit} {gg : Mem} (hM : Cm x cX11_printsTerm RX11 4 none 2 Z none gg) (hz0 : zk Z a = 10) (hκ31 : ∀ (y1 : Int32) (y2 : Int32) (y : Mem), κ31 y1 y2 y = some (rr, gg) → V x Z 0 0 31 [(0, va_rf (some a)), (1, .int y1), (2, .int y2)] [] y) (h : f_X11_printsTerm_l64 n Z κ31 a x1 x2 x3 g = some (rr, gg)) : V x Z 0 0 64 [(0, va_rf (some a)), (1, .int x1), (2, .int x2), (3, .int x3)] [] g := by
  unfold f_X11_printsTerm_l64 at h
  refine V_iload_n hM.c 3 dX11_printsTerm_64 rfl rfl ?_
  refine V_iconst (v := 1) hM.c dX11_printsTerm_65 (by decide) ?_
  refine V_icmp_le hM.c 81 dX11_printsTerm_66 (by decide) (fun c25 => ?_) (fun c25 => ?_)
  · replace h := ite_p h c25
    refine V_iinc (v := (x2 + 1)) (L' := [(2, .int (x2 + 1)), (0, va_rf (some a)), (1, .int x1), (3, .int x3)]) hM.c 2 dX11_printsTerm_81 rfl rfl (by decide) rfl ?_
    refine V_goto hM.c 31 dX11_printsTerm_84 (by decide) ?_
    refine V_sub [1, 2, 0] rfl ?_
    exact hκ31 _ _ _ h
  · replace h := ite_n h c25
    refine V_aload_n hM.c 0 dX11_printsTerm_69 rfl rfl ?_
    refine V_bipush (v := 94) hM.c dX11_printsTerm_70 (by decide) ?_
    replace h := bnd_some h
    obtain ⟨r26, g27, e28, h⟩ := h
    refine V_callV (As := [.int (94 : Int32)]) (c := 9) (T := TX11) (N := 32) hM.c hM.a mq_X11_prints mi_X11_prints tw_1229 (hM.d (by decide)) hM.z rfl (by omega) (zc_X11_prints e28) (vm_X11_prints e28) rfl (Nat.le_of_ble_eq_true rfl) dX11_printsTerm_72 ?_
    refine V_aload_n hM.c 0 dX11_printsTerm_75 rfl rfl ?_
    refine V_iload_n hM.c 3 dX11_printsTerm_76 rfl rfl ?_
    refine V_i2l hM.c dX11_printsTerm_77 ?_
    replace h := bnd_some h
    obtain ⟨r29, g30, e31, h⟩ := h
    refine V_callV (As := [.long (x3.toInt64)]) (c := 9) (T := TX11) (N := 32) hM.c hM.a mq_X11_printsNumber mi_X11_printsNumber tw_1237 (hM.d (by decide)) hM.z rfl (by omega) (zc_X11_printsNumber e31) (vm_X11_printsNumber e31) rfl (Nat.le_of_ble_eq_true rfl) dX11_printsTerm_78 ?_
    refine V_iinc (v := (x2 + 1)) (L' := [(2, .int (x2 + 1)), (0, va_rf (some a)), (1, .int x1), (3, .int x3)]) hM.c 2 dX11_printsTerm_81 rfl rfl (by decide) rfl ?_
    refine V_goto hM.c 31 dX11_printsTerm_84 (by decide) ?_
    refine V_sub [1, 2, 0] rfl ?_
    exact hκ31 _ _ _ h
def f_X11_printsTerm_l31 (n : Nat) (Z : Zt) (a : Nat) : Nat → Int32 → Int32 → Mem → Option (Unit × Mem)
  | 0, _, _, _ => none
  | fu + 1, x1, x2, g => if (16 : Int32) ≤ x2 then (some ((), g)) else (drf (zf Z a 22) (fun b14 => grd (zk Z b14 = 13) (grd (inr ((13312 : Int32) + x1) (zl Z b14)) (bnd (f_X11_exponentOf n Z (gJ g b14 ((13312 : Int32) + x1).toNatClampNeg) x2 g) (fun r18 g19 => if r18 ≤ 0 then (f_X11_printsTerm_l64 n Z (fun y0 y1 y => f_X11_printsTerm_l31 n Z a fu y0 y1 y) a x1 x2 r18 g19) else (bnd (f_X11_prints n Z a ((97 : Int32) + x2) g19) (fun r22 g23 => f_X11_printsTerm_l64 n Z (fun y0 y1 y => f_X11_printsTerm_l31 n Z a fu y0 y1 y) a x1 x2 r18 g23)))))))
set_option maxHeartbeats 4000000 in
set_option maxRecDepth 100000 in
theorem vl_X11_printsTerm_l31 {x : Cq} {n : Nat} {Z : Zt} {a : Nat} {rr : Unit} {gg : Mem} (hM : Cm x cX11_printsTerm RX11 4 none 2 Z none gg) (hz0 : zk Z a = 10) : ∀ (fu : Nat) (x1 : Int32) (x2 : Int32) (g : Mem), f_X11_printsTerm_l31 n Z a fu x1 x2 g = some (rr, gg) → V x Z 0 0 31 [(0, va_rf (some a)), (1, .int x1), (2, .int x2)] [] g := by
  intro fu
  induction fu with
  | zero => intro x1 x2 g h; cases h
  | succ fu ih =>
    intro x1 x2 g h
    unfold f_X11_printsTerm_l31 at h
    refine V_iload_n hM.c 2 dX11_printsTerm_31 rfl rfl ?_
    refine V_bipush (v := 16) hM.c dX11_printsTerm_32 (by decide) ?_
    refine V_icmp_ge hM.c 87 dX11_printsTerm_34 (by decide) (fun c13 => ?_) (fun c13 => ?_)
    · replace h := ite_p h c13
      exact V_vretE hM h dX11_printsTerm_87
    · replace h := ite_n h c13
      refine V_aload_n hM.c 0 dX11_printsTerm_37 rfl rfl ?_
      replace h := drf_some h
      obtain ⟨b14, e15, h⟩ := h
      refine G9_22 hM.c tw_129 hz0 e15 dX11_printsTerm_38 ?_
      refine V_sipush (v := 13312) hM.c dX11_printsTerm_41 (by decide) ?_
      refine V_iload_n hM.c 1 dX11_printsTerm_44 rfl rfl ?_
      refine V_iadd hM.c dX11_printsTerm_45 ?_
      replace h := grd_some h
      obtain ⟨z16, h⟩ := h
      replace h := grd_some h
      obtain ⟨c17, h⟩ := h
      refine V_lald hM.c z16 c17 dX11_printsTerm_46 ?_
      refine V_iload_n hM.c 2 dX11_printsTerm_47 rfl rfl ?_
      replace h := bnd_some h
      obtain ⟨r18, g19, e20, h⟩ := h
      refine V_callS (As := [.long (gJ g b14 ((13312 : Int32) + x1).toNatClampNeg), .int x2]) hM.c hM.a mq_X11_exponentOf mi_X11_exponentOf tw_662 (hM.d (by decide)) hM.z (vm_X11_exponentOf e20) rfl (Nat.le_of_ble_eq_true rfl) dX11_printsTerm_48 ?_
      refine V_istore_n (i := 3) (L' := [(3, .int r18), (0, va_rf (some a)), (1, .int x1), (2, .int x2)]) hM.c dX11_printsTerm_51 rfl (by decide) rfl ?_
      refine V_iload_n hM.c 0 dX11_printsTerm_52 rfl rfl ?_
      refine V_if_le hM.c 64 dX11_printsTerm_53 (by decide) (fun c21 => ?_) (fun c21 => ?_)
      · replace h := ite_p h c21
        refine V_sub [1, 2, 3, 0] rfl ?_
        exact vl_X11_printsTerm_l64 hM hz0 ih h
      · replace h := ite_n h c21
        refine V_aload_n hM.c 1 dX11_printsTerm_56 rfl rfl ?_
        refine V_bipush (v := 97) hM.c dX11_printsTerm_57 (by decide) ?_
        refine V_iload_n hM.c 3 dX11_printsTerm_59 rfl rfl ?_
        refine V_iadd hM.c dX11_printsTerm_60 ?_
        replace h := bnd_some h
        obtain ⟨r22, g23, e24, h⟩ := h
        refine V_callV (As := [.int ((97 : Int32) + x2)]) (c := 9) (T := TX11) (N := 32) hM.c hM.a mq_X11_prints mi_X11_prints tw_1229 (hM.d (by decide)) hM.z rfl (by omega) (zc_X11_prints e24) (vm_X11_prints e24) rfl (Nat.le_of_ble_eq_true rfl) dX11_printsTerm_61 ?_
        refine V_sub [1, 2, 3, 0] rfl ?_
        exact vl_X11_printsTerm_l64 hM hz0 ih h
def f_X11_printsTerm (n : Nat) (Z : Zt) (a : Nat) (x1 : Int32) (g : Mem) : Option (Unit × Mem) := grd (zk Z a = 10) (drf (zf Z a 23) (fun b1 => grd (zk Z b1 = 13) (grd (inr ((13312 : Int32) + x1) (zl Z b1)) (if (lg_cmp (gJ g b1 ((13312 : Int32) + x1).toNatClampNeg) (1 : Int64)) ≤ 0 then (f_X11_printsTerm_l31 n Z a n x1 (0 : Int32) g) else (drf (zf Z a 23) (fun b6 => grd (zk Z b6 = 13) (grd (inr ((13312 : Int32) + x1) (zl Z b6)) (bnd (f_X11_printsNumber n Z a (gJ g b6 ((13312 : Int32) + x1).toNatClampNeg) g) (fun r10 g11 => f_X11_printsTerm_l31 n Z a n x1 (0 : Int32) g11)))))))))
theorem mq_X11_printsTerm : Mq yX11_printsTerm cX11_printsTerm 4 none 1 := ⟨tw_1236, tw_5, ⟨by decide +kernel, by decide +kernel, by decide +kernel⟩, by decide⟩
theorem mi_X11_printsTerm : Cond.instanceMethod yX11_printsTerm ∈ TB ∧ Cond.selects yX11_printsTerm.cls yX11_printsTerm yX11_printsTerm ∈ TB := ⟨tw_1234, tw_1235⟩
theorem zc_X11_printsTerm {n : Nat} {Z : Zt} {a : Nat} {x1 : Int32} {g : Mem} {q : Unit × Mem} (h : f_X11_printsTerm n Z a x1 g = some q) : zk Z a = 10 := (grd_some h).1
set_option maxHeartbeats 4000000 in
set_option maxRecDepth 100000 in
theorem vm_X11_printsTerm {n : Nat} {Z : Zt} {a : Nat} {x1 : Int32} {g : Mem} {rr : Unit} {gg : Mem} (h : f_X11_printsTerm n Z a x1 g = some (rr, gg)) : VM yX11_printsTerm cX11_printsTerm 4 none 2 [.ref a, .int x1] Z g none gg := by
  unfold f_X11_printsTerm at h
  replace h := grd_some h
  obtain ⟨hz0, h⟩ := h
  refine VM.of (by decide +kernel) (Nat.le_of_ble_eq_true rfl) (fun x hM => ?_)
  have hM : Cm x cX11_printsTerm RX11 4 none 2 Z none gg := hM
  show V x Z 0 0 0 [(0, va_rf (some a)), (1, .int x1)] [] g
  refine V_aload_n hM.c 0 dX11_printsTerm_0 rfl rfl ?_
  replace h := drf_some h
  obtain ⟨b1, e2, h⟩ := h
  refine G9_23 hM.c tw_130 hz0 e2 dX11_printsTerm_1 ?_
  refine V_sipush (v := 13312) hM.c dX11_printsTerm_4 (by decide) ?_
  refine V_iload_n hM.c 1 dX11_printsTerm_7 rfl rfl ?_
  refine V_iadd hM.c dX11_printsTerm_8 ?_
  replace h := grd_some h
  obtain ⟨z3, h⟩ := h
  replace h := grd_some h
  obtain ⟨c4, h⟩ := h
  refine V_lald hM.c z3 c4 dX11_printsTerm_9 ?_
  refine V_lconst (v := 1) hM.c dX11_printsTerm_10 (by decide) ?_
  refine V_lcmp hM.c dX11_printsTerm_11 ?_
  refine V_if_le hM.c 29 dX11_printsTerm_12 (by decide) (fun c5 => ?_) (fun c5 => ?_)
  · replace h := ite_p h c5
    refine V_iconst (v := 0) hM.c dX11_printsTerm_29 (by decide) ?_
    refine V_istore_n (i := 2) (L' := [(2, .int (0 : Int32)), (0, va_rf (some a)), (1, .int x1)]) hM.c dX11_printsTerm_30 rfl (by decide) rfl ?_
    refine V_sub [1, 2, 0] rfl ?_
    exact vl_X11_printsTerm_l31 hM hz0  _ _ _ _ h
  · replace h := ite_n h c5
    refine V_aload_n hM.c 0 dX11_printsTerm_15 rfl rfl ?_
    refine V_aload_n hM.c 0 dX11_printsTerm_16 rfl rfl ?_
    replace h := drf_some h
    obtain ⟨b6, e7, h⟩ := h
    refine G9_23 hM.c tw_130 hz0 e7 dX11_printsTerm_17 ?_
    refine V_sipush (v := 13312) hM.c dX11_printsTerm_20 (by decide) ?_
    refine V_iload_n hM.c 1 dX11_printsTerm_23 rfl rfl ?_
    refine V_iadd hM.c dX11_printsTerm_24 ?_
    replace h := grd_some h
    obtain ⟨z8, h⟩ := h
    replace h := grd_some h
    obtain ⟨c9, h⟩ := h
    refine V_lald hM.c z8 c9 dX11_printsTerm_25 ?_
    replace h := bnd_some h
    obtain ⟨r10, g11, e12, h⟩ := h
    refine V_callV (As := [.long (gJ g b6 ((13312 : Int32) + x1).toNatClampNeg)]) (c := 9) (T := TX11) (N := 32) hM.c hM.a mq_X11_printsNumber mi_X11_printsNumber tw_1237 (hM.d (by decide)) hM.z rfl (by omega) (zc_X11_printsNumber e12) (vm_X11_printsNumber e12) rfl (Nat.le_of_ble_eq_true rfl) dX11_printsTerm_26 ?_
    refine V_iconst (v := 0) hM.c dX11_printsTerm_29 (by decide) ?_
    refine V_istore_n (i := 2) (L' := [(2, .int (0 : Int32)), (0, va_rf (some a)), (1, .int x1)]) hM.c dX11_printsTerm_30 rfl (by decide) rfl ?_
    refine V_sub [1, 2, 0] rfl ?_
    exact vl_X11_printsTerm_l31 hM hz0  _ _ _ _ h
def f_X11_print_l55 (n : Nat) (Z : Zt) (κ33 : Int32 → Mem → Option (Int32 × Mem)) (a : Nat) (x3 : Int32) (g : Mem) : Option (Int32 × Mem) := bnd (f_X11_printsTerm n Z a x3 g) (fun r21 g22 => κ33 (x3 + 1) g22)
set_option maxHeartbeats 4000000 in
set_option maxRecDepth 100000 in
theorem vl_X11_print_l55 {x : Cq} {n : Nat} {Z : Zt} {κ33 : Int32 → Mem → Option (Int32 × Mem)} {a : Nat} {x3 : Int32} {g : Mem} {rr : Int32} {gg : Mem} (hM : Cm x cX11_print RX11 4 (some .int) 7 Z (some (.int rr)) gg) (hz0 : zk Z a = 10) (hκ33 : ∀ (y3 : Int32) (y : Mem), κ33 y3 y = some (rr, gg) → V x Z 0 0 33 [(0, va_rf (some a)), (3, .int y3)] [] y) (h : f_X11_print_l55 n Z κ33 a x3 g = some (rr, gg)) : V x Z 0 0 55 [(0, va_rf (some a)), (3, .int x3)] [] g := by
  unfold f_X11_print_l55 at h
  refine V_aload_n hM.c 0 dX11_print_55 rfl rfl ?_
  refine V_iload_n hM.c 1 dX11_print_56 rfl rfl ?_
  replace h := bnd_some h
  obtain ⟨r21, g22, e23, h⟩ := h
  refine V_callV (As := [.int x3]) (c := 9) (T := TX11) (N := 32) hM.c hM.a mq_X11_printsTerm mi_X11_printsTerm tw_1233 (hM.d (by decide)) hM.z rfl (by omega) (zc_X11_printsTerm e23) (vm_X11_printsTerm e23) rfl (Nat.le_of_ble_eq_true rfl) dX11_print_57 ?_
  refine V_iinc (v := (x3 + 1)) (L' := [(3, .int (x3 + 1)), (0, va_rf (some a))]) hM.c 1 dX11_print_60 rfl rfl (by decide) rfl ?_
  refine V_goto hM.c 33 dX11_print_63 (by decide) ?_
  refine V_sub [1, 0] rfl ?_
  exact hκ33 _ _ h
def f_X11_print_l33 (n : Nat) (Z : Zt) (a : Nat) : Nat → Int32 → Mem → Option (Int32 × Mem)
  | 0, _, _ => none
  | fu + 1, x3, g => drf (zf Z a 21) (fun b12 => grd (zk Z b12 = 12) (grd (inr (416 : Int32) (zl Z b12)) (if (gI g b12 (416 : Int32).toNatClampNeg) ≤ x3 then (some ((gI g a 31), g)) else (if x3 ≤ 0 then (f_X11_print_l55 n Z (fun y0 y => f_X11_print_l33 n Z a fu y0 y) a x3 g) else (bnd (f_X11_prints n Z a (43 : Int32) g) (fun r18 g19 => f_X11_print_l55 n Z (fun y0 y => f_X11_print_l33 n Z a fu y0 y) a x3 g19))))))
set_option maxHeartbeats 4000000 in
set_option maxRecDepth 100000 in
theorem vl_X11_print_l33 {x : Cq} {n : Nat} {Z : Zt} {a : Nat} {rr : Int32} {gg : Mem} (hM : Cm x cX11_print RX11 4 (some .int) 7 Z (some (.int rr)) gg) (hz0 : zk Z a = 10) : ∀ (fu : Nat) (x3 : Int32) (g : Mem), f_X11_print_l33 n Z a fu x3 g = some (rr, gg) → V x Z 0 0 33 [(0, va_rf (some a)), (3, .int x3)] [] g := by
  intro fu
  induction fu with
  | zero => intro x3 g h; cases h
  | succ fu ih =>
    intro x3 g h
    unfold f_X11_print_l33 at h
    refine V_iload_n hM.c 1 dX11_print_33 rfl rfl ?_
    refine V_aload_n hM.c 0 dX11_print_34 rfl rfl ?_
    replace h := drf_some h
    obtain ⟨b12, e13, h⟩ := h
    refine G9_21 hM.c tw_128 hz0 e13 dX11_print_35 ?_
    refine V_sipush (v := 416) hM.c dX11_print_38 (by decide) ?_
    replace h := grd_some h
    obtain ⟨z14, h⟩ := h
    replace h := grd_some h
    obtain ⟨c15, h⟩ := h
    refine V_iald hM.c z14 c15 dX11_print_41 ?_
    refine V_icmp_ge hM.c 66 dX11_print_42 (by decide) (fun c16 => ?_) (fun c16 => ?_)
    · replace h := ite_p h c16
      refine V_aload_n hM.c 0 dX11_print_66 rfl rfl ?_
      refine G9_31 hM.c tw_1228 hz0 dX11_print_67 ?_
      exact V_iretE hM h dX11_print_70
    · replace h := ite_n h c16
      refine V_iload_n hM.c 1 dX11_print_45 rfl rfl ?_
      refine V_if_le hM.c 55 dX11_print_46 (by decide) (fun c17 => ?_) (fun c17 => ?_)
      · replace h := ite_p h c17
        refine V_sub [0, 1] rfl ?_
        exact vl_X11_print_l55 hM hz0 ih h
      · replace h := ite_n h c17
        refine V_aload_n hM.c 0 dX11_print_49 rfl rfl ?_
        refine V_bipush (v := 43) hM.c dX11_print_50 (by decide) ?_
        replace h := bnd_some h
        obtain ⟨r18, g19, e20, h⟩ := h
        refine V_callV (As := [.int (43 : Int32)]) (c := 9) (T := TX11) (N := 32) hM.c hM.a mq_X11_prints mi_X11_prints tw_1229 (hM.d (by decide)) hM.z rfl (by omega) (zc_X11_prints e20) (vm_X11_prints e20) rfl (Nat.le_of_ble_eq_true rfl) dX11_print_52 ?_
        refine V_sub [0, 1] rfl ?_
        exact vl_X11_print_l55 hM hz0 ih h
def f_X11_print (n : Nat) (Z : Zt) (a : Nat) (x1 : Int32) (x2 : Int32) (g : Mem) : Option (Int32 × Mem) := grd (zk Z a = 10) (bnd (f_X11_isRow n Z a x1 g) (fun r1 g2 => if r1 = 0 then (some ((-1 : Int32), g2)) else (bnd (f_X11_isForm n Z x2 g2) (fun r5 g6 => if r5 = 0 then (some ((-2 : Int32), g6)) else (bnd (f_X11_laysForm n Z a x1 x2 g6) (fun r9 g10 => f_X11_print_l33 n Z a n (0 : Int32) (sI g10 a 31 (0 : Int32))))))))
theorem mq_X11_print : Mq yX11_print cX11_print 4 (some .int) 2 := ⟨tw_1227, tw_5, ⟨by decide +kernel, by decide +kernel, by decide +kernel⟩, by decide⟩
theorem mi_X11_print : Cond.instanceMethod yX11_print ∈ TB ∧ Cond.selects yX11_print.cls yX11_print yX11_print ∈ TB := ⟨tw_1225, tw_1226⟩
theorem zc_X11_print {n : Nat} {Z : Zt} {a : Nat} {x1 : Int32} {x2 : Int32} {g : Mem} {q : Int32 × Mem} (h : f_X11_print n Z a x1 x2 g = some q) : zk Z a = 10 := (grd_some h).1
set_option maxHeartbeats 4000000 in
set_option maxRecDepth 100000 in
theorem vm_X11_print {n : Nat} {Z : Zt} {a : Nat} {x1 : Int32} {x2 : Int32} {g : Mem} {rr : Int32} {gg : Mem} (h : f_X11_print n Z a x1 x2 g = some (rr, gg)) : VM yX11_print cX11_print 4 (some .int) 7 [.ref a, .int x1, .int x2] Z g (some (.int rr)) gg := by
  unfold f_X11_print at h
  replace h := grd_some h
  obtain ⟨hz0, h⟩ := h
  refine VM.of (by decide +kernel) (Nat.le_of_ble_eq_true rfl) (fun x hM => ?_)
  have hM : Cm x cX11_print RX11 4 (some .int) 7 Z (some (.int rr)) gg := hM
  show V x Z 0 0 0 [(0, va_rf (some a)), (1, .int x1), (2, .int x2)] [] g
  refine V_aload_n hM.c 0 dX11_print_0 rfl rfl ?_
  refine V_iload_n hM.c 1 dX11_print_1 rfl rfl ?_
  replace h := bnd_some h
  obtain ⟨r1, g2, e3, h⟩ := h
  refine V_callV (As := [.int x1]) (c := 9) (T := TX11) (N := 32) hM.c hM.a mq_X11_isRow mi_X11_isRow tw_922 (hM.d (by decide)) hM.z rfl (by omega) (zc_X11_isRow e3) (vm_X11_isRow e3) rfl (Nat.le_of_ble_eq_true rfl) dX11_print_2 ?_
  refine V_if_ne hM.c 10 dX11_print_5 (by decide) (fun c4 => ?_) (fun c4 => ?_)
  · replace h := ite_n h c4
    refine V_iload_n hM.c 2 dX11_print_10 rfl rfl ?_
    replace h := bnd_some h
    obtain ⟨r5, g6, e7, h⟩ := h
    refine V_callS (As := [.int x2]) hM.c hM.a mq_X11_isForm mi_X11_isForm tw_968 (hM.d (by decide)) hM.z (vm_X11_isForm e7) rfl (Nat.le_of_ble_eq_true rfl) dX11_print_11 ?_
    refine V_if_ne hM.c 20 dX11_print_14 (by decide) (fun c8 => ?_) (fun c8 => ?_)
    · replace h := ite_n h c8
      refine V_aload_n hM.c 0 dX11_print_20 rfl rfl ?_
      refine V_iload_n hM.c 1 dX11_print_21 rfl rfl ?_
      refine V_iload_n hM.c 2 dX11_print_22 rfl rfl ?_
      replace h := bnd_some h
      obtain ⟨r9, g10, e11, h⟩ := h
      refine V_callV (As := [.int x1, .int x2]) (c := 9) (T := TX11) (N := 32) hM.c hM.a mq_X11_laysForm mi_X11_laysForm tw_971 (hM.d (by decide)) hM.z rfl (by omega) (zc_X11_laysForm e11) (vm_X11_laysForm e11) rfl (Nat.le_of_ble_eq_true rfl) dX11_print_23 ?_
      refine V_aload_n hM.c 0 dX11_print_26 rfl rfl ?_
      refine V_iconst (v := 0) hM.c dX11_print_27 (by decide) ?_
      refine P9_31 hM.c tw_1228 hz0 hM.a dX11_print_28 ?_
      refine V_iconst (v := 0) hM.c dX11_print_31 (by decide) ?_
      refine V_istore_n (i := 3) (L' := [(3, .int (0 : Int32)), (0, va_rf (some a)), (1, .int x1), (2, .int x2)]) hM.c dX11_print_32 rfl (by decide) rfl ?_
      refine V_sub [1, 0] rfl ?_
      exact vl_X11_print_l33 hM hz0  _ _ _ h
    · replace h := ite_p h c8
      refine V_bipush (v := -2) hM.c dX11_print_17 (by decide) ?_
      exact V_iretE hM h dX11_print_19
  · replace h := ite_p h c4
    refine V_iconst (v := -1) hM.c dX11_print_8 (by decide) ?_
    exact V_iretE hM h dX11_print_9
def f_X11_printed (n : Nat) (Z : Zt) (a : Nat) (x1 : Int32) (g : Mem) : Option (Int32 × Mem) := grd (zk Z a = 10) (bnd (f_X11_in n Z x1 (0 : Int32) ((gI g a 31) - (1 : Int32)) g) (fun r1 g2 => if r1 = 0 then (some ((-1 : Int32), g2)) else (drf (zf Z a 30) (fun b5 => grd (zk Z b5 = 12) (grd (inr x1 (zl Z b5)) (some ((gI g2 b5 x1.toNatClampNeg), g2)))))))
theorem mq_X11_printed : Mq yX11_printed cX11_printed 2 (some .int) 1 := ⟨tw_1250, tw_5, ⟨by decide +kernel, by decide +kernel, by decide +kernel⟩, by decide⟩
theorem mi_X11_printed : Cond.instanceMethod yX11_printed ∈ TB ∧ Cond.selects yX11_printed.cls yX11_printed yX11_printed ∈ TB := ⟨tw_1248, tw_1249⟩
theorem zc_X11_printed {n : Nat} {Z : Zt} {a : Nat} {x1 : Int32} {g : Mem} {q : Int32 × Mem} (h : f_X11_printed n Z a x1 g = some q) : zk Z a = 10 := (grd_some h).1
set_option maxHeartbeats 4000000 in
set_option maxRecDepth 100000 in
theorem vm_X11_printed {n : Nat} {Z : Zt} {a : Nat} {x1 : Int32} {g : Mem} {rr : Int32} {gg : Mem} (h : f_X11_printed n Z a x1 g = some (rr, gg)) : VM yX11_printed cX11_printed 2 (some .int) 1 [.ref a, .int x1] Z g (some (.int rr)) gg := by
  unfold f_X11_printed at h
  replace h := grd_some h
  obtain ⟨hz0, h⟩ := h
  refine VM.of (by decide +kernel) (Nat.le_of_ble_eq_true rfl) (fun x hM => ?_)
  have hM : Cm x cX11_printed RX11 2 (some .int) 1 Z (some (.int rr)) gg := hM
  show V x Z 0 0 0 [(0, va_rf (some a)), (1, .int x1)] [] g
  refine V_iload_n hM.c 1 dX11_printed_0 rfl rfl ?_
  refine V_iconst (v := 0) hM.c dX11_printed_1 (by decide) ?_
  refine V_aload_n hM.c 0 dX11_printed_2 rfl rfl ?_
  refine G9_31 hM.c tw_1228 hz0 dX11_printed_3 ?_
  refine V_iconst (v := 1) hM.c dX11_printed_6 (by decide) ?_
  refine V_isub hM.c dX11_printed_7 ?_
  replace h := bnd_some h
  obtain ⟨r1, g2, e3, h⟩ := h
  refine V_callS (As := [.int x1, .int (0 : Int32), .int ((gI g a 31) - (1 : Int32))]) hM.c hM.a mq_X11_in mi_X11_in tw_212 (hM.d (by decide)) hM.z (vm_X11_in e3) rfl (Nat.le_of_ble_eq_true rfl) dX11_printed_8 ?_
  refine V_if_eq hM.c 23 dX11_printed_11 (by decide) (fun c4 => ?_) (fun c4 => ?_)
  · replace h := ite_p h c4
    refine V_iconst (v := -1) hM.c dX11_printed_23 (by decide) ?_
    exact V_iretE hM h dX11_printed_24
  · replace h := ite_n h c4
    refine V_aload_n hM.c 0 dX11_printed_14 rfl rfl ?_
    replace h := drf_some h
    obtain ⟨b5, e6, h⟩ := h
    refine G9_30 hM.c tw_134 hz0 e6 dX11_printed_15 ?_
    refine V_iload_n hM.c 1 dX11_printed_18 rfl rfl ?_
    replace h := grd_some h
    obtain ⟨z7, h⟩ := h
    replace h := grd_some h
    obtain ⟨c8, h⟩ := h
    refine V_iald hM.c z7 c8 dX11_printed_19 ?_
    refine V_goto hM.c 24 dX11_printed_20 (by decide) ?_
    exact V_iretE hM h dX11_printed_24

def f_X3_codeAt (n : Nat) (Z : Zt) (a : Nat) (x1 : Int32) (g : Mem) : Option (Int32 × Mem) := grd (zk Z a = 3) (if x1 < 0 then (some ((-1 : Int32), g)) else (if (gI g a 1) ≤ x1 then (some ((-1 : Int32), g)) else (drf (zf Z a 0) (fun b3 => grd (zk Z b3 = 11) (if x1 < (Int32.ofNat (zl Z b3)) then (drf (zf Z a 0) (fun b7 => grd (zk Z b7 = 11) (grd (inr x1 (zl Z b7)) (some ((gI g b7 x1.toNatClampNeg), g))))) else (some ((-1 : Int32), g)))))))
theorem mq_X3_codeAt : Mq yX3_codeAt cX3_codeAt 2 (some .int) 1 := ⟨tw_94, tw_84, ⟨by decide +kernel, by decide +kernel, by decide +kernel⟩, by decide⟩
theorem mi_X3_codeAt : Cond.instanceMethod yX3_codeAt ∈ TB ∧ Cond.selects yX3_codeAt.cls yX3_codeAt yX3_codeAt ∈ TB := ⟨tw_92, tw_93⟩
theorem zc_X3_codeAt {n : Nat} {Z : Zt} {a : Nat} {x1 : Int32} {g : Mem} {q : Int32 × Mem} (h : f_X3_codeAt n Z a x1 g = some q) : zk Z a = 3 := (grd_some h).1
set_option maxHeartbeats 4000000 in
set_option maxRecDepth 100000 in
theorem vm_X3_codeAt {n : Nat} {Z : Zt} {a : Nat} {x1 : Int32} {g : Mem} {rr : Int32} {gg : Mem} (h : f_X3_codeAt n Z a x1 g = some (rr, gg)) : VM yX3_codeAt cX3_codeAt 2 (some .int) 0 [.ref a, .int x1] Z g (some (.int rr)) gg := by
  unfold f_X3_codeAt at h
  replace h := grd_some h
  obtain ⟨hz0, h⟩ := h
  refine VM.of (by decide +kernel) (Nat.le_of_ble_eq_true rfl) (fun x hM => ?_)
  have hM : Cm x cX3_codeAt RX3 2 (some .int) 0 Z (some (.int rr)) gg := hM
  show V x Z 0 0 0 [(0, va_rf (some a)), (1, .int x1)] [] g
  refine V_iload_n hM.c 1 dX3_codeAt_0 rfl rfl ?_
  refine V_if_lt hM.c 21 dX3_codeAt_1 (by decide) (fun c1 => ?_) (fun c1 => ?_)
  · replace h := ite_p h c1
    refine V_iconst (v := -1) hM.c dX3_codeAt_21 (by decide) ?_
    exact V_iretE hM h dX3_codeAt_22
  · replace h := ite_n h c1
    refine V_iload_n hM.c 1 dX3_codeAt_4 rfl rfl ?_
    refine V_aload_n hM.c 0 dX3_codeAt_5 rfl rfl ?_
    refine G2_1 hM.c tw_86 hz0 dX3_codeAt_6 ?_
    refine V_icmp_ge hM.c 21 dX3_codeAt_9 (by decide) (fun c2 => ?_) (fun c2 => ?_)
    · replace h := ite_p h c2
      refine V_iconst (v := -1) hM.c dX3_codeAt_21 (by decide) ?_
      exact V_iretE hM h dX3_codeAt_22
    · replace h := ite_n h c2
      refine V_iload_n hM.c 1 dX3_codeAt_12 rfl rfl ?_
      refine V_aload_n hM.c 0 dX3_codeAt_13 rfl rfl ?_
      replace h := drf_some h
      obtain ⟨b3, e4, h⟩ := h
      refine G2_0 hM.c tw_95 hz0 e4 dX3_codeAt_14 ?_
      replace h := grd_some h
      obtain ⟨z5, h⟩ := h
      refine V_alen (t := 0) hM.c z5 (by omega) rfl dX3_codeAt_17 ?_
      refine V_icmp_lt hM.c 23 dX3_codeAt_18 (by decide) (fun c6 => ?_) (fun c6 => ?_)
      · replace h := ite_p h c6
        refine V_aload_n hM.c 0 dX3_codeAt_23 rfl rfl ?_
        replace h := drf_some h
        obtain ⟨b7, e8, h⟩ := h
        refine G2_0 hM.c tw_95 hz0 e8 dX3_codeAt_24 ?_
        refine V_iload_n hM.c 1 dX3_codeAt_27 rfl rfl ?_
        replace h := grd_some h
        obtain ⟨z9, h⟩ := h
        replace h := grd_some h
        obtain ⟨c10, h⟩ := h
        refine V_cald hM.c z9 c10 dX3_codeAt_28 ?_
        exact V_iretE hM h dX3_codeAt_29
      · replace h := ite_n h c6
        refine V_iconst (v := -1) hM.c dX3_codeAt_21 (by decide) ?_
        exact V_iretE hM h dX3_codeAt_22
def f_X3_contains_l2 (n : Nat) (Z : Zt) (a : Nat) : Nat → Int32 → Int32 → Mem → Option (Int32 × Mem)
  | 0, _, _, _ => none
  | fu + 1, x1, x2, g => if (gI g a 1) ≤ x2 then (some ((0 : Int32), g)) else (bnd (f_X3_codeAt n Z a x2 g) (fun r2 g3 => if r2 = x1 then (some ((1 : Int32), g3)) else (f_X3_contains_l2 n Z a fu x1 (x2 + 1) g3)))
set_option maxHeartbeats 4000000 in
set_option maxRecDepth 100000 in
theorem vl_X3_contains_l2 {x : Cq} {n : Nat} {Z : Zt} {a : Nat} {rr : Int32} {gg : Mem} (hM : Cm x cX3_contains RX3 3 (some .boolean) 1 Z (some (.int rr)) gg) (hz0 : zk Z a = 3) : ∀ (fu : Nat) (x1 : Int32) (x2 : Int32) (g : Mem), f_X3_contains_l2 n Z a fu x1 x2 g = some (rr, gg) → V x Z 0 0 2 [(0, va_rf (some a)), (1, .int x1), (2, .int x2)] [] g := by
  intro fu
  induction fu with
  | zero => intro x1 x2 g h; cases h
  | succ fu ih =>
    intro x1 x2 g h
    unfold f_X3_contains_l2 at h
    refine V_iload_n hM.c 2 dX3_contains_2 rfl rfl ?_
    refine V_aload_n hM.c 0 dX3_contains_3 rfl rfl ?_
    refine G2_1 hM.c tw_86 hz0 dX3_contains_4 ?_
    refine V_icmp_ge hM.c 27 dX3_contains_7 (by decide) (fun c1 => ?_) (fun c1 => ?_)
    · replace h := ite_p h c1
      refine V_iconst (v := 0) hM.c dX3_contains_27 (by decide) ?_
      exact V_zretE hM (isz_nar (by decide)) h dX3_contains_28
    · replace h := ite_n h c1
      refine V_aload_n hM.c 0 dX3_contains_10 rfl rfl ?_
      refine V_iload_n hM.c 2 dX3_contains_11 rfl rfl ?_
      replace h := bnd_some h
      obtain ⟨r2, g3, e4, h⟩ := h
      refine V_callV (As := [.int x2]) (c := 2) (T := TX3) (N := 2) hM.c hM.a mq_X3_codeAt mi_X3_codeAt tw_864 (hM.d (by decide)) hM.z rfl (by omega) (zc_X3_codeAt e4) (vm_X3_codeAt e4) rfl (Nat.le_of_ble_eq_true rfl) dX3_contains_12 ?_
      refine V_iload_n hM.c 1 dX3_contains_15 rfl rfl ?_
      refine V_icmp_ne hM.c 21 dX3_contains_16 (by decide) (fun c5 => ?_) (fun c5 => ?_)
      · replace h := ite_n h c5
        refine V_iinc (v := (x2 + 1)) (L' := [(2, .int (x2 + 1)), (0, va_rf (some a)), (1, .int x1)]) hM.c 2 dX3_contains_21 rfl rfl (by decide) rfl ?_
        refine V_goto hM.c 2 dX3_contains_24 (by decide) ?_
        refine V_sub [1, 2, 0] rfl ?_
        exact ih _ _ _ h
      · replace h := ite_p h c5
        refine V_iconst (v := 1) hM.c dX3_contains_19 (by decide) ?_
        exact V_zretE hM (isz_nar (by decide)) h dX3_contains_20
def f_X3_contains (n : Nat) (Z : Zt) (a : Nat) (x1 : Int32) (g : Mem) : Option (Int32 × Mem) := grd (zk Z a = 3) (f_X3_contains_l2 n Z a n x1 (0 : Int32) g)
theorem mq_X3_contains : Mq yX3_contains cX3_contains 3 (some .boolean) 1 := ⟨tw_1765, tw_84, ⟨by decide +kernel, by decide +kernel, by decide +kernel⟩, by decide⟩
theorem mi_X3_contains : Cond.instanceMethod yX3_contains ∈ TB ∧ Cond.selects yX3_contains.cls yX3_contains yX3_contains ∈ TB := ⟨tw_1763, tw_1764⟩
theorem zc_X3_contains {n : Nat} {Z : Zt} {a : Nat} {x1 : Int32} {g : Mem} {q : Int32 × Mem} (h : f_X3_contains n Z a x1 g = some q) : zk Z a = 3 := (grd_some h).1
set_option maxHeartbeats 4000000 in
set_option maxRecDepth 100000 in
theorem vm_X3_contains {n : Nat} {Z : Zt} {a : Nat} {x1 : Int32} {g : Mem} {rr : Int32} {gg : Mem} (h : f_X3_contains n Z a x1 g = some (rr, gg)) : VM yX3_contains cX3_contains 3 (some .boolean) 1 [.ref a, .int x1] Z g (some (.int rr)) gg := by
  unfold f_X3_contains at h
  replace h := grd_some h
  obtain ⟨hz0, h⟩ := h
  refine VM.of (by decide +kernel) (Nat.le_of_ble_eq_true rfl) (fun x hM => ?_)
  have hM : Cm x cX3_contains RX3 3 (some .boolean) 1 Z (some (.int rr)) gg := hM
  show V x Z 0 0 0 [(0, va_rf (some a)), (1, .int x1)] [] g
  refine V_iconst (v := 0) hM.c dX3_contains_0 (by decide) ?_
  refine V_istore_n (i := 2) (L' := [(2, .int (0 : Int32)), (0, va_rf (some a)), (1, .int x1)]) hM.c dX3_contains_1 rfl (by decide) rfl ?_
  refine V_sub [1, 2, 0] rfl ?_
  exact vl_X3_contains_l2 hM hz0  _ _ _ _ h
def f_X3_clear (n : Nat) (Z : Zt) (a : Nat) (g : Mem) : Option (Unit × Mem) := grd (zk Z a = 3) (some ((), (sI g a 1 (0 : Int32))))
theorem mq_X3_clear : Mq yX3_clear cX3_clear 1 none 0 := ⟨tw_525, tw_84, ⟨by decide +kernel, by decide +kernel, by decide +kernel⟩, by decide⟩
theorem mi_X3_clear : Cond.instanceMethod yX3_clear ∈ TB ∧ Cond.selects yX3_clear.cls yX3_clear yX3_clear ∈ TB := ⟨tw_523, tw_524⟩
theorem zc_X3_clear {n : Nat} {Z : Zt} {a : Nat} {g : Mem} {q : Unit × Mem} (h : f_X3_clear n Z a g = some q) : zk Z a = 3 := (grd_some h).1
set_option maxHeartbeats 4000000 in
set_option maxRecDepth 100000 in
theorem vm_X3_clear {n : Nat} {Z : Zt} {a : Nat} {g : Mem} {rr : Unit} {gg : Mem} (h : f_X3_clear n Z a g = some (rr, gg)) : VM yX3_clear cX3_clear 1 none 0 [.ref a] Z g none gg := by
  unfold f_X3_clear at h
  replace h := grd_some h
  obtain ⟨hz0, h⟩ := h
  refine VM.of (by decide +kernel) (Nat.le_of_ble_eq_true rfl) (fun x hM => ?_)
  have hM : Cm x cX3_clear RX3 1 none 0 Z none gg := hM
  show V x Z 0 0 0 [(0, va_rf (some a))] [] g
  refine V_aload_n hM.c 0 dX3_clear_0 rfl rfl ?_
  refine V_iconst (v := 0) hM.c dX3_clear_1 (by decide) ?_
  refine P2_1 hM.c tw_86 hz0 hM.a dX3_clear_2 ?_
  exact V_vretE hM h dX3_clear_5
def f_X3_length (n : Nat) (Z : Zt) (a : Nat) (g : Mem) : Option (Int32 × Mem) := grd (zk Z a = 3) (some ((gI g a 1), g))
theorem mq_X3_length : Mq yX3_length cX3_length 1 (some .int) 0 := ⟨tw_85, tw_84, ⟨by decide +kernel, by decide +kernel, by decide +kernel⟩, by decide⟩
theorem mi_X3_length : Cond.instanceMethod yX3_length ∈ TB ∧ Cond.selects yX3_length.cls yX3_length yX3_length ∈ TB := ⟨tw_82, tw_83⟩
theorem zc_X3_length {n : Nat} {Z : Zt} {a : Nat} {g : Mem} {q : Int32 × Mem} (h : f_X3_length n Z a g = some q) : zk Z a = 3 := (grd_some h).1
set_option maxHeartbeats 4000000 in
set_option maxRecDepth 100000 in
theorem vm_X3_length {n : Nat} {Z : Zt} {a : Nat} {g : Mem} {rr : Int32} {gg : Mem} (h : f_X3_length n Z a g = some (rr, gg)) : VM yX3_length cX3_length 1 (some .int) 0 [.ref a] Z g (some (.int rr)) gg := by
  unfold f_X3_length at h
  replace h := grd_some h
  obtain ⟨hz0, h⟩ := h
  refine VM.of (by decide +kernel) (Nat.le_of_ble_eq_true rfl) (fun x hM => ?_)
  have hM : Cm x cX3_length RX3 1 (some .int) 0 Z (some (.int rr)) gg := hM
  show V x Z 0 0 0 [(0, va_rf (some a))] [] g
  refine V_aload_n hM.c 0 dX3_length_0 rfl rfl ?_
  refine G2_1 hM.c tw_86 hz0 dX3_length_1 ?_
  exact V_iretE hM h dX3_length_4
def f_X3_add (n : Nat) (Z : Zt) (a : Nat) (x1 : Int32) (g : Mem) : Option (Int32 × Mem) := grd (zk Z a = 3) (if (gI g a 1) < 0 then (some ((0 : Int32), g)) else (drf (zf Z a 0) (fun b2 => grd (zk Z b2 = 11) (if (gI g a 1) < (Int32.ofNat (zl Z b2)) then (drf (zf Z a 0) (fun b6 => grd (zk Z b6 = 11) (grd (inr (gI g a 1) (zl Z b6)) (some ((1 : Int32), (sI (sI g b6 (gI g a 1).toNatClampNeg (vp_nar .char x1)) a 1 ((gI (sI g b6 (gI g a 1).toNatClampNeg (vp_nar .char x1)) a 1) + (1 : Int32)))))))) else (some ((0 : Int32), g))))))
theorem mq_X3_add : Mq yX3_add cX3_add 2 (some .boolean) 1 := ⟨tw_538, tw_84, ⟨by decide +kernel, by decide +kernel, by decide +kernel⟩, by decide⟩
theorem mi_X3_add : Cond.instanceMethod yX3_add ∈ TB ∧ Cond.selects yX3_add.cls yX3_add yX3_add ∈ TB := ⟨tw_536, tw_537⟩
theorem zc_X3_add {n : Nat} {Z : Zt} {a : Nat} {x1 : Int32} {g : Mem} {q : Int32 × Mem} (h : f_X3_add n Z a x1 g = some q) : zk Z a = 3 := (grd_some h).1
set_option maxHeartbeats 4000000 in
set_option maxRecDepth 100000 in
theorem vm_X3_add {n : Nat} {Z : Zt} {a : Nat} {x1 : Int32} {g : Mem} {rr : Int32} {gg : Mem} (h : f_X3_add n Z a x1 g = some (rr, gg)) : VM yX3_add cX3_add 2 (some .boolean) 0 [.ref a, .int x1] Z g (some (.int rr)) gg := by
  unfold f_X3_add at h
  replace h := grd_some h
  obtain ⟨hz0, h⟩ := h
  refine VM.of (by decide +kernel) (Nat.le_of_ble_eq_true rfl) (fun x hM => ?_)
  have hM : Cm x cX3_add RX3 2 (some .boolean) 0 Z (some (.int rr)) gg := hM
  show V x Z 0 0 0 [(0, va_rf (some a)), (1, .int x1)] [] g
  refine V_aload_n hM.c 0 dX3_add_0 rfl rfl ?_
  refine G2_1 hM.c tw_86 hz0 dX3_add_1 ?_
  refine V_if_lt hM.c 19 dX3_add_4 (by decide) (fun c1 => ?_) (fun c1 => ?_)
  · replace h := ite_p h c1
    refine V_iconst (v := 0) hM.c dX3_add_19 (by decide) ?_
    exact V_zretE hM (isz_nar (by decide)) h dX3_add_20
  · replace h := ite_n h c1
    refine V_aload_n hM.c 0 dX3_add_7 rfl rfl ?_
    refine G2_1 hM.c tw_86 hz0 dX3_add_8 ?_
    refine V_aload_n hM.c 0 dX3_add_11 rfl rfl ?_
    replace h := drf_some h
    obtain ⟨b2, e3, h⟩ := h
    refine G2_0 hM.c tw_95 hz0 e3 dX3_add_12 ?_
    replace h := grd_some h
    obtain ⟨z4, h⟩ := h
    refine V_alen (t := 0) hM.c z4 (by omega) rfl dX3_add_15 ?_
    refine V_icmp_lt hM.c 21 dX3_add_16 (by decide) (fun c5 => ?_) (fun c5 => ?_)
    · replace h := ite_p h c5
      refine V_aload_n hM.c 0 dX3_add_21 rfl rfl ?_
      replace h := drf_some h
      obtain ⟨b6, e7, h⟩ := h
      refine G2_0 hM.c tw_95 hz0 e7 dX3_add_22 ?_
      refine V_aload_n hM.c 0 dX3_add_25 rfl rfl ?_
      refine G2_1 hM.c tw_86 hz0 dX3_add_26 ?_
      refine V_iload_n hM.c 1 dX3_add_29 rfl rfl ?_
      replace h := grd_some h
      obtain ⟨z8, h⟩ := h
      replace h := grd_some h
      obtain ⟨c9, h⟩ := h
      refine V_cast hM.c z8 c9 hM.a dX3_add_30 ?_
      refine V_aload_n hM.c 0 dX3_add_31 rfl rfl ?_
      refine V_dup hM.c dX3_add_32 (rf_cat _) ?_
      refine G2_1 hM.c tw_86 hz0 dX3_add_33 ?_
      refine V_iconst (v := 1) hM.c dX3_add_36 (by decide) ?_
      refine V_iadd hM.c dX3_add_37 ?_
      refine P2_1 hM.c tw_86 hz0 hM.a dX3_add_38 ?_
      refine V_iconst (v := 1) hM.c dX3_add_41 (by decide) ?_
      exact V_zretE hM (isz_nar (by decide)) h dX3_add_42
    · replace h := ite_n h c5
      refine V_iconst (v := 0) hM.c dX3_add_19 (by decide) ?_
      exact V_zretE hM (isz_nar (by decide)) h dX3_add_20
def f_X3_copy_l6 (n : Nat) (Z : Zt) (a : Nat) : Nat → Nat → Int32 → Mem → Option (Unit × Mem)
  | 0, _, _, _ => none
  | fu + 1, x1, x2, g => bnd (f_X3_length n Z x1 g) (fun r4 g5 => if r4 ≤ x2 then (some ((), g5)) else (bnd (f_X3_codeAt n Z x1 x2 g5) (fun r8 g9 => bnd (f_X3_add n Z a ((r8.toUInt32 % 65536).toInt32) g9) (fun r11 g12 => f_X3_copy_l6 n Z a fu x1 (x2 + 1) g12))))
set_option maxHeartbeats 4000000 in
set_option maxRecDepth 100000 in
theorem vl_X3_copy_l6 {x : Cq} {n : Nat} {Z : Zt} {a : Nat} {rr : Unit} {gg : Mem} (hM : Cm x cX3_copy RX3 3 none 1 Z none gg) (hz0 : zk Z a = 3) : ∀ (fu : Nat) (x1 : Nat) (x2 : Int32) (g : Mem), f_X3_copy_l6 n Z a fu x1 x2 g = some (rr, gg) → V x Z 0 0 6 [(0, va_rf (some a)), (1, va_rf (some x1)), (2, .int x2)] [] g := by
  intro fu
  induction fu with
  | zero => intro x1 x2 g h; cases h
  | succ fu ih =>
    intro x1 x2 g h
    unfold f_X3_copy_l6 at h
    refine V_iload_n hM.c 2 dX3_copy_6 rfl rfl ?_
    refine V_aload_n hM.c 1 dX3_copy_7 rfl rfl ?_
    replace h := bnd_some h
    obtain ⟨r4, g5, e6, h⟩ := h
    refine V_callV (As := []) (c := 2) (T := TX3) (N := 2) hM.c hM.a mq_X3_length mi_X3_length tw_863 (hM.d (by decide)) hM.z rfl (by omega) (zc_X3_length e6) (vm_X3_length e6) rfl (Nat.le_of_ble_eq_true rfl) dX3_copy_8 ?_
    refine V_icmp_ge hM.c 31 dX3_copy_11 (by decide) (fun c7 => ?_) (fun c7 => ?_)
    · replace h := ite_p h c7
      exact V_vretE hM h dX3_copy_31
    · replace h := ite_n h c7
      refine V_aload_n hM.c 0 dX3_copy_14 rfl rfl ?_
      refine V_aload_n hM.c 1 dX3_copy_15 rfl rfl ?_
      refine V_iload_n hM.c 2 dX3_copy_16 rfl rfl ?_
      replace h := bnd_some h
      obtain ⟨r8, g9, e10, h⟩ := h
      refine V_callV (As := [.int x2]) (c := 2) (T := TX3) (N := 2) hM.c hM.a mq_X3_codeAt mi_X3_codeAt tw_864 (hM.d (by decide)) hM.z rfl (by omega) (zc_X3_codeAt e10) (vm_X3_codeAt e10) rfl (Nat.le_of_ble_eq_true rfl) dX3_copy_17 ?_
      refine V_i2c hM.c dX3_copy_20 ?_
      replace h := bnd_some h
      obtain ⟨r11, g12, e13, h⟩ := h
      refine V_callV (As := [.int ((r8.toUInt32 % 65536).toInt32)]) (c := 2) (T := TX3) (N := 2) hM.c hM.a mq_X3_add mi_X3_add tw_865 (hM.d (by decide)) hM.z rfl (by omega) (zc_X3_add e13) (vm_X3_add e13) rfl (Nat.le_of_ble_eq_true rfl) dX3_copy_21 ?_
      refine V_pop hM.c dX3_copy_24 rfl ?_
      refine V_iinc (v := (x2 + 1)) (L' := [(2, .int (x2 + 1)), (0, va_rf (some a)), (1, va_rf (some x1))]) hM.c 2 dX3_copy_25 rfl rfl (by decide) rfl ?_
      refine V_goto hM.c 6 dX3_copy_28 (by decide) ?_
      refine V_sub [1, 2, 0] rfl ?_
      exact ih _ _ _ h
def f_X3_copy (n : Nat) (Z : Zt) (a : Nat) (x1 : Nat) (g : Mem) : Option (Unit × Mem) := grd (zk Z a = 3) (bnd (f_X3_clear n Z a g) (fun r1 g2 => f_X3_copy_l6 n Z a n x1 (0 : Int32) g2))
theorem mq_X3_copy : Mq yX3_copy cX3_copy 3 none 1 := ⟨tw_861, tw_84, ⟨by decide +kernel, by decide +kernel, by decide +kernel⟩, by decide⟩
theorem mi_X3_copy : Cond.instanceMethod yX3_copy ∈ TB ∧ Cond.selects yX3_copy.cls yX3_copy yX3_copy ∈ TB := ⟨tw_859, tw_860⟩
theorem zc_X3_copy {n : Nat} {Z : Zt} {a : Nat} {x1 : Nat} {g : Mem} {q : Unit × Mem} (h : f_X3_copy n Z a x1 g = some q) : zk Z a = 3 := (grd_some h).1
set_option maxHeartbeats 4000000 in
set_option maxRecDepth 100000 in
theorem vm_X3_copy {n : Nat} {Z : Zt} {a : Nat} {x1 : Nat} {g : Mem} {rr : Unit} {gg : Mem} (h : f_X3_copy n Z a x1 g = some (rr, gg)) : VM yX3_copy cX3_copy 3 none 1 [.ref a, va_rf (some x1)] Z g none gg := by
  unfold f_X3_copy at h
  replace h := grd_some h
  obtain ⟨hz0, h⟩ := h
  refine VM.of (by decide +kernel) (Nat.le_of_ble_eq_true rfl) (fun x hM => ?_)
  have hM : Cm x cX3_copy RX3 3 none 1 Z none gg := hM
  show V x Z 0 0 0 [(0, va_rf (some a)), (1, va_rf (some x1))] [] g
  refine V_aload_n hM.c 0 dX3_copy_0 rfl rfl ?_
  replace h := bnd_some h
  obtain ⟨r1, g2, e3, h⟩ := h
  refine V_callV (As := []) (c := 2) (T := TX3) (N := 2) hM.c hM.a mq_X3_clear mi_X3_clear tw_862 (hM.d (by decide)) hM.z rfl (by omega) (zc_X3_clear e3) (vm_X3_clear e3) rfl (Nat.le_of_ble_eq_true rfl) dX3_copy_1 ?_
  refine V_iconst (v := 0) hM.c dX3_copy_4 (by decide) ?_
  refine V_istore_n (i := 2) (L' := [(2, .int (0 : Int32)), (0, va_rf (some a)), (1, va_rf (some x1))]) hM.c dX3_copy_5 rfl (by decide) rfl ?_
  refine V_sub [1, 2, 0] rfl ?_
  exact vl_X3_copy_l6 hM hz0  _ _ _ _ h
def f_X2_hasMoreDigits_l4 (n : Nat) (Z : Zt) : Nat → Int32 → Int32 → Int32 → Mem → Option (Int32 × Mem)
  | 0, _, _, _, _ => none
  | fu + 1, x1, x2, x3, g => if x1 ≤ x3 then (if x2 ≤ 0 then (some ((0 : Int32), g)) else (some ((1 : Int32), g))) else (f_X2_hasMoreDigits_l4 n Z fu x1 (x2 / (10 : Int32)) (x3 + 1) g)
set_option maxHeartbeats 4000000 in
set_option maxRecDepth 100000 in
theorem vl_X2_hasMoreDigits_l4 {x : Cq} {n : Nat} {Z : Zt} {rr : Int32} {gg : Mem} (hM : Cm x cX2_hasMoreDigits RX2 4 (some .boolean) 0 Z (some (.int rr)) gg) : ∀ (fu : Nat) (x1 : Int32) (x2 : Int32) (x3 : Int32) (g : Mem), f_X2_hasMoreDigits_l4 n Z fu x1 x2 x3 g = some (rr, gg) → V x Z 0 0 4 [(1, .int x1), (2, .int x2), (3, .int x3)] [] g := by
  intro fu
  induction fu with
  | zero => intro x1 x2 x3 g h; cases h
  | succ fu ih =>
    intro x1 x2 x3 g h
    unfold f_X2_hasMoreDigits_l4 at h
    refine V_iload_n hM.c 2 dX2_hasMoreDigits_4 rfl rfl ?_
    refine V_iload_n hM.c 0 dX2_hasMoreDigits_5 rfl rfl ?_
    refine V_icmp_ge hM.c 20 dX2_hasMoreDigits_6 (by decide) (fun c1 => ?_) (fun c1 => ?_)
    · replace h := ite_p h c1
      refine V_iload_n hM.c 1 dX2_hasMoreDigits_20 rfl rfl ?_
      refine V_if_le hM.c 28 dX2_hasMoreDigits_21 (by decide) (fun c2 => ?_) (fun c2 => ?_)
      · replace h := ite_p h c2
        refine V_iconst (v := 0) hM.c dX2_hasMoreDigits_28 (by decide) ?_
        exact V_zretE hM (isz_nar (by decide)) h dX2_hasMoreDigits_29
      · replace h := ite_n h c2
        refine V_iconst (v := 1) hM.c dX2_hasMoreDigits_24 (by decide) ?_
        refine V_goto hM.c 29 dX2_hasMoreDigits_25 (by decide) ?_
        exact V_zretE hM (isz_nar (by decide)) h dX2_hasMoreDigits_29
    · replace h := ite_n h c1
      refine V_iload_n hM.c 1 dX2_hasMoreDigits_9 rfl rfl ?_
      refine V_bipush (v := 10) hM.c dX2_hasMoreDigits_10 (by decide) ?_
      refine V_idiv hM.c dX2_hasMoreDigits_12 (by decide) ?_
      refine V_istore_n (i := 2) (L' := [(2, .int (x2 / (10 : Int32))), (1, .int x1), (3, .int x3)]) hM.c dX2_hasMoreDigits_13 rfl (by decide) rfl ?_
      refine V_iinc (v := (x3 + 1)) (L' := [(3, .int (x3 + 1)), (2, .int (x2 / (10 : Int32))), (1, .int x1)]) hM.c 2 dX2_hasMoreDigits_14 rfl rfl (by decide) rfl ?_
      refine V_goto hM.c 4 dX2_hasMoreDigits_17 (by decide) ?_
      refine V_sub [2, 1, 0] rfl ?_
      exact ih _ _ _ _ h
def f_X2_hasMoreDigits (n : Nat) (Z : Zt) (x0 : Int32) (x1 : Int32) (g : Mem) : Option (Int32 × Mem) := f_X2_hasMoreDigits_l4 n Z n x1 x0 (0 : Int32) g
theorem mq_X2_hasMoreDigits : Mq yX2_hasMoreDigits cX2_hasMoreDigits 4 (some .boolean) 2 := ⟨tw_938, tw_61, ⟨by decide +kernel, by decide +kernel, by decide +kernel⟩, by decide⟩
theorem mi_X2_hasMoreDigits : Cond.static yX2_hasMoreDigits ∈ TB := tw_936
set_option maxHeartbeats 4000000 in
set_option maxRecDepth 100000 in
theorem vm_X2_hasMoreDigits {n : Nat} {Z : Zt} {x0 : Int32} {x1 : Int32} {g : Mem} {rr : Int32} {gg : Mem} (h : f_X2_hasMoreDigits n Z x0 x1 g = some (rr, gg)) : VM yX2_hasMoreDigits cX2_hasMoreDigits 4 (some .boolean) 0 [.int x0, .int x1] Z g (some (.int rr)) gg := by
  unfold f_X2_hasMoreDigits at h
  refine VM.of (by decide +kernel) (Nat.le_of_ble_eq_true rfl) (fun x hM => ?_)
  have hM : Cm x cX2_hasMoreDigits RX2 4 (some .boolean) 0 Z (some (.int rr)) gg := hM
  show V x Z 0 0 0 [(0, .int x0), (1, .int x1)] [] g
  refine V_iload_n hM.c 0 dX2_hasMoreDigits_0 rfl rfl ?_
  refine V_istore_n (i := 2) (L' := [(2, .int x0), (0, .int x0), (1, .int x1)]) hM.c dX2_hasMoreDigits_1 rfl (by decide) rfl ?_
  refine V_iconst (v := 0) hM.c dX2_hasMoreDigits_2 (by decide) ?_
  refine V_istore_n (i := 3) (L' := [(3, .int (0 : Int32)), (2, .int x0), (0, .int x0), (1, .int x1)]) hM.c dX2_hasMoreDigits_3 rfl (by decide) rfl ?_
  refine V_sub [3, 1, 0] rfl ?_
  exact vl_X2_hasMoreDigits_l4 hM  _ _ _ _ _ h
def f_X2_ofDecimal_l7 (n : Nat) (Z : Zt) : Nat → Int32 → Int32 → Int32 → Int32 → Mem → Option (Int32 × Mem)
  | 0, _, _, _, _, _ => none
  | fu + 1, x1, x2, x3, x4, g => if x1 ≤ x4 then (some (x2, g)) else (f_X2_ofDecimal_l7 n Z fu x1 (x2 ||| ((x3 - x3 / (10 : Int32) * (10 : Int32)) <<< (((4 : Int32) * x4) &&& 31))) (x3 / (10 : Int32)) (x4 + 1) g)
set_option maxHeartbeats 4000000 in
set_option maxRecDepth 100000 in
theorem vl_X2_ofDecimal_l7 {x : Cq} {n : Nat} {Z : Zt} {rr : Int32} {gg : Mem} (hM : Cm x cX2_ofDecimal RX2 5 (some .int) 0 Z (some (.int rr)) gg) : ∀ (fu : Nat) (x1 : Int32) (x2 : Int32) (x3 : Int32) (x4 : Int32) (g : Mem), f_X2_ofDecimal_l7 n Z fu x1 x2 x3 x4 g = some (rr, gg) → V x Z 0 0 7 [(1, .int x1), (2, .int x2), (3, .int x3), (4, .int x4)] [] g := by
  intro fu
  induction fu with
  | zero => intro x1 x2 x3 x4 g h; cases h
  | succ fu ih =>
    intro x1 x2 x3 x4 g h
    unfold f_X2_ofDecimal_l7 at h
    refine V_iload hM.c 3 dX2_ofDecimal_7 rfl ?_
    refine V_iload_n hM.c 0 dX2_ofDecimal_9 rfl rfl ?_
    refine V_icmp_ge hM.c 36 dX2_ofDecimal_10 (by decide) (fun c1 => ?_) (fun c1 => ?_)
    · replace h := ite_p h c1
      refine V_iload_n hM.c 1 dX2_ofDecimal_36 rfl rfl ?_
      exact V_iretE hM h dX2_ofDecimal_37
    · replace h := ite_n h c1
      refine V_iload_n hM.c 1 dX2_ofDecimal_13 rfl rfl ?_
      refine V_iload_n hM.c 2 dX2_ofDecimal_14 rfl rfl ?_
      refine V_bipush (v := 10) hM.c dX2_ofDecimal_15 (by decide) ?_
      refine V_irem hM.c dX2_ofDecimal_17 (by decide) ?_
      refine V_iconst (v := 4) hM.c dX2_ofDecimal_18 (by decide) ?_
      refine V_iload hM.c 3 dX2_ofDecimal_19 rfl ?_
      refine V_imul hM.c dX2_ofDecimal_21 ?_
      refine V_ishl hM.c dX2_ofDecimal_22 ?_
      refine V_ior hM.c dX2_ofDecimal_23 ?_
      refine V_istore_n (i := 2) (L' := [(2, .int (x2 ||| ((x3 - x3 / (10 : Int32) * (10 : Int32)) <<< (((4 : Int32) * x4) &&& 31)))), (1, .int x1), (3, .int x3), (4, .int x4)]) hM.c dX2_ofDecimal_24 rfl (by decide) rfl ?_
      refine V_iload_n hM.c 2 dX2_ofDecimal_25 rfl rfl ?_
      refine V_bipush (v := 10) hM.c dX2_ofDecimal_26 (by decide) ?_
      refine V_idiv hM.c dX2_ofDecimal_28 (by decide) ?_
      refine V_istore_n (i := 3) (L' := [(3, .int (x3 / (10 : Int32))), (2, .int (x2 ||| ((x3 - x3 / (10 : Int32) * (10 : Int32)) <<< (((4 : Int32) * x4) &&& 31)))), (1, .int x1), (4, .int x4)]) hM.c dX2_ofDecimal_29 rfl (by decide) rfl ?_
      refine V_iinc (v := (x4 + 1)) (L' := [(4, .int (x4 + 1)), (3, .int (x3 / (10 : Int32))), (2, .int (x2 ||| ((x3 - x3 / (10 : Int32) * (10 : Int32)) <<< (((4 : Int32) * x4) &&& 31)))), (1, .int x1)]) hM.c 3 dX2_ofDecimal_30 rfl rfl (by decide) rfl ?_
      refine V_goto hM.c 7 dX2_ofDecimal_33 (by decide) ?_
      refine V_sub [3, 2, 1, 0] rfl ?_
      exact ih _ _ _ _ _ h
def f_X2_ofDecimal (n : Nat) (Z : Zt) (x0 : Int32) (x1 : Int32) (g : Mem) : Option (Int32 × Mem) := f_X2_ofDecimal_l7 n Z n x1 (0 : Int32) x0 (0 : Int32) g
theorem mq_X2_ofDecimal : Mq yX2_ofDecimal cX2_ofDecimal 5 (some .int) 2 := ⟨tw_985, tw_61, ⟨by decide +kernel, by decide +kernel, by decide +kernel⟩, by decide⟩
theorem mi_X2_ofDecimal : Cond.static yX2_ofDecimal ∈ TB := tw_984
set_option maxHeartbeats 4000000 in
set_option maxRecDepth 100000 in
theorem vm_X2_ofDecimal {n : Nat} {Z : Zt} {x0 : Int32} {x1 : Int32} {g : Mem} {rr : Int32} {gg : Mem} (h : f_X2_ofDecimal n Z x0 x1 g = some (rr, gg)) : VM yX2_ofDecimal cX2_ofDecimal 5 (some .int) 0 [.int x0, .int x1] Z g (some (.int rr)) gg := by
  unfold f_X2_ofDecimal at h
  refine VM.of (by decide +kernel) (Nat.le_of_ble_eq_true rfl) (fun x hM => ?_)
  have hM : Cm x cX2_ofDecimal RX2 5 (some .int) 0 Z (some (.int rr)) gg := hM
  show V x Z 0 0 0 [(0, .int x0), (1, .int x1)] [] g
  refine V_iconst (v := 0) hM.c dX2_ofDecimal_0 (by decide) ?_
  refine V_istore_n (i := 2) (L' := [(2, .int (0 : Int32)), (0, .int x0), (1, .int x1)]) hM.c dX2_ofDecimal_1 rfl (by decide) rfl ?_
  refine V_iload_n hM.c 1 dX2_ofDecimal_2 rfl rfl ?_
  refine V_istore_n (i := 3) (L' := [(3, .int x0), (2, .int (0 : Int32)), (0, .int x0), (1, .int x1)]) hM.c dX2_ofDecimal_3 rfl (by decide) rfl ?_
  refine V_iconst (v := 0) hM.c dX2_ofDecimal_4 (by decide) ?_
  refine V_istore (L' := [(4, .int (0 : Int32)), (3, .int x0), (2, .int (0 : Int32)), (0, .int x0), (1, .int x1)]) hM.c dX2_ofDecimal_5 (by decide) rfl ?_
  refine V_sub [4, 2, 1, 0] rfl ?_
  exact vl_X2_ofDecimal_l7 hM  _ _ _ _ _ _ h
def f_X4_ofTag (n : Nat) (Z : Zt) (x0 : Int32) (g : Mem) : Option (Int64 × Mem) := some (((1 : Int64) <<< (((60 : Int32) - ((4 : Int32) * x0)).toInt64 &&& 63)), g)
theorem mq_X4_ofTag : Mq yX4_ofTag cX4_ofTag 1 (some .long) 1 := ⟨tw_778, tw_162, ⟨by decide +kernel, by decide +kernel, by decide +kernel⟩, by decide⟩
theorem mi_X4_ofTag : Cond.static yX4_ofTag ∈ TB := tw_776
set_option maxHeartbeats 4000000 in
set_option maxRecDepth 100000 in
theorem vm_X4_ofTag {n : Nat} {Z : Zt} {x0 : Int32} {g : Mem} {rr : Int64} {gg : Mem} (h : f_X4_ofTag n Z x0 g = some (rr, gg)) : VM yX4_ofTag cX4_ofTag 1 (some .long) 0 [.int x0] Z g (some (.long rr)) gg := by
  unfold f_X4_ofTag at h
  refine VM.of (by decide +kernel) (Nat.le_of_ble_eq_true rfl) (fun x hM => ?_)
  have hM : Cm x cX4_ofTag RX4 1 (some .long) 0 Z (some (.long rr)) gg := hM
  show V x Z 0 0 0 [(0, .int x0)] [] g
  refine V_lconst (v := 1) hM.c dX4_ofTag_0 (by decide) ?_
  refine V_bipush (v := 60) hM.c dX4_ofTag_1 (by decide) ?_
  refine V_iconst (v := 4) hM.c dX4_ofTag_3 (by decide) ?_
  refine V_iload_n hM.c 0 dX4_ofTag_4 rfl rfl ?_
  refine V_imul hM.c dX4_ofTag_5 ?_
  refine V_isub hM.c dX4_ofTag_6 ?_
  refine V_lshl hM.c dX4_ofTag_7 ?_
  exact V_lretE hM h dX4_ofTag_8
def f_X2_digit (n : Nat) (Z : Zt) (x0 : Int32) (x1 : Int32) (x2 : Int32) (g : Mem) : Option (Int32 × Mem) := some (((x0 >>> (((4 : Int32) * ((x1 - (1 : Int32)) - x2)) &&& 31)) &&& (15 : Int32)), g)
theorem mq_X2_digit : Mq yX2_digit cX2_digit 3 (some .int) 3 := ⟨tw_62, tw_61, ⟨by decide +kernel, by decide +kernel, by decide +kernel⟩, by decide⟩
theorem mi_X2_digit : Cond.static yX2_digit ∈ TB := tw_60
set_option maxHeartbeats 4000000 in
set_option maxRecDepth 100000 in
theorem vm_X2_digit {n : Nat} {Z : Zt} {x0 : Int32} {x1 : Int32} {x2 : Int32} {g : Mem} {rr : Int32} {gg : Mem} (h : f_X2_digit n Z x0 x1 x2 g = some (rr, gg)) : VM yX2_digit cX2_digit 3 (some .int) 0 [.int x0, .int x1, .int x2] Z g (some (.int rr)) gg := by
  unfold f_X2_digit at h
  refine VM.of (by decide +kernel) (Nat.le_of_ble_eq_true rfl) (fun x hM => ?_)
  have hM : Cm x cX2_digit RX2 3 (some .int) 0 Z (some (.int rr)) gg := hM
  show V x Z 0 0 0 [(0, .int x0), (1, .int x1), (2, .int x2)] [] g
  refine V_iload_n hM.c 0 dX2_digit_0 rfl rfl ?_
  refine V_iconst (v := 4) hM.c dX2_digit_1 (by decide) ?_
  refine V_iload_n hM.c 1 dX2_digit_2 rfl rfl ?_
  refine V_iconst (v := 1) hM.c dX2_digit_3 (by decide) ?_
  refine V_isub hM.c dX2_digit_4 ?_
  refine V_iload_n hM.c 2 dX2_digit_5 rfl rfl ?_
  refine V_isub hM.c dX2_digit_6 ?_
  refine V_imul hM.c dX2_digit_7 ?_
  refine V_ishr hM.c dX2_digit_8 ?_
  refine V_bipush (v := 15) hM.c dX2_digit_9 (by decide) ?_
  refine V_iand hM.c dX2_digit_11 ?_
  exact V_iretE hM h dX2_digit_12
def f_X2_join (n : Nat) (Z : Zt) (x0 : Int32) (x1 : Int32) (x2 : Int32) (g : Mem) : Option (Int32 × Mem) := some (((x0 <<< (((4 : Int32) * x2) &&& 31)) ||| x1), g)
theorem mq_X2_join : Mq yX2_join cX2_join 3 (some .int) 3 := ⟨tw_649, tw_61, ⟨by decide +kernel, by decide +kernel, by decide +kernel⟩, by decide⟩
theorem mi_X2_join : Cond.static yX2_join ∈ TB := tw_647
set_option maxHeartbeats 4000000 in
set_option maxRecDepth 100000 in
theorem vm_X2_join {n : Nat} {Z : Zt} {x0 : Int32} {x1 : Int32} {x2 : Int32} {g : Mem} {rr : Int32} {gg : Mem} (h : f_X2_join n Z x0 x1 x2 g = some (rr, gg)) : VM yX2_join cX2_join 3 (some .int) 0 [.int x0, .int x1, .int x2] Z g (some (.int rr)) gg := by
  unfold f_X2_join at h
  refine VM.of (by decide +kernel) (Nat.le_of_ble_eq_true rfl) (fun x hM => ?_)
  have hM : Cm x cX2_join RX2 3 (some .int) 0 Z (some (.int rr)) gg := hM
  show V x Z 0 0 0 [(0, .int x0), (1, .int x1), (2, .int x2)] [] g
  refine V_iload_n hM.c 0 dX2_join_0 rfl rfl ?_
  refine V_iconst (v := 4) hM.c dX2_join_1 (by decide) ?_
  refine V_iload_n hM.c 2 dX2_join_2 rfl rfl ?_
  refine V_imul hM.c dX2_join_3 ?_
  refine V_ishl hM.c dX2_join_4 ?_
  refine V_iload_n hM.c 1 dX2_join_5 rfl rfl ?_
  refine V_ior hM.c dX2_join_6 ?_
  exact V_iretE hM h dX2_join_7
def f_J6_bitCount_0f7a4 (n : Nat) (Z : Zt) (x0 : Int32) (g : Mem) : Option (Int32 × Mem) := some (((((((((x0 - (((x0.toUInt32 >>> ((1 : Int32).toUInt32 &&& Int32.toUInt32 31)).toInt32) &&& (1431655765 : Int32))) &&& (858993459 : Int32)) + ((((x0 - (((x0.toUInt32 >>> ((1 : Int32).toUInt32 &&& Int32.toUInt32 31)).toInt32) &&& (1431655765 : Int32))).toUInt32 >>> ((2 : Int32).toUInt32 &&& Int32.toUInt32 31)).toInt32) &&& (858993459 : Int32))) + (((((x0 - (((x0.toUInt32 >>> ((1 : Int32).toUInt32 &&& Int32.toUInt32 31)).toInt32) &&& (1431655765 : Int32))) &&& (858993459 : Int32)) + ((((x0 - (((x0.toUInt32 >>> ((1 : Int32).toUInt32 &&& Int32.toUInt32 31)).toInt32) &&& (1431655765 : Int32))).toUInt32 >>> ((2 : Int32).toUInt32 &&& Int32.toUInt32 31)).toInt32) &&& (858993459 : Int32))).toUInt32 >>> ((4 : Int32).toUInt32 &&& Int32.toUInt32 31)).toInt32)) &&& (252645135 : Int32)) + (((((((x0 - (((x0.toUInt32 >>> ((1 : Int32).toUInt32 &&& Int32.toUInt32 31)).toInt32) &&& (1431655765 : Int32))) &&& (858993459 : Int32)) + ((((x0 - (((x0.toUInt32 >>> ((1 : Int32).toUInt32 &&& Int32.toUInt32 31)).toInt32) &&& (1431655765 : Int32))).toUInt32 >>> ((2 : Int32).toUInt32 &&& Int32.toUInt32 31)).toInt32) &&& (858993459 : Int32))) + (((((x0 - (((x0.toUInt32 >>> ((1 : Int32).toUInt32 &&& Int32.toUInt32 31)).toInt32) &&& (1431655765 : Int32))) &&& (858993459 : Int32)) + ((((x0 - (((x0.toUInt32 >>> ((1 : Int32).toUInt32 &&& Int32.toUInt32 31)).toInt32) &&& (1431655765 : Int32))).toUInt32 >>> ((2 : Int32).toUInt32 &&& Int32.toUInt32 31)).toInt32) &&& (858993459 : Int32))).toUInt32 >>> ((4 : Int32).toUInt32 &&& Int32.toUInt32 31)).toInt32)) &&& (252645135 : Int32)).toUInt32 >>> ((8 : Int32).toUInt32 &&& Int32.toUInt32 31)).toInt32)) + ((((((((x0 - (((x0.toUInt32 >>> ((1 : Int32).toUInt32 &&& Int32.toUInt32 31)).toInt32) &&& (1431655765 : Int32))) &&& (858993459 : Int32)) + ((((x0 - (((x0.toUInt32 >>> ((1 : Int32).toUInt32 &&& Int32.toUInt32 31)).toInt32) &&& (1431655765 : Int32))).toUInt32 >>> ((2 : Int32).toUInt32 &&& Int32.toUInt32 31)).toInt32) &&& (858993459 : Int32))) + (((((x0 - (((x0.toUInt32 >>> ((1 : Int32).toUInt32 &&& Int32.toUInt32 31)).toInt32) &&& (1431655765 : Int32))) &&& (858993459 : Int32)) + ((((x0 - (((x0.toUInt32 >>> ((1 : Int32).toUInt32 &&& Int32.toUInt32 31)).toInt32) &&& (1431655765 : Int32))).toUInt32 >>> ((2 : Int32).toUInt32 &&& Int32.toUInt32 31)).toInt32) &&& (858993459 : Int32))).toUInt32 >>> ((4 : Int32).toUInt32 &&& Int32.toUInt32 31)).toInt32)) &&& (252645135 : Int32)) + (((((((x0 - (((x0.toUInt32 >>> ((1 : Int32).toUInt32 &&& Int32.toUInt32 31)).toInt32) &&& (1431655765 : Int32))) &&& (858993459 : Int32)) + ((((x0 - (((x0.toUInt32 >>> ((1 : Int32).toUInt32 &&& Int32.toUInt32 31)).toInt32) &&& (1431655765 : Int32))).toUInt32 >>> ((2 : Int32).toUInt32 &&& Int32.toUInt32 31)).toInt32) &&& (858993459 : Int32))) + (((((x0 - (((x0.toUInt32 >>> ((1 : Int32).toUInt32 &&& Int32.toUInt32 31)).toInt32) &&& (1431655765 : Int32))) &&& (858993459 : Int32)) + ((((x0 - (((x0.toUInt32 >>> ((1 : Int32).toUInt32 &&& Int32.toUInt32 31)).toInt32) &&& (1431655765 : Int32))).toUInt32 >>> ((2 : Int32).toUInt32 &&& Int32.toUInt32 31)).toInt32) &&& (858993459 : Int32))).toUInt32 >>> ((4 : Int32).toUInt32 &&& Int32.toUInt32 31)).toInt32)) &&& (252645135 : Int32)).toUInt32 >>> ((8 : Int32).toUInt32 &&& Int32.toUInt32 31)).toInt32)).toUInt32 >>> ((16 : Int32).toUInt32 &&& Int32.toUInt32 31)).toInt32)) &&& (63 : Int32)), g)
theorem mq_J6_bitCount_0f7a4 : Mq yJ6_bitCount_0f7a4 cJ6_bitCount_0f7a4 1 (some .int) 1 := ⟨tw_506, tw_505, ⟨by decide +kernel, by decide +kernel, by decide +kernel⟩, by decide⟩
theorem mi_J6_bitCount_0f7a4 : Cond.static yJ6_bitCount_0f7a4 ∈ TB := tw_504
set_option maxHeartbeats 4000000 in
set_option maxRecDepth 100000 in
theorem vm_J6_bitCount_0f7a4 {n : Nat} {Z : Zt} {x0 : Int32} {g : Mem} {rr : Int32} {gg : Mem} (h : f_J6_bitCount_0f7a4 n Z x0 g = some (rr, gg)) : VM yJ6_bitCount_0f7a4 cJ6_bitCount_0f7a4 1 (some .int) 0 [.int x0] Z g (some (.int rr)) gg := by
  unfold f_J6_bitCount_0f7a4 at h
  refine VM.of (by decide +kernel) (Nat.le_of_ble_eq_true rfl) (fun x hM => ?_)
  have hM : Cm x cJ6_bitCount_0f7a4 RJ6 1 (some .int) 0 Z (some (.int rr)) gg := hM
  show V x Z 0 0 0 [(0, .int x0)] [] g
  refine V_iload_n hM.c 0 dJ6_bitCount_0f7a4_0 rfl rfl ?_
  refine V_iload_n hM.c 0 dJ6_bitCount_0f7a4_1 rfl rfl ?_
  refine V_iconst (v := 1) hM.c dJ6_bitCount_0f7a4_2 (by decide) ?_
  refine V_iushr hM.c dJ6_bitCount_0f7a4_3 ?_
  refine V_ldcw (v := 1431655765) hM.c tw_507 dJ6_bitCount_0f7a4_4 ?_
  refine V_iand hM.c dJ6_bitCount_0f7a4_7 ?_
  refine V_isub hM.c dJ6_bitCount_0f7a4_8 ?_
  refine V_istore_n (i := 0) (L' := [(0, .int (x0 - (((x0.toUInt32 >>> ((1 : Int32).toUInt32 &&& Int32.toUInt32 31)).toInt32) &&& (1431655765 : Int32))))]) hM.c dJ6_bitCount_0f7a4_9 rfl (by decide) rfl ?_
  refine V_iload_n hM.c 0 dJ6_bitCount_0f7a4_10 rfl rfl ?_
  refine V_ldcw (v := 858993459) hM.c tw_508 dJ6_bitCount_0f7a4_11 ?_
  refine V_iand hM.c dJ6_bitCount_0f7a4_14 ?_
  refine V_iload_n hM.c 0 dJ6_bitCount_0f7a4_15 rfl rfl ?_
  refine V_iconst (v := 2) hM.c dJ6_bitCount_0f7a4_16 (by decide) ?_
  refine V_iushr hM.c dJ6_bitCount_0f7a4_17 ?_
  refine V_ldcw (v := 858993459) hM.c tw_508 dJ6_bitCount_0f7a4_18 ?_
  refine V_iand hM.c dJ6_bitCount_0f7a4_21 ?_
  refine V_iadd hM.c dJ6_bitCount_0f7a4_22 ?_
  refine V_istore_n (i := 0) (L' := [(0, .int (((x0 - (((x0.toUInt32 >>> ((1 : Int32).toUInt32 &&& Int32.toUInt32 31)).toInt32) &&& (1431655765 : Int32))) &&& (858993459 : Int32)) + ((((x0 - (((x0.toUInt32 >>> ((1 : Int32).toUInt32 &&& Int32.toUInt32 31)).toInt32) &&& (1431655765 : Int32))).toUInt32 >>> ((2 : Int32).toUInt32 &&& Int32.toUInt32 31)).toInt32) &&& (858993459 : Int32))))]) hM.c dJ6_bitCount_0f7a4_23 rfl (by decide) rfl ?_
  refine V_iload_n hM.c 0 dJ6_bitCount_0f7a4_24 rfl rfl ?_
  refine V_iload_n hM.c 0 dJ6_bitCount_0f7a4_25 rfl rfl ?_
  refine V_iconst (v := 4) hM.c dJ6_bitCount_0f7a4_26 (by decide) ?_
  refine V_iushr hM.c dJ6_bitCount_0f7a4_27 ?_
  refine V_iadd hM.c dJ6_bitCount_0f7a4_28 ?_
  refine V_ldcw (v := 252645135) hM.c tw_509 dJ6_bitCount_0f7a4_29 ?_
  refine V_iand hM.c dJ6_bitCount_0f7a4_32 ?_
  refine V_istore_n (i := 0) (L' := [(0, .int (((((x0 - (((x0.toUInt32 >>> ((1 : Int32).toUInt32 &&& Int32.toUInt32 31)).toInt32) &&& (1431655765 : Int32))) &&& (858993459 : Int32)) + ((((x0 - (((x0.toUInt32 >>> ((1 : Int32).toUInt32 &&& Int32.toUInt32 31)).toInt32) &&& (1431655765 : Int32))).toUInt32 >>> ((2 : Int32).toUInt32 &&& Int32.toUInt32 31)).toInt32) &&& (858993459 : Int32))) + (((((x0 - (((x0.toUInt32 >>> ((1 : Int32).toUInt32 &&& Int32.toUInt32 31)).toInt32) &&& (1431655765 : Int32))) &&& (858993459 : Int32)) + ((((x0 - (((x0.toUInt32 >>> ((1 : Int32).toUInt32 &&& Int32.toUInt32 31)).toInt32) &&& (1431655765 : Int32))).toUInt32 >>> ((2 : Int32).toUInt32 &&& Int32.toUInt32 31)).toInt32) &&& (858993459 : Int32))).toUInt32 >>> ((4 : Int32).toUInt32 &&& Int32.toUInt32 31)).toInt32)) &&& (252645135 : Int32)))]) hM.c dJ6_bitCount_0f7a4_33 rfl (by decide) rfl ?_
  refine V_iload_n hM.c 0 dJ6_bitCount_0f7a4_34 rfl rfl ?_
  refine V_iload_n hM.c 0 dJ6_bitCount_0f7a4_35 rfl rfl ?_
  refine V_bipush (v := 8) hM.c dJ6_bitCount_0f7a4_36 (by decide) ?_
  refine V_iushr hM.c dJ6_bitCount_0f7a4_38 ?_
  refine V_iadd hM.c dJ6_bitCount_0f7a4_39 ?_
  refine V_istore_n (i := 0) (L' := [(0, .int ((((((x0 - (((x0.toUInt32 >>> ((1 : Int32).toUInt32 &&& Int32.toUInt32 31)).toInt32) &&& (1431655765 : Int32))) &&& (858993459 : Int32)) + ((((x0 - (((x0.toUInt32 >>> ((1 : Int32).toUInt32 &&& Int32.toUInt32 31)).toInt32) &&& (1431655765 : Int32))).toUInt32 >>> ((2 : Int32).toUInt32 &&& Int32.toUInt32 31)).toInt32) &&& (858993459 : Int32))) + (((((x0 - (((x0.toUInt32 >>> ((1 : Int32).toUInt32 &&& Int32.toUInt32 31)).toInt32) &&& (1431655765 : Int32))) &&& (858993459 : Int32)) + ((((x0 - (((x0.toUInt32 >>> ((1 : Int32).toUInt32 &&& Int32.toUInt32 31)).toInt32) &&& (1431655765 : Int32))).toUInt32 >>> ((2 : Int32).toUInt32 &&& Int32.toUInt32 31)).toInt32) &&& (858993459 : Int32))).toUInt32 >>> ((4 : Int32).toUInt32 &&& Int32.toUInt32 31)).toInt32)) &&& (252645135 : Int32)) + (((((((x0 - (((x0.toUInt32 >>> ((1 : Int32).toUInt32 &&& Int32.toUInt32 31)).toInt32) &&& (1431655765 : Int32))) &&& (858993459 : Int32)) + ((((x0 - (((x0.toUInt32 >>> ((1 : Int32).toUInt32 &&& Int32.toUInt32 31)).toInt32) &&& (1431655765 : Int32))).toUInt32 >>> ((2 : Int32).toUInt32 &&& Int32.toUInt32 31)).toInt32) &&& (858993459 : Int32))) + (((((x0 - (((x0.toUInt32 >>> ((1 : Int32).toUInt32 &&& Int32.toUInt32 31)).toInt32) &&& (1431655765 : Int32))) &&& (858993459 : Int32)) + ((((x0 - (((x0.toUInt32 >>> ((1 : Int32).toUInt32 &&& Int32.toUInt32 31)).toInt32) &&& (1431655765 : Int32))).toUInt32 >>> ((2 : Int32).toUInt32 &&& Int32.toUInt32 31)).toInt32) &&& (858993459 : Int32))).toUInt32 >>> ((4 : Int32).toUInt32 &&& Int32.toUInt32 31)).toInt32)) &&& (252645135 : Int32)).toUInt32 >>> ((8 : Int32).toUInt32 &&& Int32.toUInt32 31)).toInt32)))]) hM.c dJ6_bitCount_0f7a4_40 rfl (by decide) rfl ?_
  refine V_iload_n hM.c 0 dJ6_bitCount_0f7a4_41 rfl rfl ?_
  refine V_iload_n hM.c 0 dJ6_bitCount_0f7a4_42 rfl rfl ?_
  refine V_bipush (v := 16) hM.c dJ6_bitCount_0f7a4_43 (by decide) ?_
  refine V_iushr hM.c dJ6_bitCount_0f7a4_45 ?_
  refine V_iadd hM.c dJ6_bitCount_0f7a4_46 ?_
  refine V_istore_n (i := 0) (L' := [(0, .int (((((((x0 - (((x0.toUInt32 >>> ((1 : Int32).toUInt32 &&& Int32.toUInt32 31)).toInt32) &&& (1431655765 : Int32))) &&& (858993459 : Int32)) + ((((x0 - (((x0.toUInt32 >>> ((1 : Int32).toUInt32 &&& Int32.toUInt32 31)).toInt32) &&& (1431655765 : Int32))).toUInt32 >>> ((2 : Int32).toUInt32 &&& Int32.toUInt32 31)).toInt32) &&& (858993459 : Int32))) + (((((x0 - (((x0.toUInt32 >>> ((1 : Int32).toUInt32 &&& Int32.toUInt32 31)).toInt32) &&& (1431655765 : Int32))) &&& (858993459 : Int32)) + ((((x0 - (((x0.toUInt32 >>> ((1 : Int32).toUInt32 &&& Int32.toUInt32 31)).toInt32) &&& (1431655765 : Int32))).toUInt32 >>> ((2 : Int32).toUInt32 &&& Int32.toUInt32 31)).toInt32) &&& (858993459 : Int32))).toUInt32 >>> ((4 : Int32).toUInt32 &&& Int32.toUInt32 31)).toInt32)) &&& (252645135 : Int32)) + (((((((x0 - (((x0.toUInt32 >>> ((1 : Int32).toUInt32 &&& Int32.toUInt32 31)).toInt32) &&& (1431655765 : Int32))) &&& (858993459 : Int32)) + ((((x0 - (((x0.toUInt32 >>> ((1 : Int32).toUInt32 &&& Int32.toUInt32 31)).toInt32) &&& (1431655765 : Int32))).toUInt32 >>> ((2 : Int32).toUInt32 &&& Int32.toUInt32 31)).toInt32) &&& (858993459 : Int32))) + (((((x0 - (((x0.toUInt32 >>> ((1 : Int32).toUInt32 &&& Int32.toUInt32 31)).toInt32) &&& (1431655765 : Int32))) &&& (858993459 : Int32)) + ((((x0 - (((x0.toUInt32 >>> ((1 : Int32).toUInt32 &&& Int32.toUInt32 31)).toInt32) &&& (1431655765 : Int32))).toUInt32 >>> ((2 : Int32).toUInt32 &&& Int32.toUInt32 31)).toInt32) &&& (858993459 : Int32))).toUInt32 >>> ((4 : Int32).toUInt32 &&& Int32.toUInt32 31)).toInt32)) &&& (252645135 : Int32)).toUInt32 >>> ((8 : Int32).toUInt32 &&& Int32.toUInt32 31)).toInt32)) + ((((((((x0 - (((x0.toUInt32 >>> ((1 : Int32).toUInt32 &&& Int32.toUInt32 31)).toInt32) &&& (1431655765 : Int32))) &&& (858993459 : Int32)) + ((((x0 - (((x0.toUInt32 >>> ((1 : Int32).toUInt32 &&& Int32.toUInt32 31)).toInt32) &&& (1431655765 : Int32))).toUInt32 >>> ((2 : Int32).toUInt32 &&& Int32.toUInt32 31)).toInt32) &&& (858993459 : Int32))) + (((((x0 - (((x0.toUInt32 >>> ((1 : Int32).toUInt32 &&& Int32.toUInt32 31)).toInt32) &&& (1431655765 : Int32))) &&& (858993459 : Int32)) + ((((x0 - (((x0.toUInt32 >>> ((1 : Int32).toUInt32 &&& Int32.toUInt32 31)).toInt32) &&& (1431655765 : Int32))).toUInt32 >>> ((2 : Int32).toUInt32 &&& Int32.toUInt32 31)).toInt32) &&& (858993459 : Int32))).toUInt32 >>> ((4 : Int32).toUInt32 &&& Int32.toUInt32 31)).toInt32)) &&& (252645135 : Int32)) + (((((((x0 - (((x0.toUInt32 >>> ((1 : Int32).toUInt32 &&& Int32.toUInt32 31)).toInt32) &&& (1431655765 : Int32))) &&& (858993459 : Int32)) + ((((x0 - (((x0.toUInt32 >>> ((1 : Int32).toUInt32 &&& Int32.toUInt32 31)).toInt32) &&& (1431655765 : Int32))).toUInt32 >>> ((2 : Int32).toUInt32 &&& Int32.toUInt32 31)).toInt32) &&& (858993459 : Int32))) + (((((x0 - (((x0.toUInt32 >>> ((1 : Int32).toUInt32 &&& Int32.toUInt32 31)).toInt32) &&& (1431655765 : Int32))) &&& (858993459 : Int32)) + ((((x0 - (((x0.toUInt32 >>> ((1 : Int32).toUInt32 &&& Int32.toUInt32 31)).toInt32) &&& (1431655765 : Int32))).toUInt32 >>> ((2 : Int32).toUInt32 &&& Int32.toUInt32 31)).toInt32) &&& (858993459 : Int32))).toUInt32 >>> ((4 : Int32).toUInt32 &&& Int32.toUInt32 31)).toInt32)) &&& (252645135 : Int32)).toUInt32 >>> ((8 : Int32).toUInt32 &&& Int32.toUInt32 31)).toInt32)).toUInt32 >>> ((16 : Int32).toUInt32 &&& Int32.toUInt32 31)).toInt32)))]) hM.c dJ6_bitCount_0f7a4_47 rfl (by decide) rfl ?_
  refine V_iload_n hM.c 0 dJ6_bitCount_0f7a4_48 rfl rfl ?_
  refine V_bipush (v := 63) hM.c dJ6_bitCount_0f7a4_49 (by decide) ?_
  refine V_iand hM.c dJ6_bitCount_0f7a4_51 ?_
  exact V_iretE hM h dJ6_bitCount_0f7a4_52
def f_X4_maskOf_l4 (n : Nat) (Z : Zt) : Nat → Int32 → Int64 → Int32 → Mem → Option (Int64 × Mem)
  | 0, _, _, _, _ => none
  | fu + 1, x0, x1, x3, g => if (16 : Int32) ≤ x3 then (some (x1, g)) else (if ((x0 >>> (x3 &&& 31)) &&& (1 : Int32)) = 0 then (f_X4_maskOf_l4 n Z fu x0 x1 (x3 + 1) g) else (f_X4_maskOf_l4 n Z fu x0 (x1 ||| ((15 : Int64) <<< (((60 : Int32) - ((4 : Int32) * x3)).toInt64 &&& 63))) (x3 + 1) g))
set_option maxHeartbeats 4000000 in
set_option maxRecDepth 100000 in
theorem vl_X4_maskOf_l4 {x : Cq} {n : Nat} {Z : Zt} {rr : Int64} {gg : Mem} (hM : Cm x cX4_maskOf RX4 4 (some .long) 0 Z (some (.long rr)) gg) : ∀ (fu : Nat) (x0 : Int32) (x1 : Int64) (x3 : Int32) (g : Mem), f_X4_maskOf_l4 n Z fu x0 x1 x3 g = some (rr, gg) → V x Z 0 0 4 [(0, .int x0), (1, .long x1), (3, .int x3)] [] g := by
  intro fu
  induction fu with
  | zero => intro x0 x1 x3 g h; cases h
  | succ fu ih =>
    intro x0 x1 x3 g h
    unfold f_X4_maskOf_l4 at h
    refine V_iload_n hM.c 2 dX4_maskOf_4 rfl rfl ?_
    refine V_bipush (v := 16) hM.c dX4_maskOf_5 (by decide) ?_
    refine V_icmp_ge hM.c 37 dX4_maskOf_7 (by decide) (fun c1 => ?_) (fun c1 => ?_)
    · replace h := ite_p h c1
      refine V_lload_n hM.c 1 dX4_maskOf_37 rfl rfl ?_
      exact V_lretE hM h dX4_maskOf_38
    · replace h := ite_n h c1
      refine V_iload_n hM.c 0 dX4_maskOf_10 rfl rfl ?_
      refine V_iload_n hM.c 2 dX4_maskOf_11 rfl rfl ?_
      refine V_ishr hM.c dX4_maskOf_12 ?_
      refine V_iconst (v := 1) hM.c dX4_maskOf_13 (by decide) ?_
      refine V_iand hM.c dX4_maskOf_14 ?_
      refine V_if_eq hM.c 31 dX4_maskOf_15 (by decide) (fun c2 => ?_) (fun c2 => ?_)
      · replace h := ite_p h c2
        refine V_iinc (v := (x3 + 1)) (L' := [(3, .int (x3 + 1)), (0, .int x0), (1, .long x1)]) hM.c 2 dX4_maskOf_31 rfl rfl (by decide) rfl ?_
        refine V_goto hM.c 4 dX4_maskOf_34 (by decide) ?_
        refine V_sub [1, 2, 0] rfl ?_
        exact ih _ _ _ _ h
      · replace h := ite_n h c2
        refine V_lload_n hM.c 1 dX4_maskOf_18 rfl rfl ?_
        refine V_ldc2 (v := 15) hM.c tw_184 dX4_maskOf_19 ?_
        refine V_bipush (v := 60) hM.c dX4_maskOf_22 (by decide) ?_
        refine V_iconst (v := 4) hM.c dX4_maskOf_24 (by decide) ?_
        refine V_iload_n hM.c 2 dX4_maskOf_25 rfl rfl ?_
        refine V_imul hM.c dX4_maskOf_26 ?_
        refine V_isub hM.c dX4_maskOf_27 ?_
        refine V_lshl hM.c dX4_maskOf_28 ?_
        refine V_lor hM.c dX4_maskOf_29 ?_
        refine V_lstore_n (i := 1) (L' := [(1, .long (x1 ||| ((15 : Int64) <<< (((60 : Int32) - ((4 : Int32) * x3)).toInt64 &&& 63)))), (0, .int x0), (3, .int x3)]) hM.c dX4_maskOf_30 rfl (by decide) rfl ?_
        refine V_iinc (v := (x3 + 1)) (L' := [(3, .int (x3 + 1)), (1, .long (x1 ||| ((15 : Int64) <<< (((60 : Int32) - ((4 : Int32) * x3)).toInt64 &&& 63)))), (0, .int x0)]) hM.c 2 dX4_maskOf_31 rfl rfl (by decide) rfl ?_
        refine V_goto hM.c 4 dX4_maskOf_34 (by decide) ?_
        refine V_sub [2, 1, 0] rfl ?_
        exact ih _ _ _ _ h
def f_X4_maskOf (n : Nat) (Z : Zt) (x0 : Int32) (g : Mem) : Option (Int64 × Mem) := f_X4_maskOf_l4 n Z n x0 (0 : Int64) (0 : Int32) g
theorem mq_X4_maskOf : Mq yX4_maskOf cX4_maskOf 4 (some .long) 1 := ⟨tw_183, tw_162, ⟨by decide +kernel, by decide +kernel, by decide +kernel⟩, by decide⟩
theorem mi_X4_maskOf : Cond.static yX4_maskOf ∈ TB := tw_182
set_option maxHeartbeats 4000000 in
set_option maxRecDepth 100000 in
theorem vm_X4_maskOf {n : Nat} {Z : Zt} {x0 : Int32} {g : Mem} {rr : Int64} {gg : Mem} (h : f_X4_maskOf n Z x0 g = some (rr, gg)) : VM yX4_maskOf cX4_maskOf 4 (some .long) 0 [.int x0] Z g (some (.long rr)) gg := by
  unfold f_X4_maskOf at h
  refine VM.of (by decide +kernel) (Nat.le_of_ble_eq_true rfl) (fun x hM => ?_)
  have hM : Cm x cX4_maskOf RX4 4 (some .long) 0 Z (some (.long rr)) gg := hM
  show V x Z 0 0 0 [(0, .int x0)] [] g
  refine V_lconst (v := 0) hM.c dX4_maskOf_0 (by decide) ?_
  refine V_lstore_n (i := 1) (L' := [(1, .long (0 : Int64)), (0, .int x0)]) hM.c dX4_maskOf_1 rfl (by decide) rfl ?_
  refine V_iconst (v := 0) hM.c dX4_maskOf_2 (by decide) ?_
  refine V_istore_n (i := 3) (L' := [(3, .int (0 : Int32)), (1, .long (0 : Int64)), (0, .int x0)]) hM.c dX4_maskOf_3 rfl (by decide) rfl ?_
  refine V_sub [2, 1, 0] rfl ?_
  exact vl_X4_maskOf_l4 hM  _ _ _ _ _ h
def f_X4_withoutPowers (n : Nat) (Z : Zt) (x0 : Int64) (g : Mem) : Option (Int64 × Mem) := some (((((x0 ||| ((x0.toUInt64 >>> ((1 : Int32).toInt64.toUInt64 &&& Int64.toUInt64 63)).toInt64)) ||| ((x0.toUInt64 >>> ((2 : Int32).toInt64.toUInt64 &&& Int64.toUInt64 63)).toInt64)) ||| ((x0.toUInt64 >>> ((3 : Int32).toInt64.toUInt64 &&& Int64.toUInt64 63)).toInt64)) &&& (1229782938247303441 : Int64)), g)
theorem mq_X4_withoutPowers : Mq yX4_withoutPowers cX4_withoutPowers 2 (some .long) 1 := ⟨tw_311, tw_162, ⟨by decide +kernel, by decide +kernel, by decide +kernel⟩, by decide⟩
theorem mi_X4_withoutPowers : Cond.static yX4_withoutPowers ∈ TB := tw_309
set_option maxHeartbeats 4000000 in
set_option maxRecDepth 100000 in
theorem vm_X4_withoutPowers {n : Nat} {Z : Zt} {x0 : Int64} {g : Mem} {rr : Int64} {gg : Mem} (h : f_X4_withoutPowers n Z x0 g = some (rr, gg)) : VM yX4_withoutPowers cX4_withoutPowers 2 (some .long) 0 [.long x0] Z g (some (.long rr)) gg := by
  unfold f_X4_withoutPowers at h
  refine VM.of (by decide +kernel) (Nat.le_of_ble_eq_true rfl) (fun x hM => ?_)
  have hM : Cm x cX4_withoutPowers RX4 2 (some .long) 0 Z (some (.long rr)) gg := hM
  show V x Z 0 0 0 [(0, .long x0)] [] g
  refine V_lload_n hM.c 0 dX4_withoutPowers_0 rfl rfl ?_
  refine V_lload_n hM.c 0 dX4_withoutPowers_1 rfl rfl ?_
  refine V_iconst (v := 1) hM.c dX4_withoutPowers_2 (by decide) ?_
  refine V_lushr hM.c dX4_withoutPowers_3 ?_
  refine V_lor hM.c dX4_withoutPowers_4 ?_
  refine V_lload_n hM.c 0 dX4_withoutPowers_5 rfl rfl ?_
  refine V_iconst (v := 2) hM.c dX4_withoutPowers_6 (by decide) ?_
  refine V_lushr hM.c dX4_withoutPowers_7 ?_
  refine V_lor hM.c dX4_withoutPowers_8 ?_
  refine V_lload_n hM.c 0 dX4_withoutPowers_9 rfl rfl ?_
  refine V_iconst (v := 3) hM.c dX4_withoutPowers_10 (by decide) ?_
  refine V_lushr hM.c dX4_withoutPowers_11 ?_
  refine V_lor hM.c dX4_withoutPowers_12 ?_
  refine V_ldc2 (v := 1229782938247303441) hM.c tw_312 dX4_withoutPowers_13 ?_
  refine V_land hM.c dX4_withoutPowers_16 ?_
  exact V_lretE hM h dX4_withoutPowers_17
def f_X4_power (n : Nat) (Z : Zt) (x0 : Int64) (x2 : Int32) (g : Mem) : Option (Int32 × Mem) := some (((((x0.toUInt64 >>> (((60 : Int32) - ((4 : Int32) * x2)).toInt64.toUInt64 &&& Int64.toUInt64 63)).toInt64).toInt32) &&& (15 : Int32)), g)
theorem mq_X4_power : Mq yX4_power cX4_power 3 (some .int) 2 := ⟨tw_166, tw_162, ⟨by decide +kernel, by decide +kernel, by decide +kernel⟩, by decide⟩
theorem mi_X4_power : Cond.static yX4_power ∈ TB := tw_165
set_option maxHeartbeats 4000000 in
set_option maxRecDepth 100000 in
theorem vm_X4_power {n : Nat} {Z : Zt} {x0 : Int64} {x2 : Int32} {g : Mem} {rr : Int32} {gg : Mem} (h : f_X4_power n Z x0 x2 g = some (rr, gg)) : VM yX4_power cX4_power 3 (some .int) 0 [.long x0, .int x2] Z g (some (.int rr)) gg := by
  unfold f_X4_power at h
  refine VM.of (by decide +kernel) (Nat.le_of_ble_eq_true rfl) (fun x hM => ?_)
  have hM : Cm x cX4_power RX4 3 (some .int) 0 Z (some (.int rr)) gg := hM
  show V x Z 0 0 0 [(0, .long x0), (2, .int x2)] [] g
  refine V_lload_n hM.c 0 dX4_power_0 rfl rfl ?_
  refine V_bipush (v := 60) hM.c dX4_power_1 (by decide) ?_
  refine V_iconst (v := 4) hM.c dX4_power_3 (by decide) ?_
  refine V_iload_n hM.c 1 dX4_power_4 rfl rfl ?_
  refine V_imul hM.c dX4_power_5 ?_
  refine V_isub hM.c dX4_power_6 ?_
  refine V_lushr hM.c dX4_power_7 ?_
  refine V_l2i hM.c dX4_power_8 ?_
  refine V_bipush (v := 15) hM.c dX4_power_9 (by decide) ?_
  refine V_iand hM.c dX4_power_11 ?_
  exact V_iretE hM h dX4_power_12
def f_X4_tagSet_l4 (n : Nat) (Z : Zt) : Nat → Int64 → Int32 → Int32 → Mem → Option (Int32 × Mem)
  | 0, _, _, _, _ => none
  | fu + 1, x0, x2, x3, g => if (16 : Int32) ≤ x3 then (some (x2, g)) else (bnd (f_X4_power n Z x0 x3 g) (fun r2 g3 => if r2 ≤ 0 then (f_X4_tagSet_l4 n Z fu x0 x2 (x3 + 1) g3) else (f_X4_tagSet_l4 n Z fu x0 (x2 ||| ((1 : Int32) <<< (x3 &&& 31))) (x3 + 1) g3)))
set_option maxHeartbeats 4000000 in
set_option maxRecDepth 100000 in
theorem vl_X4_tagSet_l4 {x : Cq} {n : Nat} {Z : Zt} {rr : Int32} {gg : Mem} (hM : Cm x cX4_tagSet RX4 4 (some .int) 1 Z (some (.int rr)) gg) : ∀ (fu : Nat) (x0 : Int64) (x2 : Int32) (x3 : Int32) (g : Mem), f_X4_tagSet_l4 n Z fu x0 x2 x3 g = some (rr, gg) → V x Z 0 0 4 [(0, .long x0), (2, .int x2), (3, .int x3)] [] g := by
  intro fu
  induction fu with
  | zero => intro x0 x2 x3 g h; cases h
  | succ fu ih =>
    intro x0 x2 x3 g h
    unfold f_X4_tagSet_l4 at h
    refine V_iload_n hM.c 2 dX4_tagSet_4 rfl rfl ?_
    refine V_bipush (v := 16) hM.c dX4_tagSet_5 (by decide) ?_
    refine V_icmp_ge hM.c 30 dX4_tagSet_7 (by decide) (fun c1 => ?_) (fun c1 => ?_)
    · replace h := ite_p h c1
      refine V_iload_n hM.c 1 dX4_tagSet_30 rfl rfl ?_
      exact V_iretE hM h dX4_tagSet_31
    · replace h := ite_n h c1
      refine V_lload_n hM.c 0 dX4_tagSet_10 rfl rfl ?_
      refine V_iload_n hM.c 2 dX4_tagSet_11 rfl rfl ?_
      replace h := bnd_some h
      obtain ⟨r2, g3, e4, h⟩ := h
      refine V_callS (As := [.long x0, .int x3]) hM.c hM.a mq_X4_power mi_X4_power tw_164 (hM.d (by decide)) hM.z (vm_X4_power e4) rfl (Nat.le_of_ble_eq_true rfl) dX4_tagSet_12 ?_
      refine V_if_le hM.c 24 dX4_tagSet_15 (by decide) (fun c5 => ?_) (fun c5 => ?_)
      · replace h := ite_p h c5
        refine V_iinc (v := (x3 + 1)) (L' := [(3, .int (x3 + 1)), (0, .long x0), (2, .int x2)]) hM.c 2 dX4_tagSet_24 rfl rfl (by decide) rfl ?_
        refine V_goto hM.c 4 dX4_tagSet_27 (by decide) ?_
        refine V_sub [1, 2, 0] rfl ?_
        exact ih _ _ _ _ h
      · replace h := ite_n h c5
        refine V_iload_n hM.c 1 dX4_tagSet_18 rfl rfl ?_
        refine V_iconst (v := 1) hM.c dX4_tagSet_19 (by decide) ?_
        refine V_iload_n hM.c 2 dX4_tagSet_20 rfl rfl ?_
        refine V_ishl hM.c dX4_tagSet_21 ?_
        refine V_ior hM.c dX4_tagSet_22 ?_
        refine V_istore_n (i := 2) (L' := [(2, .int (x2 ||| ((1 : Int32) <<< (x3 &&& 31)))), (0, .long x0), (3, .int x3)]) hM.c dX4_tagSet_23 rfl (by decide) rfl ?_
        refine V_iinc (v := (x3 + 1)) (L' := [(3, .int (x3 + 1)), (2, .int (x2 ||| ((1 : Int32) <<< (x3 &&& 31)))), (0, .long x0)]) hM.c 2 dX4_tagSet_24 rfl rfl (by decide) rfl ?_
        refine V_goto hM.c 4 dX4_tagSet_27 (by decide) ?_
        refine V_sub [2, 1, 0] rfl ?_
        exact ih _ _ _ _ h
def f_X4_tagSet (n : Nat) (Z : Zt) (x0 : Int64) (g : Mem) : Option (Int32 × Mem) := f_X4_tagSet_l4 n Z n x0 (0 : Int32) (0 : Int32) g
theorem mq_X4_tagSet : Mq yX4_tagSet cX4_tagSet 4 (some .int) 1 := ⟨tw_163, tw_162, ⟨by decide +kernel, by decide +kernel, by decide +kernel⟩, by decide⟩
theorem mi_X4_tagSet : Cond.static yX4_tagSet ∈ TB := tw_161
set_option maxHeartbeats 4000000 in
set_option maxRecDepth 100000 in
theorem vm_X4_tagSet {n : Nat} {Z : Zt} {x0 : Int64} {g : Mem} {rr : Int32} {gg : Mem} (h : f_X4_tagSet n Z x0 g = some (rr, gg)) : VM yX4_tagSet cX4_tagSet 4 (some .int) 1 [.long x0] Z g (some (.int rr)) gg := by
  unfold f_X4_tagSet at h
  refine VM.of (by decide +kernel) (Nat.le_of_ble_eq_true rfl) (fun x hM => ?_)
  have hM : Cm x cX4_tagSet RX4 4 (some .int) 1 Z (some (.int rr)) gg := hM
  show V x Z 0 0 0 [(0, .long x0)] [] g
  refine V_iconst (v := 0) hM.c dX4_tagSet_0 (by decide) ?_
  refine V_istore_n (i := 2) (L' := [(2, .int (0 : Int32)), (0, .long x0)]) hM.c dX4_tagSet_1 rfl (by decide) rfl ?_
  refine V_iconst (v := 0) hM.c dX4_tagSet_2 (by decide) ?_
  refine V_istore_n (i := 3) (L' := [(3, .int (0 : Int32)), (2, .int (0 : Int32)), (0, .long x0)]) hM.c dX4_tagSet_3 rfl (by decide) rfl ?_
  refine V_sub [2, 1, 0] rfl ?_
  exact vl_X4_tagSet_l4 hM  _ _ _ _ _ h

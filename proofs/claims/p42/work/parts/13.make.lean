set_option maxHeartbeats 8000000 in
def fi_X3 (n : Nat) (ms : Nat) (hs : Nat) (Z : Zt) (a : Nat) (x1 : Int32) (g : Mem) : Option (Zt × Mem) := grd (¬ (if x1 < (0 : Int32) then (0 : Int32) else x1) < 0 ∧ (if x1 < (0 : Int32) then (0 : Int32) else x1).toNatClampNeg ≤ 65536) (grd (0 + 1 ≤ 1 ∧ 0 + (if x1 < (0 : Int32) then (0 : Int32) else x1).toNatClampNeg ≤ ms) (nam (nA Z (hs + 0) 11 (if x1 < (0 : Int32) then (0 : Int32) else x1).toNatClampNeg) (fun Z4 => nam (zr g (hs + 0)) (fun g6 => grd (zk Z4 a = 3) (nam (fZ Z4 a 0 (some (hs + 0))) (fun Z10 => grd (1 = 1 ∧ (0 + (if x1 < (0 : Int32) then (0 : Int32) else x1).toNatClampNeg) ≤ ms) (some (Z10, g6))))))))
theorem mq_X3_init : Mq yX3_init cX3_init 2 none 1 := ⟨tw_1824, tw_84, ⟨by decide +kernel, by decide +kernel, by decide +kernel⟩, by decide⟩
set_option maxHeartbeats 4000000 in
set_option maxRecDepth 100000 in
theorem vm_X3_init {n ms hs : Nat} {Z : Zt} {a : Nat} {x1 : Int32} {g : Mem} {Zf : Zt} {gf : Mem} (h : fi_X3 n ms hs Z a x1 g = some (Zf, gf)) : VI yX3_init cX3_init 2 1 1 ms [.ref a, .int x1] Z g hs Zf gf := by
  unfold fi_X3 at h
  refine VI.of (by decide +kernel) rfl (Nat.le_of_ble_eq_true rfl) (fun x hM => ?_)
  have hM : Ci x cX3_init RX3 2 1 1 ms Z hs Zf gf := hM
  have hlv := hM.lv
  show V x Z 0 0 0 [(0, va_rf (some a)), (1, .int x1)] [] g
  refine V_aload_n hM.c 0 dX3_init_0 rfl rfl ?_
  refine V_objInit hM.c tw_1825 tw_1778 tw_1779 (hM.dd (d' := 0) (by decide)) (Nat.le_of_ble_eq_true rfl) dX3_init_1 ?_
  refine V_aload_n hM.c 0 dX3_init_4 rfl rfl ?_
  refine V_iload_n hM.c 1 dX3_init_5 rfl rfl ?_
  refine V_iconst (v := 0) hM.c dX3_init_6 (by decide) ?_
  refine V_max hM.c tw_1826 tw_451 tw_452 tw_453 (hM.dd (d' := 0) (by decide)) (hM.r (by omega)) (Nat.le_of_ble_eq_true rfl) dX3_init_7 ?_
  replace h := grd_some h
  obtain ⟨c1, h⟩ := h
  replace h := grd_some h
  obtain ⟨r2, h⟩ := h
  refine A0 (q := (hs + 0)) (N := (if x1 < (0 : Int32) then (0 : Int32) else x1).toNatClampNeg) hM.c rfl c1 (hM.q _) (hM.r r2) dX3_init_10 ?_
  have lv3 := hlv.nA (k := 11) (len := (if x1 < (0 : Int32) then (0 : Int32) else x1).toNatClampNeg) hM.lh (hM.le 0)
  replace h := nam_some h
  obtain ⟨Z4, e5, h⟩ := h
  rw [← e5]
  rw [← e5] at lv3
  replace h := nam_some h
  obtain ⟨g6, e7, h⟩ := h
  rw [← e7]
  replace h := grd_some h
  obtain ⟨z8, h⟩ := h
  refine PF2_0 hM.c tw_95 z8 hM.m (lv3 _ (by rw [z8]; decide)) dX3_init_12 ?_
  have lv9 := lv3.fZ (a := a) (k := 0) (v := (some (hs + 0)))
  replace h := nam_some h
  obtain ⟨Z10, e11, h⟩ := h
  rw [← e11]
  rw [← e11] at lv9
  replace h := grd_some h
  obtain ⟨c12, h⟩ := h
  exact V_vretI hM lv9 c12 h dX3_init_15
set_option maxHeartbeats 8000000 in
def fi_X5 (n : Nat) (hs : Nat) (Z : Zt) (a : Nat) (g : Mem) : Option (Zt × Mem) := nam (nA Z (hs + 0) 13 32) (fun Z2 => nam (zr g (hs + 0)) (fun g4 => grd (zk Z2 a = 4) (nam (fZ Z2 a 0 (some (hs + 0))) (fun Z8 => nam (nA Z8 (hs + 1) 13 32) (fun Z11 => nam (zr g4 (hs + 1)) (fun g13 => grd (zk Z11 a = 4) (nam (fZ Z11 a 1 (some (hs + 1))) (fun Z17 => some (Z17, g13)))))))))
theorem mq_X5_init : Mq yX5_init cX5_init 1 none 0 := ⟨tw_1866, tw_148, ⟨by decide +kernel, by decide +kernel, by decide +kernel⟩, by decide⟩
set_option maxHeartbeats 4000000 in
set_option maxRecDepth 100000 in
theorem vm_X5_init {n hs : Nat} {Z : Zt} {a : Nat} {g : Mem} {Zf : Zt} {gf : Mem} (h : fi_X5 n hs Z a g = some (Zf, gf)) : VI yX5_init cX5_init 1 1 2 64 [.ref a] Z g hs Zf gf := by
  unfold fi_X5 at h
  refine VI.of (by decide +kernel) rfl (Nat.le_of_ble_eq_true rfl) (fun x hM => ?_)
  have hM : Ci x cX5_init RX5 1 1 2 64 Z hs Zf gf := hM
  have hlv := hM.lv
  show V x Z 0 0 0 [(0, va_rf (some a))] [] g
  refine V_aload_n hM.c 0 dX5_init_0 rfl rfl ?_
  refine V_objInit hM.c tw_1867 tw_1778 tw_1779 (hM.dd (d' := 0) (by decide)) (Nat.le_of_ble_eq_true rfl) dX5_init_1 ?_
  refine V_aload_n hM.c 0 dX5_init_4 rfl rfl ?_
  refine V_bipush (v := 32) hM.c dX5_init_5 (by decide) ?_
  refine A2 (q := (hs + 0)) (N := 32) hM.c (by decide) (by decide) (hM.q _) (hM.r (by decide)) dX5_init_7 ?_
  have lv1 := hlv.nA (k := 13) (len := 32) hM.lh (hM.le 0)
  replace h := nam_some h
  obtain ⟨Z2, e3, h⟩ := h
  rw [← e3]
  rw [← e3] at lv1
  replace h := nam_some h
  obtain ⟨g4, e5, h⟩ := h
  rw [← e5]
  replace h := grd_some h
  obtain ⟨z6, h⟩ := h
  refine PF3_0 hM.c tw_155 z6 hM.m (lv1 _ (by rw [z6]; decide)) dX5_init_9 ?_
  have lv7 := lv1.fZ (a := a) (k := 0) (v := (some (hs + 0)))
  replace h := nam_some h
  obtain ⟨Z8, e9, h⟩ := h
  rw [← e9]
  rw [← e9] at lv7
  refine V_aload_n hM.c 0 dX5_init_12 rfl rfl ?_
  refine V_bipush (v := 32) hM.c dX5_init_13 (by decide) ?_
  refine A2 (q := (hs + 1)) (N := 32) hM.c (by decide) (by decide) (hM.q _) (hM.r (by decide)) dX5_init_15 ?_
  have lv10 := lv7.nA (k := 13) (len := 32) hM.lh (hM.le 1)
  replace h := nam_some h
  obtain ⟨Z11, e12, h⟩ := h
  rw [← e12]
  rw [← e12] at lv10
  replace h := nam_some h
  obtain ⟨g13, e14, h⟩ := h
  rw [← e14]
  replace h := grd_some h
  obtain ⟨z15, h⟩ := h
  refine PF3_1 hM.c tw_197 z15 hM.m (lv10 _ (by rw [z15]; decide)) dX5_init_17 ?_
  have lv16 := lv10.fZ (a := a) (k := 1) (v := (some (hs + 1)))
  replace h := nam_some h
  obtain ⟨Z17, e18, h⟩ := h
  rw [← e18]
  rw [← e18] at lv16
  exact V_vretI hM lv16 (by decide) h dX5_init_20
set_option maxHeartbeats 8000000 in
def fi_X6 (n : Nat) (hs : Nat) (Z : Zt) (a : Nat) (g : Mem) : Option (Zt × Mem) := nam (nA Z (hs + 0) 12 60) (fun Z2 => nam (zr g (hs + 0)) (fun g4 => grd (zk Z2 a = 5) (nam (fZ Z2 a 0 (some (hs + 0))) (fun Z8 => nam (nA Z8 (hs + 1) 12 60) (fun Z11 => nam (zr g4 (hs + 1)) (fun g13 => grd (zk Z11 a = 5) (nam (fZ Z11 a 1 (some (hs + 1))) (fun Z17 => nam (nA Z17 (hs + 2) 12 60) (fun Z20 => nam (zr g13 (hs + 2)) (fun g22 => grd (zk Z20 a = 5) (nam (fZ Z20 a 2 (some (hs + 2))) (fun Z26 => nam (nA Z26 (hs + 3) 12 60) (fun Z29 => nam (zr g22 (hs + 3)) (fun g31 => grd (zk Z29 a = 5) (nam (fZ Z29 a 3 (some (hs + 3))) (fun Z35 => nam (nA Z35 (hs + 4) 11 120) (fun Z38 => nam (zr g31 (hs + 4)) (fun g40 => grd (zk Z38 a = 5) (nam (fZ Z38 a 4 (some (hs + 4))) (fun Z44 => some (Z44, g40)))))))))))))))))))))
theorem mq_X6_init : Mq yX6_init cX6_init 1 none 0 := ⟨tw_1841, tw_592, ⟨by decide +kernel, by decide +kernel, by decide +kernel⟩, by decide⟩
set_option maxHeartbeats 4000000 in
set_option maxRecDepth 100000 in
theorem vm_X6_init {n hs : Nat} {Z : Zt} {a : Nat} {g : Mem} {Zf : Zt} {gf : Mem} (h : fi_X6 n hs Z a g = some (Zf, gf)) : VI yX6_init cX6_init 1 1 5 360 [.ref a] Z g hs Zf gf := by
  unfold fi_X6 at h
  refine VI.of (by decide +kernel) rfl (Nat.le_of_ble_eq_true rfl) (fun x hM => ?_)
  have hM : Ci x cX6_init RX6 1 1 5 360 Z hs Zf gf := hM
  have hlv := hM.lv
  show V x Z 0 0 0 [(0, va_rf (some a))] [] g
  refine V_aload_n hM.c 0 dX6_init_0 rfl rfl ?_
  refine V_objInit hM.c tw_1842 tw_1778 tw_1779 (hM.dd (d' := 0) (by decide)) (Nat.le_of_ble_eq_true rfl) dX6_init_1 ?_
  refine V_aload_n hM.c 0 dX6_init_4 rfl rfl ?_
  refine V_bipush (v := 60) hM.c dX6_init_5 (by decide) ?_
  refine A1 (q := (hs + 0)) (N := 60) hM.c (by decide) (by decide) (hM.q _) (hM.r (by decide)) dX6_init_7 ?_
  have lv1 := hlv.nA (k := 12) (len := 60) hM.lh (hM.le 0)
  replace h := nam_some h
  obtain ⟨Z2, e3, h⟩ := h
  rw [← e3]
  rw [← e3] at lv1
  replace h := nam_some h
  obtain ⟨g4, e5, h⟩ := h
  rw [← e5]
  replace h := grd_some h
  obtain ⟨z6, h⟩ := h
  refine PF4_0 hM.c tw_624 z6 hM.m (lv1 _ (by rw [z6]; decide)) dX6_init_9 ?_
  have lv7 := lv1.fZ (a := a) (k := 0) (v := (some (hs + 0)))
  replace h := nam_some h
  obtain ⟨Z8, e9, h⟩ := h
  rw [← e9]
  rw [← e9] at lv7
  refine V_aload_n hM.c 0 dX6_init_12 rfl rfl ?_
  refine V_bipush (v := 60) hM.c dX6_init_13 (by decide) ?_
  refine A1 (q := (hs + 1)) (N := 60) hM.c (by decide) (by decide) (hM.q _) (hM.r (by decide)) dX6_init_15 ?_
  have lv10 := lv7.nA (k := 12) (len := 60) hM.lh (hM.le 1)
  replace h := nam_some h
  obtain ⟨Z11, e12, h⟩ := h
  rw [← e12]
  rw [← e12] at lv10
  replace h := nam_some h
  obtain ⟨g13, e14, h⟩ := h
  rw [← e14]
  replace h := grd_some h
  obtain ⟨z15, h⟩ := h
  refine PF4_1 hM.c tw_625 z15 hM.m (lv10 _ (by rw [z15]; decide)) dX6_init_17 ?_
  have lv16 := lv10.fZ (a := a) (k := 1) (v := (some (hs + 1)))
  replace h := nam_some h
  obtain ⟨Z17, e18, h⟩ := h
  rw [← e18]
  rw [← e18] at lv16
  refine V_aload_n hM.c 0 dX6_init_20 rfl rfl ?_
  refine V_bipush (v := 60) hM.c dX6_init_21 (by decide) ?_
  refine A1 (q := (hs + 2)) (N := 60) hM.c (by decide) (by decide) (hM.q _) (hM.r (by decide)) dX6_init_23 ?_
  have lv19 := lv16.nA (k := 12) (len := 60) hM.lh (hM.le 2)
  replace h := nam_some h
  obtain ⟨Z20, e21, h⟩ := h
  rw [← e21]
  rw [← e21] at lv19
  replace h := nam_some h
  obtain ⟨g22, e23, h⟩ := h
  rw [← e23]
  replace h := grd_some h
  obtain ⟨z24, h⟩ := h
  refine PF4_2 hM.c tw_626 z24 hM.m (lv19 _ (by rw [z24]; decide)) dX6_init_25 ?_
  have lv25 := lv19.fZ (a := a) (k := 2) (v := (some (hs + 2)))
  replace h := nam_some h
  obtain ⟨Z26, e27, h⟩ := h
  rw [← e27]
  rw [← e27] at lv25
  refine V_aload_n hM.c 0 dX6_init_28 rfl rfl ?_
  refine V_bipush (v := 60) hM.c dX6_init_29 (by decide) ?_
  refine A1 (q := (hs + 3)) (N := 60) hM.c (by decide) (by decide) (hM.q _) (hM.r (by decide)) dX6_init_31 ?_
  have lv28 := lv25.nA (k := 12) (len := 60) hM.lh (hM.le 3)
  replace h := nam_some h
  obtain ⟨Z29, e30, h⟩ := h
  rw [← e30]
  rw [← e30] at lv28
  replace h := nam_some h
  obtain ⟨g31, e32, h⟩ := h
  rw [← e32]
  replace h := grd_some h
  obtain ⟨z33, h⟩ := h
  refine PF4_3 hM.c tw_670 z33 hM.m (lv28 _ (by rw [z33]; decide)) dX6_init_33 ?_
  have lv34 := lv28.fZ (a := a) (k := 3) (v := (some (hs + 3)))
  replace h := nam_some h
  obtain ⟨Z35, e36, h⟩ := h
  rw [← e36]
  rw [← e36] at lv34
  refine V_aload_n hM.c 0 dX6_init_36 rfl rfl ?_
  refine V_bipush (v := 120) hM.c dX6_init_37 (by decide) ?_
  refine A0 (q := (hs + 4)) (N := 120) hM.c (by decide) (by decide) (hM.q _) (hM.r (by decide)) dX6_init_39 ?_
  have lv37 := lv34.nA (k := 11) (len := 120) hM.lh (hM.le 4)
  replace h := nam_some h
  obtain ⟨Z38, e39, h⟩ := h
  rw [← e39]
  rw [← e39] at lv37
  replace h := nam_some h
  obtain ⟨g40, e41, h⟩ := h
  rw [← e41]
  replace h := grd_some h
  obtain ⟨z42, h⟩ := h
  refine PF4_4 hM.c tw_603 z42 hM.m (lv37 _ (by rw [z42]; decide)) dX6_init_41 ?_
  have lv43 := lv37.fZ (a := a) (k := 4) (v := (some (hs + 4)))
  replace h := nam_some h
  obtain ⟨Z44, e45, h⟩ := h
  rw [← e45]
  rw [← e45] at lv43
  exact V_vretI hM lv43 (by decide) h dX6_init_44
set_option maxHeartbeats 8000000 in
def fi_X9 (n : Nat) (hs : Nat) (Z : Zt) (a : Nat) (g : Mem) : Option (Zt × Mem) := nam (nA Z (hs + 0) 12 32) (fun Z2 => nam (zr g (hs + 0)) (fun g4 => grd (zk Z2 a = 8) (nam (fZ Z2 a 0 (some (hs + 0))) (fun Z8 => nam (nA Z8 (hs + 1) 12 16) (fun Z11 => nam (zr g4 (hs + 1)) (fun g13 => grd (zk Z11 a = 8) (nam (fZ Z11 a 1 (some (hs + 1))) (fun Z17 => nam (nA Z17 (hs + 2) 12 16) (fun Z20 => nam (zr g13 (hs + 2)) (fun g22 => grd (zk Z20 a = 8) (nam (fZ Z20 a 2 (some (hs + 2))) (fun Z26 => some (Z26, g22)))))))))))))
theorem mq_X9_init : Mq yX9_init cX9_init 1 none 0 := ⟨tw_1872, tw_478, ⟨by decide +kernel, by decide +kernel, by decide +kernel⟩, by decide⟩
set_option maxHeartbeats 4000000 in
set_option maxRecDepth 100000 in
theorem vm_X9_init {n hs : Nat} {Z : Zt} {a : Nat} {g : Mem} {Zf : Zt} {gf : Mem} (h : fi_X9 n hs Z a g = some (Zf, gf)) : VI yX9_init cX9_init 1 1 3 64 [.ref a] Z g hs Zf gf := by
  unfold fi_X9 at h
  refine VI.of (by decide +kernel) rfl (Nat.le_of_ble_eq_true rfl) (fun x hM => ?_)
  have hM : Ci x cX9_init RX9 1 1 3 64 Z hs Zf gf := hM
  have hlv := hM.lv
  show V x Z 0 0 0 [(0, va_rf (some a))] [] g
  refine V_aload_n hM.c 0 dX9_init_0 rfl rfl ?_
  refine V_objInit hM.c tw_1873 tw_1778 tw_1779 (hM.dd (d' := 0) (by decide)) (Nat.le_of_ble_eq_true rfl) dX9_init_1 ?_
  refine V_aload_n hM.c 0 dX9_init_4 rfl rfl ?_
  refine V_bipush (v := 32) hM.c dX9_init_5 (by decide) ?_
  refine A1 (q := (hs + 0)) (N := 32) hM.c (by decide) (by decide) (hM.q _) (hM.r (by decide)) dX9_init_7 ?_
  have lv1 := hlv.nA (k := 12) (len := 32) hM.lh (hM.le 0)
  replace h := nam_some h
  obtain ⟨Z2, e3, h⟩ := h
  rw [← e3]
  rw [← e3] at lv1
  replace h := nam_some h
  obtain ⟨g4, e5, h⟩ := h
  rw [← e5]
  replace h := grd_some h
  obtain ⟨z6, h⟩ := h
  refine PF7_0 hM.c tw_482 z6 hM.m (lv1 _ (by rw [z6]; decide)) dX9_init_9 ?_
  have lv7 := lv1.fZ (a := a) (k := 0) (v := (some (hs + 0)))
  replace h := nam_some h
  obtain ⟨Z8, e9, h⟩ := h
  rw [← e9]
  rw [← e9] at lv7
  refine V_aload_n hM.c 0 dX9_init_12 rfl rfl ?_
  refine V_bipush (v := 16) hM.c dX9_init_13 (by decide) ?_
  refine A1 (q := (hs + 1)) (N := 16) hM.c (by decide) (by decide) (hM.q _) (hM.r (by decide)) dX9_init_15 ?_
  have lv10 := lv7.nA (k := 12) (len := 16) hM.lh (hM.le 1)
  replace h := nam_some h
  obtain ⟨Z11, e12, h⟩ := h
  rw [← e12]
  rw [← e12] at lv10
  replace h := nam_some h
  obtain ⟨g13, e14, h⟩ := h
  rw [← e14]
  replace h := grd_some h
  obtain ⟨z15, h⟩ := h
  refine PF7_1 hM.c tw_490 z15 hM.m (lv10 _ (by rw [z15]; decide)) dX9_init_17 ?_
  have lv16 := lv10.fZ (a := a) (k := 1) (v := (some (hs + 1)))
  replace h := nam_some h
  obtain ⟨Z17, e18, h⟩ := h
  rw [← e18]
  rw [← e18] at lv16
  refine V_aload_n hM.c 0 dX9_init_20 rfl rfl ?_
  refine V_bipush (v := 16) hM.c dX9_init_21 (by decide) ?_
  refine A1 (q := (hs + 2)) (N := 16) hM.c (by decide) (by decide) (hM.q _) (hM.r (by decide)) dX9_init_23 ?_
  have lv19 := lv16.nA (k := 12) (len := 16) hM.lh (hM.le 2)
  replace h := nam_some h
  obtain ⟨Z20, e21, h⟩ := h
  rw [← e21]
  rw [← e21] at lv19
  replace h := nam_some h
  obtain ⟨g22, e23, h⟩ := h
  rw [← e23]
  replace h := grd_some h
  obtain ⟨z24, h⟩ := h
  refine PF7_2 hM.c tw_491 z24 hM.m (lv19 _ (by rw [z24]; decide)) dX9_init_25 ?_
  have lv25 := lv19.fZ (a := a) (k := 2) (v := (some (hs + 2)))
  replace h := nam_some h
  obtain ⟨Z26, e27, h⟩ := h
  rw [← e27]
  rw [← e27] at lv25
  exact V_vretI hM lv25 (by decide) h dX9_init_28
def fi_X8_l58 (n : Nat) (hs : Nat) (a : Nat) : Nat → Int32 → Zt → Nat → Nat → Mem → Option (Zt × Mem)
  | 0, _, _, _, _, _ => none
  | fu + 1, x1, Z, n0, k0, g => if (4 : Int32) ≤ x1 then (grd (n0 = 7 ∧ k0 ≤ 130) (some (Z, g))) else (grd (zk Z a = 7) (drf (zf Z a 0) (fun b62 => grd (zk Z b62 = 12) (grd (inr x1 (zl Z b62)) (fi_X8_l58 n hs a fu (x1 + 1) Z n0 k0 (sI g b62 x1.toNatClampNeg (2 : Int32)))))))
set_option maxHeartbeats 4000000 in
set_option maxRecDepth 100000 in
theorem vi_X8_l58 {x : Cq} {n hs a : Nat} {Z0 Zf : Zt} {gf : Mem} (hM : Ci x cX8_init RX8 2 2 7 130 Z0 hs Zf gf) : ∀ (fu : Nat) (x1 : Int32) (Z : Zt) (n0 k0 : Nat) (g : Mem), Lv x Z → fi_X8_l58 n hs a fu x1 Z n0 k0 g = some (Zf, gf) → V x Z n0 k0 58 [(0, va_rf (some a)), (1, .int x1)] [] g := by
  intro fu
  induction fu with
  | zero => intro x1 Z n0 k0 g hlv h; cases h
  | succ fu ih =>
    intro x1 Z n0 k0 g hlv h
    unfold fi_X8_l58 at h
    refine V_iload_n hM.c 1 dX8_init_58 rfl rfl ?_
    refine V_iconst (v := 4) hM.c dX8_init_59 (by decide) ?_
    refine V_icmp_ge hM.c 76 dX8_init_60 (by decide) (fun c59 => ?_) (fun c59 => ?_)
    · replace h := ite_p h c59
      replace h := grd_some h
      obtain ⟨c60, h⟩ := h
      exact V_vretI hM hlv c60 h dX8_init_76
    · replace h := ite_n h c59
      refine V_aload_n hM.c 0 dX8_init_63 rfl rfl ?_
      replace h := grd_some h
      obtain ⟨z61, h⟩ := h
      replace h := drf_some h
      obtain ⟨b62, e63, h⟩ := h
      refine G6_0 hM.c tw_16 z61 e63 dX8_init_64 ?_
      refine V_iload_n hM.c 1 dX8_init_67 rfl rfl ?_
      refine V_iconst (v := 2) hM.c dX8_init_68 (by decide) ?_
      replace h := grd_some h
      obtain ⟨z64, h⟩ := h
      replace h := grd_some h
      obtain ⟨c65, h⟩ := h
      refine V_iast hM.c z64 c65 hlv dX8_init_69 ?_
      refine V_iinc (v := (x1 + 1)) (L' := [(1, .int (x1 + 1)), (0, va_rf (some a))]) hM.c 1 dX8_init_70 rfl rfl (by decide) rfl ?_
      refine V_goto hM.c 58 dX8_init_73 (by decide) ?_
      refine V_sub [1, 0] rfl ?_
      exact ih _ _ _ _ _ hlv h
set_option maxHeartbeats 8000000 in
def fi_X8 (n : Nat) (hs : Nat) (Z : Zt) (a : Nat) (g : Mem) : Option (Zt × Mem) := nam (nA Z (hs + 0) 12 4) (fun Z2 => nam (zr g (hs + 0)) (fun g4 => grd (zk Z2 a = 7) (nam (fZ Z2 a 0 (some (hs + 0))) (fun Z8 => nam (nA Z8 (hs + 1) 12 16) (fun Z11 => nam (zr g4 (hs + 1)) (fun g13 => grd (zk Z11 a = 7) (nam (fZ Z11 a 1 (some (hs + 1))) (fun Z17 => nam (nA Z17 (hs + 2) 12 16) (fun Z20 => nam (zr g13 (hs + 2)) (fun g22 => grd (zk Z20 a = 7) (nam (fZ Z20 a 2 (some (hs + 2))) (fun Z26 => nam (nA Z26 (hs + 3) 12 16) (fun Z29 => nam (zr g22 (hs + 3)) (fun g31 => grd (zk Z29 a = 7) (nam (fZ Z29 a 3 (some (hs + 3))) (fun Z35 => nam (nA Z35 (hs + 4) 12 16) (fun Z38 => nam (zr g31 (hs + 4)) (fun g40 => grd (zk Z38 a = 7) (nam (fZ Z38 a 4 (some (hs + 4))) (fun Z44 => nam (nO Z44 (hs + 5) 2) (fun Z47 => nam (zr g40 (hs + 5)) (fun g49 => bnd (fi_X3 n 60 (hs + 6) Z47 (hs + 5) (60 : Int32) g49) (fun Z51 g52 => grd (zk Z51 a = 7) (nam (fZ Z51 a 5 (some (hs + 5))) (fun Z57 => fi_X8_l58 n hs a n (0 : Int32) Z57 7 130 g52)))))))))))))))))))))))))
theorem mq_X8_init : Mq yX8_init cX8_init 2 none 0 := ⟨tw_1813, tw_14, ⟨by decide +kernel, by decide +kernel, by decide +kernel⟩, by decide⟩
set_option maxHeartbeats 4000000 in
set_option maxRecDepth 100000 in
theorem vm_X8_init {n hs : Nat} {Z : Zt} {a : Nat} {g : Mem} {Zf : Zt} {gf : Mem} (h : fi_X8 n hs Z a g = some (Zf, gf)) : VI yX8_init cX8_init 2 2 7 130 [.ref a] Z g hs Zf gf := by
  unfold fi_X8 at h
  refine VI.of (by decide +kernel) rfl (Nat.le_of_ble_eq_true rfl) (fun x hM => ?_)
  have hM : Ci x cX8_init RX8 2 2 7 130 Z hs Zf gf := hM
  have hlv := hM.lv
  show V x Z 0 0 0 [(0, va_rf (some a))] [] g
  refine V_aload_n hM.c 0 dX8_init_0 rfl rfl ?_
  refine V_objInit hM.c tw_1814 tw_1778 tw_1779 (hM.dd (d' := 0) (by decide)) (Nat.le_of_ble_eq_true rfl) dX8_init_1 ?_
  refine V_aload_n hM.c 0 dX8_init_4 rfl rfl ?_
  refine V_iconst (v := 4) hM.c dX8_init_5 (by decide) ?_
  refine A1 (q := (hs + 0)) (N := 4) hM.c (by decide) (by decide) (hM.q _) (hM.r (by decide)) dX8_init_6 ?_
  have lv1 := hlv.nA (k := 12) (len := 4) hM.lh (hM.le 0)
  replace h := nam_some h
  obtain ⟨Z2, e3, h⟩ := h
  rw [← e3]
  rw [← e3] at lv1
  replace h := nam_some h
  obtain ⟨g4, e5, h⟩ := h
  rw [← e5]
  replace h := grd_some h
  obtain ⟨z6, h⟩ := h
  refine PF6_0 hM.c tw_16 z6 hM.m (lv1 _ (by rw [z6]; decide)) dX8_init_8 ?_
  have lv7 := lv1.fZ (a := a) (k := 0) (v := (some (hs + 0)))
  replace h := nam_some h
  obtain ⟨Z8, e9, h⟩ := h
  rw [← e9]
  rw [← e9] at lv7
  refine V_aload_n hM.c 0 dX8_init_11 rfl rfl ?_
  refine V_bipush (v := 16) hM.c dX8_init_12 (by decide) ?_
  refine A1 (q := (hs + 1)) (N := 16) hM.c (by decide) (by decide) (hM.q _) (hM.r (by decide)) dX8_init_14 ?_
  have lv10 := lv7.nA (k := 12) (len := 16) hM.lh (hM.le 1)
  replace h := nam_some h
  obtain ⟨Z11, e12, h⟩ := h
  rw [← e12]
  rw [← e12] at lv10
  replace h := nam_some h
  obtain ⟨g13, e14, h⟩ := h
  rw [← e14]
  replace h := grd_some h
  obtain ⟨z15, h⟩ := h
  refine PF6_1 hM.c tw_30 z15 hM.m (lv10 _ (by rw [z15]; decide)) dX8_init_16 ?_
  have lv16 := lv10.fZ (a := a) (k := 1) (v := (some (hs + 1)))
  replace h := nam_some h
  obtain ⟨Z17, e18, h⟩ := h
  rw [← e18]
  rw [← e18] at lv16
  refine V_aload_n hM.c 0 dX8_init_19 rfl rfl ?_
  refine V_bipush (v := 16) hM.c dX8_init_20 (by decide) ?_
  refine A1 (q := (hs + 2)) (N := 16) hM.c (by decide) (by decide) (hM.q _) (hM.r (by decide)) dX8_init_22 ?_
  have lv19 := lv16.nA (k := 12) (len := 16) hM.lh (hM.le 2)
  replace h := nam_some h
  obtain ⟨Z20, e21, h⟩ := h
  rw [← e21]
  rw [← e21] at lv19
  replace h := nam_some h
  obtain ⟨g22, e23, h⟩ := h
  rw [← e23]
  replace h := grd_some h
  obtain ⟨z24, h⟩ := h
  refine PF6_2 hM.c tw_58 z24 hM.m (lv19 _ (by rw [z24]; decide)) dX8_init_24 ?_
  have lv25 := lv19.fZ (a := a) (k := 2) (v := (some (hs + 2)))
  replace h := nam_some h
  obtain ⟨Z26, e27, h⟩ := h
  rw [← e27]
  rw [← e27] at lv25
  refine V_aload_n hM.c 0 dX8_init_27 rfl rfl ?_
  refine V_bipush (v := 16) hM.c dX8_init_28 (by decide) ?_
  refine A1 (q := (hs + 3)) (N := 16) hM.c (by decide) (by decide) (hM.q _) (hM.r (by decide)) dX8_init_30 ?_
  have lv28 := lv25.nA (k := 12) (len := 16) hM.lh (hM.le 3)
  replace h := nam_some h
  obtain ⟨Z29, e30, h⟩ := h
  rw [← e30]
  rw [← e30] at lv28
  replace h := nam_some h
  obtain ⟨g31, e32, h⟩ := h
  rw [← e32]
  replace h := grd_some h
  obtain ⟨z33, h⟩ := h
  refine PF6_3 hM.c tw_40 z33 hM.m (lv28 _ (by rw [z33]; decide)) dX8_init_32 ?_
  have lv34 := lv28.fZ (a := a) (k := 3) (v := (some (hs + 3)))
  replace h := nam_some h
  obtain ⟨Z35, e36, h⟩ := h
  rw [← e36]
  rw [← e36] at lv34
  refine V_aload_n hM.c 0 dX8_init_35 rfl rfl ?_
  refine V_bipush (v := 16) hM.c dX8_init_36 (by decide) ?_
  refine A1 (q := (hs + 4)) (N := 16) hM.c (by decide) (by decide) (hM.q _) (hM.r (by decide)) dX8_init_38 ?_
  have lv37 := lv34.nA (k := 12) (len := 16) hM.lh (hM.le 4)
  replace h := nam_some h
  obtain ⟨Z38, e39, h⟩ := h
  rw [← e39]
  rw [← e39] at lv37
  replace h := nam_some h
  obtain ⟨g40, e41, h⟩ := h
  rw [← e41]
  replace h := grd_some h
  obtain ⟨z42, h⟩ := h
  refine PF6_4 hM.c tw_49 z42 hM.m (lv37 _ (by rw [z42]; decide)) dX8_init_40 ?_
  have lv43 := lv37.fZ (a := a) (k := 4) (v := (some (hs + 4)))
  replace h := nam_some h
  obtain ⟨Z44, e45, h⟩ := h
  rw [← e45]
  rw [← e45] at lv43
  refine V_aload_n hM.c 0 dX8_init_43 rfl rfl ?_
  refine N2 (q := (hs + 5)) hM.c tw_1820 (hM.q _) (hM.r (by decide)) dX8_init_44 ?_
  have lv46 := lv43.nO (c := 2) hM.lh (hM.le 5)
  replace h := nam_some h
  obtain ⟨Z47, e48, h⟩ := h
  rw [← e48]
  rw [← e48] at lv46
  replace h := nam_some h
  obtain ⟨g49, e50, h⟩ := h
  rw [← e50]
  refine V_dup hM.c dX8_init_47 rfl ?_
  refine V_bipush (v := 60) hM.c dX8_init_48 (by decide) ?_
  replace h := bnd_some h
  obtain ⟨Z51, g52, e53, h⟩ := h
  refine V_callI (As := [.int (60 : Int32)]) hM.c lv46 hM.lh (hM.q _) mq_X3_init rfl tw_1823 tw_1822 (hM.dd (by decide)) (hM.r (by decide)) (vm_X3_init e53) rfl (Nat.le_of_ble_eq_true rfl) dX8_init_50 (fun lv54 => ?_)
  replace h := grd_some h
  obtain ⟨z55, h⟩ := h
  refine PF6_5 hM.c tw_80 z55 hM.m (lv54 _ (by rw [z55]; decide)) dX8_init_53 ?_
  have lv56 := lv54.fZ (a := a) (k := 5) (v := (some (hs + 5)))
  replace h := nam_some h
  obtain ⟨Z57, e58, h⟩ := h
  rw [← e58]
  rw [← e58] at lv56
  refine V_iconst (v := 0) hM.c dX8_init_56 (by decide) ?_
  refine V_istore_n (i := 1) (L' := [(1, .int (0 : Int32)), (0, va_rf (some a))]) hM.c dX8_init_57 rfl (by decide) rfl ?_
  refine V_sub [1, 0] rfl ?_
  exact vi_X8_l58 hM _ _ _ _ _ _ lv56 h
def fi_X7_l23 (n : Nat) (hs : Nat) (a : Nat) : Nat → Int32 → Zt → Nat → Nat → Mem → Option (Zt × Mem)
  | 0, _, _, _, _, _ => none
  | fu + 1, x1, Z, n0, k0, g => if (32 : Int32) ≤ x1 then (grd (n0 = 98 ∧ k0 ≤ 2208) (some (Z, g))) else (grd (zk Z a = 6) (drf (zf Z a 1) (fun b22 => grd (n0 + 1 ≤ 98 ∧ k0 + 3 ≤ 2208) (nam (nO Z (hs + n0) 3) (fun Z26 => nam (zr g (hs + n0)) (fun g28 => grd ((n0 + 1) + 2 ≤ 98 ∧ (k0 + 3) + 64 ≤ 2208) (bnd (fi_X5 n (hs + (n0 + 1)) Z26 (hs + n0) g28) (fun Z31 g32 => grd (zk Z31 b22 = 15) (grd (zk Z31 (hs + n0) = 4) (grd (inr x1 (zl Z31 b22)) (fi_X7_l23 n hs a fu (x1 + 1) Z31 ((n0 + 1) + 2) ((k0 + 3) + 64) (sP g32 b22 x1.toNatClampNeg (some (hs + n0))))))))))))))
set_option maxHeartbeats 4000000 in
set_option maxRecDepth 100000 in
theorem vi_X7_l23 {x : Cq} {n hs a : Nat} {Z0 Zf : Zt} {gf : Mem} (hM : Ci x cX7_init RX7 2 2 98 2208 Z0 hs Zf gf) : ∀ (fu : Nat) (x1 : Int32) (Z : Zt) (n0 k0 : Nat) (g : Mem), Lv x Z → fi_X7_l23 n hs a fu x1 Z n0 k0 g = some (Zf, gf) → V x Z n0 k0 23 [(0, va_rf (some a)), (1, .int x1)] [] g := by
  intro fu
  induction fu with
  | zero => intro x1 Z n0 k0 g hlv h; cases h
  | succ fu ih =>
    intro x1 Z n0 k0 g hlv h
    unfold fi_X7_l23 at h
    refine V_iload_n hM.c 1 dX7_init_23 rfl rfl ?_
    refine V_bipush (v := 32) hM.c dX7_init_24 (by decide) ?_
    refine V_icmp_ge hM.c 48 dX7_init_26 (by decide) (fun c19 => ?_) (fun c19 => ?_)
    · replace h := ite_p h c19
      replace h := grd_some h
      obtain ⟨c20, h⟩ := h
      exact V_vretI hM hlv c20 h dX7_init_48
    · replace h := ite_n h c19
      refine V_aload_n hM.c 0 dX7_init_29 rfl rfl ?_
      replace h := grd_some h
      obtain ⟨z21, h⟩ := h
      replace h := drf_some h
      obtain ⟨b22, e23, h⟩ := h
      refine G5_1 hM.c tw_144 z21 e23 dX7_init_30 ?_
      refine V_iload_n hM.c 1 dX7_init_33 rfl rfl ?_
      replace h := grd_some h
      obtain ⟨r24, h⟩ := h
      refine N3 (q := (hs + n0)) hM.c tw_1863 (hM.q _) (hM.r r24) dX7_init_34 ?_
      have lv25 := hlv.nO (c := 3) hM.lh (hM.le n0)
      replace h := nam_some h
      obtain ⟨Z26, e27, h⟩ := h
      rw [← e27]
      rw [← e27] at lv25
      replace h := nam_some h
      obtain ⟨g28, e29, h⟩ := h
      rw [← e29]
      refine V_dup hM.c dX7_init_37 rfl ?_
      replace h := grd_some h
      obtain ⟨r30, h⟩ := h
      replace h := bnd_some h
      obtain ⟨Z31, g32, e33, h⟩ := h
      refine V_callIN (As := []) hM.c lv25 hM.lh (hM.q _) mq_X5_init rfl tw_1865 (by decide +kernel) (hM.dd (by decide)) (hM.r r30) (vm_X5_init e33) rfl (Nat.le_of_ble_eq_true rfl) dX7_init_38 (fun lv34 => ?_)
      replace h := grd_some h
      obtain ⟨z35, h⟩ := h
      replace h := grd_some h
      obtain ⟨z36, h⟩ := h
      replace h := grd_some h
      obtain ⟨c37, h⟩ := h
      refine V_qast (t := 4) (c := 3) (r := (RX5, TX5, 3)) hM.c z35 (by omega) (by omega) c37 z36 rfl (by omega) rfl lv34 dX7_init_41 ?_
      refine V_iinc (v := (x1 + 1)) (L' := [(1, .int (x1 + 1)), (0, va_rf (some a))]) hM.c 1 dX7_init_42 rfl rfl (by decide) rfl ?_
      refine V_goto hM.c 23 dX7_init_45 (by decide) ?_
      refine V_sub [1, 0] rfl ?_
      exact ih _ _ _ _ _ lv34 h
set_option maxHeartbeats 8000000 in
def fi_X7 (n : Nat) (hs : Nat) (Z : Zt) (a : Nat) (g : Mem) : Option (Zt × Mem) := nam (nA Z (hs + 0) 12 32) (fun Z2 => nam (zr g (hs + 0)) (fun g4 => grd (zk Z2 a = 6) (nam (fZ Z2 a 0 (some (hs + 0))) (fun Z8 => nam (nA Z8 (hs + 1) 15 32) (fun Z11 => nam (zr g4 (hs + 1)) (fun g13 => grd (zk Z11 a = 6) (nam (fZ Z11 a 1 (some (hs + 1))) (fun Z17 => fi_X7_l23 n hs a n (0 : Int32) Z17 2 64 g13))))))))
theorem mq_X7_init : Mq yX7_init cX7_init 2 none 0 := ⟨tw_1860, tw_110, ⟨by decide +kernel, by decide +kernel, by decide +kernel⟩, by decide⟩
set_option maxHeartbeats 4000000 in
set_option maxRecDepth 100000 in
theorem vm_X7_init {n hs : Nat} {Z : Zt} {a : Nat} {g : Mem} {Zf : Zt} {gf : Mem} (h : fi_X7 n hs Z a g = some (Zf, gf)) : VI yX7_init cX7_init 2 2 98 2208 [.ref a] Z g hs Zf gf := by
  unfold fi_X7 at h
  refine VI.of (by decide +kernel) rfl (Nat.le_of_ble_eq_true rfl) (fun x hM => ?_)
  have hM : Ci x cX7_init RX7 2 2 98 2208 Z hs Zf gf := hM
  have hlv := hM.lv
  show V x Z 0 0 0 [(0, va_rf (some a))] [] g
  refine V_aload_n hM.c 0 dX7_init_0 rfl rfl ?_
  refine V_objInit hM.c tw_1861 tw_1778 tw_1779 (hM.dd (d' := 0) (by decide)) (Nat.le_of_ble_eq_true rfl) dX7_init_1 ?_
  refine V_aload_n hM.c 0 dX7_init_4 rfl rfl ?_
  refine V_bipush (v := 32) hM.c dX7_init_5 (by decide) ?_
  refine A1 (q := (hs + 0)) (N := 32) hM.c (by decide) (by decide) (hM.q _) (hM.r (by decide)) dX7_init_7 ?_
  have lv1 := hlv.nA (k := 12) (len := 32) hM.lh (hM.le 0)
  replace h := nam_some h
  obtain ⟨Z2, e3, h⟩ := h
  rw [← e3]
  rw [← e3] at lv1
  replace h := nam_some h
  obtain ⟨g4, e5, h⟩ := h
  rw [← e5]
  replace h := grd_some h
  obtain ⟨z6, h⟩ := h
  refine PF5_0 hM.c tw_134 z6 hM.m (lv1 _ (by rw [z6]; decide)) dX7_init_9 ?_
  have lv7 := lv1.fZ (a := a) (k := 0) (v := (some (hs + 0)))
  replace h := nam_some h
  obtain ⟨Z8, e9, h⟩ := h
  rw [← e9]
  rw [← e9] at lv7
  refine V_aload_n hM.c 0 dX7_init_12 rfl rfl ?_
  refine V_bipush (v := 32) hM.c dX7_init_13 (by decide) ?_
  refine A4 (q := (hs + 1)) (N := 32) hM.c tw_1863 (by decide) (by decide) (hM.q _) (hM.r (by decide)) dX7_init_15 ?_
  have lv10 := lv7.nA (k := 15) (len := 32) hM.lh (hM.le 1)
  replace h := nam_some h
  obtain ⟨Z11, e12, h⟩ := h
  rw [← e12]
  rw [← e12] at lv10
  replace h := nam_some h
  obtain ⟨g13, e14, h⟩ := h
  rw [← e14]
  replace h := grd_some h
  obtain ⟨z15, h⟩ := h
  refine PF5_1 hM.c tw_144 z15 hM.m (lv10 _ (by rw [z15]; decide)) dX7_init_18 ?_
  have lv16 := lv10.fZ (a := a) (k := 1) (v := (some (hs + 1)))
  replace h := nam_some h
  obtain ⟨Z17, e18, h⟩ := h
  rw [← e18]
  rw [← e18] at lv16
  refine V_iconst (v := 0) hM.c dX7_init_21 (by decide) ?_
  refine V_istore_n (i := 1) (L' := [(1, .int (0 : Int32)), (0, va_rf (some a))]) hM.c dX7_init_22 rfl (by decide) rfl ?_
  refine V_sub [1, 0] rfl ?_
  exact vi_X7_l23 hM _ _ _ _ _ _ lv16 h
def fi_X1_l14 (n : Nat) (hs : Nat) (a : Nat) : Nat → Int32 → Zt → Nat → Nat → Mem → Option (Zt × Mem)
  | 0, _, _, _, _, _ => none
  | fu + 1, x1, Z, n0, k0, g => if (4 : Int32) ≤ x1 then (grd (n0 = 33 ∧ k0 ≤ 556) (some (Z, g))) else (grd (zk Z a = 2) (drf (zf Z a 0) (fun b13 => grd (n0 + 1 ≤ 33 ∧ k0 + 8 ≤ 556) (nam (nO Z (hs + n0) 6) (fun Z17 => nam (zr g (hs + n0)) (fun g19 => grd ((n0 + 1) + 7 ≤ 33 ∧ (k0 + 8) + 130 ≤ 556) (bnd (fi_X8 n (hs + (n0 + 1)) Z17 (hs + n0) g19) (fun Z22 g23 => grd (zk Z22 b13 = 17) (grd (zk Z22 (hs + n0) = 7) (grd (inr x1 (zl Z22 b13)) (fi_X1_l14 n hs a fu (x1 + 1) Z22 ((n0 + 1) + 7) ((k0 + 8) + 130) (sP g23 b13 x1.toNatClampNeg (some (hs + n0))))))))))))))
set_option maxHeartbeats 4000000 in
set_option maxRecDepth 100000 in
theorem vi_X1_l14 {x : Cq} {n hs a : Nat} {Z0 Zf : Zt} {gf : Mem} (hM : Ci x cX1_init RX1 2 3 33 556 Z0 hs Zf gf) : ∀ (fu : Nat) (x1 : Int32) (Z : Zt) (n0 k0 : Nat) (g : Mem), Lv x Z → fi_X1_l14 n hs a fu x1 Z n0 k0 g = some (Zf, gf) → V x Z n0 k0 14 [(0, va_rf (some a)), (1, .int x1)] [] g := by
  intro fu
  induction fu with
  | zero => intro x1 Z n0 k0 g hlv h; cases h
  | succ fu ih =>
    intro x1 Z n0 k0 g hlv h
    unfold fi_X1_l14 at h
    refine V_iload_n hM.c 1 dX1_init_14 rfl rfl ?_
    refine V_iconst (v := 4) hM.c dX1_init_15 (by decide) ?_
    refine V_icmp_ge hM.c 38 dX1_init_16 (by decide) (fun c10 => ?_) (fun c10 => ?_)
    · replace h := ite_p h c10
      replace h := grd_some h
      obtain ⟨c11, h⟩ := h
      exact V_vretI hM hlv c11 h dX1_init_38
    · replace h := ite_n h c10
      refine V_aload_n hM.c 0 dX1_init_19 rfl rfl ?_
      replace h := grd_some h
      obtain ⟨z12, h⟩ := h
      replace h := drf_some h
      obtain ⟨b13, e14, h⟩ := h
      refine G1_0 hM.c tw_843 z12 e14 dX1_init_20 ?_
      refine V_iload_n hM.c 1 dX1_init_23 rfl rfl ?_
      replace h := grd_some h
      obtain ⟨r15, h⟩ := h
      refine N6 (q := (hs + n0)) hM.c tw_1836 (hM.q _) (hM.r r15) dX1_init_24 ?_
      have lv16 := hlv.nO (c := 6) hM.lh (hM.le n0)
      replace h := nam_some h
      obtain ⟨Z17, e18, h⟩ := h
      rw [← e18]
      rw [← e18] at lv16
      replace h := nam_some h
      obtain ⟨g19, e20, h⟩ := h
      rw [← e20]
      refine V_dup hM.c dX1_init_27 rfl ?_
      replace h := grd_some h
      obtain ⟨r21, h⟩ := h
      replace h := bnd_some h
      obtain ⟨Z22, g23, e24, h⟩ := h
      refine V_callI (As := []) hM.c lv16 hM.lh (hM.q _) mq_X8_init rfl tw_1812 tw_1838 (hM.dd (by decide)) (hM.r r21) (vm_X8_init e24) rfl (Nat.le_of_ble_eq_true rfl) dX1_init_28 (fun lv25 => ?_)
      replace h := grd_some h
      obtain ⟨z26, h⟩ := h
      replace h := grd_some h
      obtain ⟨z27, h⟩ := h
      replace h := grd_some h
      obtain ⟨c28, h⟩ := h
      refine V_qast (t := 6) (c := 6) (r := (RX8, TX8, 8)) hM.c z26 (by omega) (by omega) c28 z27 rfl (by omega) rfl lv25 dX1_init_31 ?_
      refine V_iinc (v := (x1 + 1)) (L' := [(1, .int (x1 + 1)), (0, va_rf (some a))]) hM.c 1 dX1_init_32 rfl rfl (by decide) rfl ?_
      refine V_goto hM.c 14 dX1_init_35 (by decide) ?_
      refine V_sub [1, 0] rfl ?_
      exact ih _ _ _ _ _ lv25 h
set_option maxHeartbeats 8000000 in
def fi_X1 (n : Nat) (hs : Nat) (Z : Zt) (a : Nat) (g : Mem) : Option (Zt × Mem) := nam (nA Z (hs + 0) 17 4) (fun Z2 => nam (zr g (hs + 0)) (fun g4 => grd (zk Z2 a = 2) (nam (fZ Z2 a 0 (some (hs + 0))) (fun Z8 => fi_X1_l14 n hs a n (0 : Int32) Z8 1 4 g4))))
theorem mq_X1_init : Mq yX1_init cX1_init 2 none 0 := ⟨tw_1834, tw_840, ⟨by decide +kernel, by decide +kernel, by decide +kernel⟩, by decide⟩
set_option maxHeartbeats 4000000 in
set_option maxRecDepth 100000 in
theorem vm_X1_init {n hs : Nat} {Z : Zt} {a : Nat} {g : Mem} {Zf : Zt} {gf : Mem} (h : fi_X1 n hs Z a g = some (Zf, gf)) : VI yX1_init cX1_init 2 3 33 556 [.ref a] Z g hs Zf gf := by
  unfold fi_X1 at h
  refine VI.of (by decide +kernel) rfl (Nat.le_of_ble_eq_true rfl) (fun x hM => ?_)
  have hM : Ci x cX1_init RX1 2 3 33 556 Z hs Zf gf := hM
  have hlv := hM.lv
  show V x Z 0 0 0 [(0, va_rf (some a))] [] g
  refine V_aload_n hM.c 0 dX1_init_0 rfl rfl ?_
  refine V_objInit hM.c tw_1835 tw_1778 tw_1779 (hM.dd (d' := 0) (by decide)) (Nat.le_of_ble_eq_true rfl) dX1_init_1 ?_
  refine V_aload_n hM.c 0 dX1_init_4 rfl rfl ?_
  refine V_iconst (v := 4) hM.c dX1_init_5 (by decide) ?_
  refine A6 (q := (hs + 0)) (N := 4) hM.c tw_1836 (by decide) (by decide) (hM.q _) (hM.r (by decide)) dX1_init_6 ?_
  have lv1 := hlv.nA (k := 17) (len := 4) hM.lh (hM.le 0)
  replace h := nam_some h
  obtain ⟨Z2, e3, h⟩ := h
  rw [← e3]
  rw [← e3] at lv1
  replace h := nam_some h
  obtain ⟨g4, e5, h⟩ := h
  rw [← e5]
  replace h := grd_some h
  obtain ⟨z6, h⟩ := h
  refine PF1_0 hM.c tw_843 z6 hM.m (lv1 _ (by rw [z6]; decide)) dX1_init_9 ?_
  have lv7 := lv1.fZ (a := a) (k := 0) (v := (some (hs + 0)))
  replace h := nam_some h
  obtain ⟨Z8, e9, h⟩ := h
  rw [← e9]
  rw [← e9] at lv7
  refine V_iconst (v := 0) hM.c dX1_init_12 (by decide) ?_
  refine V_istore_n (i := 1) (L' := [(1, .int (0 : Int32)), (0, va_rf (some a))]) hM.c dX1_init_13 rfl (by decide) rfl ?_
  refine V_sub [1, 0] rfl ?_
  exact vi_X1_l14 hM _ _ _ _ _ _ lv7 h
def fi_X0_l37 (n : Nat) (hs : Nat) (a : Nat) : Nat → Int32 → Zt → Nat → Nat → Mem → Option (Zt × Mem)
  | 0, _, _, _, _, _ => none
  | fu + 1, x1, Z, n0, k0, g => if (12 : Int32) ≤ x1 then (grd (n0 = 1387 ∧ k0 ≤ 30980) (some (Z, g))) else (grd (zk Z a = 1) (drf (zf Z a 0) (fun b33 => grd (n0 + 1 ≤ 1387 ∧ k0 + 4 ≤ 30980) (nam (nO Z (hs + n0) 5) (fun Z37 => nam (zr g (hs + n0)) (fun g39 => grd ((n0 + 1) + 98 ≤ 1387 ∧ (k0 + 4) + 2208 ≤ 30980) (bnd (fi_X7 n (hs + (n0 + 1)) Z37 (hs + n0) g39) (fun Z42 g43 => grd (zk Z42 b33 = 16) (grd (zk Z42 (hs + n0) = 6) (grd (inr x1 (zl Z42 b33)) (fi_X0_l37 n hs a fu (x1 + 1) Z42 ((n0 + 1) + 98) ((k0 + 4) + 2208) (sP g43 b33 x1.toNatClampNeg (some (hs + n0))))))))))))))
set_option maxHeartbeats 4000000 in
set_option maxRecDepth 100000 in
theorem vi_X0_l37 {x : Cq} {n hs a : Nat} {Z0 Zf : Zt} {gf : Mem} (hM : Ci x cX0_init RX0 2 3 1387 30980 Z0 hs Zf gf) : ∀ (fu : Nat) (x1 : Int32) (Z : Zt) (n0 k0 : Nat) (g : Mem), Lv x Z → fi_X0_l37 n hs a fu x1 Z n0 k0 g = some (Zf, gf) → V x Z n0 k0 37 [(0, va_rf (some a)), (1, .int x1)] [] g := by
  intro fu
  induction fu with
  | zero => intro x1 Z n0 k0 g hlv h; cases h
  | succ fu ih =>
    intro x1 Z n0 k0 g hlv h
    unfold fi_X0_l37 at h
    refine V_iload_n hM.c 1 dX0_init_37 rfl rfl ?_
    refine V_bipush (v := 12) hM.c dX0_init_38 (by decide) ?_
    refine V_icmp_ge hM.c 62 dX0_init_40 (by decide) (fun c30 => ?_) (fun c30 => ?_)
    · replace h := ite_p h c30
      replace h := grd_some h
      obtain ⟨c31, h⟩ := h
      exact V_vretI hM hlv c31 h dX0_init_62
    · replace h := ite_n h c30
      refine V_aload_n hM.c 0 dX0_init_43 rfl rfl ?_
      replace h := grd_some h
      obtain ⟨z32, h⟩ := h
      replace h := drf_some h
      obtain ⟨b33, e34, h⟩ := h
      refine G0_0 hM.c tw_726 z32 e34 dX0_init_44 ?_
      refine V_iload_n hM.c 1 dX0_init_47 rfl rfl ?_
      replace h := grd_some h
      obtain ⟨r35, h⟩ := h
      refine N5 (q := (hs + n0)) hM.c tw_1852 (hM.q _) (hM.r r35) dX0_init_48 ?_
      have lv36 := hlv.nO (c := 5) hM.lh (hM.le n0)
      replace h := nam_some h
      obtain ⟨Z37, e38, h⟩ := h
      rw [← e38]
      rw [← e38] at lv36
      replace h := nam_some h
      obtain ⟨g39, e40, h⟩ := h
      rw [← e40]
      refine V_dup hM.c dX0_init_51 rfl ?_
      replace h := grd_some h
      obtain ⟨r41, h⟩ := h
      replace h := bnd_some h
      obtain ⟨Z42, g43, e44, h⟩ := h
      refine V_callI (As := []) hM.c lv36 hM.lh (hM.q _) mq_X7_init rfl tw_1859 tw_1858 (hM.dd (by decide)) (hM.r r41) (vm_X7_init e44) rfl (Nat.le_of_ble_eq_true rfl) dX0_init_52 (fun lv45 => ?_)
      replace h := grd_some h
      obtain ⟨z46, h⟩ := h
      replace h := grd_some h
      obtain ⟨z47, h⟩ := h
      replace h := grd_some h
      obtain ⟨c48, h⟩ := h
      refine V_qast (t := 5) (c := 5) (r := (RX7, TX7, 4)) hM.c z46 (by omega) (by omega) c48 z47 rfl (by omega) rfl lv45 dX0_init_55 ?_
      refine V_iinc (v := (x1 + 1)) (L' := [(1, .int (x1 + 1)), (0, va_rf (some a))]) hM.c 1 dX0_init_56 rfl rfl (by decide) rfl ?_
      refine V_goto hM.c 37 dX0_init_59 (by decide) ?_
      refine V_sub [1, 0] rfl ?_
      exact ih _ _ _ _ _ lv45 h
set_option maxHeartbeats 8000000 in
def fi_X0 (n : Nat) (hs : Nat) (Z : Zt) (a : Nat) (g : Mem) : Option (Zt × Mem) := nam (nA Z (hs + 0) 16 12) (fun Z2 => nam (zr g (hs + 0)) (fun g4 => grd (zk Z2 a = 1) (nam (fZ Z2 a 0 (some (hs + 0))) (fun Z8 => nam (nO Z8 (hs + 1) 5) (fun Z11 => nam (zr g4 (hs + 1)) (fun g13 => bnd (fi_X7 n (hs + 2) Z11 (hs + 1) g13) (fun Z15 g16 => grd (zk Z15 a = 1) (nam (nO Z15 (hs + 100) 5) (fun Z21 => nam (zr (sP g16 a 1 (some (hs + 1))) (hs + 100)) (fun g23 => bnd (fi_X7 n (hs + 101) Z21 (hs + 100) g23) (fun Z25 g26 => grd (zk Z25 a = 1) (fi_X0_l37 n hs a n (0 : Int32) Z25 199 4436 (sP g26 a 2 (some (hs + 100)))))))))))))))
theorem mq_X0_init : Mq yX0_init cX0_init 2 none 0 := ⟨tw_1850, tw_104, ⟨by decide +kernel, by decide +kernel, by decide +kernel⟩, by decide⟩
set_option maxHeartbeats 4000000 in
set_option maxRecDepth 100000 in
theorem vm_X0_init {n hs : Nat} {Z : Zt} {a : Nat} {g : Mem} {Zf : Zt} {gf : Mem} (h : fi_X0 n hs Z a g = some (Zf, gf)) : VI yX0_init cX0_init 2 3 1387 30980 [.ref a] Z g hs Zf gf := by
  unfold fi_X0 at h
  refine VI.of (by decide +kernel) rfl (Nat.le_of_ble_eq_true rfl) (fun x hM => ?_)
  have hM : Ci x cX0_init RX0 2 3 1387 30980 Z hs Zf gf := hM
  have hlv := hM.lv
  show V x Z 0 0 0 [(0, va_rf (some a))] [] g
  refine V_aload_n hM.c 0 dX0_init_0 rfl rfl ?_
  refine V_objInit hM.c tw_1851 tw_1778 tw_1779 (hM.dd (d' := 0) (by decide)) (Nat.le_of_ble_eq_true rfl) dX0_init_1 ?_
  refine V_aload_n hM.c 0 dX0_init_4 rfl rfl ?_
  refine V_bipush (v := 12) hM.c dX0_init_5 (by decide) ?_
  refine A5 (q := (hs + 0)) (N := 12) hM.c tw_1852 (by decide) (by decide) (hM.q _) (hM.r (by decide)) dX0_init_7 ?_
  have lv1 := hlv.nA (k := 16) (len := 12) hM.lh (hM.le 0)
  replace h := nam_some h
  obtain ⟨Z2, e3, h⟩ := h
  rw [← e3]
  rw [← e3] at lv1
  replace h := nam_some h
  obtain ⟨g4, e5, h⟩ := h
  rw [← e5]
  replace h := grd_some h
  obtain ⟨z6, h⟩ := h
  refine PF0_0 hM.c tw_726 z6 hM.m (lv1 _ (by rw [z6]; decide)) dX0_init_10 ?_
  have lv7 := lv1.fZ (a := a) (k := 0) (v := (some (hs + 0)))
  replace h := nam_some h
  obtain ⟨Z8, e9, h⟩ := h
  rw [← e9]
  rw [← e9] at lv7
  refine V_aload_n hM.c 0 dX0_init_13 rfl rfl ?_
  refine N5 (q := (hs + 1)) hM.c tw_1852 (hM.q _) (hM.r (by decide)) dX0_init_14 ?_
  have lv10 := lv7.nO (c := 5) hM.lh (hM.le 1)
  replace h := nam_some h
  obtain ⟨Z11, e12, h⟩ := h
  rw [← e12]
  rw [← e12] at lv10
  replace h := nam_some h
  obtain ⟨g13, e14, h⟩ := h
  rw [← e14]
  refine V_dup hM.c dX0_init_17 rfl ?_
  replace h := bnd_some h
  obtain ⟨Z15, g16, e17, h⟩ := h
  refine V_callI (As := []) hM.c lv10 hM.lh (hM.q _) mq_X7_init rfl tw_1859 tw_1858 (hM.dd (by decide)) (hM.r (by decide)) (vm_X7_init e17) rfl (Nat.le_of_ble_eq_true rfl) dX0_init_18 (fun lv18 => ?_)
  replace h := grd_some h
  obtain ⟨z19, h⟩ := h
  refine P0_1 hM.c tw_710 z19 lv18 dX0_init_21 ?_
  refine V_aload_n hM.c 0 dX0_init_24 rfl rfl ?_
  refine N5 (q := (hs + 100)) hM.c tw_1852 (hM.q _) (hM.r (by decide)) dX0_init_25 ?_
  have lv20 := lv18.nO (c := 5) hM.lh (hM.le 100)
  replace h := nam_some h
  obtain ⟨Z21, e22, h⟩ := h
  rw [← e22]
  rw [← e22] at lv20
  replace h := nam_some h
  obtain ⟨g23, e24, h⟩ := h
  rw [← e24]
  refine V_dup hM.c dX0_init_28 rfl ?_
  replace h := bnd_some h
  obtain ⟨Z25, g26, e27, h⟩ := h
  refine V_callI (As := []) hM.c lv20 hM.lh (hM.q _) mq_X7_init rfl tw_1859 tw_1858 (hM.dd (by decide)) (hM.r (by decide)) (vm_X7_init e27) rfl (Nat.le_of_ble_eq_true rfl) dX0_init_29 (fun lv28 => ?_)
  replace h := grd_some h
  obtain ⟨z29, h⟩ := h
  refine P0_2 hM.c tw_106 z29 lv28 dX0_init_32 ?_
  refine V_iconst (v := 0) hM.c dX0_init_35 (by decide) ?_
  refine V_istore_n (i := 1) (L' := [(1, .int (0 : Int32)), (0, va_rf (some a))]) hM.c dX0_init_36 rfl (by decide) rfl ?_
  refine V_sub [1, 0] rfl ?_
  exact vi_X0_l37 hM _ _ _ _ _ _ lv28 h
set_option maxHeartbeats 8000000 in
def fi_X10 (n : Nat) (hs : Nat) (Z : Zt) (a : Nat) (g : Mem) : Option (Zt × Mem) := nam (nO Z (hs + 0) 6) (fun Z2 => nam (zr g (hs + 0)) (fun g4 => bnd (fi_X8 n (hs + 1) Z2 (hs + 0) g4) (fun Z6 g7 => grd (zk Z6 a = 9) (nam (fZ Z6 a 0 (some (hs + 0))) (fun Z12 => nam (nO Z12 (hs + 8) 6) (fun Z15 => nam (zr g7 (hs + 8)) (fun g17 => bnd (fi_X8 n (hs + 9) Z15 (hs + 8) g17) (fun Z19 g20 => grd (zk Z19 a = 9) (nam (fZ Z19 a 1 (some (hs + 8))) (fun Z25 => nam (nO Z25 (hs + 16) 1) (fun Z28 => nam (zr g20 (hs + 16)) (fun g30 => bnd (fi_X1 n (hs + 17) Z28 (hs + 16) g30) (fun Z32 g33 => grd (zk Z32 a = 9) (nam (fZ Z32 a 2 (some (hs + 16))) (fun Z38 => nam (nO Z38 (hs + 50) 2) (fun Z41 => nam (zr g33 (hs + 50)) (fun g43 => bnd (fi_X3 n 60 (hs + 51) Z41 (hs + 50) (60 : Int32) g43) (fun Z45 g46 => grd (zk Z45 a = 9) (nam (fZ Z45 a 3 (some (hs + 50))) (fun Z51 => nam (nO Z51 (hs + 52) 2) (fun Z54 => nam (zr g46 (hs + 52)) (fun g56 => bnd (fi_X3 n 1024 (hs + 53) Z54 (hs + 52) (1024 : Int32) g56) (fun Z58 g59 => grd (zk Z58 a = 9) (nam (fZ Z58 a 4 (some (hs + 52))) (fun Z64 => nam (nO Z64 (hs + 54) 4) (fun Z67 => nam (zr g59 (hs + 54)) (fun g69 => bnd (fi_X6 n (hs + 55) Z67 (hs + 54) g69) (fun Z71 g72 => grd (zk Z71 a = 9) (nam (fZ Z71 a 5 (some (hs + 54))) (fun Z77 => nam (nO Z77 (hs + 60) 4) (fun Z80 => nam (zr g72 (hs + 60)) (fun g82 => bnd (fi_X6 n (hs + 61) Z80 (hs + 60) g82) (fun Z84 g85 => grd (zk Z84 a = 9) (nam (fZ Z84 a 6 (some (hs + 60))) (fun Z90 => nam (nO Z90 (hs + 66) 0) (fun Z93 => nam (zr g85 (hs + 66)) (fun g95 => bnd (fi_X0 n (hs + 67) Z93 (hs + 66) g95) (fun Z97 g98 => grd (zk Z97 a = 9) (nam (fZ Z97 a 7 (some (hs + 66))) (fun Z103 => nam (nO Z103 (hs + 1454) 3) (fun Z106 => nam (zr g98 (hs + 1454)) (fun g108 => bnd (fi_X5 n (hs + 1455) Z106 (hs + 1454) g108) (fun Z110 g111 => grd (zk Z110 a = 9) (nam (fZ Z110 a 8 (some (hs + 1454))) (fun Z116 => nam (nO Z116 (hs + 1457) 7) (fun Z119 => nam (zr g111 (hs + 1457)) (fun g121 => bnd (fi_X9 n (hs + 1458) Z119 (hs + 1457) g121) (fun Z123 g124 => grd (zk Z123 a = 9) (nam (fZ Z123 a 9 (some (hs + 1457))) (fun Z129 => some (Z129, g124)))))))))))))))))))))))))))))))))))))))))))))))))))
theorem mq_X10_init : Mq yX10_init cX10_init 1 none 0 := ⟨tw_1776, tw_5, ⟨by decide +kernel, by decide +kernel, by decide +kernel⟩, by decide⟩
set_option maxHeartbeats 4000000 in
set_option maxRecDepth 100000 in
theorem vm_X10_init {n hs : Nat} {Z : Zt} {a : Nat} {g : Mem} {Zf : Zt} {gf : Mem} (h : fi_X10 n hs Z a g = some (Zf, gf)) : VI yX10_init cX10_init 1 4 1461 33781 [.ref a] Z g hs Zf gf := by
  unfold fi_X10 at h
  refine VI.of (by decide +kernel) rfl (Nat.le_of_ble_eq_true rfl) (fun x hM => ?_)
  have hM : Ci x cX10_init RX10 1 4 1461 33781 Z hs Zf gf := hM
  have hlv := hM.lv
  show V x Z 0 0 0 [(0, va_rf (some a))] [] g
  refine V_aload_n hM.c 0 dX10_init_0 rfl rfl ?_
  refine V_objInit hM.c tw_1777 tw_1778 tw_1779 (hM.dd (d' := 0) (by decide)) (Nat.le_of_ble_eq_true rfl) dX10_init_1 ?_
  refine V_aload_n hM.c 0 dX10_init_4 rfl rfl ?_
  refine N6 (q := (hs + 0)) hM.c tw_1780 (hM.q _) (hM.r (by decide)) dX10_init_5 ?_
  have lv1 := hlv.nO (c := 6) hM.lh (hM.le 0)
  replace h := nam_some h
  obtain ⟨Z2, e3, h⟩ := h
  rw [← e3]
  rw [← e3] at lv1
  replace h := nam_some h
  obtain ⟨g4, e5, h⟩ := h
  rw [← e5]
  refine V_dup hM.c dX10_init_8 rfl ?_
  replace h := bnd_some h
  obtain ⟨Z6, g7, e8, h⟩ := h
  refine V_callI (As := []) hM.c lv1 hM.lh (hM.q _) mq_X8_init rfl tw_1812 tw_1811 (hM.dd (by decide)) (hM.r (by decide)) (vm_X8_init e8) rfl (Nat.le_of_ble_eq_true rfl) dX10_init_9 (fun lv9 => ?_)
  replace h := grd_some h
  obtain ⟨z10, h⟩ := h
  refine PF8_0 hM.c tw_7 z10 hM.m (lv9 _ (by rw [z10]; decide)) dX10_init_12 ?_
  have lv11 := lv9.fZ (a := a) (k := 0) (v := (some (hs + 0)))
  replace h := nam_some h
  obtain ⟨Z12, e13, h⟩ := h
  rw [← e13]
  rw [← e13] at lv11
  refine V_aload_n hM.c 0 dX10_init_15 rfl rfl ?_
  refine N6 (q := (hs + 8)) hM.c tw_1780 (hM.q _) (hM.r (by decide)) dX10_init_16 ?_
  have lv14 := lv11.nO (c := 6) hM.lh (hM.le 8)
  replace h := nam_some h
  obtain ⟨Z15, e16, h⟩ := h
  rw [← e16]
  rw [← e16] at lv14
  replace h := nam_some h
  obtain ⟨g17, e18, h⟩ := h
  rw [← e18]
  refine V_dup hM.c dX10_init_19 rfl ?_
  replace h := bnd_some h
  obtain ⟨Z19, g20, e21, h⟩ := h
  refine V_callI (As := []) hM.c lv14 hM.lh (hM.q _) mq_X8_init rfl tw_1812 tw_1811 (hM.dd (by decide)) (hM.r (by decide)) (vm_X8_init e21) rfl (Nat.le_of_ble_eq_true rfl) dX10_init_20 (fun lv22 => ?_)
  replace h := grd_some h
  obtain ⟨z23, h⟩ := h
  refine PF8_1 hM.c tw_932 z23 hM.m (lv22 _ (by rw [z23]; decide)) dX10_init_23 ?_
  have lv24 := lv22.fZ (a := a) (k := 1) (v := (some (hs + 8)))
  replace h := nam_some h
  obtain ⟨Z25, e26, h⟩ := h
  rw [← e26]
  rw [← e26] at lv24
  refine V_aload_n hM.c 0 dX10_init_26 rfl rfl ?_
  refine N1 (q := (hs + 16)) hM.c tw_1785 (hM.q _) (hM.r (by decide)) dX10_init_27 ?_
  have lv27 := lv24.nO (c := 1) hM.lh (hM.le 16)
  replace h := nam_some h
  obtain ⟨Z28, e29, h⟩ := h
  rw [← e29]
  rw [← e29] at lv27
  replace h := nam_some h
  obtain ⟨g30, e31, h⟩ := h
  rw [← e31]
  refine V_dup hM.c dX10_init_30 rfl ?_
  replace h := bnd_some h
  obtain ⟨Z32, g33, e34, h⟩ := h
  refine V_callI (As := []) hM.c lv27 hM.lh (hM.q _) mq_X1_init rfl tw_1833 tw_1832 (hM.dd (by decide)) (hM.r (by decide)) (vm_X1_init e34) rfl (Nat.le_of_ble_eq_true rfl) dX10_init_31 (fun lv35 => ?_)
  replace h := grd_some h
  obtain ⟨z36, h⟩ := h
  refine PF8_2 hM.c tw_664 z36 hM.m (lv35 _ (by rw [z36]; decide)) dX10_init_34 ?_
  have lv37 := lv35.fZ (a := a) (k := 2) (v := (some (hs + 16)))
  replace h := nam_some h
  obtain ⟨Z38, e39, h⟩ := h
  rw [← e39]
  rw [← e39] at lv37
  refine V_aload_n hM.c 0 dX10_init_37 rfl rfl ?_
  refine N2 (q := (hs + 50)) hM.c tw_1789 (hM.q _) (hM.r (by decide)) dX10_init_38 ?_
  have lv40 := lv37.nO (c := 2) hM.lh (hM.le 50)
  replace h := nam_some h
  obtain ⟨Z41, e42, h⟩ := h
  rw [← e42]
  rw [← e42] at lv40
  replace h := nam_some h
  obtain ⟨g43, e44, h⟩ := h
  rw [← e44]
  refine V_dup hM.c dX10_init_41 rfl ?_
  refine V_bipush (v := 60) hM.c dX10_init_42 (by decide) ?_
  replace h := bnd_some h
  obtain ⟨Z45, g46, e47, h⟩ := h
  refine V_callI (As := [.int (60 : Int32)]) hM.c lv40 hM.lh (hM.q _) mq_X3_init rfl tw_1823 tw_1839 (hM.dd (by decide)) (hM.r (by decide)) (vm_X3_init e47) rfl (Nat.le_of_ble_eq_true rfl) dX10_init_44 (fun lv48 => ?_)
  replace h := grd_some h
  obtain ⟨z49, h⟩ := h
  refine PF8_3 hM.c tw_515 z49 hM.m (lv48 _ (by rw [z49]; decide)) dX10_init_47 ?_
  have lv50 := lv48.fZ (a := a) (k := 3) (v := (some (hs + 50)))
  replace h := nam_some h
  obtain ⟨Z51, e52, h⟩ := h
  rw [← e52]
  rw [← e52] at lv50
  refine V_aload_n hM.c 0 dX10_init_50 rfl rfl ?_
  refine N2 (q := (hs + 52)) hM.c tw_1789 (hM.q _) (hM.r (by decide)) dX10_init_51 ?_
  have lv53 := lv50.nO (c := 2) hM.lh (hM.le 52)
  replace h := nam_some h
  obtain ⟨Z54, e55, h⟩ := h
  rw [← e55]
  rw [← e55] at lv53
  replace h := nam_some h
  obtain ⟨g56, e57, h⟩ := h
  rw [← e57]
  refine V_dup hM.c dX10_init_54 rfl ?_
  refine V_sipush (v := 1024) hM.c dX10_init_55 (by decide) ?_
  replace h := bnd_some h
  obtain ⟨Z58, g59, e60, h⟩ := h
  refine V_callI (As := [.int (1024 : Int32)]) hM.c lv53 hM.lh (hM.q _) mq_X3_init rfl tw_1823 tw_1839 (hM.dd (by decide)) (hM.r (by decide)) (vm_X3_init e60) rfl (Nat.le_of_ble_eq_true rfl) dX10_init_58 (fun lv61 => ?_)
  replace h := grd_some h
  obtain ⟨z62, h⟩ := h
  refine PF8_4 hM.c tw_1793 z62 hM.m (lv61 _ (by rw [z62]; decide)) dX10_init_61 ?_
  have lv63 := lv61.fZ (a := a) (k := 4) (v := (some (hs + 52)))
  replace h := nam_some h
  obtain ⟨Z64, e65, h⟩ := h
  rw [← e65]
  rw [← e65] at lv63
  refine V_aload_n hM.c 0 dX10_init_64 rfl rfl ?_
  refine N4 (q := (hs + 54)) hM.c tw_1794 (hM.q _) (hM.r (by decide)) dX10_init_65 ?_
  have lv66 := lv63.nO (c := 4) hM.lh (hM.le 54)
  replace h := nam_some h
  obtain ⟨Z67, e68, h⟩ := h
  rw [← e68]
  rw [← e68] at lv66
  replace h := nam_some h
  obtain ⟨g69, e70, h⟩ := h
  rw [← e70]
  refine V_dup hM.c dX10_init_68 rfl ?_
  replace h := bnd_some h
  obtain ⟨Z71, g72, e73, h⟩ := h
  refine V_callIN (As := []) hM.c lv66 hM.lh (hM.q _) mq_X6_init rfl tw_1840 (by decide +kernel) (hM.dd (by decide)) (hM.r (by decide)) (vm_X6_init e73) rfl (Nat.le_of_ble_eq_true rfl) dX10_init_69 (fun lv74 => ?_)
  replace h := grd_some h
  obtain ⟨z75, h⟩ := h
  refine PF8_5 hM.c tw_588 z75 hM.m (lv74 _ (by rw [z75]; decide)) dX10_init_72 ?_
  have lv76 := lv74.fZ (a := a) (k := 5) (v := (some (hs + 54)))
  replace h := nam_some h
  obtain ⟨Z77, e78, h⟩ := h
  rw [← e78]
  rw [← e78] at lv76
  refine V_aload_n hM.c 0 dX10_init_75 rfl rfl ?_
  refine N4 (q := (hs + 60)) hM.c tw_1794 (hM.q _) (hM.r (by decide)) dX10_init_76 ?_
  have lv79 := lv76.nO (c := 4) hM.lh (hM.le 60)
  replace h := nam_some h
  obtain ⟨Z80, e81, h⟩ := h
  rw [← e81]
  rw [← e81] at lv79
  replace h := nam_some h
  obtain ⟨g82, e83, h⟩ := h
  rw [← e83]
  refine V_dup hM.c dX10_init_79 rfl ?_
  replace h := bnd_some h
  obtain ⟨Z84, g85, e86, h⟩ := h
  refine V_callIN (As := []) hM.c lv79 hM.lh (hM.q _) mq_X6_init rfl tw_1840 (by decide +kernel) (hM.dd (by decide)) (hM.r (by decide)) (vm_X6_init e86) rfl (Nat.le_of_ble_eq_true rfl) dX10_init_80 (fun lv87 => ?_)
  replace h := grd_some h
  obtain ⟨z88, h⟩ := h
  refine PF8_6 hM.c tw_665 z88 hM.m (lv87 _ (by rw [z88]; decide)) dX10_init_83 ?_
  have lv89 := lv87.fZ (a := a) (k := 6) (v := (some (hs + 60)))
  replace h := nam_some h
  obtain ⟨Z90, e91, h⟩ := h
  rw [← e91]
  rw [← e91] at lv89
  refine V_aload_n hM.c 0 dX10_init_86 rfl rfl ?_
  refine N0 (q := (hs + 66)) hM.c tw_1799 (hM.q _) (hM.r (by decide)) dX10_init_87 ?_
  have lv92 := lv89.nO (c := 0) hM.lh (hM.le 66)
  replace h := nam_some h
  obtain ⟨Z93, e94, h⟩ := h
  rw [← e94]
  rw [← e94] at lv92
  replace h := nam_some h
  obtain ⟨g95, e96, h⟩ := h
  rw [← e96]
  refine V_dup hM.c dX10_init_90 rfl ?_
  replace h := bnd_some h
  obtain ⟨Z97, g98, e99, h⟩ := h
  refine V_callI (As := []) hM.c lv92 hM.lh (hM.q _) mq_X0_init rfl tw_1849 tw_1848 (hM.dd (by decide)) (hM.r (by decide)) (vm_X0_init e99) rfl (Nat.le_of_ble_eq_true rfl) dX10_init_91 (fun lv100 => ?_)
  replace h := grd_some h
  obtain ⟨z101, h⟩ := h
  refine PF8_7 hM.c tw_100 z101 hM.m (lv100 _ (by rw [z101]; decide)) dX10_init_94 ?_
  have lv102 := lv100.fZ (a := a) (k := 7) (v := (some (hs + 66)))
  replace h := nam_some h
  obtain ⟨Z103, e104, h⟩ := h
  rw [← e104]
  rw [← e104] at lv102
  refine V_aload_n hM.c 0 dX10_init_97 rfl rfl ?_
  refine N3 (q := (hs + 1454)) hM.c tw_1803 (hM.q _) (hM.r (by decide)) dX10_init_98 ?_
  have lv105 := lv102.nO (c := 3) hM.lh (hM.le 1454)
  replace h := nam_some h
  obtain ⟨Z106, e107, h⟩ := h
  rw [← e107]
  rw [← e107] at lv105
  replace h := nam_some h
  obtain ⟨g108, e109, h⟩ := h
  rw [← e109]
  refine V_dup hM.c dX10_init_101 rfl ?_
  replace h := bnd_some h
  obtain ⟨Z110, g111, e112, h⟩ := h
  refine V_callIN (As := []) hM.c lv105 hM.lh (hM.q _) mq_X5_init rfl tw_1865 (by decide +kernel) (hM.dd (by decide)) (hM.r (by decide)) (vm_X5_init e112) rfl (Nat.le_of_ble_eq_true rfl) dX10_init_102 (fun lv113 => ?_)
  replace h := grd_some h
  obtain ⟨z114, h⟩ := h
  refine PF8_8 hM.c tw_172 z114 hM.m (lv113 _ (by rw [z114]; decide)) dX10_init_105 ?_
  have lv115 := lv113.fZ (a := a) (k := 8) (v := (some (hs + 1454)))
  replace h := nam_some h
  obtain ⟨Z116, e117, h⟩ := h
  rw [← e117]
  rw [← e117] at lv115
  refine V_aload_n hM.c 0 dX10_init_108 rfl rfl ?_
  refine N7 (q := (hs + 1457)) hM.c tw_1807 (hM.q _) (hM.r (by decide)) dX10_init_109 ?_
  have lv118 := lv115.nO (c := 7) hM.lh (hM.le 1457)
  replace h := nam_some h
  obtain ⟨Z119, e120, h⟩ := h
  rw [← e120]
  rw [← e120] at lv118
  replace h := nam_some h
  obtain ⟨g121, e122, h⟩ := h
  rw [← e122]
  refine V_dup hM.c dX10_init_112 rfl ?_
  replace h := bnd_some h
  obtain ⟨Z123, g124, e125, h⟩ := h
  refine V_callIN (As := []) hM.c lv118 hM.lh (hM.q _) mq_X9_init rfl tw_1871 (by decide +kernel) (hM.dd (by decide)) (hM.r (by decide)) (vm_X9_init e125) rfl (Nat.le_of_ble_eq_true rfl) dX10_init_113 (fun lv126 => ?_)
  replace h := grd_some h
  obtain ⟨z127, h⟩ := h
  refine PF8_9 hM.c tw_474 z127 hM.m (lv126 _ (by rw [z127]; decide)) dX10_init_116 ?_
  have lv128 := lv126.fZ (a := a) (k := 9) (v := (some (hs + 1457)))
  replace h := nam_some h
  obtain ⟨Z129, e130, h⟩ := h
  rw [← e130]
  rw [← e130] at lv128
  exact V_vretI hM lv128 (by decide) h dX10_init_119

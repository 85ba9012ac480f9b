def f_L_low (n : Nat) (Z : Zt) (x0 : Int32) (x1 : Int32) (g : Mem) : Option (Int32 × Mem) := grd (¬ x1 = 0) (some (((x0 &&& (2147483647 : Int32)) - (x0 &&& (2147483647 : Int32)) / x1 * x1), g))
theorem mq_L_low : Mq yL_low cL_low 2 (some .int) 2 := ⟨tw_410, tw_409, ⟨by decide +kernel, by decide +kernel, by decide +kernel⟩, by decide⟩
theorem mi_L_low : Cond.static yL_low ∈ TB := tw_408
set_option maxHeartbeats 4000000 in
set_option maxRecDepth 100000 in
theorem vm_L_low {n : Nat} {Z : Zt} {x0 : Int32} {x1 : Int32} {g : Mem} {rr : Int32} {gg : Mem} (h : f_L_low n Z x0 x1 g = some (rr, gg)) : VM yL_low cL_low 2 (some .int) 0 [.int x0, .int x1] Z g (some (.int rr)) gg := by
  unfold f_L_low at h
  refine VM.of (by decide +kernel) (Nat.le_of_ble_eq_true rfl) (fun x hM => ?_)
  have hM : Cm x cL_low RL 2 (some .int) 0 Z (some (.int rr)) gg := hM
  show V x Z 0 0 0 [(0, .int x0), (1, .int x1)] [] g
  refine V_iload_n hM.c 0 dL_low_0 rfl rfl ?_
  refine V_ldc (v := 2147483647) hM.c tw_411 dL_low_1 ?_
  refine V_iand hM.c dL_low_3 ?_
  refine V_iload_n hM.c 1 dL_low_4 rfl rfl ?_
  replace h := grd_some h
  obtain ⟨c1, h⟩ := h
  refine V_irem hM.c dL_low_5 c1 ?_
  exact V_iretE hM h dL_low_6
def f_L_look_l76 (n : Nat) (Z : Zt) (κ32 : Nat → Int64 → Int32 → Mem → Option (Int64 × Mem)) : Nat → Nat → Int64 → Int32 → Int32 → Mem → Option (Int64 × Mem)
  | 0, _, _, _, _, _ => none
  | fu + 1, x0, x1, x3, x4, g => if (3 : Int32) ≤ x4 then (κ32 x0 x1 (x3 + 1) g) else (bnd (f_X10_value n Z x0 x3 x4 g) (fun r35 g36 => f_L_look_l76 n Z κ32 fu x0 (((31 : Int64) * x1) + (r35.toInt64)) x3 (x4 + 1) g36))
set_option maxHeartbeats 4000000 in
set_option maxRecDepth 100000 in
theorem vl_L_look_l76 {x : Cq} {n : Nat} {Z : Zt} {κ32 : Nat → Int64 → Int32 → Mem → Option (Int64 × Mem)} {rr : Int64} {gg : Mem} (hM : Cm x cL_look RL 5 (some .long) 5 Z (some (.long rr)) gg) (hκ32 : ∀ (y0 : Nat) (y1 : Int64) (y3 : Int32) (y : Mem), κ32 y0 y1 y3 y = some (rr, gg) → V x Z 0 0 32 [(0, va_rf (some y0)), (1, .long y1), (3, .int y3)] [] y) : ∀ (fu : Nat) (x0 : Nat) (x1 : Int64) (x3 : Int32) (x4 : Int32) (g : Mem), f_L_look_l76 n Z κ32 fu x0 x1 x3 x4 g = some (rr, gg) → V x Z 0 0 76 [(0, va_rf (some x0)), (1, .long x1), (3, .int x3), (4, .int x4)] [] g := by
  intro fu
  induction fu with
  | zero => intro x0 x1 x3 x4 g h; cases h
  | succ fu ih =>
    intro x0 x1 x3 x4 g h
    unfold f_L_look_l76 at h
    refine V_iload hM.c 3 dL_look_76 rfl ?_
    refine V_iconst (v := 3) hM.c dL_look_78 (by decide) ?_
    refine V_icmp_ge hM.c 103 dL_look_79 (by decide) (fun c34 => ?_) (fun c34 => ?_)
    · replace h := ite_p h c34
      refine V_iinc (v := (x3 + 1)) (L' := [(3, .int (x3 + 1)), (0, va_rf (some x0)), (1, .long x1), (4, .int x4)]) hM.c 2 dL_look_103 rfl rfl (by decide) rfl ?_
      refine V_goto hM.c 32 dL_look_106 (by decide) ?_
      refine V_sub [1, 2, 0] rfl ?_
      exact hκ32 _ _ _ _ h
    · replace h := ite_n h c34
      refine V_ldc2 (v := 31) hM.c tw_1 dL_look_82 ?_
      refine V_lload_n hM.c 1 dL_look_85 rfl rfl ?_
      refine V_lmul hM.c dL_look_86 ?_
      refine V_aload_n hM.c 0 dL_look_87 rfl rfl ?_
      refine V_iload_n hM.c 2 dL_look_88 rfl rfl ?_
      refine V_iload hM.c 3 dL_look_89 rfl ?_
      replace h := bnd_some h
      obtain ⟨r35, g36, e37, h⟩ := h
      refine V_callV (As := [.int x3, .int x4]) (c := 8) (T := TX10) (N := 10) hM.c hM.a mq_X10_value mi_X10_value tw_50 (hM.d (by decide)) hM.z rfl (by omega) (zc_X10_value e37) (vm_X10_value e37) rfl (Nat.le_of_ble_eq_true rfl) dL_look_91 ?_
      refine V_i2l hM.c dL_look_94 ?_
      refine V_ladd hM.c dL_look_95 ?_
      refine V_lstore_n (i := 1) (L' := [(1, .long (((31 : Int64) * x1) + (r35.toInt64))), (0, va_rf (some x0)), (3, .int x3), (4, .int x4)]) hM.c dL_look_96 rfl (by decide) rfl ?_
      refine V_iinc (v := (x4 + 1)) (L' := [(4, .int (x4 + 1)), (1, .long (((31 : Int64) * x1) + (r35.toInt64))), (0, va_rf (some x0)), (3, .int x3)]) hM.c 3 dL_look_97 rfl rfl (by decide) rfl ?_
      refine V_goto hM.c 76 dL_look_100 (by decide) ?_
      refine V_sub [2, 1, 3, 0] rfl ?_
      exact ih _ _ _ _ _ h
def f_L_look_l184 (n : Nat) (Z : Zt) : Nat → Nat → Int64 → Int32 → Mem → Option (Int64 × Mem)
  | 0, _, _, _, _ => none
  | fu + 1, x0, x1, x3, g => bnd (f_X10_answerRows n Z x0 g) (fun r38 g39 => if r38 ≤ x3 then (some (x1, g39)) else (if (6 : Int32) ≤ x3 then (some (x1, g39)) else (bnd (f_X10_answerValue n Z x0 x3 (0 : Int32) g39) (fun r43 g44 => bnd (f_X10_lineage n Z x0 x3 g44) (fun r46 g47 => bnd (f_X10_derivations n Z x0 x3 g47) (fun r49 g50 => f_L_look_l184 n Z fu x0 (((31 : Int64) * (((31 : Int64) * (((31 : Int64) * x1) + (r43.toInt64))) + (r46.toInt64))) + r49) (x3 + 1) g50))))))
set_option maxHeartbeats 4000000 in
set_option maxRecDepth 100000 in
theorem vl_L_look_l184 {x : Cq} {n : Nat} {Z : Zt} {rr : Int64} {gg : Mem} (hM : Cm x cL_look RL 5 (some .long) 5 Z (some (.long rr)) gg) : ∀ (fu : Nat) (x0 : Nat) (x1 : Int64) (x3 : Int32) (g : Mem), f_L_look_l184 n Z fu x0 x1 x3 g = some (rr, gg) → V x Z 0 0 184 [(0, va_rf (some x0)), (1, .long x1), (3, .int x3)] [] g := by
  intro fu
  induction fu with
  | zero => intro x0 x1 x3 g h; cases h
  | succ fu ih =>
    intro x0 x1 x3 g h
    unfold f_L_look_l184 at h
    refine V_iload_n hM.c 2 dL_look_184 rfl rfl ?_
    refine V_aload_n hM.c 0 dL_look_185 rfl rfl ?_
    replace h := bnd_some h
    obtain ⟨r38, g39, e40, h⟩ := h
    refine V_callV (As := []) (c := 8) (T := TX10) (N := 10) hM.c hM.a mq_X10_answerRows mi_X10_answerRows tw_96 (hM.d (by decide)) hM.z rfl (by omega) (zc_X10_answerRows e40) (vm_X10_answerRows e40) rfl (Nat.le_of_ble_eq_true rfl) dL_look_186 ?_
    refine V_icmp_ge hM.c 239 dL_look_189 (by decide) (fun c41 => ?_) (fun c41 => ?_)
    · replace h := ite_p h c41
      refine V_lload_n hM.c 1 dL_look_239 rfl rfl ?_
      exact V_lretE hM h dL_look_240
    · replace h := ite_n h c41
      refine V_iload_n hM.c 2 dL_look_192 rfl rfl ?_
      refine V_bipush (v := 6) hM.c dL_look_193 (by decide) ?_
      refine V_icmp_ge hM.c 239 dL_look_195 (by decide) (fun c42 => ?_) (fun c42 => ?_)
      · replace h := ite_p h c42
        refine V_lload_n hM.c 1 dL_look_239 rfl rfl ?_
        exact V_lretE hM h dL_look_240
      · replace h := ite_n h c42
        refine V_ldc2 (v := 31) hM.c tw_1 dL_look_198 ?_
        refine V_ldc2 (v := 31) hM.c tw_1 dL_look_201 ?_
        refine V_ldc2 (v := 31) hM.c tw_1 dL_look_204 ?_
        refine V_lload_n hM.c 1 dL_look_207 rfl rfl ?_
        refine V_lmul hM.c dL_look_208 ?_
        refine V_aload_n hM.c 0 dL_look_209 rfl rfl ?_
        refine V_iload_n hM.c 2 dL_look_210 rfl rfl ?_
        refine V_iconst (v := 0) hM.c dL_look_211 (by decide) ?_
        replace h := bnd_some h
        obtain ⟨r43, g44, e45, h⟩ := h
        refine V_callV (As := [.int x3, .int (0 : Int32)]) (c := 8) (T := TX10) (N := 10) hM.c hM.a mq_X10_answerValue mi_X10_answerValue tw_122 (hM.d (by decide)) hM.z rfl (by omega) (zc_X10_answerValue e45) (vm_X10_answerValue e45) rfl (Nat.le_of_ble_eq_true rfl) dL_look_212 ?_
        refine V_i2l hM.c dL_look_215 ?_
        refine V_ladd hM.c dL_look_216 ?_
        refine V_lmul hM.c dL_look_217 ?_
        refine V_aload_n hM.c 0 dL_look_218 rfl rfl ?_
        refine V_iload_n hM.c 2 dL_look_219 rfl rfl ?_
        replace h := bnd_some h
        obtain ⟨r46, g47, e48, h⟩ := h
        refine V_callV (As := [.int x3]) (c := 8) (T := TX10) (N := 10) hM.c hM.a mq_X10_lineage mi_X10_lineage tw_136 (hM.d (by decide)) hM.z rfl (by omega) (zc_X10_lineage e48) (vm_X10_lineage e48) rfl (Nat.le_of_ble_eq_true rfl) dL_look_220 ?_
        refine V_i2l hM.c dL_look_223 ?_
        refine V_ladd hM.c dL_look_224 ?_
        refine V_lmul hM.c dL_look_225 ?_
        refine V_aload_n hM.c 0 dL_look_226 rfl rfl ?_
        refine V_iload_n hM.c 2 dL_look_227 rfl rfl ?_
        replace h := bnd_some h
        obtain ⟨r49, g50, e51, h⟩ := h
        refine V_callV (As := [.int x3]) (c := 8) (T := TX10) (N := 10) hM.c hM.a mq_X10_derivations mi_X10_derivations tw_167 (hM.d (by decide)) hM.z rfl (by omega) (zc_X10_derivations e51) (vm_X10_derivations e51) rfl (Nat.le_of_ble_eq_true rfl) dL_look_228 ?_
        refine V_ladd hM.c dL_look_231 ?_
        refine V_lstore_n (i := 1) (L' := [(1, .long (((31 : Int64) * (((31 : Int64) * (((31 : Int64) * x1) + (r43.toInt64))) + (r46.toInt64))) + r49)), (0, va_rf (some x0)), (3, .int x3)]) hM.c dL_look_232 rfl (by decide) rfl ?_
        refine V_iinc (v := (x3 + 1)) (L' := [(3, .int (x3 + 1)), (1, .long (((31 : Int64) * (((31 : Int64) * (((31 : Int64) * x1) + (r43.toInt64))) + (r46.toInt64))) + r49)), (0, va_rf (some x0))]) hM.c 2 dL_look_233 rfl rfl (by decide) rfl ?_
        refine V_goto hM.c 184 dL_look_236 (by decide) ?_
        refine V_sub [2, 1, 0] rfl ?_
        exact ih _ _ _ _ h
def f_L_look_l133 (n : Nat) (Z : Zt) : Nat → Nat → Int64 → Int32 → Mem → Option (Int64 × Mem)
  | 0, _, _, _, _ => none
  | fu + 1, x0, x1, x3, g => bnd (f_X10_queryLength n Z x0 g) (fun r21 g22 => if r21 ≤ x3 then (bnd (f_X10_answerRows n Z x0 g22) (fun r25 g26 => bnd (f_X10_answerColumns n Z x0 g26) (fun r28 g29 => f_L_look_l184 n Z n x0 (((31 : Int64) * (((31 : Int64) * x1) + (r25.toInt64))) + (r28.toInt64)) (0 : Int32) g29))) else (bnd (f_X10_queryAt n Z x0 x3 g22) (fun r31 g32 => f_L_look_l133 n Z fu x0 (((31 : Int64) * x1) + (r31.toInt64)) (x3 + 1) g32)))
set_option maxHeartbeats 4000000 in
set_option maxRecDepth 100000 in
theorem vl_L_look_l133 {x : Cq} {n : Nat} {Z : Zt} {rr : Int64} {gg : Mem} (hM : Cm x cL_look RL 5 (some .long) 5 Z (some (.long rr)) gg) : ∀ (fu : Nat) (x0 : Nat) (x1 : Int64) (x3 : Int32) (g : Mem), f_L_look_l133 n Z fu x0 x1 x3 g = some (rr, gg) → V x Z 0 0 133 [(0, va_rf (some x0)), (1, .long x1), (3, .int x3)] [] g := by
  intro fu
  induction fu with
  | zero => intro x0 x1 x3 g h; cases h
  | succ fu ih =>
    intro x0 x1 x3 g h
    unfold f_L_look_l133 at h
    refine V_iload_n hM.c 2 dL_look_133 rfl rfl ?_
    refine V_aload_n hM.c 0 dL_look_134 rfl rfl ?_
    replace h := bnd_some h
    obtain ⟨r21, g22, e23, h⟩ := h
    refine V_callV (As := []) (c := 8) (T := TX10) (N := 10) hM.c hM.a mq_X10_queryLength mi_X10_queryLength tw_72 (hM.d (by decide)) hM.z rfl (by omega) (zc_X10_queryLength e23) (vm_X10_queryLength e23) rfl (Nat.le_of_ble_eq_true rfl) dL_look_135 ?_
    refine V_icmp_ge hM.c 160 dL_look_138 (by decide) (fun c24 => ?_) (fun c24 => ?_)
    · replace h := ite_p h c24
      refine V_ldc2 (v := 31) hM.c tw_1 dL_look_160 ?_
      refine V_ldc2 (v := 31) hM.c tw_1 dL_look_163 ?_
      refine V_lload_n hM.c 1 dL_look_166 rfl rfl ?_
      refine V_lmul hM.c dL_look_167 ?_
      refine V_aload_n hM.c 0 dL_look_168 rfl rfl ?_
      replace h := bnd_some h
      obtain ⟨r25, g26, e27, h⟩ := h
      refine V_callV (As := []) (c := 8) (T := TX10) (N := 10) hM.c hM.a mq_X10_answerRows mi_X10_answerRows tw_96 (hM.d (by decide)) hM.z rfl (by omega) (zc_X10_answerRows e27) (vm_X10_answerRows e27) rfl (Nat.le_of_ble_eq_true rfl) dL_look_169 ?_
      refine V_i2l hM.c dL_look_172 ?_
      refine V_ladd hM.c dL_look_173 ?_
      refine V_lmul hM.c dL_look_174 ?_
      refine V_aload_n hM.c 0 dL_look_175 rfl rfl ?_
      replace h := bnd_some h
      obtain ⟨r28, g29, e30, h⟩ := h
      refine V_callV (As := []) (c := 8) (T := TX10) (N := 10) hM.c hM.a mq_X10_answerColumns mi_X10_answerColumns tw_113 (hM.d (by decide)) hM.z rfl (by omega) (zc_X10_answerColumns e30) (vm_X10_answerColumns e30) rfl (Nat.le_of_ble_eq_true rfl) dL_look_176 ?_
      refine V_i2l hM.c dL_look_179 ?_
      refine V_ladd hM.c dL_look_180 ?_
      refine V_lstore_n (i := 1) (L' := [(1, .long (((31 : Int64) * (((31 : Int64) * x1) + (r25.toInt64))) + (r28.toInt64))), (0, va_rf (some x0)), (3, .int x3)]) hM.c dL_look_181 rfl (by decide) rfl ?_
      refine V_iconst (v := 0) hM.c dL_look_182 (by decide) ?_
      refine V_istore_n (i := 3) (L' := [(3, .int (0 : Int32)), (1, .long (((31 : Int64) * (((31 : Int64) * x1) + (r25.toInt64))) + (r28.toInt64))), (0, va_rf (some x0))]) hM.c dL_look_183 rfl (by decide) rfl ?_
      refine V_sub [2, 1, 0] rfl ?_
      exact vl_L_look_l184 hM  _ _ _ _ _ h
    · replace h := ite_n h c24
      refine V_ldc2 (v := 31) hM.c tw_1 dL_look_141 ?_
      refine V_lload_n hM.c 1 dL_look_144 rfl rfl ?_
      refine V_lmul hM.c dL_look_145 ?_
      refine V_aload_n hM.c 0 dL_look_146 rfl rfl ?_
      refine V_iload_n hM.c 2 dL_look_147 rfl rfl ?_
      replace h := bnd_some h
      obtain ⟨r31, g32, e33, h⟩ := h
      refine V_callV (As := [.int x3]) (c := 8) (T := TX10) (N := 10) hM.c hM.a mq_X10_queryAt mi_X10_queryAt tw_87 (hM.d (by decide)) hM.z rfl (by omega) (zc_X10_queryAt e33) (vm_X10_queryAt e33) rfl (Nat.le_of_ble_eq_true rfl) dL_look_148 ?_
      refine V_i2l hM.c dL_look_151 ?_
      refine V_ladd hM.c dL_look_152 ?_
      refine V_lstore_n (i := 1) (L' := [(1, .long (((31 : Int64) * x1) + (r31.toInt64))), (0, va_rf (some x0)), (3, .int x3)]) hM.c dL_look_153 rfl (by decide) rfl ?_
      refine V_iinc (v := (x3 + 1)) (L' := [(3, .int (x3 + 1)), (1, .long (((31 : Int64) * x1) + (r31.toInt64))), (0, va_rf (some x0))]) hM.c 2 dL_look_154 rfl rfl (by decide) rfl ?_
      refine V_goto hM.c 133 dL_look_157 (by decide) ?_
      refine V_sub [2, 1, 0] rfl ?_
      exact ih _ _ _ _ h
def f_L_look_l32 (n : Nat) (Z : Zt) : Nat → Nat → Int64 → Int32 → Mem → Option (Int64 × Mem)
  | 0, _, _, _, _ => none
  | fu + 1, x0, x1, x3, g => if (16 : Int32) ≤ x3 then (bnd (f_X10_withdrawn n Z x0 g) (fun r6 g7 => bnd (f_X10_queryLength n Z x0 g7) (fun r9 g10 => f_L_look_l133 n Z n x0 (((31 : Int64) * (((31 : Int64) * x1) + (r6.toInt64))) + (r9.toInt64)) (0 : Int32) g10))) else (bnd (f_X10_tableOf n Z x0 x3 g) (fun r12 g13 => bnd (f_X10_cost n Z x0 x3 g13) (fun r15 g16 => bnd (f_X10_trust n Z x0 x3 g16) (fun r18 g19 => f_L_look_l76 n Z (fun y0 y1 y2 y => f_L_look_l32 n Z fu y0 y1 y2 y) n x0 (((31 : Int64) * (((31 : Int64) * (((31 : Int64) * x1) + (r12.toInt64))) + (r15.toInt64))) + (r18.toInt64)) x3 (0 : Int32) g19))))
set_option maxHeartbeats 4000000 in
set_option maxRecDepth 100000 in
theorem vl_L_look_l32 {x : Cq} {n : Nat} {Z : Zt} {rr : Int64} {gg : Mem} (hM : Cm x cL_look RL 5 (some .long) 5 Z (some (.long rr)) gg) : ∀ (fu : Nat) (x0 : Nat) (x1 : Int64) (x3 : Int32) (g : Mem), f_L_look_l32 n Z fu x0 x1 x3 g = some (rr, gg) → V x Z 0 0 32 [(0, va_rf (some x0)), (1, .long x1), (3, .int x3)] [] g := by
  intro fu
  induction fu with
  | zero => intro x0 x1 x3 g h; cases h
  | succ fu ih =>
    intro x0 x1 x3 g h
    unfold f_L_look_l32 at h
    refine V_iload_n hM.c 2 dL_look_32 rfl rfl ?_
    refine V_bipush (v := 16) hM.c dL_look_33 (by decide) ?_
    refine V_icmp_ge hM.c 109 dL_look_35 (by decide) (fun c5 => ?_) (fun c5 => ?_)
    · replace h := ite_p h c5
      refine V_ldc2 (v := 31) hM.c tw_1 dL_look_109 ?_
      refine V_ldc2 (v := 31) hM.c tw_1 dL_look_112 ?_
      refine V_lload_n hM.c 1 dL_look_115 rfl rfl ?_
      refine V_lmul hM.c dL_look_116 ?_
      refine V_aload_n hM.c 0 dL_look_117 rfl rfl ?_
      replace h := bnd_some h
      obtain ⟨r6, g7, e8, h⟩ := h
      refine V_callV (As := []) (c := 8) (T := TX10) (N := 10) hM.c hM.a mq_X10_withdrawn mi_X10_withdrawn tw_63 (hM.d (by decide)) hM.z rfl (by omega) (zc_X10_withdrawn e8) (vm_X10_withdrawn e8) rfl (Nat.le_of_ble_eq_true rfl) dL_look_118 ?_
      refine V_i2l hM.c dL_look_121 ?_
      refine V_ladd hM.c dL_look_122 ?_
      refine V_lmul hM.c dL_look_123 ?_
      refine V_aload_n hM.c 0 dL_look_124 rfl rfl ?_
      replace h := bnd_some h
      obtain ⟨r9, g10, e11, h⟩ := h
      refine V_callV (As := []) (c := 8) (T := TX10) (N := 10) hM.c hM.a mq_X10_queryLength mi_X10_queryLength tw_72 (hM.d (by decide)) hM.z rfl (by omega) (zc_X10_queryLength e11) (vm_X10_queryLength e11) rfl (Nat.le_of_ble_eq_true rfl) dL_look_125 ?_
      refine V_i2l hM.c dL_look_128 ?_
      refine V_ladd hM.c dL_look_129 ?_
      refine V_lstore_n (i := 1) (L' := [(1, .long (((31 : Int64) * (((31 : Int64) * x1) + (r6.toInt64))) + (r9.toInt64))), (0, va_rf (some x0)), (3, .int x3)]) hM.c dL_look_130 rfl (by decide) rfl ?_
      refine V_iconst (v := 0) hM.c dL_look_131 (by decide) ?_
      refine V_istore_n (i := 3) (L' := [(3, .int (0 : Int32)), (1, .long (((31 : Int64) * (((31 : Int64) * x1) + (r6.toInt64))) + (r9.toInt64))), (0, va_rf (some x0))]) hM.c dL_look_132 rfl (by decide) rfl ?_
      refine V_sub [2, 1, 0] rfl ?_
      exact vl_L_look_l133 hM  _ _ _ _ _ h
    · replace h := ite_n h c5
      refine V_ldc2 (v := 31) hM.c tw_1 dL_look_38 ?_
      refine V_ldc2 (v := 31) hM.c tw_1 dL_look_41 ?_
      refine V_ldc2 (v := 31) hM.c tw_1 dL_look_44 ?_
      refine V_lload_n hM.c 1 dL_look_47 rfl rfl ?_
      refine V_lmul hM.c dL_look_48 ?_
      refine V_aload_n hM.c 0 dL_look_49 rfl rfl ?_
      refine V_iload_n hM.c 2 dL_look_50 rfl rfl ?_
      replace h := bnd_some h
      obtain ⟨r12, g13, e14, h⟩ := h
      refine V_callV (As := [.int x3]) (c := 8) (T := TX10) (N := 10) hM.c hM.a mq_X10_tableOf mi_X10_tableOf tw_17 (hM.d (by decide)) hM.z rfl (by omega) (zc_X10_tableOf e14) (vm_X10_tableOf e14) rfl (Nat.le_of_ble_eq_true rfl) dL_look_51 ?_
      refine V_i2l hM.c dL_look_54 ?_
      refine V_ladd hM.c dL_look_55 ?_
      refine V_lmul hM.c dL_look_56 ?_
      refine V_aload_n hM.c 0 dL_look_57 rfl rfl ?_
      refine V_iload_n hM.c 2 dL_look_58 rfl rfl ?_
      replace h := bnd_some h
      obtain ⟨r15, g16, e17, h⟩ := h
      refine V_callV (As := [.int x3]) (c := 8) (T := TX10) (N := 10) hM.c hM.a mq_X10_cost mi_X10_cost tw_32 (hM.d (by decide)) hM.z rfl (by omega) (zc_X10_cost e17) (vm_X10_cost e17) rfl (Nat.le_of_ble_eq_true rfl) dL_look_59 ?_
      refine V_i2l hM.c dL_look_62 ?_
      refine V_ladd hM.c dL_look_63 ?_
      refine V_lmul hM.c dL_look_64 ?_
      refine V_aload_n hM.c 0 dL_look_65 rfl rfl ?_
      refine V_iload_n hM.c 2 dL_look_66 rfl rfl ?_
      replace h := bnd_some h
      obtain ⟨r18, g19, e20, h⟩ := h
      refine V_callV (As := [.int x3]) (c := 8) (T := TX10) (N := 10) hM.c hM.a mq_X10_trust mi_X10_trust tw_41 (hM.d (by decide)) hM.z rfl (by omega) (zc_X10_trust e20) (vm_X10_trust e20) rfl (Nat.le_of_ble_eq_true rfl) dL_look_67 ?_
      refine V_i2l hM.c dL_look_70 ?_
      refine V_ladd hM.c dL_look_71 ?_
      refine V_lstore_n (i := 1) (L' := [(1, .long (((31 : Int64) * (((31 : Int64) * (((31 : Int64) * x1) + (r12.toInt64))) + (r15.toInt64))) + (r18.toInt64))), (0, va_rf (some x0)), (3, .int x3)]) hM.c dL_look_72 rfl (by decide) rfl ?_
      refine V_iconst (v := 0) hM.c dL_look_73 (by decide) ?_
      refine V_istore (L' := [(4, .int (0 : Int32)), (1, .long (((31 : Int64) * (((31 : Int64) * (((31 : Int64) * x1) + (r12.toInt64))) + (r15.toInt64))) + (r18.toInt64))), (0, va_rf (some x0)), (3, .int x3)]) hM.c dL_look_74 (by decide) rfl ?_
      refine V_sub [2, 1, 3, 0] rfl ?_
      exact vl_L_look_l76 hM ih _ _ _ _ _ _ h
def f_L_look_l6 (n : Nat) (Z : Zt) : Nat → Nat → Int64 → Int32 → Mem → Option (Int64 × Mem)
  | 0, _, _, _, _ => none
  | fu + 1, x0, x1, x3, g => if (4 : Int32) ≤ x3 then (f_L_look_l32 n Z n x0 x1 (0 : Int32) g) else (bnd (f_X10_columns n Z x0 x3 g) (fun r2 g3 => f_L_look_l6 n Z fu x0 (((31 : Int64) * x1) + (r2.toInt64)) (x3 + 1) g3))
set_option maxHeartbeats 4000000 in
set_option maxRecDepth 100000 in
theorem vl_L_look_l6 {x : Cq} {n : Nat} {Z : Zt} {rr : Int64} {gg : Mem} (hM : Cm x cL_look RL 5 (some .long) 5 Z (some (.long rr)) gg) : ∀ (fu : Nat) (x0 : Nat) (x1 : Int64) (x3 : Int32) (g : Mem), f_L_look_l6 n Z fu x0 x1 x3 g = some (rr, gg) → V x Z 0 0 6 [(0, va_rf (some x0)), (1, .long x1), (3, .int x3)] [] g := by
  intro fu
  induction fu with
  | zero => intro x0 x1 x3 g h; cases h
  | succ fu ih =>
    intro x0 x1 x3 g h
    unfold f_L_look_l6 at h
    refine V_iload_n hM.c 2 dL_look_6 rfl rfl ?_
    refine V_iconst (v := 4) hM.c dL_look_7 (by decide) ?_
    refine V_icmp_ge hM.c 30 dL_look_8 (by decide) (fun c1 => ?_) (fun c1 => ?_)
    · replace h := ite_p h c1
      refine V_iconst (v := 0) hM.c dL_look_30 (by decide) ?_
      refine V_istore_n (i := 3) (L' := [(3, .int (0 : Int32)), (0, va_rf (some x0)), (1, .long x1)]) hM.c dL_look_31 rfl (by decide) rfl ?_
      refine V_sub [1, 2, 0] rfl ?_
      exact vl_L_look_l32 hM  _ _ _ _ _ h
    · replace h := ite_n h c1
      refine V_ldc2 (v := 31) hM.c tw_1 dL_look_11 ?_
      refine V_lload_n hM.c 1 dL_look_14 rfl rfl ?_
      refine V_lmul hM.c dL_look_15 ?_
      refine V_aload_n hM.c 0 dL_look_16 rfl rfl ?_
      refine V_iload_n hM.c 2 dL_look_17 rfl rfl ?_
      replace h := bnd_some h
      obtain ⟨r2, g3, e4, h⟩ := h
      refine V_callV (As := [.int x3]) (c := 8) (T := TX10) (N := 10) hM.c hM.a mq_X10_columns mi_X10_columns tw_2 (hM.d (by decide)) hM.z rfl (by omega) (zc_X10_columns e4) (vm_X10_columns e4) rfl (Nat.le_of_ble_eq_true rfl) dL_look_18 ?_
      refine V_i2l hM.c dL_look_21 ?_
      refine V_ladd hM.c dL_look_22 ?_
      refine V_lstore_n (i := 1) (L' := [(1, .long (((31 : Int64) * x1) + (r2.toInt64))), (0, va_rf (some x0)), (3, .int x3)]) hM.c dL_look_23 rfl (by decide) rfl ?_
      refine V_iinc (v := (x3 + 1)) (L' := [(3, .int (x3 + 1)), (1, .long (((31 : Int64) * x1) + (r2.toInt64))), (0, va_rf (some x0))]) hM.c 2 dL_look_24 rfl rfl (by decide) rfl ?_
      refine V_goto hM.c 6 dL_look_27 (by decide) ?_
      refine V_sub [2, 1, 0] rfl ?_
      exact ih _ _ _ _ h
def f_L_look (n : Nat) (Z : Zt) (x0 : Nat) (g : Mem) : Option (Int64 × Mem) := f_L_look_l6 n Z n x0 (347 : Int64) (0 : Int32) g
theorem mq_L_look : Mq yL_look cL_look 5 (some .long) 1 := ⟨tw_2371, tw_409, ⟨by decide +kernel, by decide +kernel, by decide +kernel⟩, by decide⟩
theorem mi_L_look : Cond.static yL_look ∈ TB := tw_2370
set_option maxHeartbeats 4000000 in
set_option maxRecDepth 100000 in
theorem vm_L_look {n : Nat} {Z : Zt} {x0 : Nat} {g : Mem} {rr : Int64} {gg : Mem} (h : f_L_look n Z x0 g = some (rr, gg)) : VM yL_look cL_look 5 (some .long) 5 [va_rf (some x0)] Z g (some (.long rr)) gg := by
  unfold f_L_look at h
  refine VM.of (by decide +kernel) (Nat.le_of_ble_eq_true rfl) (fun x hM => ?_)
  have hM : Cm x cL_look RL 5 (some .long) 5 Z (some (.long rr)) gg := hM
  show V x Z 0 0 0 [(0, va_rf (some x0))] [] g
  refine V_ldc2 (v := 347) hM.c tw_0 dL_look_0 ?_
  refine V_lstore_n (i := 1) (L' := [(1, .long (347 : Int64)), (0, va_rf (some x0))]) hM.c dL_look_3 rfl (by decide) rfl ?_
  refine V_iconst (v := 0) hM.c dL_look_4 (by decide) ?_
  refine V_istore_n (i := 3) (L' := [(3, .int (0 : Int32)), (1, .long (347 : Int64)), (0, va_rf (some x0))]) hM.c dL_look_5 rfl (by decide) rfl ?_
  refine V_sub [2, 1, 0] rfl ?_
  exact vl_L_look_l6 hM  _ _ _ _ _ h
def f_L_holds_l156 (n : Nat) (Z : Zt) (κ109 : Nat → Int32 → Int32 → Int32 → Int32 → Int32 → Mem → Option (Int32 × Mem)) (x0 : Nat) (x1 : Int32) (x2 : Int32) (x3 : Int32) (x5 : Int32) (x6 : Int32) (g : Mem) : Option (Int32 × Mem) := if x3 ≤ x6 then (κ109 x0 x1 x2 x3 (0 : Int32) (x5 + 1) g) else (bnd (f_X10_answerValue n Z x0 x5 x6 g) (fun r64 g65 => bnd (f_X10_answerValue n Z x0 (x5 - (1 : Int32)) x6 g65) (fun r67 g68 => if r64 ≤ r67 then (κ109 x0 x1 x2 x3 (0 : Int32) (x5 + 1) g68) else (κ109 x0 x1 x2 x3 (1 : Int32) (x5 + 1) g68))))
set_option maxHeartbeats 4000000 in
set_option maxRecDepth 100000 in
theorem vl_L_holds_l156 {x : Cq} {n : Nat} {Z : Zt} {κ109 : Nat → Int32 → Int32 → Int32 → Int32 → Int32 → Mem → Option (Int32 × Mem)} {x0 : Nat} {x1 : Int32} {x2 : Int32} {x3 : Int32} {x5 : Int32} {x6 : Int32} {g : Mem} {rr : Int32} {gg : Mem} (hM : Cm x cL_holds RL 13 (some .boolean) 44 Z (some (.int rr)) gg) (hκ109 : ∀ (y0 : Nat) (y1 : Int32) (y2 : Int32) (y3 : Int32) (y4 : Int32) (y5 : Int32) (y : Mem), κ109 y0 y1 y2 y3 y4 y5 y = some (rr, gg) → V x Z 0 0 109 [(0, va_rf (some y0)), (1, .int y1), (2, .int y2), (3, .int y3), (4, .int y4), (5, .int y5)] [] y) (h : f_L_holds_l156 n Z κ109 x0 x1 x2 x3 x5 x6 g = some (rr, gg)) : V x Z 0 0 156 [(0, va_rf (some x0)), (1, .int x1), (2, .int x2), (3, .int x3), (5, .int x5), (6, .int x6)] [] g := by
  unfold f_L_holds_l156 at h
  refine V_iload hM.c 5 dL_holds_156 rfl ?_
  refine V_iload_n hM.c 3 dL_holds_158 rfl rfl ?_
  refine V_icmp_ge hM.c 187 dL_holds_159 (by decide) (fun c63 => ?_) (fun c63 => ?_)
  · replace h := ite_p h c63
    refine V_iconst (v := 0) hM.c dL_holds_187 (by decide) ?_
    refine V_istore (L' := [(4, .int (0 : Int32)), (0, va_rf (some x0)), (1, .int x1), (2, .int x2), (3, .int x3), (5, .int x5), (6, .int x6)]) hM.c dL_holds_188 (by decide) rfl ?_
    refine V_iinc (v := (x5 + 1)) (L' := [(5, .int (x5 + 1)), (4, .int (0 : Int32)), (0, va_rf (some x0)), (1, .int x1), (2, .int x2), (3, .int x3), (6, .int x6)]) hM.c 5 dL_holds_190 rfl rfl (by decide) rfl ?_
    refine V_goto hM.c 109 dL_holds_193 (by decide) ?_
    refine V_sub [2, 3, 4, 5, 1, 0] rfl ?_
    exact hκ109 _ _ _ _ _ _ _ h
  · replace h := ite_n h c63
    refine V_aload_n hM.c 0 dL_holds_162 rfl rfl ?_
    refine V_iload hM.c 4 dL_holds_163 rfl ?_
    refine V_iload hM.c 5 dL_holds_165 rfl ?_
    replace h := bnd_some h
    obtain ⟨r64, g65, e66, h⟩ := h
    refine V_callV (As := [.int x5, .int x6]) (c := 8) (T := TX10) (N := 10) hM.c hM.a mq_X10_answerValue mi_X10_answerValue tw_122 (hM.d (by decide)) hM.z rfl (by omega) (zc_X10_answerValue e66) (vm_X10_answerValue e66) rfl (Nat.le_of_ble_eq_true rfl) dL_holds_167 ?_
    refine V_aload_n hM.c 0 dL_holds_170 rfl rfl ?_
    refine V_iload hM.c 4 dL_holds_171 rfl ?_
    refine V_iconst (v := 1) hM.c dL_holds_173 (by decide) ?_
    refine V_isub hM.c dL_holds_174 ?_
    refine V_iload hM.c 5 dL_holds_175 rfl ?_
    replace h := bnd_some h
    obtain ⟨r67, g68, e69, h⟩ := h
    refine V_callV (As := [.int (x5 - (1 : Int32)), .int x6]) (c := 8) (T := TX10) (N := 10) hM.c hM.a mq_X10_answerValue mi_X10_answerValue tw_122 (hM.d (by decide)) hM.z rfl (by omega) (zc_X10_answerValue e69) (vm_X10_answerValue e69) rfl (Nat.le_of_ble_eq_true rfl) dL_holds_177 ?_
    refine V_icmp_le hM.c 187 dL_holds_180 (by decide) (fun c70 => ?_) (fun c70 => ?_)
    · replace h := ite_p h c70
      refine V_iconst (v := 0) hM.c dL_holds_187 (by decide) ?_
      refine V_istore (L' := [(4, .int (0 : Int32)), (0, va_rf (some x0)), (1, .int x1), (2, .int x2), (3, .int x3), (5, .int x5), (6, .int x6)]) hM.c dL_holds_188 (by decide) rfl ?_
      refine V_iinc (v := (x5 + 1)) (L' := [(5, .int (x5 + 1)), (4, .int (0 : Int32)), (0, va_rf (some x0)), (1, .int x1), (2, .int x2), (3, .int x3), (6, .int x6)]) hM.c 5 dL_holds_190 rfl rfl (by decide) rfl ?_
      refine V_goto hM.c 109 dL_holds_193 (by decide) ?_
      refine V_sub [2, 3, 4, 5, 1, 0] rfl ?_
      exact hκ109 _ _ _ _ _ _ _ h
    · replace h := ite_n h c70
      refine V_iconst (v := 1) hM.c dL_holds_183 (by decide) ?_
      refine V_goto hM.c 188 dL_holds_184 (by decide) ?_
      refine V_istore (L' := [(4, .int (1 : Int32)), (0, va_rf (some x0)), (1, .int x1), (2, .int x2), (3, .int x3), (5, .int x5), (6, .int x6)]) hM.c dL_holds_188 (by decide) rfl ?_
      refine V_iinc (v := (x5 + 1)) (L' := [(5, .int (x5 + 1)), (4, .int (1 : Int32)), (0, va_rf (some x0)), (1, .int x1), (2, .int x2), (3, .int x3), (6, .int x6)]) hM.c 5 dL_holds_190 rfl rfl (by decide) rfl ?_
      refine V_goto hM.c 109 dL_holds_193 (by decide) ?_
      refine V_sub [2, 3, 4, 5, 1, 0] rfl ?_
      exact hκ109 _ _ _ _ _ _ _ h
def f_L_holds_l123 (n : Nat) (Z : Zt) (κ109 : Nat → Int32 → Int32 → Int32 → Int32 → Int32 → Mem → Option (Int32 × Mem)) : Nat → Nat → Int32 → Int32 → Int32 → Int32 → Int32 → Mem → Option (Int32 × Mem)
  | 0, _, _, _, _, _, _, _ => none
  | fu + 1, x0, x1, x2, x3, x5, x6, g => if x3 ≤ x6 then (f_L_holds_l156 n Z κ109 x0 x1 x2 x3 x5 x6 g) else (bnd (f_X10_answerValue n Z x0 x5 x6 g) (fun r30 g31 => bnd (f_X10_answerValue n Z x0 (x5 - (1 : Int32)) x6 g31) (fun r33 g34 => if r30 = r33 then (f_L_holds_l123 n Z κ109 fu x0 x1 x2 x3 x5 (x6 + 1) g34) else (f_L_holds_l156 n Z κ109 x0 x1 x2 x3 x5 x6 g34))))
set_option maxHeartbeats 4000000 in
set_option maxRecDepth 100000 in
theorem vl_L_holds_l123 {x : Cq} {n : Nat} {Z : Zt} {κ109 : Nat → Int32 → Int32 → Int32 → Int32 → Int32 → Mem → Option (Int32 × Mem)} {rr : Int32} {gg : Mem} (hM : Cm x cL_holds RL 13 (some .boolean) 44 Z (some (.int rr)) gg) (hκ109 : ∀ (y0 : Nat) (y1 : Int32) (y2 : Int32) (y3 : Int32) (y4 : Int32) (y5 : Int32) (y : Mem), κ109 y0 y1 y2 y3 y4 y5 y = some (rr, gg) → V x Z 0 0 109 [(0, va_rf (some y0)), (1, .int y1), (2, .int y2), (3, .int y3), (4, .int y4), (5, .int y5)] [] y) : ∀ (fu : Nat) (x0 : Nat) (x1 : Int32) (x2 : Int32) (x3 : Int32) (x5 : Int32) (x6 : Int32) (g : Mem), f_L_holds_l123 n Z κ109 fu x0 x1 x2 x3 x5 x6 g = some (rr, gg) → V x Z 0 0 123 [(0, va_rf (some x0)), (1, .int x1), (2, .int x2), (3, .int x3), (5, .int x5), (6, .int x6)] [] g := by
  intro fu
  induction fu with
  | zero => intro x0 x1 x2 x3 x5 x6 g h; cases h
  | succ fu ih =>
    intro x0 x1 x2 x3 x5 x6 g h
    unfold f_L_holds_l123 at h
    refine V_iload hM.c 5 dL_holds_123 rfl ?_
    refine V_iload_n hM.c 3 dL_holds_125 rfl rfl ?_
    refine V_icmp_ge hM.c 156 dL_holds_126 (by decide) (fun c29 => ?_) (fun c29 => ?_)
    · replace h := ite_p h c29
      refine V_sub [0, 1, 2, 3, 4, 5] rfl ?_
      exact vl_L_holds_l156 hM hκ109 h
    · replace h := ite_n h c29
      refine V_aload_n hM.c 0 dL_holds_129 rfl rfl ?_
      refine V_iload hM.c 4 dL_holds_130 rfl ?_
      refine V_iload hM.c 5 dL_holds_132 rfl ?_
      replace h := bnd_some h
      obtain ⟨r30, g31, e32, h⟩ := h
      refine V_callV (As := [.int x5, .int x6]) (c := 8) (T := TX10) (N := 10) hM.c hM.a mq_X10_answerValue mi_X10_answerValue tw_122 (hM.d (by decide)) hM.z rfl (by omega) (zc_X10_answerValue e32) (vm_X10_answerValue e32) rfl (Nat.le_of_ble_eq_true rfl) dL_holds_134 ?_
      refine V_aload_n hM.c 0 dL_holds_137 rfl rfl ?_
      refine V_iload hM.c 4 dL_holds_138 rfl ?_
      refine V_iconst (v := 1) hM.c dL_holds_140 (by decide) ?_
      refine V_isub hM.c dL_holds_141 ?_
      refine V_iload hM.c 5 dL_holds_142 rfl ?_
      replace h := bnd_some h
      obtain ⟨r33, g34, e35, h⟩ := h
      refine V_callV (As := [.int (x5 - (1 : Int32)), .int x6]) (c := 8) (T := TX10) (N := 10) hM.c hM.a mq_X10_answerValue mi_X10_answerValue tw_122 (hM.d (by decide)) hM.z rfl (by omega) (zc_X10_answerValue e35) (vm_X10_answerValue e35) rfl (Nat.le_of_ble_eq_true rfl) dL_holds_144 ?_
      refine V_icmp_ne hM.c 156 dL_holds_147 (by decide) (fun c36 => ?_) (fun c36 => ?_)
      · replace h := ite_n h c36
        refine V_sub [0, 1, 2, 3, 4, 5] rfl ?_
        exact vl_L_holds_l156 hM hκ109 h
      · replace h := ite_p h c36
        refine V_iinc (v := (x6 + 1)) (L' := [(6, .int (x6 + 1)), (0, va_rf (some x0)), (1, .int x1), (2, .int x2), (3, .int x3), (5, .int x5)]) hM.c 5 dL_holds_150 rfl rfl (by decide) rfl ?_
        refine V_goto hM.c 123 dL_holds_153 (by decide) ?_
        refine V_sub [1, 2, 3, 4, 5, 0] rfl ?_
        exact ih _ _ _ _ _ _ _ h
def f_L_holds_l297 (n : Nat) (Z : Zt) (κ240 : Nat → Int32 → Int32 → Int32 → Int32 → Int32 → Mem → Option (Int32 × Mem)) (κ261 : Nat → Int32 → Int32 → Int32 → Int32 → Int32 → Int32 → Int32 → Int32 → Mem → Option (Int32 × Mem)) (x0 : Nat) (x4 : Int32) (x5 : Int32) (x6 : Int32) (x7 : Int32) (x8 : Int32) (x9 : Int32) (x11 : Int32) (x12 : Int32) (s0 : Int32) (s1 : Int32) (g : Mem) : Option (Int32 × Mem) := if x4 = 0 then (κ261 x0 (0 : Int32) x5 x6 x7 x8 x9 (s1 ||| s0) (x11 + 1) g) else (if x12 < 0 then (κ261 x0 (0 : Int32) x5 x6 x7 x8 x9 (s1 ||| s0) (x11 + 1) g) else (if x6 < (2 : Int32) then (κ261 x0 (1 : Int32) x5 x6 x7 x8 x9 (s1 ||| s0) (x11 + 1) g) else (if (2 : Int32) ≤ x12 then (κ261 x0 (0 : Int32) x5 x6 x7 x8 x9 (s1 ||| s0) (x11 + 1) g) else (κ261 x0 (1 : Int32) x5 x6 x7 x8 x9 (s1 ||| s0) (x11 + 1) g))))
set_option maxHeartbeats 4000000 in
set_option maxRecDepth 100000 in
theorem vl_L_holds_l297 {x : Cq} {n : Nat} {Z : Zt} {κ240 : Nat → Int32 → Int32 → Int32 → Int32 → Int32 → Mem → Option (Int32 × Mem)} {κ261 : Nat → Int32 → Int32 → Int32 → Int32 → Int32 → Int32 → Int32 → Int32 → Mem → Option (Int32 × Mem)} {x0 : Nat} {x4 : Int32} {x5 : Int32} {x6 : Int32} {x7 : Int32} {x8 : Int32} {x9 : Int32} {x11 : Int32} {x12 : Int32} {s0 : Int32} {s1 : Int32} {g : Mem} {rr : Int32} {gg : Mem} (hM : Cm x cL_holds RL 13 (some .boolean) 44 Z (some (.int rr)) gg) (hκ240 : ∀ (y0 : Nat) (y4 : Int32) (y5 : Int32) (y6 : Int32) (y7 : Int32) (y9 : Int32) (y : Mem), κ240 y0 y4 y5 y6 y7 y9 y = some (rr, gg) → V x Z 0 0 240 [(0, va_rf (some y0)), (4, .int y4), (5, .int y5), (6, .int y6), (7, .int y7), (9, .int y9)] [] y) (hκ261 : ∀ (y0 : Nat) (y4 : Int32) (y5 : Int32) (y6 : Int32) (y7 : Int32) (y8 : Int32) (y9 : Int32) (y10 : Int32) (y11 : Int32) (y : Mem), κ261 y0 y4 y5 y6 y7 y8 y9 y10 y11 y = some (rr, gg) → V x Z 0 0 261 [(0, va_rf (some y0)), (4, .int y4), (5, .int y5), (6, .int y6), (7, .int y7), (8, .int y8), (9, .int y9), (10, .int y10), (11, .int y11)] [] y) (h : f_L_holds_l297 n Z κ240 κ261 x0 x4 x5 x6 x7 x8 x9 x11 x12 s0 s1 g = some (rr, gg)) : V x Z 0 0 297 [(0, va_rf (some x0)), (4, .int x4), (5, .int x5), (6, .int x6), (7, .int x7), (8, .int x8), (9, .int x9), (11, .int x11), (12, .int x12)] [.int s0, .int s1] g := by
  unfold f_L_holds_l297 at h
  refine V_ior hM.c dL_holds_297 ?_
  refine V_istore (L' := [(10, .int (s1 ||| s0)), (0, va_rf (some x0)), (4, .int x4), (5, .int x5), (6, .int x6), (7, .int x7), (8, .int x8), (9, .int x9), (11, .int x11), (12, .int x12)]) hM.c dL_holds_298 (by decide) rfl ?_
  refine V_iload hM.c 2 dL_holds_300 rfl ?_
  refine V_if_eq hM.c 326 dL_holds_302 (by decide) (fun c149 => ?_) (fun c149 => ?_)
  · replace h := ite_p h c149
    refine V_iconst (v := 0) hM.c dL_holds_326 (by decide) ?_
    refine V_istore (L' := [(4, .int (0 : Int32)), (10, .int (s1 ||| s0)), (0, va_rf (some x0)), (5, .int x5), (6, .int x6), (7, .int x7), (8, .int x8), (9, .int x9), (11, .int x11), (12, .int x12)]) hM.c dL_holds_327 (by decide) rfl ?_
    refine V_iinc (v := (x11 + 1)) (L' := [(11, .int (x11 + 1)), (4, .int (0 : Int32)), (10, .int (s1 ||| s0)), (0, va_rf (some x0)), (5, .int x5), (6, .int x6), (7, .int x7), (8, .int x8), (9, .int x9), (12, .int x12)]) hM.c 8 dL_holds_329 rfl rfl (by decide) rfl ?_
    refine V_goto hM.c 261 dL_holds_332 (by decide) ?_
    refine V_sub [3, 1, 4, 5, 6, 7, 8, 2, 0] rfl ?_
    exact hκ261 _ _ _ _ _ _ _ _ _ _ h
  · replace h := ite_n h c149
    refine V_iload hM.c 9 dL_holds_305 rfl ?_
    refine V_if_lt hM.c 326 dL_holds_307 (by decide) (fun c150 => ?_) (fun c150 => ?_)
    · replace h := ite_p h c150
      refine V_iconst (v := 0) hM.c dL_holds_326 (by decide) ?_
      refine V_istore (L' := [(4, .int (0 : Int32)), (10, .int (s1 ||| s0)), (0, va_rf (some x0)), (5, .int x5), (6, .int x6), (7, .int x7), (8, .int x8), (9, .int x9), (11, .int x11), (12, .int x12)]) hM.c dL_holds_327 (by decide) rfl ?_
      refine V_iinc (v := (x11 + 1)) (L' := [(11, .int (x11 + 1)), (4, .int (0 : Int32)), (10, .int (s1 ||| s0)), (0, va_rf (some x0)), (5, .int x5), (6, .int x6), (7, .int x7), (8, .int x8), (9, .int x9), (12, .int x12)]) hM.c 8 dL_holds_329 rfl rfl (by decide) rfl ?_
      refine V_goto hM.c 261 dL_holds_332 (by decide) ?_
      refine V_sub [3, 1, 4, 5, 6, 7, 8, 2, 0] rfl ?_
      exact hκ261 _ _ _ _ _ _ _ _ _ _ h
    · replace h := ite_n h c150
      refine V_iload hM.c 4 dL_holds_310 rfl ?_
      refine V_iconst (v := 2) hM.c dL_holds_312 (by decide) ?_
      refine V_icmp_lt hM.c 322 dL_holds_313 (by decide) (fun c151 => ?_) (fun c151 => ?_)
      · replace h := ite_p h c151
        refine V_iconst (v := 1) hM.c dL_holds_322 (by decide) ?_
        refine V_goto hM.c 327 dL_holds_323 (by decide) ?_
        refine V_istore (L' := [(4, .int (1 : Int32)), (10, .int (s1 ||| s0)), (0, va_rf (some x0)), (5, .int x5), (6, .int x6), (7, .int x7), (8, .int x8), (9, .int x9), (11, .int x11), (12, .int x12)]) hM.c dL_holds_327 (by decide) rfl ?_
        refine V_iinc (v := (x11 + 1)) (L' := [(11, .int (x11 + 1)), (4, .int (1 : Int32)), (10, .int (s1 ||| s0)), (0, va_rf (some x0)), (5, .int x5), (6, .int x6), (7, .int x7), (8, .int x8), (9, .int x9), (12, .int x12)]) hM.c 8 dL_holds_329 rfl rfl (by decide) rfl ?_
        refine V_goto hM.c 261 dL_holds_332 (by decide) ?_
        refine V_sub [3, 1, 4, 5, 6, 7, 8, 2, 0] rfl ?_
        exact hκ261 _ _ _ _ _ _ _ _ _ _ h
      · replace h := ite_n h c151
        refine V_iload hM.c 9 dL_holds_316 rfl ?_
        refine V_iconst (v := 2) hM.c dL_holds_318 (by decide) ?_
        refine V_icmp_ge hM.c 326 dL_holds_319 (by decide) (fun c152 => ?_) (fun c152 => ?_)
        · replace h := ite_p h c152
          refine V_iconst (v := 0) hM.c dL_holds_326 (by decide) ?_
          refine V_istore (L' := [(4, .int (0 : Int32)), (10, .int (s1 ||| s0)), (0, va_rf (some x0)), (5, .int x5), (6, .int x6), (7, .int x7), (8, .int x8), (9, .int x9), (11, .int x11), (12, .int x12)]) hM.c dL_holds_327 (by decide) rfl ?_
          refine V_iinc (v := (x11 + 1)) (L' := [(11, .int (x11 + 1)), (4, .int (0 : Int32)), (10, .int (s1 ||| s0)), (0, va_rf (some x0)), (5, .int x5), (6, .int x6), (7, .int x7), (8, .int x8), (9, .int x9), (12, .int x12)]) hM.c 8 dL_holds_329 rfl rfl (by decide) rfl ?_
          refine V_goto hM.c 261 dL_holds_332 (by decide) ?_
          refine V_sub [3, 1, 4, 5, 6, 7, 8, 2, 0] rfl ?_
          exact hκ261 _ _ _ _ _ _ _ _ _ _ h
        · replace h := ite_n h c152
          refine V_iconst (v := 1) hM.c dL_holds_322 (by decide) ?_
          refine V_goto hM.c 327 dL_holds_323 (by decide) ?_
          refine V_istore (L' := [(4, .int (1 : Int32)), (10, .int (s1 ||| s0)), (0, va_rf (some x0)), (5, .int x5), (6, .int x6), (7, .int x7), (8, .int x8), (9, .int x9), (11, .int x11), (12, .int x12)]) hM.c dL_holds_327 (by decide) rfl ?_
          refine V_iinc (v := (x11 + 1)) (L' := [(11, .int (x11 + 1)), (4, .int (1 : Int32)), (10, .int (s1 ||| s0)), (0, va_rf (some x0)), (5, .int x5), (6, .int x6), (7, .int x7), (8, .int x8), (9, .int x9), (12, .int x12)]) hM.c 8 dL_holds_329 rfl rfl (by decide) rfl ?_
          refine V_goto hM.c 261 dL_holds_332 (by decide) ?_
          refine V_sub [3, 1, 4, 5, 6, 7, 8, 2, 0] rfl ?_
          exact hκ261 _ _ _ _ _ _ _ _ _ _ h
def f_L_holds_l447 (n : Nat) (Z : Zt) (κ240 : Nat → Int32 → Int32 → Int32 → Int32 → Int32 → Mem → Option (Int32 × Mem)) (x0 : Nat) (x5 : Int32) (x6 : Int32) (x7 : Int32) (x9 : Int32) (g : Mem) : Option (Int32 × Mem) := bnd (f_X10_coefficient n Z x0 x5 x6 x9 g) (fun r174 g175 => if (lg_cmp r174 (1 : Int64)) < 0 then (κ240 x0 (0 : Int32) x5 x6 x7 (x9 + 1) g175) else (if x6 = 0 then (κ240 x0 (1 : Int32) x5 x6 x7 (x9 + 1) g175) else (if x6 = (2 : Int32) then (κ240 x0 (1 : Int32) x5 x6 x7 (x9 + 1) g175) else (bnd (f_X10_coefficient n Z x0 x5 x6 x9 g175) (fun r180 g181 => if (lg_cmp r180 (1 : Int64)) = 0 then (κ240 x0 (1 : Int32) x5 x6 x7 (x9 + 1) g181) else (κ240 x0 (0 : Int32) x5 x6 x7 (x9 + 1) g181))))))
set_option maxHeartbeats 4000000 in
set_option maxRecDepth 100000 in
theorem vl_L_holds_l447 {x : Cq} {n : Nat} {Z : Zt} {κ240 : Nat → Int32 → Int32 → Int32 → Int32 → Int32 → Mem → Option (Int32 × Mem)} {x0 : Nat} {x5 : Int32} {x6 : Int32} {x7 : Int32} {x9 : Int32} {g : Mem} {rr : Int32} {gg : Mem} (hM : Cm x cL_holds RL 13 (some .boolean) 44 Z (some (.int rr)) gg) (hκ240 : ∀ (y0 : Nat) (y4 : Int32) (y5 : Int32) (y6 : Int32) (y7 : Int32) (y9 : Int32) (y : Mem), κ240 y0 y4 y5 y6 y7 y9 y = some (rr, gg) → V x Z 0 0 240 [(0, va_rf (some y0)), (4, .int y4), (5, .int y5), (6, .int y6), (7, .int y7), (9, .int y9)] [] y) (h : f_L_holds_l447 n Z κ240 x0 x5 x6 x7 x9 g = some (rr, gg)) : V x Z 0 0 447 [(0, va_rf (some x0)), (5, .int x5), (6, .int x6), (7, .int x7), (9, .int x9)] [] g := by
  unfold f_L_holds_l447 at h
  refine V_aload_n hM.c 0 dL_holds_447 rfl rfl ?_
  refine V_iload hM.c 1 dL_holds_448 rfl ?_
  refine V_iload hM.c 2 dL_holds_450 rfl ?_
  refine V_iload hM.c 4 dL_holds_452 rfl ?_
  replace h := bnd_some h
  obtain ⟨r174, g175, e176, h⟩ := h
  refine V_callV (As := [.int x5, .int x6, .int x9]) (c := 8) (T := TX10) (N := 10) hM.c hM.a mq_X10_coefficient mi_X10_coefficient tw_418 (hM.d (by decide)) hM.z rfl (by omega) (zc_X10_coefficient e176) (vm_X10_coefficient e176) rfl (Nat.le_of_ble_eq_true rfl) dL_holds_454 ?_
  refine V_lconst (v := 1) hM.c dL_holds_457 (by decide) ?_
  refine V_lcmp hM.c dL_holds_458 ?_
  refine V_if_lt hM.c 492 dL_holds_459 (by decide) (fun c177 => ?_) (fun c177 => ?_)
  · replace h := ite_p h c177
    refine V_iconst (v := 0) hM.c dL_holds_492 (by decide) ?_
    refine V_istore (L' := [(4, .int (0 : Int32)), (0, va_rf (some x0)), (5, .int x5), (6, .int x6), (7, .int x7), (9, .int x9)]) hM.c dL_holds_493 (by decide) rfl ?_
    refine V_iinc (v := (x9 + 1)) (L' := [(9, .int (x9 + 1)), (4, .int (0 : Int32)), (0, va_rf (some x0)), (5, .int x5), (6, .int x6), (7, .int x7)]) hM.c 5 dL_holds_495 rfl rfl (by decide) rfl ?_
    refine V_goto hM.c 240 dL_holds_498 (by decide) ?_
    refine V_sub [2, 1, 3, 4, 5, 0] rfl ?_
    exact hκ240 _ _ _ _ _ _ _ h
  · replace h := ite_n h c177
    refine V_iload hM.c 2 dL_holds_462 rfl ?_
    refine V_if_eq hM.c 488 dL_holds_464 (by decide) (fun c178 => ?_) (fun c178 => ?_)
    · replace h := ite_p h c178
      refine V_iconst (v := 1) hM.c dL_holds_488 (by decide) ?_
      refine V_goto hM.c 493 dL_holds_489 (by decide) ?_
      refine V_istore (L' := [(4, .int (1 : Int32)), (0, va_rf (some x0)), (5, .int x5), (6, .int x6), (7, .int x7), (9, .int x9)]) hM.c dL_holds_493 (by decide) rfl ?_
      refine V_iinc (v := (x9 + 1)) (L' := [(9, .int (x9 + 1)), (4, .int (1 : Int32)), (0, va_rf (some x0)), (5, .int x5), (6, .int x6), (7, .int x7)]) hM.c 5 dL_holds_495 rfl rfl (by decide) rfl ?_
      refine V_goto hM.c 240 dL_holds_498 (by decide) ?_
      refine V_sub [2, 1, 3, 4, 5, 0] rfl ?_
      exact hκ240 _ _ _ _ _ _ _ h
    · replace h := ite_n h c178
      refine V_iload hM.c 2 dL_holds_467 rfl ?_
      refine V_iconst (v := 2) hM.c dL_holds_469 (by decide) ?_
      refine V_icmp_eq hM.c 488 dL_holds_470 (by decide) (fun c179 => ?_) (fun c179 => ?_)
      · replace h := ite_p h c179
        refine V_iconst (v := 1) hM.c dL_holds_488 (by decide) ?_
        refine V_goto hM.c 493 dL_holds_489 (by decide) ?_
        refine V_istore (L' := [(4, .int (1 : Int32)), (0, va_rf (some x0)), (5, .int x5), (6, .int x6), (7, .int x7), (9, .int x9)]) hM.c dL_holds_493 (by decide) rfl ?_
        refine V_iinc (v := (x9 + 1)) (L' := [(9, .int (x9 + 1)), (4, .int (1 : Int32)), (0, va_rf (some x0)), (5, .int x5), (6, .int x6), (7, .int x7)]) hM.c 5 dL_holds_495 rfl rfl (by decide) rfl ?_
        refine V_goto hM.c 240 dL_holds_498 (by decide) ?_
        refine V_sub [2, 1, 3, 4, 5, 0] rfl ?_
        exact hκ240 _ _ _ _ _ _ _ h
      · replace h := ite_n h c179
        refine V_aload_n hM.c 0 dL_holds_473 rfl rfl ?_
        refine V_iload hM.c 1 dL_holds_474 rfl ?_
        refine V_iload hM.c 2 dL_holds_476 rfl ?_
        refine V_iload hM.c 4 dL_holds_478 rfl ?_
        replace h := bnd_some h
        obtain ⟨r180, g181, e182, h⟩ := h
        refine V_callV (As := [.int x5, .int x6, .int x9]) (c := 8) (T := TX10) (N := 10) hM.c hM.a mq_X10_coefficient mi_X10_coefficient tw_418 (hM.d (by decide)) hM.z rfl (by omega) (zc_X10_coefficient e182) (vm_X10_coefficient e182) rfl (Nat.le_of_ble_eq_true rfl) dL_holds_480 ?_
        refine V_lconst (v := 1) hM.c dL_holds_483 (by decide) ?_
        refine V_lcmp hM.c dL_holds_484 ?_
        refine V_if_ne hM.c 492 dL_holds_485 (by decide) (fun c183 => ?_) (fun c183 => ?_)
        · replace h := ite_n h c183
          refine V_iconst (v := 0) hM.c dL_holds_492 (by decide) ?_
          refine V_istore (L' := [(4, .int (0 : Int32)), (0, va_rf (some x0)), (5, .int x5), (6, .int x6), (7, .int x7), (9, .int x9)]) hM.c dL_holds_493 (by decide) rfl ?_
          refine V_iinc (v := (x9 + 1)) (L' := [(9, .int (x9 + 1)), (4, .int (0 : Int32)), (0, va_rf (some x0)), (5, .int x5), (6, .int x6), (7, .int x7)]) hM.c 5 dL_holds_495 rfl rfl (by decide) rfl ?_
          refine V_goto hM.c 240 dL_holds_498 (by decide) ?_
          refine V_sub [2, 1, 3, 4, 5, 0] rfl ?_
          exact hκ240 _ _ _ _ _ _ _ h
        · replace h := ite_p h c183
          refine V_iconst (v := 1) hM.c dL_holds_488 (by decide) ?_
          refine V_goto hM.c 493 dL_holds_489 (by decide) ?_
          refine V_istore (L' := [(4, .int (1 : Int32)), (0, va_rf (some x0)), (5, .int x5), (6, .int x6), (7, .int x7), (9, .int x9)]) hM.c dL_holds_493 (by decide) rfl ?_
          refine V_iinc (v := (x9 + 1)) (L' := [(9, .int (x9 + 1)), (4, .int (1 : Int32)), (0, va_rf (some x0)), (5, .int x5), (6, .int x6), (7, .int x7)]) hM.c 5 dL_holds_495 rfl rfl (by decide) rfl ?_
          refine V_goto hM.c 240 dL_holds_498 (by decide) ?_
          refine V_sub [2, 1, 3, 4, 5, 0] rfl ?_
          exact hκ240 _ _ _ _ _ _ _ h
def f_L_holds_l382 (n : Nat) (Z : Zt) (κ240 : Nat → Int32 → Int32 → Int32 → Int32 → Int32 → Mem → Option (Int32 × Mem)) (x0 : Nat) (x4 : Int32) (x5 : Int32) (x6 : Int32) (x7 : Int32) (x8 : Int32) (x9 : Int32) (x10 : Int32) (g : Mem) : Option (Int32 × Mem) := if x4 = 0 then (κ240 x0 (0 : Int32) x5 x6 x7 (x9 + 1) g) else (if x10 ≤ 0 then (κ240 x0 (0 : Int32) x5 x6 x7 (x9 + 1) g) else (bnd (f_X10_lineage n Z x0 x5 g) (fun r161 g162 => if (x10 &&& (r161 ^^^ (-1 : Int32))) = 0 then (if x9 = 0 then (f_L_holds_l447 n Z κ240 x0 x5 x6 x7 x9 g162) else (if (16 : Int32) ≤ x8 then (κ240 x0 (0 : Int32) x5 x6 x7 (x9 + 1) g162) else (bnd (f_X10_exponent n Z x0 x5 x6 x9 x8 g162) (fun r167 g168 => bnd (f_X10_exponent n Z x0 x5 x6 (x9 - (1 : Int32)) x8 g168) (fun r170 g171 => if r170 ≤ r167 then (κ240 x0 (0 : Int32) x5 x6 x7 (x9 + 1) g171) else (f_L_holds_l447 n Z κ240 x0 x5 x6 x7 x9 g171)))))) else (κ240 x0 (0 : Int32) x5 x6 x7 (x9 + 1) g162))))
set_option maxHeartbeats 4000000 in
set_option maxRecDepth 100000 in
theorem vl_L_holds_l382 {x : Cq} {n : Nat} {Z : Zt} {κ240 : Nat → Int32 → Int32 → Int32 → Int32 → Int32 → Mem → Option (Int32 × Mem)} {x0 : Nat} {x4 : Int32} {x5 : Int32} {x6 : Int32} {x7 : Int32} {x8 : Int32} {x9 : Int32} {x10 : Int32} {g : Mem} {rr : Int32} {gg : Mem} (hM : Cm x cL_holds RL 13 (some .boolean) 44 Z (some (.int rr)) gg) (hκ240 : ∀ (y0 : Nat) (y4 : Int32) (y5 : Int32) (y6 : Int32) (y7 : Int32) (y9 : Int32) (y : Mem), κ240 y0 y4 y5 y6 y7 y9 y = some (rr, gg) → V x Z 0 0 240 [(0, va_rf (some y0)), (4, .int y4), (5, .int y5), (6, .int y6), (7, .int y7), (9, .int y9)] [] y) (h : f_L_holds_l382 n Z κ240 x0 x4 x5 x6 x7 x8 x9 x10 g = some (rr, gg)) : V x Z 0 0 382 [(0, va_rf (some x0)), (4, .int x4), (5, .int x5), (6, .int x6), (7, .int x7), (8, .int x8), (9, .int x9), (10, .int x10)] [] g := by
  unfold f_L_holds_l382 at h
  refine V_iload hM.c 1 dL_holds_382 rfl ?_
  refine V_if_eq hM.c 492 dL_holds_384 (by decide) (fun c159 => ?_) (fun c159 => ?_)
  · replace h := ite_p h c159
    refine V_iconst (v := 0) hM.c dL_holds_492 (by decide) ?_
    refine V_istore (L' := [(4, .int (0 : Int32)), (0, va_rf (some x0)), (5, .int x5), (6, .int x6), (7, .int x7), (8, .int x8), (9, .int x9), (10, .int x10)]) hM.c dL_holds_493 (by decide) rfl ?_
    refine V_iinc (v := (x9 + 1)) (L' := [(9, .int (x9 + 1)), (4, .int (0 : Int32)), (0, va_rf (some x0)), (5, .int x5), (6, .int x6), (7, .int x7), (8, .int x8), (10, .int x10)]) hM.c 6 dL_holds_495 rfl rfl (by decide) rfl ?_
    refine V_goto hM.c 240 dL_holds_498 (by decide) ?_
    refine V_sub [2, 1, 3, 4, 5, 0] rfl ?_
    exact hκ240 _ _ _ _ _ _ _ h
  · replace h := ite_n h c159
    refine V_iload hM.c 7 dL_holds_387 rfl ?_
    refine V_if_le hM.c 492 dL_holds_389 (by decide) (fun c160 => ?_) (fun c160 => ?_)
    · replace h := ite_p h c160
      refine V_iconst (v := 0) hM.c dL_holds_492 (by decide) ?_
      refine V_istore (L' := [(4, .int (0 : Int32)), (0, va_rf (some x0)), (5, .int x5), (6, .int x6), (7, .int x7), (8, .int x8), (9, .int x9), (10, .int x10)]) hM.c dL_holds_493 (by decide) rfl ?_
      refine V_iinc (v := (x9 + 1)) (L' := [(9, .int (x9 + 1)), (4, .int (0 : Int32)), (0, va_rf (some x0)), (5, .int x5), (6, .int x6), (7, .int x7), (8, .int x8), (10, .int x10)]) hM.c 6 dL_holds_495 rfl rfl (by decide) rfl ?_
      refine V_goto hM.c 240 dL_holds_498 (by decide) ?_
      refine V_sub [2, 1, 3, 4, 5, 0] rfl ?_
      exact hκ240 _ _ _ _ _ _ _ h
    · replace h := ite_n h c160
      refine V_iload hM.c 7 dL_holds_392 rfl ?_
      refine V_aload_n hM.c 0 dL_holds_394 rfl rfl ?_
      refine V_iload hM.c 2 dL_holds_395 rfl ?_
      replace h := bnd_some h
      obtain ⟨r161, g162, e163, h⟩ := h
      refine V_callV (As := [.int x5]) (c := 8) (T := TX10) (N := 10) hM.c hM.a mq_X10_lineage mi_X10_lineage tw_136 (hM.d (by decide)) hM.z rfl (by omega) (zc_X10_lineage e163) (vm_X10_lineage e163) rfl (Nat.le_of_ble_eq_true rfl) dL_holds_397 ?_
      refine V_iconst (v := -1) hM.c dL_holds_400 (by decide) ?_
      refine V_ixor hM.c dL_holds_401 ?_
      refine V_iand hM.c dL_holds_402 ?_
      refine V_if_ne hM.c 492 dL_holds_403 (by decide) (fun c164 => ?_) (fun c164 => ?_)
      · replace h := ite_n h c164
        refine V_iconst (v := 0) hM.c dL_holds_492 (by decide) ?_
        refine V_istore (L' := [(4, .int (0 : Int32)), (0, va_rf (some x0)), (5, .int x5), (6, .int x6), (7, .int x7), (8, .int x8), (9, .int x9), (10, .int x10)]) hM.c dL_holds_493 (by decide) rfl ?_
        refine V_iinc (v := (x9 + 1)) (L' := [(9, .int (x9 + 1)), (4, .int (0 : Int32)), (0, va_rf (some x0)), (5, .int x5), (6, .int x6), (7, .int x7), (8, .int x8), (10, .int x10)]) hM.c 6 dL_holds_495 rfl rfl (by decide) rfl ?_
        refine V_goto hM.c 240 dL_holds_498 (by decide) ?_
        refine V_sub [2, 1, 3, 4, 5, 0] rfl ?_
        exact hκ240 _ _ _ _ _ _ _ h
      · replace h := ite_p h c164
        refine V_iload hM.c 6 dL_holds_406 rfl ?_
        refine V_if_eq hM.c 447 dL_holds_408 (by decide) (fun c165 => ?_) (fun c165 => ?_)
        · replace h := ite_p h c165
          refine V_sub [0, 2, 3, 4, 6] rfl ?_
          exact vl_L_holds_l447 hM hκ240 h
        · replace h := ite_n h c165
          refine V_iload hM.c 5 dL_holds_411 rfl ?_
          refine V_bipush (v := 16) hM.c dL_holds_413 (by decide) ?_
          refine V_icmp_ge hM.c 492 dL_holds_415 (by decide) (fun c166 => ?_) (fun c166 => ?_)
          · replace h := ite_p h c166
            refine V_iconst (v := 0) hM.c dL_holds_492 (by decide) ?_
            refine V_istore (L' := [(4, .int (0 : Int32)), (0, va_rf (some x0)), (5, .int x5), (6, .int x6), (7, .int x7), (8, .int x8), (9, .int x9), (10, .int x10)]) hM.c dL_holds_493 (by decide) rfl ?_
            refine V_iinc (v := (x9 + 1)) (L' := [(9, .int (x9 + 1)), (4, .int (0 : Int32)), (0, va_rf (some x0)), (5, .int x5), (6, .int x6), (7, .int x7), (8, .int x8), (10, .int x10)]) hM.c 6 dL_holds_495 rfl rfl (by decide) rfl ?_
            refine V_goto hM.c 240 dL_holds_498 (by decide) ?_
            refine V_sub [2, 1, 3, 4, 5, 0] rfl ?_
            exact hκ240 _ _ _ _ _ _ _ h
          · replace h := ite_n h c166
            refine V_aload_n hM.c 0 dL_holds_418 rfl rfl ?_
            refine V_iload hM.c 2 dL_holds_419 rfl ?_
            refine V_iload hM.c 3 dL_holds_421 rfl ?_
            refine V_iload hM.c 6 dL_holds_423 rfl ?_
            refine V_iload hM.c 5 dL_holds_425 rfl ?_
            replace h := bnd_some h
            obtain ⟨r167, g168, e169, h⟩ := h
            refine V_callV (As := [.int x5, .int x6, .int x9, .int x8]) (c := 8) (T := TX10) (N := 10) hM.c hM.a mq_X10_exponent mi_X10_exponent tw_412 (hM.d (by decide)) hM.z rfl (by omega) (zc_X10_exponent e169) (vm_X10_exponent e169) rfl (Nat.le_of_ble_eq_true rfl) dL_holds_427 ?_
            refine V_aload_n hM.c 0 dL_holds_430 rfl rfl ?_
            refine V_iload hM.c 2 dL_holds_431 rfl ?_
            refine V_iload hM.c 3 dL_holds_433 rfl ?_
            refine V_iload hM.c 6 dL_holds_435 rfl ?_
            refine V_iconst (v := 1) hM.c dL_holds_437 (by decide) ?_
            refine V_isub hM.c dL_holds_438 ?_
            refine V_iload hM.c 5 dL_holds_439 rfl ?_
            replace h := bnd_some h
            obtain ⟨r170, g171, e172, h⟩ := h
            refine V_callV (As := [.int x5, .int x6, .int (x9 - (1 : Int32)), .int x8]) (c := 8) (T := TX10) (N := 10) hM.c hM.a mq_X10_exponent mi_X10_exponent tw_412 (hM.d (by decide)) hM.z rfl (by omega) (zc_X10_exponent e172) (vm_X10_exponent e172) rfl (Nat.le_of_ble_eq_true rfl) dL_holds_441 ?_
            refine V_icmp_ge hM.c 492 dL_holds_444 (by decide) (fun c173 => ?_) (fun c173 => ?_)
            · replace h := ite_p h c173
              refine V_iconst (v := 0) hM.c dL_holds_492 (by decide) ?_
              refine V_istore (L' := [(4, .int (0 : Int32)), (0, va_rf (some x0)), (5, .int x5), (6, .int x6), (7, .int x7), (8, .int x8), (9, .int x9), (10, .int x10)]) hM.c dL_holds_493 (by decide) rfl ?_
              refine V_iinc (v := (x9 + 1)) (L' := [(9, .int (x9 + 1)), (4, .int (0 : Int32)), (0, va_rf (some x0)), (5, .int x5), (6, .int x6), (7, .int x7), (8, .int x8), (10, .int x10)]) hM.c 6 dL_holds_495 rfl rfl (by decide) rfl ?_
              refine V_goto hM.c 240 dL_holds_498 (by decide) ?_
              refine V_sub [2, 1, 3, 4, 5, 0] rfl ?_
              exact hκ240 _ _ _ _ _ _ _ h
            · replace h := ite_n h c173
              refine V_sub [0, 2, 3, 4, 6] rfl ?_
              exact vl_L_holds_l447 hM hκ240 h
def f_L_holds_l335 (n : Nat) (Z : Zt) (κ240 : Nat → Int32 → Int32 → Int32 → Int32 → Int32 → Mem → Option (Int32 × Mem)) : Nat → Nat → Int32 → Int32 → Int32 → Int32 → Int32 → Int32 → Int32 → Mem → Option (Int32 × Mem)
  | 0, _, _, _, _, _, _, _, _, _ => none
  | fu + 1, x0, x4, x5, x6, x7, x8, x9, x10, g => if x9 ≤ 0 then (f_L_holds_l382 n Z κ240 x0 x4 x5 x6 x7 x8 x9 x10 g) else (if (16 : Int32) ≤ x8 then (f_L_holds_l382 n Z κ240 x0 x4 x5 x6 x7 x8 x9 x10 g) else (bnd (f_X10_exponent n Z x0 x5 x6 x9 x8 g) (fun r142 g143 => bnd (f_X10_exponent n Z x0 x5 x6 (x9 - (1 : Int32)) x8 g143) (fun r145 g146 => if r142 = r145 then (f_L_holds_l335 n Z κ240 fu x0 x4 x5 x6 x7 (x8 + 1) x9 x10 g146) else (f_L_holds_l382 n Z κ240 x0 x4 x5 x6 x7 x8 x9 x10 g146)))))
set_option maxHeartbeats 4000000 in
set_option maxRecDepth 100000 in
theorem vl_L_holds_l335 {x : Cq} {n : Nat} {Z : Zt} {κ240 : Nat → Int32 → Int32 → Int32 → Int32 → Int32 → Mem → Option (Int32 × Mem)} {rr : Int32} {gg : Mem} (hM : Cm x cL_holds RL 13 (some .boolean) 44 Z (some (.int rr)) gg) (hκ240 : ∀ (y0 : Nat) (y4 : Int32) (y5 : Int32) (y6 : Int32) (y7 : Int32) (y9 : Int32) (y : Mem), κ240 y0 y4 y5 y6 y7 y9 y = some (rr, gg) → V x Z 0 0 240 [(0, va_rf (some y0)), (4, .int y4), (5, .int y5), (6, .int y6), (7, .int y7), (9, .int y9)] [] y) : ∀ (fu : Nat) (x0 : Nat) (x4 : Int32) (x5 : Int32) (x6 : Int32) (x7 : Int32) (x8 : Int32) (x9 : Int32) (x10 : Int32) (g : Mem), f_L_holds_l335 n Z κ240 fu x0 x4 x5 x6 x7 x8 x9 x10 g = some (rr, gg) → V x Z 0 0 335 [(0, va_rf (some x0)), (4, .int x4), (5, .int x5), (6, .int x6), (7, .int x7), (8, .int x8), (9, .int x9), (10, .int x10)] [] g := by
  intro fu
  induction fu with
  | zero => intro x0 x4 x5 x6 x7 x8 x9 x10 g h; cases h
  | succ fu ih =>
    intro x0 x4 x5 x6 x7 x8 x9 x10 g h
    unfold f_L_holds_l335 at h
    refine V_iload hM.c 6 dL_holds_335 rfl ?_
    refine V_if_le hM.c 382 dL_holds_337 (by decide) (fun c140 => ?_) (fun c140 => ?_)
    · replace h := ite_p h c140
      refine V_sub [0, 1, 2, 3, 4, 5, 6, 7] rfl ?_
      exact vl_L_holds_l382 hM hκ240 h
    · replace h := ite_n h c140
      refine V_iload hM.c 5 dL_holds_340 rfl ?_
      refine V_bipush (v := 16) hM.c dL_holds_342 (by decide) ?_
      refine V_icmp_ge hM.c 382 dL_holds_344 (by decide) (fun c141 => ?_) (fun c141 => ?_)
      · replace h := ite_p h c141
        refine V_sub [0, 1, 2, 3, 4, 5, 6, 7] rfl ?_
        exact vl_L_holds_l382 hM hκ240 h
      · replace h := ite_n h c141
        refine V_aload_n hM.c 0 dL_holds_347 rfl rfl ?_
        refine V_iload hM.c 2 dL_holds_348 rfl ?_
        refine V_iload hM.c 3 dL_holds_350 rfl ?_
        refine V_iload hM.c 6 dL_holds_352 rfl ?_
        refine V_iload hM.c 5 dL_holds_354 rfl ?_
        replace h := bnd_some h
        obtain ⟨r142, g143, e144, h⟩ := h
        refine V_callV (As := [.int x5, .int x6, .int x9, .int x8]) (c := 8) (T := TX10) (N := 10) hM.c hM.a mq_X10_exponent mi_X10_exponent tw_412 (hM.d (by decide)) hM.z rfl (by omega) (zc_X10_exponent e144) (vm_X10_exponent e144) rfl (Nat.le_of_ble_eq_true rfl) dL_holds_356 ?_
        refine V_aload_n hM.c 0 dL_holds_359 rfl rfl ?_
        refine V_iload hM.c 2 dL_holds_360 rfl ?_
        refine V_iload hM.c 3 dL_holds_362 rfl ?_
        refine V_iload hM.c 6 dL_holds_364 rfl ?_
        refine V_iconst (v := 1) hM.c dL_holds_366 (by decide) ?_
        refine V_isub hM.c dL_holds_367 ?_
        refine V_iload hM.c 5 dL_holds_368 rfl ?_
        replace h := bnd_some h
        obtain ⟨r145, g146, e147, h⟩ := h
        refine V_callV (As := [.int x5, .int x6, .int (x9 - (1 : Int32)), .int x8]) (c := 8) (T := TX10) (N := 10) hM.c hM.a mq_X10_exponent mi_X10_exponent tw_412 (hM.d (by decide)) hM.z rfl (by omega) (zc_X10_exponent e147) (vm_X10_exponent e147) rfl (Nat.le_of_ble_eq_true rfl) dL_holds_370 ?_
        refine V_icmp_ne hM.c 382 dL_holds_373 (by decide) (fun c148 => ?_) (fun c148 => ?_)
        · replace h := ite_n h c148
          refine V_sub [0, 1, 2, 3, 4, 5, 6, 7] rfl ?_
          exact vl_L_holds_l382 hM hκ240 h
        · replace h := ite_p h c148
          refine V_iinc (v := (x8 + 1)) (L' := [(8, .int (x8 + 1)), (0, va_rf (some x0)), (4, .int x4), (5, .int x5), (6, .int x6), (7, .int x7), (9, .int x9), (10, .int x10)]) hM.c 5 dL_holds_376 rfl rfl (by decide) rfl ?_
          refine V_goto hM.c 335 dL_holds_379 (by decide) ?_
          refine V_sub [1, 2, 3, 4, 5, 0, 6, 7] rfl ?_
          exact ih _ _ _ _ _ _ _ _ _ h
def f_L_holds_l261 (n : Nat) (Z : Zt) (κ240 : Nat → Int32 → Int32 → Int32 → Int32 → Int32 → Mem → Option (Int32 × Mem)) : Nat → Nat → Int32 → Int32 → Int32 → Int32 → Int32 → Int32 → Int32 → Int32 → Mem → Option (Int32 × Mem)
  | 0, _, _, _, _, _, _, _, _, _, _ => none
  | fu + 1, x0, x4, x5, x6, x7, x8, x9, x10, x11, g => if (16 : Int32) ≤ x11 then (f_L_holds_l335 n Z κ240 n x0 x4 x5 x6 x7 x8 x9 x10 g) else (bnd (f_X10_exponent n Z x0 x5 x6 x9 x11 g) (fun r76 g77 => if r76 ≤ 0 then (f_L_holds_l297 n Z κ240 (fun y0 y1 y2 y3 y4 y5 y6 y7 y8 y => f_L_holds_l261 n Z κ240 fu y0 y1 y2 y3 y4 y5 y6 y7 y8 y) x0 x4 x5 x6 x7 x8 x9 x11 r76 (0 : Int32) x10 g77) else (f_L_holds_l297 n Z κ240 (fun y0 y1 y2 y3 y4 y5 y6 y7 y8 y => f_L_holds_l261 n Z κ240 fu y0 y1 y2 y3 y4 y5 y6 y7 y8 y) x0 x4 x5 x6 x7 x8 x9 x11 r76 ((1 : Int32) <<< (x11 &&& 31)) x10 g77)))
set_option maxHeartbeats 4000000 in
set_option maxRecDepth 100000 in
theorem vl_L_holds_l261 {x : Cq} {n : Nat} {Z : Zt} {κ240 : Nat → Int32 → Int32 → Int32 → Int32 → Int32 → Mem → Option (Int32 × Mem)} {rr : Int32} {gg : Mem} (hM : Cm x cL_holds RL 13 (some .boolean) 44 Z (some (.int rr)) gg) (hκ240 : ∀ (y0 : Nat) (y4 : Int32) (y5 : Int32) (y6 : Int32) (y7 : Int32) (y9 : Int32) (y : Mem), κ240 y0 y4 y5 y6 y7 y9 y = some (rr, gg) → V x Z 0 0 240 [(0, va_rf (some y0)), (4, .int y4), (5, .int y5), (6, .int y6), (7, .int y7), (9, .int y9)] [] y) : ∀ (fu : Nat) (x0 : Nat) (x4 : Int32) (x5 : Int32) (x6 : Int32) (x7 : Int32) (x8 : Int32) (x9 : Int32) (x10 : Int32) (x11 : Int32) (g : Mem), f_L_holds_l261 n Z κ240 fu x0 x4 x5 x6 x7 x8 x9 x10 x11 g = some (rr, gg) → V x Z 0 0 261 [(0, va_rf (some x0)), (4, .int x4), (5, .int x5), (6, .int x6), (7, .int x7), (8, .int x8), (9, .int x9), (10, .int x10), (11, .int x11)] [] g := by
  intro fu
  induction fu with
  | zero => intro x0 x4 x5 x6 x7 x8 x9 x10 x11 g h; cases h
  | succ fu ih =>
    intro x0 x4 x5 x6 x7 x8 x9 x10 x11 g h
    unfold f_L_holds_l261 at h
    refine V_iload hM.c 8 dL_holds_261 rfl ?_
    refine V_bipush (v := 16) hM.c dL_holds_263 (by decide) ?_
    refine V_icmp_ge hM.c 335 dL_holds_265 (by decide) (fun c75 => ?_) (fun c75 => ?_)
    · replace h := ite_p h c75
      refine V_sub [0, 1, 2, 3, 4, 5, 6, 7] rfl ?_
      exact vl_L_holds_l335 hM hκ240 _ _ _ _ _ _ _ _ _ _ h
    · replace h := ite_n h c75
      refine V_aload_n hM.c 0 dL_holds_268 rfl rfl ?_
      refine V_iload hM.c 2 dL_holds_269 rfl ?_
      refine V_iload hM.c 3 dL_holds_271 rfl ?_
      refine V_iload hM.c 6 dL_holds_273 rfl ?_
      refine V_iload hM.c 8 dL_holds_275 rfl ?_
      replace h := bnd_some h
      obtain ⟨r76, g77, e78, h⟩ := h
      refine V_callV (As := [.int x5, .int x6, .int x9, .int x11]) (c := 8) (T := TX10) (N := 10) hM.c hM.a mq_X10_exponent mi_X10_exponent tw_412 (hM.d (by decide)) hM.z rfl (by omega) (zc_X10_exponent e78) (vm_X10_exponent e78) rfl (Nat.le_of_ble_eq_true rfl) dL_holds_277 ?_
      refine V_istore (L' := [(12, .int r76), (0, va_rf (some x0)), (4, .int x4), (5, .int x5), (6, .int x6), (7, .int x7), (8, .int x8), (9, .int x9), (10, .int x10), (11, .int x11)]) hM.c dL_holds_280 (by decide) rfl ?_
      refine V_iload hM.c 8 dL_holds_282 rfl ?_
      refine V_iload hM.c 0 dL_holds_284 rfl ?_
      refine V_if_le hM.c 296 dL_holds_286 (by decide) (fun c79 => ?_) (fun c79 => ?_)
      · replace h := ite_p h c79
        refine V_iconst (v := 0) hM.c dL_holds_296 (by decide) ?_
        refine V_sub [1, 2, 3, 4, 5, 6, 7, 9, 0] rfl ?_
        exact vl_L_holds_l297 hM hκ240 ih h
      · replace h := ite_n h c79
        refine V_iconst (v := 1) hM.c dL_holds_289 (by decide) ?_
        refine V_iload hM.c 9 dL_holds_290 rfl ?_
        refine V_ishl hM.c dL_holds_292 ?_
        refine V_goto hM.c 297 dL_holds_293 (by decide) ?_
        refine V_sub [1, 2, 3, 4, 5, 6, 7, 9, 0] rfl ?_
        exact vl_L_holds_l297 hM hκ240 ih h
def f_L_holds_l682 (n : Nat) (Z : Zt) (x0 : Nat) (x5 : Int32) (x10 : UInt32) (g : Mem) : Option (Int32 × Mem) := if (Op.cmpValue (FP.fcmp x10 FP.fconst0) .l) < 0 then (some ((0 : Int32), g)) else (if 0 < (Op.cmpValue (FP.fcmp x10 FP.fconst1) .g) then (some ((0 : Int32), g)) else (bnd (f_X10_worlds n Z x0 x5 g) (fun r155 g156 => if r155 < (1 : Int32) then (some ((0 : Int32), g156)) else (some ((1 : Int32), g156)))))
set_option maxHeartbeats 4000000 in
set_option maxRecDepth 100000 in
theorem vl_L_holds_l682 {x : Cq} {n : Nat} {Z : Zt} {x0 : Nat} {x5 : Int32} {x10 : UInt32} {g : Mem} {rr : Int32} {gg : Mem} (hM : Cm x cL_holds RL 13 (some .boolean) 44 Z (some (.int rr)) gg) (h : f_L_holds_l682 n Z x0 x5 x10 g = some (rr, gg)) : V x Z 0 0 682 [(0, va_rf (some x0)), (5, .int x5), (10, .float x10)] [] g := by
  unfold f_L_holds_l682 at h
  refine V_fload hM.c 2 dL_holds_682 rfl ?_
  refine V_fconst0 hM.c dL_holds_684 ?_
  refine V_fcmpl hM.c dL_holds_685 ?_
  refine V_if_lt hM.c 710 dL_holds_686 (by decide) (fun c153 => ?_) (fun c153 => ?_)
  · replace h := ite_p h c153
    refine V_iconst (v := 0) hM.c dL_holds_710 (by decide) ?_
    exact V_zretE hM (isz_nar (by decide)) h dL_holds_711
  · replace h := ite_n h c153
    refine V_fload hM.c 2 dL_holds_689 rfl ?_
    refine V_fconst1 hM.c dL_holds_691 ?_
    refine V_fcmpg hM.c dL_holds_692 ?_
    refine V_if_gt hM.c 710 dL_holds_693 (by decide) (fun c154 => ?_) (fun c154 => ?_)
    · replace h := ite_p h c154
      refine V_iconst (v := 0) hM.c dL_holds_710 (by decide) ?_
      exact V_zretE hM (isz_nar (by decide)) h dL_holds_711
    · replace h := ite_n h c154
      refine V_aload_n hM.c 0 dL_holds_696 rfl rfl ?_
      refine V_iload hM.c 1 dL_holds_697 rfl ?_
      replace h := bnd_some h
      obtain ⟨r155, g156, e157, h⟩ := h
      refine V_callV (As := [.int x5]) (c := 8) (T := TX10) (N := 10) hM.c hM.a mq_X10_worlds mi_X10_worlds tw_470 (hM.d (by decide)) hM.z rfl (by omega) (zc_X10_worlds e157) (vm_X10_worlds e157) rfl (Nat.le_of_ble_eq_true rfl) dL_holds_699 ?_
      refine V_iconst (v := 1) hM.c dL_holds_702 (by decide) ?_
      refine V_icmp_lt hM.c 710 dL_holds_703 (by decide) (fun c158 => ?_) (fun c158 => ?_)
      · replace h := ite_p h c158
        refine V_iconst (v := 0) hM.c dL_holds_710 (by decide) ?_
        exact V_zretE hM (isz_nar (by decide)) h dL_holds_711
      · replace h := ite_n h c158
        refine V_iconst (v := 1) hM.c dL_holds_706 (by decide) ?_
        refine V_goto hM.c 711 dL_holds_707 (by decide) ?_
        exact V_zretE hM (isz_nar (by decide)) h dL_holds_711
def f_L_holds_l517 (n : Nat) (Z : Zt) (x0 : Nat) (x4 : Int32) (x5 : Int32) (x7 : Int32) (s0 : Int32) (g : Mem) : Option (Int32 × Mem) := bnd (f_X10_confidence n Z x0 x5 g) (fun r80 g81 => if x4 = 0 then (some ((0 : Int32), g81)) else (if x7 ≤ 0 then (some ((0 : Int32), g81)) else (if (32 : Int32) < x7 then (some ((0 : Int32), g81)) else (bnd (f_X10_lineage n Z x0 x5 g81) (fun r86 g87 => bnd (f_X10_tags n Z x0 g87) (fun r89 g90 => if (r86 &&& (r89 ^^^ (-1 : Int32))) = 0 then (if s0 = 0 then (bnd (f_X10_leastCost n Z x0 x5 g90) (fun r94 g95 => if r94 = (-6 : Int32) then (bnd (f_X10_answerTrust n Z x0 x5 g95) (fun r98 g99 => if r98 = (-6 : Int32) then (bnd (f_X10_cheapestTags n Z x0 x5 g99) (fun r102 g103 => if r102 = (-6 : Int32) then (if (Op.cmpValue (FP.fcmp r80 FP.fconst0) .l) = 0 then (f_L_holds_l682 n Z x0 x5 r80 g103) else (some ((0 : Int32), g103))) else (some ((0 : Int32), g103)))) else (some ((0 : Int32), g99)))) else (some ((0 : Int32), g95)))) else (bnd (f_X10_leastCost n Z x0 x5 g90) (fun r107 g108 => if r107 < 0 then (some ((0 : Int32), g108)) else (bnd (f_X10_answerTrust n Z x0 x5 g108) (fun r111 g112 => if r111 < 0 then (some ((0 : Int32), g112)) else (bnd (f_X10_answerTrust n Z x0 x5 g112) (fun r115 g116 => if (100 : Int32) < r115 then (some ((0 : Int32), g116)) else (bnd (f_X10_cheapestTags n Z x0 x5 g116) (fun r119 g120 => if r119 ≤ 0 then (some ((0 : Int32), g120)) else (bnd (f_X10_cheapestTags n Z x0 x5 g120) (fun r123 g124 => bnd (f_X10_withdrawn n Z x0 g124) (fun r126 g127 => if (r123 &&& r126) = 0 then (bnd (f_X10_cheapestTags n Z x0 x5 g127) (fun r130 g131 => bnd (f_X10_needed n Z x0 x5 g131) (fun r133 g134 => bnd (f_X10_needed n Z x0 x5 g134) (fun r136 g137 => if (r130 &&& r133) = r136 then (f_L_holds_l682 n Z x0 x5 r80 g137) else (some ((0 : Int32), g137)))))) else (some ((0 : Int32), g127)))))))))))))) else (some ((0 : Int32), g90))))))))
set_option maxHeartbeats 4000000 in
set_option maxRecDepth 100000 in
theorem vl_L_holds_l517 {x : Cq} {n : Nat} {Z : Zt} {x0 : Nat} {x4 : Int32} {x5 : Int32} {x7 : Int32} {s0 : Int32} {g : Mem} {rr : Int32} {gg : Mem} (hM : Cm x cL_holds RL 13 (some .boolean) 44 Z (some (.int rr)) gg) (h : f_L_holds_l517 n Z x0 x4 x5 x7 s0 g = some (rr, gg)) : V x Z 0 0 517 [(0, va_rf (some x0)), (4, .int x4), (5, .int x5), (7, .int x7)] [.int s0] g := by
  unfold f_L_holds_l517 at h
  refine V_istore (L' := [(9, .int s0), (0, va_rf (some x0)), (4, .int x4), (5, .int x5), (7, .int x7)]) hM.c dL_holds_517 (by decide) rfl ?_
  refine V_aload_n hM.c 1 dL_holds_519 rfl rfl ?_
  refine V_iload hM.c 3 dL_holds_520 rfl ?_
  replace h := bnd_some h
  obtain ⟨r80, g81, e82, h⟩ := h
  refine V_callV (As := [.int x5]) (c := 8) (T := TX10) (N := 10) hM.c hM.a mq_X10_confidence mi_X10_confidence tw_350 (hM.d (by decide)) hM.z rfl (by omega) (zc_X10_confidence e82) (vm_X10_confidence e82) rfl (Nat.le_of_ble_eq_true rfl) dL_holds_522 ?_
  refine V_fstore (L' := [(10, .float r80), (9, .int s0), (0, va_rf (some x0)), (4, .int x4), (5, .int x5), (7, .int x7)]) hM.c dL_holds_525 (by decide) rfl ?_
  refine V_iload hM.c 3 dL_holds_527 rfl ?_
  refine V_if_eq hM.c 710 dL_holds_529 (by decide) (fun c83 => ?_) (fun c83 => ?_)
  · replace h := ite_p h c83
    refine V_iconst (v := 0) hM.c dL_holds_710 (by decide) ?_
    exact V_zretE hM (isz_nar (by decide)) h dL_holds_711
  · replace h := ite_n h c83
    refine V_iload hM.c 5 dL_holds_532 rfl ?_
    refine V_if_le hM.c 710 dL_holds_534 (by decide) (fun c84 => ?_) (fun c84 => ?_)
    · replace h := ite_p h c84
      refine V_iconst (v := 0) hM.c dL_holds_710 (by decide) ?_
      exact V_zretE hM (isz_nar (by decide)) h dL_holds_711
    · replace h := ite_n h c84
      refine V_iload hM.c 5 dL_holds_537 rfl ?_
      refine V_bipush (v := 32) hM.c dL_holds_539 (by decide) ?_
      refine V_icmp_gt hM.c 710 dL_holds_541 (by decide) (fun c85 => ?_) (fun c85 => ?_)
      · replace h := ite_p h c85
        refine V_iconst (v := 0) hM.c dL_holds_710 (by decide) ?_
        exact V_zretE hM (isz_nar (by decide)) h dL_holds_711
      · replace h := ite_n h c85
        refine V_aload_n hM.c 2 dL_holds_544 rfl rfl ?_
        refine V_iload hM.c 4 dL_holds_545 rfl ?_
        replace h := bnd_some h
        obtain ⟨r86, g87, e88, h⟩ := h
        refine V_callV (As := [.int x5]) (c := 8) (T := TX10) (N := 10) hM.c hM.a mq_X10_lineage mi_X10_lineage tw_136 (hM.d (by decide)) hM.z rfl (by omega) (zc_X10_lineage e88) (vm_X10_lineage e88) rfl (Nat.le_of_ble_eq_true rfl) dL_holds_547 ?_
        refine V_aload_n hM.c 2 dL_holds_550 rfl rfl ?_
        replace h := bnd_some h
        obtain ⟨r89, g90, e91, h⟩ := h
        refine V_callV (As := []) (c := 8) (T := TX10) (N := 10) hM.c hM.a mq_X10_tags mi_X10_tags tw_259 (hM.d (by decide)) hM.z rfl (by omega) (zc_X10_tags e91) (vm_X10_tags e91) rfl (Nat.le_of_ble_eq_true rfl) dL_holds_551 ?_
        refine V_iconst (v := -1) hM.c dL_holds_554 (by decide) ?_
        refine V_ixor hM.c dL_holds_555 ?_
        refine V_iand hM.c dL_holds_556 ?_
        refine V_if_ne hM.c 710 dL_holds_557 (by decide) (fun c92 => ?_) (fun c92 => ?_)
        · replace h := ite_n h c92
          refine V_iconst (v := 0) hM.c dL_holds_710 (by decide) ?_
          exact V_zretE hM (isz_nar (by decide)) h dL_holds_711
        · replace h := ite_p h c92
          refine V_iload hM.c 1 dL_holds_560 rfl ?_
          refine V_if_eq hM.c 642 dL_holds_562 (by decide) (fun c93 => ?_) (fun c93 => ?_)
          · replace h := ite_p h c93
            refine V_aload_n hM.c 2 dL_holds_642 rfl rfl ?_
            refine V_iload hM.c 4 dL_holds_643 rfl ?_
            replace h := bnd_some h
            obtain ⟨r94, g95, e96, h⟩ := h
            refine V_callV (As := [.int x5]) (c := 8) (T := TX10) (N := 10) hM.c hM.a mq_X10_leastCost mi_X10_leastCost tw_429 (hM.d (by decide)) hM.z rfl (by omega) (zc_X10_leastCost e96) (vm_X10_leastCost e96) rfl (Nat.le_of_ble_eq_true rfl) dL_holds_645 ?_
            refine V_bipush (v := -6) hM.c dL_holds_648 (by decide) ?_
            refine V_icmp_ne hM.c 710 dL_holds_650 (by decide) (fun c97 => ?_) (fun c97 => ?_)
            · replace h := ite_n h c97
              refine V_iconst (v := 0) hM.c dL_holds_710 (by decide) ?_
              exact V_zretE hM (isz_nar (by decide)) h dL_holds_711
            · replace h := ite_p h c97
              refine V_aload_n hM.c 2 dL_holds_653 rfl rfl ?_
              refine V_iload hM.c 4 dL_holds_654 rfl ?_
              replace h := bnd_some h
              obtain ⟨r98, g99, e100, h⟩ := h
              refine V_callV (As := [.int x5]) (c := 8) (T := TX10) (N := 10) hM.c hM.a mq_X10_answerTrust mi_X10_answerTrust tw_446 (hM.d (by decide)) hM.z rfl (by omega) (zc_X10_answerTrust e100) (vm_X10_answerTrust e100) rfl (Nat.le_of_ble_eq_true rfl) dL_holds_656 ?_
              refine V_bipush (v := -6) hM.c dL_holds_659 (by decide) ?_
              refine V_icmp_ne hM.c 710 dL_holds_661 (by decide) (fun c101 => ?_) (fun c101 => ?_)
              · replace h := ite_n h c101
                refine V_iconst (v := 0) hM.c dL_holds_710 (by decide) ?_
                exact V_zretE hM (isz_nar (by decide)) h dL_holds_711
              · replace h := ite_p h c101
                refine V_aload_n hM.c 2 dL_holds_664 rfl rfl ?_
                refine V_iload hM.c 4 dL_holds_665 rfl ?_
                replace h := bnd_some h
                obtain ⟨r102, g103, e104, h⟩ := h
                refine V_callV (As := [.int x5]) (c := 8) (T := TX10) (N := 10) hM.c hM.a mq_X10_cheapestTags mi_X10_cheapestTags tw_461 (hM.d (by decide)) hM.z rfl (by omega) (zc_X10_cheapestTags e104) (vm_X10_cheapestTags e104) rfl (Nat.le_of_ble_eq_true rfl) dL_holds_667 ?_
                refine V_bipush (v := -6) hM.c dL_holds_670 (by decide) ?_
                refine V_icmp_ne hM.c 710 dL_holds_672 (by decide) (fun c105 => ?_) (fun c105 => ?_)
                · replace h := ite_n h c105
                  refine V_iconst (v := 0) hM.c dL_holds_710 (by decide) ?_
                  exact V_zretE hM (isz_nar (by decide)) h dL_holds_711
                · replace h := ite_p h c105
                  refine V_fload hM.c 0 dL_holds_675 rfl ?_
                  refine V_fconst0 hM.c dL_holds_677 ?_
                  refine V_fcmpl hM.c dL_holds_678 ?_
                  refine V_if_ne hM.c 710 dL_holds_679 (by decide) (fun c106 => ?_) (fun c106 => ?_)
                  · replace h := ite_n h c106
                    refine V_iconst (v := 0) hM.c dL_holds_710 (by decide) ?_
                    exact V_zretE hM (isz_nar (by decide)) h dL_holds_711
                  · replace h := ite_p h c106
                    refine V_sub [2, 4, 0] rfl ?_
                    exact vl_L_holds_l682 hM  h
          · replace h := ite_n h c93
            refine V_aload_n hM.c 2 dL_holds_565 rfl rfl ?_
            refine V_iload hM.c 4 dL_holds_566 rfl ?_
            replace h := bnd_some h
            obtain ⟨r107, g108, e109, h⟩ := h
            refine V_callV (As := [.int x5]) (c := 8) (T := TX10) (N := 10) hM.c hM.a mq_X10_leastCost mi_X10_leastCost tw_429 (hM.d (by decide)) hM.z rfl (by omega) (zc_X10_leastCost e109) (vm_X10_leastCost e109) rfl (Nat.le_of_ble_eq_true rfl) dL_holds_568 ?_
            refine V_if_lt hM.c 710 dL_holds_571 (by decide) (fun c110 => ?_) (fun c110 => ?_)
            · replace h := ite_p h c110
              refine V_iconst (v := 0) hM.c dL_holds_710 (by decide) ?_
              exact V_zretE hM (isz_nar (by decide)) h dL_holds_711
            · replace h := ite_n h c110
              refine V_aload_n hM.c 2 dL_holds_574 rfl rfl ?_
              refine V_iload hM.c 4 dL_holds_575 rfl ?_
              replace h := bnd_some h
              obtain ⟨r111, g112, e113, h⟩ := h
              refine V_callV (As := [.int x5]) (c := 8) (T := TX10) (N := 10) hM.c hM.a mq_X10_answerTrust mi_X10_answerTrust tw_446 (hM.d (by decide)) hM.z rfl (by omega) (zc_X10_answerTrust e113) (vm_X10_answerTrust e113) rfl (Nat.le_of_ble_eq_true rfl) dL_holds_577 ?_
              refine V_if_lt hM.c 710 dL_holds_580 (by decide) (fun c114 => ?_) (fun c114 => ?_)
              · replace h := ite_p h c114
                refine V_iconst (v := 0) hM.c dL_holds_710 (by decide) ?_
                exact V_zretE hM (isz_nar (by decide)) h dL_holds_711
              · replace h := ite_n h c114
                refine V_aload_n hM.c 2 dL_holds_583 rfl rfl ?_
                refine V_iload hM.c 4 dL_holds_584 rfl ?_
                replace h := bnd_some h
                obtain ⟨r115, g116, e117, h⟩ := h
                refine V_callV (As := [.int x5]) (c := 8) (T := TX10) (N := 10) hM.c hM.a mq_X10_answerTrust mi_X10_answerTrust tw_446 (hM.d (by decide)) hM.z rfl (by omega) (zc_X10_answerTrust e117) (vm_X10_answerTrust e117) rfl (Nat.le_of_ble_eq_true rfl) dL_holds_586 ?_
                refine V_bipush (v := 100) hM.c dL_holds_589 (by decide) ?_
                refine V_icmp_gt hM.c 710 dL_holds_591 (by decide) (fun c118 => ?_) (fun c118 => ?_)
                · replace h := ite_p h c118
                  refine V_iconst (v := 0) hM.c dL_holds_710 (by decide) ?_
                  exact V_zretE hM (isz_nar (by decide)) h dL_holds_711
                · replace h := ite_n h c118
                  refine V_aload_n hM.c 2 dL_holds_594 rfl rfl ?_
                  refine V_iload hM.c 4 dL_holds_595 rfl ?_
                  replace h := bnd_some h
                  obtain ⟨r119, g120, e121, h⟩ := h
                  refine V_callV (As := [.int x5]) (c := 8) (T := TX10) (N := 10) hM.c hM.a mq_X10_cheapestTags mi_X10_cheapestTags tw_461 (hM.d (by decide)) hM.z rfl (by omega) (zc_X10_cheapestTags e121) (vm_X10_cheapestTags e121) rfl (Nat.le_of_ble_eq_true rfl) dL_holds_597 ?_
                  refine V_if_le hM.c 710 dL_holds_600 (by decide) (fun c122 => ?_) (fun c122 => ?_)
                  · replace h := ite_p h c122
                    refine V_iconst (v := 0) hM.c dL_holds_710 (by decide) ?_
                    exact V_zretE hM (isz_nar (by decide)) h dL_holds_711
                  · replace h := ite_n h c122
                    refine V_aload_n hM.c 2 dL_holds_603 rfl rfl ?_
                    refine V_iload hM.c 4 dL_holds_604 rfl ?_
                    replace h := bnd_some h
                    obtain ⟨r123, g124, e125, h⟩ := h
                    refine V_callV (As := [.int x5]) (c := 8) (T := TX10) (N := 10) hM.c hM.a mq_X10_cheapestTags mi_X10_cheapestTags tw_461 (hM.d (by decide)) hM.z rfl (by omega) (zc_X10_cheapestTags e125) (vm_X10_cheapestTags e125) rfl (Nat.le_of_ble_eq_true rfl) dL_holds_606 ?_
                    refine V_aload_n hM.c 2 dL_holds_609 rfl rfl ?_
                    replace h := bnd_some h
                    obtain ⟨r126, g127, e128, h⟩ := h
                    refine V_callV (As := []) (c := 8) (T := TX10) (N := 10) hM.c hM.a mq_X10_withdrawn mi_X10_withdrawn tw_63 (hM.d (by decide)) hM.z rfl (by omega) (zc_X10_withdrawn e128) (vm_X10_withdrawn e128) rfl (Nat.le_of_ble_eq_true rfl) dL_holds_610 ?_
                    refine V_iand hM.c dL_holds_613 ?_
                    refine V_if_ne hM.c 710 dL_holds_614 (by decide) (fun c129 => ?_) (fun c129 => ?_)
                    · replace h := ite_n h c129
                      refine V_iconst (v := 0) hM.c dL_holds_710 (by decide) ?_
                      exact V_zretE hM (isz_nar (by decide)) h dL_holds_711
                    · replace h := ite_p h c129
                      refine V_aload_n hM.c 2 dL_holds_617 rfl rfl ?_
                      refine V_iload hM.c 4 dL_holds_618 rfl ?_
                      replace h := bnd_some h
                      obtain ⟨r130, g131, e132, h⟩ := h
                      refine V_callV (As := [.int x5]) (c := 8) (T := TX10) (N := 10) hM.c hM.a mq_X10_cheapestTags mi_X10_cheapestTags tw_461 (hM.d (by decide)) hM.z rfl (by omega) (zc_X10_cheapestTags e132) (vm_X10_cheapestTags e132) rfl (Nat.le_of_ble_eq_true rfl) dL_holds_620 ?_
                      refine V_aload_n hM.c 2 dL_holds_623 rfl rfl ?_
                      refine V_iload hM.c 4 dL_holds_624 rfl ?_
                      replace h := bnd_some h
                      obtain ⟨r133, g134, e135, h⟩ := h
                      refine V_callV (As := [.int x5]) (c := 8) (T := TX10) (N := 10) hM.c hM.a mq_X10_needed mi_X10_needed tw_466 (hM.d (by decide)) hM.z rfl (by omega) (zc_X10_needed e135) (vm_X10_needed e135) rfl (Nat.le_of_ble_eq_true rfl) dL_holds_626 ?_
                      refine V_iand hM.c dL_holds_629 ?_
                      refine V_aload_n hM.c 2 dL_holds_630 rfl rfl ?_
                      refine V_iload hM.c 4 dL_holds_631 rfl ?_
                      replace h := bnd_some h
                      obtain ⟨r136, g137, e138, h⟩ := h
                      refine V_callV (As := [.int x5]) (c := 8) (T := TX10) (N := 10) hM.c hM.a mq_X10_needed mi_X10_needed tw_466 (hM.d (by decide)) hM.z rfl (by omega) (zc_X10_needed e138) (vm_X10_needed e138) rfl (Nat.le_of_ble_eq_true rfl) dL_holds_633 ?_
                      refine V_icmp_ne hM.c 710 dL_holds_636 (by decide) (fun c139 => ?_) (fun c139 => ?_)
                      · replace h := ite_n h c139
                        refine V_iconst (v := 0) hM.c dL_holds_710 (by decide) ?_
                        exact V_zretE hM (isz_nar (by decide)) h dL_holds_711
                      · replace h := ite_p h c139
                        refine V_goto hM.c 682 dL_holds_639 (by decide) ?_
                        refine V_sub [2, 4, 0] rfl ?_
                        exact vl_L_holds_l682 hM  h
def f_L_holds_l501 (n : Nat) (Z : Zt) (x0 : Nat) (x4 : Int32) (x5 : Int32) (x7 : Int32) (g : Mem) : Option (Int32 × Mem) := bnd (f_X10_derivations n Z x0 x5 g) (fun r71 g72 => if (lg_cmp r71 (0 : Int64)) ≤ 0 then (f_L_holds_l517 n Z x0 x4 x5 x7 (0 : Int32) g72) else (f_L_holds_l517 n Z x0 x4 x5 x7 (1 : Int32) g72))
set_option maxHeartbeats 4000000 in
set_option maxRecDepth 100000 in
theorem vl_L_holds_l501 {x : Cq} {n : Nat} {Z : Zt} {x0 : Nat} {x4 : Int32} {x5 : Int32} {x7 : Int32} {g : Mem} {rr : Int32} {gg : Mem} (hM : Cm x cL_holds RL 13 (some .boolean) 44 Z (some (.int rr)) gg) (h : f_L_holds_l501 n Z x0 x4 x5 x7 g = some (rr, gg)) : V x Z 0 0 501 [(0, va_rf (some x0)), (4, .int x4), (5, .int x5), (7, .int x7)] [] g := by
  unfold f_L_holds_l501 at h
  refine V_aload_n hM.c 0 dL_holds_501 rfl rfl ?_
  refine V_iload hM.c 2 dL_holds_502 rfl ?_
  replace h := bnd_some h
  obtain ⟨r71, g72, e73, h⟩ := h
  refine V_callV (As := [.int x5]) (c := 8) (T := TX10) (N := 10) hM.c hM.a mq_X10_derivations mi_X10_derivations tw_167 (hM.d (by decide)) hM.z rfl (by omega) (zc_X10_derivations e73) (vm_X10_derivations e73) rfl (Nat.le_of_ble_eq_true rfl) dL_holds_504 ?_
  refine V_lconst (v := 0) hM.c dL_holds_507 (by decide) ?_
  refine V_lcmp hM.c dL_holds_508 ?_
  refine V_if_le hM.c 516 dL_holds_509 (by decide) (fun c74 => ?_) (fun c74 => ?_)
  · replace h := ite_p h c74
    refine V_iconst (v := 0) hM.c dL_holds_516 (by decide) ?_
    refine V_sub [0, 1, 2, 3] rfl ?_
    exact vl_L_holds_l517 hM  h
  · replace h := ite_n h c74
    refine V_iconst (v := 1) hM.c dL_holds_512 (by decide) ?_
    refine V_goto hM.c 517 dL_holds_513 (by decide) ?_
    refine V_sub [0, 1, 2, 3] rfl ?_
    exact vl_L_holds_l517 hM  h
def f_L_holds_l240 (n : Nat) (Z : Zt) : Nat → Nat → Int32 → Int32 → Int32 → Int32 → Int32 → Mem → Option (Int32 × Mem)
  | 0, _, _, _, _, _, _, _ => none
  | fu + 1, x0, x4, x5, x6, x7, x9, g => if x7 ≤ x9 then (f_L_holds_l501 n Z x0 x4 x5 x7 g) else (if x4 = 0 then (f_L_holds_l501 n Z x0 x4 x5 x7 g) else (f_L_holds_l261 n Z (fun y0 y1 y2 y3 y4 y5 y => f_L_holds_l240 n Z fu y0 y1 y2 y3 y4 y5 y) n x0 x4 x5 x6 x7 (0 : Int32) x9 (0 : Int32) (0 : Int32) g))
set_option maxHeartbeats 4000000 in
set_option maxRecDepth 100000 in
theorem vl_L_holds_l240 {x : Cq} {n : Nat} {Z : Zt} {rr : Int32} {gg : Mem} (hM : Cm x cL_holds RL 13 (some .boolean) 44 Z (some (.int rr)) gg) : ∀ (fu : Nat) (x0 : Nat) (x4 : Int32) (x5 : Int32) (x6 : Int32) (x7 : Int32) (x9 : Int32) (g : Mem), f_L_holds_l240 n Z fu x0 x4 x5 x6 x7 x9 g = some (rr, gg) → V x Z 0 0 240 [(0, va_rf (some x0)), (4, .int x4), (5, .int x5), (6, .int x6), (7, .int x7), (9, .int x9)] [] g := by
  intro fu
  induction fu with
  | zero => intro x0 x4 x5 x6 x7 x9 g h; cases h
  | succ fu ih =>
    intro x0 x4 x5 x6 x7 x9 g h
    unfold f_L_holds_l240 at h
    refine V_iload hM.c 5 dL_holds_240 rfl ?_
    refine V_iload hM.c 4 dL_holds_242 rfl ?_
    refine V_icmp_ge hM.c 501 dL_holds_244 (by decide) (fun c61 => ?_) (fun c61 => ?_)
    · replace h := ite_p h c61
      refine V_sub [0, 1, 2, 4] rfl ?_
      exact vl_L_holds_l501 hM  h
    · replace h := ite_n h c61
      refine V_iload hM.c 1 dL_holds_247 rfl ?_
      refine V_if_eq hM.c 501 dL_holds_249 (by decide) (fun c62 => ?_) (fun c62 => ?_)
      · replace h := ite_p h c62
        refine V_sub [0, 1, 2, 4] rfl ?_
        exact vl_L_holds_l501 hM  h
      · replace h := ite_n h c62
        refine V_iconst (v := 0) hM.c dL_holds_252 (by decide) ?_
        refine V_istore (L' := [(10, .int (0 : Int32)), (0, va_rf (some x0)), (4, .int x4), (5, .int x5), (6, .int x6), (7, .int x7), (9, .int x9)]) hM.c dL_holds_253 (by decide) rfl ?_
        refine V_iconst (v := 0) hM.c dL_holds_255 (by decide) ?_
        refine V_istore (L' := [(8, .int (0 : Int32)), (10, .int (0 : Int32)), (0, va_rf (some x0)), (4, .int x4), (5, .int x5), (6, .int x6), (7, .int x7), (9, .int x9)]) hM.c dL_holds_256 (by decide) rfl ?_
        refine V_iconst (v := 0) hM.c dL_holds_258 (by decide) ?_
        refine V_istore (L' := [(11, .int (0 : Int32)), (8, .int (0 : Int32)), (10, .int (0 : Int32)), (0, va_rf (some x0)), (4, .int x4), (5, .int x5), (6, .int x6), (7, .int x7), (9, .int x9)]) hM.c dL_holds_259 (by decide) rfl ?_
        refine V_sub [3, 4, 5, 6, 7, 1, 8, 2, 0] rfl ?_
        exact vl_L_holds_l261 hM ih _ _ _ _ _ _ _ _ _ _ _ h
def f_L_holds_l196 (n : Nat) (Z : Zt) (x0 : Nat) (x1 : Int32) (x2 : Int32) (x4 : Int32) (g : Mem) : Option (Int32 × Mem) := if x4 = 0 then (grd (isz x4) (some (x4, g))) else (if x2 = 0 then (grd (isz x4) (some (x4, g))) else (bnd (f_L_low n Z x1 x2 g) (fun r19 g20 => bnd (f_L_low n Z (x1 >>> ((5 : Int32) &&& 31)) (5 : Int32) g20) (fun r22 g23 => bnd (f_X10_terms n Z x0 r19 r22 g23) (fun r25 g26 => f_L_holds_l240 n Z n x0 x4 r19 r22 r25 (0 : Int32) g26)))))
set_option maxHeartbeats 4000000 in
set_option maxRecDepth 100000 in
theorem vl_L_holds_l196 {x : Cq} {n : Nat} {Z : Zt} {x0 : Nat} {x1 : Int32} {x2 : Int32} {x4 : Int32} {g : Mem} {rr : Int32} {gg : Mem} (hM : Cm x cL_holds RL 13 (some .boolean) 44 Z (some (.int rr)) gg) (h : f_L_holds_l196 n Z x0 x1 x2 x4 g = some (rr, gg)) : V x Z 0 0 196 [(0, va_rf (some x0)), (1, .int x1), (2, .int x2), (4, .int x4)] [] g := by
  unfold f_L_holds_l196 at h
  refine V_iload hM.c 3 dL_holds_196 rfl ?_
  refine V_if_eq hM.c 205 dL_holds_198 (by decide) (fun c16 => ?_) (fun c16 => ?_)
  · replace h := ite_p h c16
    refine V_iload hM.c 3 dL_holds_205 rfl ?_
    replace h := grd_some h
    obtain ⟨c17, h⟩ := h
    exact V_zretE hM (isz_nar c17) h dL_holds_207
  · replace h := ite_n h c16
    refine V_iload_n hM.c 2 dL_holds_201 rfl rfl ?_
    refine V_if_ne hM.c 208 dL_holds_202 (by decide) (fun c18 => ?_) (fun c18 => ?_)
    · replace h := ite_n h c18
      refine V_iload_n hM.c 1 dL_holds_208 rfl rfl ?_
      refine V_iload_n hM.c 2 dL_holds_209 rfl rfl ?_
      replace h := bnd_some h
      obtain ⟨r19, g20, e21, h⟩ := h
      refine V_callS (As := [.int x1, .int x2]) hM.c hM.a mq_L_low mi_L_low tw_407 (hM.d (by decide)) hM.z (vm_L_low e21) rfl (Nat.le_of_ble_eq_true rfl) dL_holds_210 ?_
      refine V_istore (L' := [(5, .int r19), (0, va_rf (some x0)), (1, .int x1), (2, .int x2), (4, .int x4)]) hM.c dL_holds_213 (by decide) rfl ?_
      refine V_iload_n hM.c 2 dL_holds_215 rfl rfl ?_
      refine V_iconst (v := 5) hM.c dL_holds_216 (by decide) ?_
      refine V_ishr hM.c dL_holds_217 ?_
      refine V_iconst (v := 5) hM.c dL_holds_218 (by decide) ?_
      replace h := bnd_some h
      obtain ⟨r22, g23, e24, h⟩ := h
      refine V_callS (As := [.int (x1 >>> ((5 : Int32) &&& 31)), .int (5 : Int32)]) hM.c hM.a mq_L_low mi_L_low tw_407 (hM.d (by decide)) hM.z (vm_L_low e24) rfl (Nat.le_of_ble_eq_true rfl) dL_holds_219 ?_
      refine V_istore (L' := [(6, .int r22), (5, .int r19), (0, va_rf (some x0)), (1, .int x1), (2, .int x2), (4, .int x4)]) hM.c dL_holds_222 (by decide) rfl ?_
      refine V_aload_n hM.c 2 dL_holds_224 rfl rfl ?_
      refine V_iload hM.c 1 dL_holds_225 rfl ?_
      refine V_iload hM.c 0 dL_holds_227 rfl ?_
      replace h := bnd_some h
      obtain ⟨r25, g26, e27, h⟩ := h
      refine V_callV (As := [.int r19, .int r22]) (c := 8) (T := TX10) (N := 10) hM.c hM.a mq_X10_terms mi_X10_terms tw_268 (hM.d (by decide)) hM.z rfl (by omega) (zc_X10_terms e27) (vm_X10_terms e27) rfl (Nat.le_of_ble_eq_true rfl) dL_holds_229 ?_
      refine V_istore (L' := [(7, .int r25), (6, .int r22), (5, .int r19), (0, va_rf (some x0)), (1, .int x1), (2, .int x2), (4, .int x4)]) hM.c dL_holds_232 (by decide) rfl ?_
      refine V_iconst (v := 0) hM.c dL_holds_234 (by decide) ?_
      refine V_istore (L' := [(8, .int (0 : Int32)), (7, .int r25), (6, .int r22), (5, .int r19), (0, va_rf (some x0)), (1, .int x1), (2, .int x2), (4, .int x4)]) hM.c dL_holds_235 (by decide) rfl ?_
      refine V_iconst (v := 0) hM.c dL_holds_237 (by decide) ?_
      refine V_istore (L' := [(9, .int (0 : Int32)), (8, .int (0 : Int32)), (7, .int r25), (6, .int r22), (5, .int r19), (0, va_rf (some x0)), (1, .int x1), (2, .int x2), (4, .int x4)]) hM.c dL_holds_238 (by decide) rfl ?_
      refine V_sub [5, 8, 4, 3, 2, 0] rfl ?_
      exact vl_L_holds_l240 hM  _ _ _ _ _ _ _ _ h
    · replace h := ite_p h c18
      refine V_iload hM.c 3 dL_holds_205 rfl ?_
      replace h := grd_some h
      obtain ⟨c28, h⟩ := h
      exact V_zretE hM (isz_nar c28) h dL_holds_207
def f_L_holds_l109 (n : Nat) (Z : Zt) : Nat → Nat → Int32 → Int32 → Int32 → Int32 → Int32 → Mem → Option (Int32 × Mem)
  | 0, _, _, _, _, _, _, _ => none
  | fu + 1, x0, x1, x2, x3, x4, x5, g => if x2 ≤ x5 then (f_L_holds_l196 n Z x0 x1 x2 x4 g) else (if x4 = 0 then (f_L_holds_l196 n Z x0 x1 x2 x4 g) else (f_L_holds_l123 n Z (fun y0 y1 y2 y3 y4 y5 y => f_L_holds_l109 n Z fu y0 y1 y2 y3 y4 y5 y) n x0 x1 x2 x3 x5 (0 : Int32) g))
set_option maxHeartbeats 4000000 in
set_option maxRecDepth 100000 in
theorem vl_L_holds_l109 {x : Cq} {n : Nat} {Z : Zt} {rr : Int32} {gg : Mem} (hM : Cm x cL_holds RL 13 (some .boolean) 44 Z (some (.int rr)) gg) : ∀ (fu : Nat) (x0 : Nat) (x1 : Int32) (x2 : Int32) (x3 : Int32) (x4 : Int32) (x5 : Int32) (g : Mem), f_L_holds_l109 n Z fu x0 x1 x2 x3 x4 x5 g = some (rr, gg) → V x Z 0 0 109 [(0, va_rf (some x0)), (1, .int x1), (2, .int x2), (3, .int x3), (4, .int x4), (5, .int x5)] [] g := by
  intro fu
  induction fu with
  | zero => intro x0 x1 x2 x3 x4 x5 g h; cases h
  | succ fu ih =>
    intro x0 x1 x2 x3 x4 x5 g h
    unfold f_L_holds_l109 at h
    refine V_iload hM.c 5 dL_holds_109 rfl ?_
    refine V_iload_n hM.c 2 dL_holds_111 rfl rfl ?_
    refine V_icmp_ge hM.c 196 dL_holds_112 (by decide) (fun c10 => ?_) (fun c10 => ?_)
    · replace h := ite_p h c10
      refine V_sub [0, 1, 2, 4] rfl ?_
      exact vl_L_holds_l196 hM  h
    · replace h := ite_n h c10
      refine V_iload hM.c 4 dL_holds_115 rfl ?_
      refine V_if_eq hM.c 196 dL_holds_117 (by decide) (fun c11 => ?_) (fun c11 => ?_)
      · replace h := ite_p h c11
        refine V_sub [0, 1, 2, 4] rfl ?_
        exact vl_L_holds_l196 hM  h
      · replace h := ite_n h c11
        refine V_iconst (v := 0) hM.c dL_holds_120 (by decide) ?_
        refine V_istore (L' := [(6, .int (0 : Int32)), (0, va_rf (some x0)), (1, .int x1), (2, .int x2), (3, .int x3), (4, .int x4), (5, .int x5)]) hM.c dL_holds_121 (by decide) rfl ?_
        refine V_sub [1, 2, 3, 4, 6, 0] rfl ?_
        exact vl_L_holds_l123 hM ih _ _ _ _ _ _ _ _ h
def f_L_holds_l42 (n : Nat) (Z : Zt) (x0 : Nat) (x1 : Int32) (x2 : Int32) (x3 : Int32) (s0 : Int32) (s1 : Int32) (g : Mem) : Option (Int32 × Mem) := if s1 = s0 then (bnd (f_X10_withdrawn n Z x0 g) (fun r38 g39 => bnd (f_X10_tags n Z x0 g39) (fun r41 g42 => if (r38 &&& (r41 ^^^ (-1 : Int32))) = 0 then (bnd (f_X10_terms n Z x0 x2 (0 : Int32) g42) (fun r45 g46 => if r45 = (-1 : Int32) then (bnd (f_X10_lineage n Z x0 (-1 : Int32) g46) (fun r49 g50 => if r49 = (-1 : Int32) then (bnd (f_X10_confidence n Z x0 x2 g50) (fun r53 g54 => if (Op.cmpValue (FP.fcmp r53 (3212836864 : UInt32)) .l) = 0 then (bnd (f_X10_tableOf n Z x0 (16 : Int32) g54) (fun r57 g58 => if r57 = (-1 : Int32) then (f_L_holds_l109 n Z n x0 x1 x2 x3 (1 : Int32) (1 : Int32) g58) else (f_L_holds_l109 n Z n x0 x1 x2 x3 (0 : Int32) (1 : Int32) g58))) else (f_L_holds_l109 n Z n x0 x1 x2 x3 (0 : Int32) (1 : Int32) g54))) else (f_L_holds_l109 n Z n x0 x1 x2 x3 (0 : Int32) (1 : Int32) g50))) else (f_L_holds_l109 n Z n x0 x1 x2 x3 (0 : Int32) (1 : Int32) g46))) else (f_L_holds_l109 n Z n x0 x1 x2 x3 (0 : Int32) (1 : Int32) g42)))) else (f_L_holds_l109 n Z n x0 x1 x2 x3 (0 : Int32) (1 : Int32) g)
set_option maxHeartbeats 4000000 in
set_option maxRecDepth 100000 in
theorem vl_L_holds_l42 {x : Cq} {n : Nat} {Z : Zt} {x0 : Nat} {x1 : Int32} {x2 : Int32} {x3 : Int32} {s0 : Int32} {s1 : Int32} {g : Mem} {rr : Int32} {gg : Mem} (hM : Cm x cL_holds RL 13 (some .boolean) 44 Z (some (.int rr)) gg) (h : f_L_holds_l42 n Z x0 x1 x2 x3 s0 s1 g = some (rr, gg)) : V x Z 0 0 42 [(0, va_rf (some x0)), (1, .int x1), (2, .int x2), (3, .int x3)] [.int s0, .int s1] g := by
  unfold f_L_holds_l42 at h
  refine V_icmp_ne hM.c 103 dL_holds_42 (by decide) (fun c37 => ?_) (fun c37 => ?_)
  · replace h := ite_n h c37
    refine V_iconst (v := 0) hM.c dL_holds_103 (by decide) ?_
    refine V_istore (L' := [(4, .int (0 : Int32)), (0, va_rf (some x0)), (1, .int x1), (2, .int x2), (3, .int x3)]) hM.c dL_holds_104 (by decide) rfl ?_
    refine V_iconst (v := 1) hM.c dL_holds_106 (by decide) ?_
    refine V_istore (L' := [(5, .int (1 : Int32)), (4, .int (0 : Int32)), (0, va_rf (some x0)), (1, .int x1), (2, .int x2), (3, .int x3)]) hM.c dL_holds_107 (by decide) rfl ?_
    refine V_sub [2, 3, 4, 5, 1, 0] rfl ?_
    exact vl_L_holds_l109 hM  _ _ _ _ _ _ _ _ h
  · replace h := ite_p h c37
    refine V_aload_n hM.c 0 dL_holds_45 rfl rfl ?_
    replace h := bnd_some h
    obtain ⟨r38, g39, e40, h⟩ := h
    refine V_callV (As := []) (c := 8) (T := TX10) (N := 10) hM.c hM.a mq_X10_withdrawn mi_X10_withdrawn tw_63 (hM.d (by decide)) hM.z rfl (by omega) (zc_X10_withdrawn e40) (vm_X10_withdrawn e40) rfl (Nat.le_of_ble_eq_true rfl) dL_holds_46 ?_
    refine V_aload_n hM.c 0 dL_holds_49 rfl rfl ?_
    replace h := bnd_some h
    obtain ⟨r41, g42, e43, h⟩ := h
    refine V_callV (As := []) (c := 8) (T := TX10) (N := 10) hM.c hM.a mq_X10_tags mi_X10_tags tw_259 (hM.d (by decide)) hM.z rfl (by omega) (zc_X10_tags e43) (vm_X10_tags e43) rfl (Nat.le_of_ble_eq_true rfl) dL_holds_50 ?_
    refine V_iconst (v := -1) hM.c dL_holds_53 (by decide) ?_
    refine V_ixor hM.c dL_holds_54 ?_
    refine V_iand hM.c dL_holds_55 ?_
    refine V_if_ne hM.c 103 dL_holds_56 (by decide) (fun c44 => ?_) (fun c44 => ?_)
    · replace h := ite_n h c44
      refine V_iconst (v := 0) hM.c dL_holds_103 (by decide) ?_
      refine V_istore (L' := [(4, .int (0 : Int32)), (0, va_rf (some x0)), (1, .int x1), (2, .int x2), (3, .int x3)]) hM.c dL_holds_104 (by decide) rfl ?_
      refine V_iconst (v := 1) hM.c dL_holds_106 (by decide) ?_
      refine V_istore (L' := [(5, .int (1 : Int32)), (4, .int (0 : Int32)), (0, va_rf (some x0)), (1, .int x1), (2, .int x2), (3, .int x3)]) hM.c dL_holds_107 (by decide) rfl ?_
      refine V_sub [2, 3, 4, 5, 1, 0] rfl ?_
      exact vl_L_holds_l109 hM  _ _ _ _ _ _ _ _ h
    · replace h := ite_p h c44
      refine V_aload_n hM.c 0 dL_holds_59 rfl rfl ?_
      refine V_iload_n hM.c 2 dL_holds_60 rfl rfl ?_
      refine V_iconst (v := 0) hM.c dL_holds_61 (by decide) ?_
      replace h := bnd_some h
      obtain ⟨r45, g46, e47, h⟩ := h
      refine V_callV (As := [.int x2, .int (0 : Int32)]) (c := 8) (T := TX10) (N := 10) hM.c hM.a mq_X10_terms mi_X10_terms tw_268 (hM.d (by decide)) hM.z rfl (by omega) (zc_X10_terms e47) (vm_X10_terms e47) rfl (Nat.le_of_ble_eq_true rfl) dL_holds_62 ?_
      refine V_iconst (v := -1) hM.c dL_holds_65 (by decide) ?_
      refine V_icmp_ne hM.c 103 dL_holds_66 (by decide) (fun c48 => ?_) (fun c48 => ?_)
      · replace h := ite_n h c48
        refine V_iconst (v := 0) hM.c dL_holds_103 (by decide) ?_
        refine V_istore (L' := [(4, .int (0 : Int32)), (0, va_rf (some x0)), (1, .int x1), (2, .int x2), (3, .int x3)]) hM.c dL_holds_104 (by decide) rfl ?_
        refine V_iconst (v := 1) hM.c dL_holds_106 (by decide) ?_
        refine V_istore (L' := [(5, .int (1 : Int32)), (4, .int (0 : Int32)), (0, va_rf (some x0)), (1, .int x1), (2, .int x2), (3, .int x3)]) hM.c dL_holds_107 (by decide) rfl ?_
        refine V_sub [2, 3, 4, 5, 1, 0] rfl ?_
        exact vl_L_holds_l109 hM  _ _ _ _ _ _ _ _ h
      · replace h := ite_p h c48
        refine V_aload_n hM.c 0 dL_holds_69 rfl rfl ?_
        refine V_iconst (v := -1) hM.c dL_holds_70 (by decide) ?_
        replace h := bnd_some h
        obtain ⟨r49, g50, e51, h⟩ := h
        refine V_callV (As := [.int (-1 : Int32)]) (c := 8) (T := TX10) (N := 10) hM.c hM.a mq_X10_lineage mi_X10_lineage tw_136 (hM.d (by decide)) hM.z rfl (by omega) (zc_X10_lineage e51) (vm_X10_lineage e51) rfl (Nat.le_of_ble_eq_true rfl) dL_holds_71 ?_
        refine V_iconst (v := -1) hM.c dL_holds_74 (by decide) ?_
        refine V_icmp_ne hM.c 103 dL_holds_75 (by decide) (fun c52 => ?_) (fun c52 => ?_)
        · replace h := ite_n h c52
          refine V_iconst (v := 0) hM.c dL_holds_103 (by decide) ?_
          refine V_istore (L' := [(4, .int (0 : Int32)), (0, va_rf (some x0)), (1, .int x1), (2, .int x2), (3, .int x3)]) hM.c dL_holds_104 (by decide) rfl ?_
          refine V_iconst (v := 1) hM.c dL_holds_106 (by decide) ?_
          refine V_istore (L' := [(5, .int (1 : Int32)), (4, .int (0 : Int32)), (0, va_rf (some x0)), (1, .int x1), (2, .int x2), (3, .int x3)]) hM.c dL_holds_107 (by decide) rfl ?_
          refine V_sub [2, 3, 4, 5, 1, 0] rfl ?_
          exact vl_L_holds_l109 hM  _ _ _ _ _ _ _ _ h
        · replace h := ite_p h c52
          refine V_aload_n hM.c 0 dL_holds_78 rfl rfl ?_
          refine V_iload_n hM.c 2 dL_holds_79 rfl rfl ?_
          replace h := bnd_some h
          obtain ⟨r53, g54, e55, h⟩ := h
          refine V_callV (As := [.int x2]) (c := 8) (T := TX10) (N := 10) hM.c hM.a mq_X10_confidence mi_X10_confidence tw_350 (hM.d (by decide)) hM.z rfl (by omega) (zc_X10_confidence e55) (vm_X10_confidence e55) rfl (Nat.le_of_ble_eq_true rfl) dL_holds_80 ?_
          refine V_ldcf (v := 3212836864) hM.c tw_205 dL_holds_83 ?_
          refine V_fcmpl hM.c dL_holds_85 ?_
          refine V_if_ne hM.c 103 dL_holds_86 (by decide) (fun c56 => ?_) (fun c56 => ?_)
          · replace h := ite_n h c56
            refine V_iconst (v := 0) hM.c dL_holds_103 (by decide) ?_
            refine V_istore (L' := [(4, .int (0 : Int32)), (0, va_rf (some x0)), (1, .int x1), (2, .int x2), (3, .int x3)]) hM.c dL_holds_104 (by decide) rfl ?_
            refine V_iconst (v := 1) hM.c dL_holds_106 (by decide) ?_
            refine V_istore (L' := [(5, .int (1 : Int32)), (4, .int (0 : Int32)), (0, va_rf (some x0)), (1, .int x1), (2, .int x2), (3, .int x3)]) hM.c dL_holds_107 (by decide) rfl ?_
            refine V_sub [2, 3, 4, 5, 1, 0] rfl ?_
            exact vl_L_holds_l109 hM  _ _ _ _ _ _ _ _ h
          · replace h := ite_p h c56
            refine V_aload_n hM.c 0 dL_holds_89 rfl rfl ?_
            refine V_bipush (v := 16) hM.c dL_holds_90 (by decide) ?_
            replace h := bnd_some h
            obtain ⟨r57, g58, e59, h⟩ := h
            refine V_callV (As := [.int (16 : Int32)]) (c := 8) (T := TX10) (N := 10) hM.c hM.a mq_X10_tableOf mi_X10_tableOf tw_17 (hM.d (by decide)) hM.z rfl (by omega) (zc_X10_tableOf e59) (vm_X10_tableOf e59) rfl (Nat.le_of_ble_eq_true rfl) dL_holds_92 ?_
            refine V_iconst (v := -1) hM.c dL_holds_95 (by decide) ?_
            refine V_icmp_ne hM.c 103 dL_holds_96 (by decide) (fun c60 => ?_) (fun c60 => ?_)
            · replace h := ite_n h c60
              refine V_iconst (v := 0) hM.c dL_holds_103 (by decide) ?_
              refine V_istore (L' := [(4, .int (0 : Int32)), (0, va_rf (some x0)), (1, .int x1), (2, .int x2), (3, .int x3)]) hM.c dL_holds_104 (by decide) rfl ?_
              refine V_iconst (v := 1) hM.c dL_holds_106 (by decide) ?_
              refine V_istore (L' := [(5, .int (1 : Int32)), (4, .int (0 : Int32)), (0, va_rf (some x0)), (1, .int x1), (2, .int x2), (3, .int x3)]) hM.c dL_holds_107 (by decide) rfl ?_
              refine V_sub [2, 3, 4, 5, 1, 0] rfl ?_
              exact vl_L_holds_l109 hM  _ _ _ _ _ _ _ _ h
            · replace h := ite_p h c60
              refine V_iconst (v := 1) hM.c dL_holds_99 (by decide) ?_
              refine V_goto hM.c 104 dL_holds_100 (by decide) ?_
              refine V_istore (L' := [(4, .int (1 : Int32)), (0, va_rf (some x0)), (1, .int x1), (2, .int x2), (3, .int x3)]) hM.c dL_holds_104 (by decide) rfl ?_
              refine V_iconst (v := 1) hM.c dL_holds_106 (by decide) ?_
              refine V_istore (L' := [(5, .int (1 : Int32)), (4, .int (1 : Int32)), (0, va_rf (some x0)), (1, .int x1), (2, .int x2), (3, .int x3)]) hM.c dL_holds_107 (by decide) rfl ?_
              refine V_sub [2, 3, 4, 5, 1, 0] rfl ?_
              exact vl_L_holds_l109 hM  _ _ _ _ _ _ _ _ h
def f_L_holds_l30 (n : Nat) (Z : Zt) (x0 : Nat) (x1 : Int32) (x2 : Int32) (x3 : Int32) (s0 : Int32) (g : Mem) : Option (Int32 × Mem) := bnd (f_X10_queryLength n Z x0 g) (fun r12 g13 => if r12 ≤ 0 then (f_L_holds_l42 n Z x0 x1 x2 x3 (0 : Int32) s0 g13) else (f_L_holds_l42 n Z x0 x1 x2 x3 (1 : Int32) s0 g13))
set_option maxHeartbeats 4000000 in
set_option maxRecDepth 100000 in
theorem vl_L_holds_l30 {x : Cq} {n : Nat} {Z : Zt} {x0 : Nat} {x1 : Int32} {x2 : Int32} {x3 : Int32} {s0 : Int32} {g : Mem} {rr : Int32} {gg : Mem} (hM : Cm x cL_holds RL 13 (some .boolean) 44 Z (some (.int rr)) gg) (h : f_L_holds_l30 n Z x0 x1 x2 x3 s0 g = some (rr, gg)) : V x Z 0 0 30 [(0, va_rf (some x0)), (1, .int x1), (2, .int x2), (3, .int x3)] [.int s0] g := by
  unfold f_L_holds_l30 at h
  refine V_aload_n hM.c 0 dL_holds_30 rfl rfl ?_
  replace h := bnd_some h
  obtain ⟨r12, g13, e14, h⟩ := h
  refine V_callV (As := []) (c := 8) (T := TX10) (N := 10) hM.c hM.a mq_X10_queryLength mi_X10_queryLength tw_72 (hM.d (by decide)) hM.z rfl (by omega) (zc_X10_queryLength e14) (vm_X10_queryLength e14) rfl (Nat.le_of_ble_eq_true rfl) dL_holds_31 ?_
  refine V_if_le hM.c 41 dL_holds_34 (by decide) (fun c15 => ?_) (fun c15 => ?_)
  · replace h := ite_p h c15
    refine V_iconst (v := 0) hM.c dL_holds_41 (by decide) ?_
    refine V_sub [0, 1, 2, 3] rfl ?_
    exact vl_L_holds_l42 hM  h
  · replace h := ite_n h c15
    refine V_iconst (v := 1) hM.c dL_holds_37 (by decide) ?_
    refine V_goto hM.c 42 dL_holds_38 (by decide) ?_
    refine V_sub [0, 1, 2, 3] rfl ?_
    exact vl_L_holds_l42 hM  h
def f_L_holds (n : Nat) (Z : Zt) (x0 : Nat) (x1 : Int32) (g : Mem) : Option (Int32 × Mem) := bnd (f_X10_answerRows n Z x0 g) (fun r1 g2 => bnd (f_X10_answerColumns n Z x0 g2) (fun r4 g5 => if (32 : Int32) < r1 then (f_L_holds_l109 n Z n x0 x1 r1 r4 (0 : Int32) (1 : Int32) g5) else (if (4 : Int32) < r4 then (f_L_holds_l109 n Z n x0 x1 r1 r4 (0 : Int32) (1 : Int32) g5) else (if r4 ≤ 0 then (f_L_holds_l30 n Z x0 x1 r1 r4 (0 : Int32) g5) else (f_L_holds_l30 n Z x0 x1 r1 r4 (1 : Int32) g5)))))
theorem mq_L_holds : Mq yL_holds cL_holds 13 (some .boolean) 2 := ⟨tw_1880, tw_409, ⟨by decide +kernel, by decide +kernel, by decide +kernel⟩, by decide⟩
theorem mi_L_holds : Cond.static yL_holds ∈ TB := tw_1878
set_option maxHeartbeats 4000000 in
set_option maxRecDepth 100000 in
theorem vm_L_holds {n : Nat} {Z : Zt} {x0 : Nat} {x1 : Int32} {g : Mem} {rr : Int32} {gg : Mem} (h : f_L_holds n Z x0 x1 g = some (rr, gg)) : VM yL_holds cL_holds 13 (some .boolean) 44 [va_rf (some x0), .int x1] Z g (some (.int rr)) gg := by
  unfold f_L_holds at h
  refine VM.of (by decide +kernel) (Nat.le_of_ble_eq_true rfl) (fun x hM => ?_)
  have hM : Cm x cL_holds RL 13 (some .boolean) 44 Z (some (.int rr)) gg := hM
  show V x Z 0 0 0 [(0, va_rf (some x0)), (1, .int x1)] [] g
  refine V_aload_n hM.c 0 dL_holds_0 rfl rfl ?_
  replace h := bnd_some h
  obtain ⟨r1, g2, e3, h⟩ := h
  refine V_callV (As := []) (c := 8) (T := TX10) (N := 10) hM.c hM.a mq_X10_answerRows mi_X10_answerRows tw_96 (hM.d (by decide)) hM.z rfl (by omega) (zc_X10_answerRows e3) (vm_X10_answerRows e3) rfl (Nat.le_of_ble_eq_true rfl) dL_holds_1 ?_
  refine V_istore_n (i := 2) (L' := [(2, .int r1), (0, va_rf (some x0)), (1, .int x1)]) hM.c dL_holds_4 rfl (by decide) rfl ?_
  refine V_aload_n hM.c 1 dL_holds_5 rfl rfl ?_
  replace h := bnd_some h
  obtain ⟨r4, g5, e6, h⟩ := h
  refine V_callV (As := []) (c := 8) (T := TX10) (N := 10) hM.c hM.a mq_X10_answerColumns mi_X10_answerColumns tw_113 (hM.d (by decide)) hM.z rfl (by omega) (zc_X10_answerColumns e6) (vm_X10_answerColumns e6) rfl (Nat.le_of_ble_eq_true rfl) dL_holds_6 ?_
  refine V_istore_n (i := 3) (L' := [(3, .int r4), (2, .int r1), (0, va_rf (some x0)), (1, .int x1)]) hM.c dL_holds_9 rfl (by decide) rfl ?_
  refine V_iload_n hM.c 1 dL_holds_10 rfl rfl ?_
  refine V_bipush (v := 32) hM.c dL_holds_11 (by decide) ?_
  refine V_icmp_gt hM.c 103 dL_holds_13 (by decide) (fun c7 => ?_) (fun c7 => ?_)
  · replace h := ite_p h c7
    refine V_iconst (v := 0) hM.c dL_holds_103 (by decide) ?_
    refine V_istore (L' := [(4, .int (0 : Int32)), (3, .int r4), (2, .int r1), (0, va_rf (some x0)), (1, .int x1)]) hM.c dL_holds_104 (by decide) rfl ?_
    refine V_iconst (v := 1) hM.c dL_holds_106 (by decide) ?_
    refine V_istore (L' := [(5, .int (1 : Int32)), (4, .int (0 : Int32)), (3, .int r4), (2, .int r1), (0, va_rf (some x0)), (1, .int x1)]) hM.c dL_holds_107 (by decide) rfl ?_
    refine V_sub [4, 5, 3, 2, 1, 0] rfl ?_
    exact vl_L_holds_l109 hM  _ _ _ _ _ _ _ _ h
  · replace h := ite_n h c7
    refine V_iload_n hM.c 0 dL_holds_16 rfl rfl ?_
    refine V_iconst (v := 4) hM.c dL_holds_17 (by decide) ?_
    refine V_icmp_gt hM.c 103 dL_holds_18 (by decide) (fun c8 => ?_) (fun c8 => ?_)
    · replace h := ite_p h c8
      refine V_iconst (v := 0) hM.c dL_holds_103 (by decide) ?_
      refine V_istore (L' := [(4, .int (0 : Int32)), (3, .int r4), (2, .int r1), (0, va_rf (some x0)), (1, .int x1)]) hM.c dL_holds_104 (by decide) rfl ?_
      refine V_iconst (v := 1) hM.c dL_holds_106 (by decide) ?_
      refine V_istore (L' := [(5, .int (1 : Int32)), (4, .int (0 : Int32)), (3, .int r4), (2, .int r1), (0, va_rf (some x0)), (1, .int x1)]) hM.c dL_holds_107 (by decide) rfl ?_
      refine V_sub [4, 5, 3, 2, 1, 0] rfl ?_
      exact vl_L_holds_l109 hM  _ _ _ _ _ _ _ _ h
    · replace h := ite_n h c8
      refine V_iload_n hM.c 0 dL_holds_21 rfl rfl ?_
      refine V_if_le hM.c 29 dL_holds_22 (by decide) (fun c9 => ?_) (fun c9 => ?_)
      · replace h := ite_p h c9
        refine V_iconst (v := 0) hM.c dL_holds_29 (by decide) ?_
        refine V_sub [2, 3, 1, 0] rfl ?_
        exact vl_L_holds_l30 hM  h
      · replace h := ite_n h c9
        refine V_iconst (v := 1) hM.c dL_holds_25 (by decide) ?_
        refine V_goto hM.c 30 dL_holds_26 (by decide) ?_
        refine V_sub [2, 3, 1, 0] rfl ?_
        exact vl_L_holds_l30 hM  h
def f_L_types_l293 (n : Nat) (Z : Zt) (κ28 : Nat → Int32 → Int32 → Int32 → Int32 → Int32 → Int32 → Mem → Option (Int32 × Mem)) (x0 : Nat) (x1 : Int32) (x3 : Int32) (x4 : Int32) (x5 : Int32) (x6 : Int32) (g : Mem) : Option (Int32 × Mem) := κ28 x0 x1 (0 : Int32) (x3 + 1) x4 x5 (x6 + 1) g
set_option maxHeartbeats 4000000 in
set_option maxRecDepth 100000 in
theorem vl_L_types_l293 {x : Cq} {n : Nat} {Z : Zt} {κ28 : Nat → Int32 → Int32 → Int32 → Int32 → Int32 → Int32 → Mem → Option (Int32 × Mem)} {x0 : Nat} {x1 : Int32} {x3 : Int32} {x4 : Int32} {x5 : Int32} {x6 : Int32} {g : Mem} {rr : Int32} {gg : Mem} (hM : Cm x cL_types RL 8 (some .boolean) 2 Z (some (.int rr)) gg) (hκ28 : ∀ (y0 : Nat) (y1 : Int32) (y2 : Int32) (y3 : Int32) (y4 : Int32) (y5 : Int32) (y6 : Int32) (y : Mem), κ28 y0 y1 y2 y3 y4 y5 y6 y = some (rr, gg) → V x Z 0 0 28 [(0, va_rf (some y0)), (1, .int y1), (2, .int y2), (3, .int y3), (4, .int y4), (5, .int y5), (6, .int y6)] [] y) (h : f_L_types_l293 n Z κ28 x0 x1 x3 x4 x5 x6 g = some (rr, gg)) : V x Z 0 0 293 [(0, va_rf (some x0)), (1, .int x1), (3, .int x3), (4, .int x4), (5, .int x5), (6, .int x6)] [] g := by
  unfold f_L_types_l293 at h
  refine V_iconst (v := 0) hM.c dL_types_293 (by decide) ?_
  refine V_istore_n (i := 2) (L' := [(2, .int (0 : Int32)), (0, va_rf (some x0)), (1, .int x1), (3, .int x3), (4, .int x4), (5, .int x5), (6, .int x6)]) hM.c dL_types_294 rfl (by decide) rfl ?_
  refine V_iinc (v := (x3 + 1)) (L' := [(3, .int (x3 + 1)), (2, .int (0 : Int32)), (0, va_rf (some x0)), (1, .int x1), (4, .int x4), (5, .int x5), (6, .int x6)]) hM.c 3 dL_types_295 rfl rfl (by decide) rfl ?_
  refine V_iinc (v := (x6 + 1)) (L' := [(6, .int (x6 + 1)), (3, .int (x3 + 1)), (2, .int (0 : Int32)), (0, va_rf (some x0)), (1, .int x1), (4, .int x4), (5, .int x5)]) hM.c 6 dL_types_298 rfl rfl (by decide) rfl ?_
  refine V_goto hM.c 28 dL_types_301 (by decide) ?_
  refine V_sub [3, 4, 2, 1, 5, 6, 0] rfl ?_
  exact hκ28 _ _ _ _ _ _ _ _ h
def f_L_types_l251 (n : Nat) (Z : Zt) (κ28 : Nat → Int32 → Int32 → Int32 → Int32 → Int32 → Int32 → Mem → Option (Int32 × Mem)) (x0 : Nat) (x1 : Int32) (x3 : Int32) (x4 : Int32) (x5 : Int32) (x6 : Int32) (x7 : Int32) (s0 : Int32) (g : Mem) : Option (Int32 × Mem) := if x7 ≤ (1 : Int32) then (κ28 x0 x1 s0 (x3 + 1) x4 x5 (x6 + 1) g) else (if s0 = 0 then (f_L_types_l293 n Z κ28 x0 x1 x3 x4 x5 x6 g) else (bnd (f_L_low n Z (x4 >>> ((5 : Int32) &&& 31)) (4 : Int32) g) (fun r85 g86 => bnd (f_X10_append n Z x0 ((65 : Int32) + r85) g86) (fun r88 g89 => if r88 ≤ 0 then (f_L_types_l293 n Z κ28 x0 x1 x3 x4 x5 x6 g89) else (bnd (f_X10_append n Z x0 (44 : Int32) g89) (fun r92 g93 => if r92 ≤ 0 then (f_L_types_l293 n Z κ28 x0 x1 x3 x4 x5 x6 g93) else (κ28 x0 x1 (1 : Int32) (x3 + 1) x4 x5 (x6 + 1) g93)))))))
set_option maxHeartbeats 4000000 in
set_option maxRecDepth 100000 in
theorem vl_L_types_l251 {x : Cq} {n : Nat} {Z : Zt} {κ28 : Nat → Int32 → Int32 → Int32 → Int32 → Int32 → Int32 → Mem → Option (Int32 × Mem)} {x0 : Nat} {x1 : Int32} {x3 : Int32} {x4 : Int32} {x5 : Int32} {x6 : Int32} {x7 : Int32} {s0 : Int32} {g : Mem} {rr : Int32} {gg : Mem} (hM : Cm x cL_types RL 8 (some .boolean) 2 Z (some (.int rr)) gg) (hκ28 : ∀ (y0 : Nat) (y1 : Int32) (y2 : Int32) (y3 : Int32) (y4 : Int32) (y5 : Int32) (y6 : Int32) (y : Mem), κ28 y0 y1 y2 y3 y4 y5 y6 y = some (rr, gg) → V x Z 0 0 28 [(0, va_rf (some y0)), (1, .int y1), (2, .int y2), (3, .int y3), (4, .int y4), (5, .int y5), (6, .int y6)] [] y) (h : f_L_types_l251 n Z κ28 x0 x1 x3 x4 x5 x6 x7 s0 g = some (rr, gg)) : V x Z 0 0 251 [(0, va_rf (some x0)), (1, .int x1), (3, .int x3), (4, .int x4), (5, .int x5), (6, .int x6), (7, .int x7)] [.int s0] g := by
  unfold f_L_types_l251 at h
  refine V_istore_n (i := 2) (L' := [(2, .int s0), (0, va_rf (some x0)), (1, .int x1), (3, .int x3), (4, .int x4), (5, .int x5), (6, .int x6), (7, .int x7)]) hM.c dL_types_251 rfl (by decide) rfl ?_
  refine V_iload hM.c 7 dL_types_252 rfl ?_
  refine V_iconst (v := 1) hM.c dL_types_254 (by decide) ?_
  refine V_icmp_le hM.c 295 dL_types_255 (by decide) (fun c83 => ?_) (fun c83 => ?_)
  · replace h := ite_p h c83
    refine V_iinc (v := (x3 + 1)) (L' := [(3, .int (x3 + 1)), (2, .int s0), (0, va_rf (some x0)), (1, .int x1), (4, .int x4), (5, .int x5), (6, .int x6), (7, .int x7)]) hM.c 3 dL_types_295 rfl rfl (by decide) rfl ?_
    refine V_iinc (v := (x6 + 1)) (L' := [(6, .int (x6 + 1)), (3, .int (x3 + 1)), (2, .int s0), (0, va_rf (some x0)), (1, .int x1), (4, .int x4), (5, .int x5), (7, .int x7)]) hM.c 6 dL_types_298 rfl rfl (by decide) rfl ?_
    refine V_goto hM.c 28 dL_types_301 (by decide) ?_
    refine V_sub [3, 4, 2, 1, 5, 6, 0] rfl ?_
    exact hκ28 _ _ _ _ _ _ _ _ h
  · replace h := ite_n h c83
    refine V_iload_n hM.c 0 dL_types_258 rfl rfl ?_
    refine V_if_eq hM.c 293 dL_types_259 (by decide) (fun c84 => ?_) (fun c84 => ?_)
    · replace h := ite_p h c84
      refine V_sub [1, 2, 3, 4, 5, 6] rfl ?_
      exact vl_L_types_l293 hM hκ28 h
    · replace h := ite_n h c84
      refine V_aload_n hM.c 1 dL_types_262 rfl rfl ?_
      refine V_bipush (v := 65) hM.c dL_types_263 (by decide) ?_
      refine V_iload hM.c 4 dL_types_265 rfl ?_
      refine V_iconst (v := 5) hM.c dL_types_267 (by decide) ?_
      refine V_ishr hM.c dL_types_268 ?_
      refine V_iconst (v := 4) hM.c dL_types_269 (by decide) ?_
      replace h := bnd_some h
      obtain ⟨r85, g86, e87, h⟩ := h
      refine V_callS (As := [.int (x4 >>> ((5 : Int32) &&& 31)), .int (4 : Int32)]) hM.c hM.a mq_L_low mi_L_low tw_407 (hM.d (by decide)) hM.z (vm_L_low e87) rfl (Nat.le_of_ble_eq_true rfl) dL_types_270 ?_
      refine V_iadd hM.c dL_types_273 ?_
      replace h := bnd_some h
      obtain ⟨r88, g89, e90, h⟩ := h
      refine V_callV (As := [.int ((65 : Int32) + r85)]) (c := 8) (T := TX10) (N := 10) hM.c hM.a mq_X10_append mi_X10_append tw_531 (hM.d (by decide)) hM.z rfl (by omega) (zc_X10_append e90) (vm_X10_append e90) rfl (Nat.le_of_ble_eq_true rfl) dL_types_274 ?_
      refine V_if_le hM.c 293 dL_types_277 (by decide) (fun c91 => ?_) (fun c91 => ?_)
      · replace h := ite_p h c91
        refine V_sub [1, 2, 3, 4, 5, 6] rfl ?_
        exact vl_L_types_l293 hM hκ28 h
      · replace h := ite_n h c91
        refine V_aload_n hM.c 1 dL_types_280 rfl rfl ?_
        refine V_bipush (v := 44) hM.c dL_types_281 (by decide) ?_
        replace h := bnd_some h
        obtain ⟨r92, g93, e94, h⟩ := h
        refine V_callV (As := [.int (44 : Int32)]) (c := 8) (T := TX10) (N := 10) hM.c hM.a mq_X10_append mi_X10_append tw_531 (hM.d (by decide)) hM.z rfl (by omega) (zc_X10_append e94) (vm_X10_append e94) rfl (Nat.le_of_ble_eq_true rfl) dL_types_283 ?_
        refine V_if_le hM.c 293 dL_types_286 (by decide) (fun c95 => ?_) (fun c95 => ?_)
        · replace h := ite_p h c95
          refine V_sub [1, 2, 3, 4, 5, 6] rfl ?_
          exact vl_L_types_l293 hM hκ28 h
        · replace h := ite_n h c95
          refine V_iconst (v := 1) hM.c dL_types_289 (by decide) ?_
          refine V_goto hM.c 294 dL_types_290 (by decide) ?_
          refine V_istore_n (i := 2) (L' := [(2, .int (1 : Int32)), (0, va_rf (some x0)), (1, .int x1), (3, .int x3), (4, .int x4), (5, .int x5), (6, .int x6), (7, .int x7)]) hM.c dL_types_294 rfl (by decide) rfl ?_
          refine V_iinc (v := (x3 + 1)) (L' := [(3, .int (x3 + 1)), (2, .int (1 : Int32)), (0, va_rf (some x0)), (1, .int x1), (4, .int x4), (5, .int x5), (6, .int x6), (7, .int x7)]) hM.c 3 dL_types_295 rfl rfl (by decide) rfl ?_
          refine V_iinc (v := (x6 + 1)) (L' := [(6, .int (x6 + 1)), (3, .int (x3 + 1)), (2, .int (1 : Int32)), (0, va_rf (some x0)), (1, .int x1), (4, .int x4), (5, .int x5), (7, .int x7)]) hM.c 6 dL_types_298 rfl rfl (by decide) rfl ?_
          refine V_goto hM.c 28 dL_types_301 (by decide) ?_
          refine V_sub [3, 4, 2, 1, 5, 6, 0] rfl ?_
          exact hκ28 _ _ _ _ _ _ _ _ h
def f_L_types_l250 (n : Nat) (Z : Zt) (κ28 : Nat → Int32 → Int32 → Int32 → Int32 → Int32 → Int32 → Mem → Option (Int32 × Mem)) (x0 : Nat) (x1 : Int32) (x3 : Int32) (x4 : Int32) (x5 : Int32) (x6 : Int32) (x7 : Int32) (g : Mem) : Option (Int32 × Mem) := f_L_types_l251 n Z κ28 x0 x1 x3 x4 x5 x6 x7 (0 : Int32) g
set_option maxHeartbeats 4000000 in
set_option maxRecDepth 100000 in
theorem vl_L_types_l250 {x : Cq} {n : Nat} {Z : Zt} {κ28 : Nat → Int32 → Int32 → Int32 → Int32 → Int32 → Int32 → Mem → Option (Int32 × Mem)} {x0 : Nat} {x1 : Int32} {x3 : Int32} {x4 : Int32} {x5 : Int32} {x6 : Int32} {x7 : Int32} {g : Mem} {rr : Int32} {gg : Mem} (hM : Cm x cL_types RL 8 (some .boolean) 2 Z (some (.int rr)) gg) (hκ28 : ∀ (y0 : Nat) (y1 : Int32) (y2 : Int32) (y3 : Int32) (y4 : Int32) (y5 : Int32) (y6 : Int32) (y : Mem), κ28 y0 y1 y2 y3 y4 y5 y6 y = some (rr, gg) → V x Z 0 0 28 [(0, va_rf (some y0)), (1, .int y1), (2, .int y2), (3, .int y3), (4, .int y4), (5, .int y5), (6, .int y6)] [] y) (h : f_L_types_l250 n Z κ28 x0 x1 x3 x4 x5 x6 x7 g = some (rr, gg)) : V x Z 0 0 250 [(0, va_rf (some x0)), (1, .int x1), (3, .int x3), (4, .int x4), (5, .int x5), (6, .int x6), (7, .int x7)] [] g := by
  unfold f_L_types_l250 at h
  refine V_iconst (v := 0) hM.c dL_types_250 (by decide) ?_
  refine V_sub [0, 1, 2, 3, 4, 5, 6] rfl ?_
  exact vl_L_types_l251 hM hκ28 h
def f_L_types_l233 (n : Nat) (Z : Zt) (κ28 : Nat → Int32 → Int32 → Int32 → Int32 → Int32 → Int32 → Mem → Option (Int32 × Mem)) (x0 : Nat) (x1 : Int32) (x2 : Int32) (x3 : Int32) (x4 : Int32) (x5 : Int32) (x6 : Int32) (x7 : Int32) (g : Mem) : Option (Int32 × Mem) := if x2 = 0 then (f_L_types_l250 n Z κ28 x0 x1 x3 x4 x5 x6 x7 g) else (bnd (f_X10_append n Z x0 (40 : Int32) g) (fun r79 g80 => if r79 ≤ 0 then (f_L_types_l250 n Z κ28 x0 x1 x3 x4 x5 x6 x7 g80) else (f_L_types_l251 n Z κ28 x0 x1 x3 x4 x5 x6 x7 (1 : Int32) g80)))
set_option maxHeartbeats 4000000 in
set_option maxRecDepth 100000 in
theorem vl_L_types_l233 {x : Cq} {n : Nat} {Z : Zt} {κ28 : Nat → Int32 → Int32 → Int32 → Int32 → Int32 → Int32 → Mem → Option (Int32 × Mem)} {x0 : Nat} {x1 : Int32} {x2 : Int32} {x3 : Int32} {x4 : Int32} {x5 : Int32} {x6 : Int32} {x7 : Int32} {g : Mem} {rr : Int32} {gg : Mem} (hM : Cm x cL_types RL 8 (some .boolean) 2 Z (some (.int rr)) gg) (hκ28 : ∀ (y0 : Nat) (y1 : Int32) (y2 : Int32) (y3 : Int32) (y4 : Int32) (y5 : Int32) (y6 : Int32) (y : Mem), κ28 y0 y1 y2 y3 y4 y5 y6 y = some (rr, gg) → V x Z 0 0 28 [(0, va_rf (some y0)), (1, .int y1), (2, .int y2), (3, .int y3), (4, .int y4), (5, .int y5), (6, .int y6)] [] y) (h : f_L_types_l233 n Z κ28 x0 x1 x2 x3 x4 x5 x6 x7 g = some (rr, gg)) : V x Z 0 0 233 [(0, va_rf (some x0)), (1, .int x1), (2, .int x2), (3, .int x3), (4, .int x4), (5, .int x5), (6, .int x6), (7, .int x7)] [] g := by
  unfold f_L_types_l233 at h
  refine V_iload_n hM.c 2 dL_types_233 rfl rfl ?_
  refine V_if_eq hM.c 250 dL_types_234 (by decide) (fun c78 => ?_) (fun c78 => ?_)
  · replace h := ite_p h c78
    refine V_sub [0, 1, 3, 4, 5, 6, 7] rfl ?_
    exact vl_L_types_l250 hM hκ28 h
  · replace h := ite_n h c78
    refine V_aload_n hM.c 0 dL_types_237 rfl rfl ?_
    refine V_bipush (v := 40) hM.c dL_types_238 (by decide) ?_
    replace h := bnd_some h
    obtain ⟨r79, g80, e81, h⟩ := h
    refine V_callV (As := [.int (40 : Int32)]) (c := 8) (T := TX10) (N := 10) hM.c hM.a mq_X10_append mi_X10_append tw_531 (hM.d (by decide)) hM.z rfl (by omega) (zc_X10_append e81) (vm_X10_append e81) rfl (Nat.le_of_ble_eq_true rfl) dL_types_240 ?_
    refine V_if_le hM.c 250 dL_types_243 (by decide) (fun c82 => ?_) (fun c82 => ?_)
    · replace h := ite_p h c82
      refine V_sub [0, 1, 3, 4, 5, 6, 7] rfl ?_
      exact vl_L_types_l250 hM hκ28 h
    · replace h := ite_n h c82
      refine V_iconst (v := 1) hM.c dL_types_246 (by decide) ?_
      refine V_goto hM.c 251 dL_types_247 (by decide) ?_
      refine V_sub [0, 1, 3, 4, 5, 6, 7] rfl ?_
      exact vl_L_types_l251 hM hκ28 h
def f_L_types_l232 (n : Nat) (Z : Zt) (κ28 : Nat → Int32 → Int32 → Int32 → Int32 → Int32 → Int32 → Mem → Option (Int32 × Mem)) (x0 : Nat) (x1 : Int32) (x3 : Int32) (x4 : Int32) (x5 : Int32) (x6 : Int32) (x7 : Int32) (s0 : Int32) (g : Mem) : Option (Int32 × Mem) := f_L_types_l233 n Z κ28 x0 x1 s0 x3 x4 x5 x6 x7 g
set_option maxHeartbeats 4000000 in
set_option maxRecDepth 100000 in
theorem vl_L_types_l232 {x : Cq} {n : Nat} {Z : Zt} {κ28 : Nat → Int32 → Int32 → Int32 → Int32 → Int32 → Int32 → Mem → Option (Int32 × Mem)} {x0 : Nat} {x1 : Int32} {x3 : Int32} {x4 : Int32} {x5 : Int32} {x6 : Int32} {x7 : Int32} {s0 : Int32} {g : Mem} {rr : Int32} {gg : Mem} (hM : Cm x cL_types RL 8 (some .boolean) 2 Z (some (.int rr)) gg) (hκ28 : ∀ (y0 : Nat) (y1 : Int32) (y2 : Int32) (y3 : Int32) (y4 : Int32) (y5 : Int32) (y6 : Int32) (y : Mem), κ28 y0 y1 y2 y3 y4 y5 y6 y = some (rr, gg) → V x Z 0 0 28 [(0, va_rf (some y0)), (1, .int y1), (2, .int y2), (3, .int y3), (4, .int y4), (5, .int y5), (6, .int y6)] [] y) (h : f_L_types_l232 n Z κ28 x0 x1 x3 x4 x5 x6 x7 s0 g = some (rr, gg)) : V x Z 0 0 232 [(0, va_rf (some x0)), (1, .int x1), (3, .int x3), (4, .int x4), (5, .int x5), (6, .int x6), (7, .int x7)] [.int s0] g := by
  unfold f_L_types_l232 at h
  refine V_istore_n (i := 2) (L' := [(2, .int s0), (0, va_rf (some x0)), (1, .int x1), (3, .int x3), (4, .int x4), (5, .int x5), (6, .int x6), (7, .int x7)]) hM.c dL_types_232 rfl (by decide) rfl ?_
  refine V_sub [1, 2, 0, 3, 4, 5, 6, 7] rfl ?_
  exact vl_L_types_l233 hM hκ28 h
def f_L_types_l231 (n : Nat) (Z : Zt) (κ28 : Nat → Int32 → Int32 → Int32 → Int32 → Int32 → Int32 → Mem → Option (Int32 × Mem)) (x0 : Nat) (x1 : Int32) (x3 : Int32) (x4 : Int32) (x5 : Int32) (x6 : Int32) (x7 : Int32) (g : Mem) : Option (Int32 × Mem) := f_L_types_l232 n Z κ28 x0 x1 x3 x4 x5 x6 x7 (0 : Int32) g
set_option maxHeartbeats 4000000 in
set_option maxRecDepth 100000 in
theorem vl_L_types_l231 {x : Cq} {n : Nat} {Z : Zt} {κ28 : Nat → Int32 → Int32 → Int32 → Int32 → Int32 → Int32 → Mem → Option (Int32 × Mem)} {x0 : Nat} {x1 : Int32} {x3 : Int32} {x4 : Int32} {x5 : Int32} {x6 : Int32} {x7 : Int32} {g : Mem} {rr : Int32} {gg : Mem} (hM : Cm x cL_types RL 8 (some .boolean) 2 Z (some (.int rr)) gg) (hκ28 : ∀ (y0 : Nat) (y1 : Int32) (y2 : Int32) (y3 : Int32) (y4 : Int32) (y5 : Int32) (y6 : Int32) (y : Mem), κ28 y0 y1 y2 y3 y4 y5 y6 y = some (rr, gg) → V x Z 0 0 28 [(0, va_rf (some y0)), (1, .int y1), (2, .int y2), (3, .int y3), (4, .int y4), (5, .int y5), (6, .int y6)] [] y) (h : f_L_types_l231 n Z κ28 x0 x1 x3 x4 x5 x6 x7 g = some (rr, gg)) : V x Z 0 0 231 [(0, va_rf (some x0)), (1, .int x1), (3, .int x3), (4, .int x4), (5, .int x5), (6, .int x6), (7, .int x7)] [] g := by
  unfold f_L_types_l231 at h
  refine V_iconst (v := 0) hM.c dL_types_231 (by decide) ?_
  refine V_sub [0, 1, 2, 3, 4, 5, 6] rfl ?_
  exact vl_L_types_l232 hM hκ28 h
def f_L_types_l205 (n : Nat) (Z : Zt) (κ28 : Nat → Int32 → Int32 → Int32 → Int32 → Int32 → Int32 → Mem → Option (Int32 × Mem)) (x0 : Nat) (x1 : Int32) (x2 : Int32) (x3 : Int32) (x4 : Int32) (x5 : Int32) (x6 : Int32) (x7 : Int32) (g : Mem) : Option (Int32 × Mem) := if x2 = 0 then (f_L_types_l231 n Z κ28 x0 x1 x3 x4 x5 x6 x7 g) else (bnd (f_L_low n Z (x4 >>> ((4 : Int32) &&& 31)) (2 : Int32) g) (fun r71 g72 => bnd (f_X10_append n Z x0 ((48 : Int32) + r71) g72) (fun r74 g75 => if r74 ≤ 0 then (f_L_types_l231 n Z κ28 x0 x1 x3 x4 x5 x6 x7 g75) else (f_L_types_l232 n Z κ28 x0 x1 x3 x4 x5 x6 x7 (1 : Int32) g75))))
set_option maxHeartbeats 4000000 in
set_option maxRecDepth 100000 in
theorem vl_L_types_l205 {x : Cq} {n : Nat} {Z : Zt} {κ28 : Nat → Int32 → Int32 → Int32 → Int32 → Int32 → Int32 → Mem → Option (Int32 × Mem)} {x0 : Nat} {x1 : Int32} {x2 : Int32} {x3 : Int32} {x4 : Int32} {x5 : Int32} {x6 : Int32} {x7 : Int32} {g : Mem} {rr : Int32} {gg : Mem} (hM : Cm x cL_types RL 8 (some .boolean) 2 Z (some (.int rr)) gg) (hκ28 : ∀ (y0 : Nat) (y1 : Int32) (y2 : Int32) (y3 : Int32) (y4 : Int32) (y5 : Int32) (y6 : Int32) (y : Mem), κ28 y0 y1 y2 y3 y4 y5 y6 y = some (rr, gg) → V x Z 0 0 28 [(0, va_rf (some y0)), (1, .int y1), (2, .int y2), (3, .int y3), (4, .int y4), (5, .int y5), (6, .int y6)] [] y) (h : f_L_types_l205 n Z κ28 x0 x1 x2 x3 x4 x5 x6 x7 g = some (rr, gg)) : V x Z 0 0 205 [(0, va_rf (some x0)), (1, .int x1), (2, .int x2), (3, .int x3), (4, .int x4), (5, .int x5), (6, .int x6), (7, .int x7)] [] g := by
  unfold f_L_types_l205 at h
  refine V_iload_n hM.c 2 dL_types_205 rfl rfl ?_
  refine V_if_eq hM.c 231 dL_types_206 (by decide) (fun c70 => ?_) (fun c70 => ?_)
  · replace h := ite_p h c70
    refine V_sub [0, 1, 3, 4, 5, 6, 7] rfl ?_
    exact vl_L_types_l231 hM hκ28 h
  · replace h := ite_n h c70
    refine V_aload_n hM.c 0 dL_types_209 rfl rfl ?_
    refine V_bipush (v := 48) hM.c dL_types_210 (by decide) ?_
    refine V_iload hM.c 4 dL_types_212 rfl ?_
    refine V_iconst (v := 4) hM.c dL_types_214 (by decide) ?_
    refine V_ishr hM.c dL_types_215 ?_
    refine V_iconst (v := 2) hM.c dL_types_216 (by decide) ?_
    replace h := bnd_some h
    obtain ⟨r71, g72, e73, h⟩ := h
    refine V_callS (As := [.int (x4 >>> ((4 : Int32) &&& 31)), .int (2 : Int32)]) hM.c hM.a mq_L_low mi_L_low tw_407 (hM.d (by decide)) hM.z (vm_L_low e73) rfl (Nat.le_of_ble_eq_true rfl) dL_types_217 ?_
    refine V_iadd hM.c dL_types_220 ?_
    replace h := bnd_some h
    obtain ⟨r74, g75, e76, h⟩ := h
    refine V_callV (As := [.int ((48 : Int32) + r71)]) (c := 8) (T := TX10) (N := 10) hM.c hM.a mq_X10_append mi_X10_append tw_531 (hM.d (by decide)) hM.z rfl (by omega) (zc_X10_append e76) (vm_X10_append e76) rfl (Nat.le_of_ble_eq_true rfl) dL_types_221 ?_
    refine V_if_le hM.c 231 dL_types_224 (by decide) (fun c77 => ?_) (fun c77 => ?_)
    · replace h := ite_p h c77
      refine V_sub [0, 1, 3, 4, 5, 6, 7] rfl ?_
      exact vl_L_types_l231 hM hκ28 h
    · replace h := ite_n h c77
      refine V_iconst (v := 1) hM.c dL_types_227 (by decide) ?_
      refine V_goto hM.c 232 dL_types_228 (by decide) ?_
      refine V_sub [0, 1, 3, 4, 5, 6, 7] rfl ?_
      exact vl_L_types_l232 hM hκ28 h
def f_L_types_l194 (n : Nat) (Z : Zt) (κ28 : Nat → Int32 → Int32 → Int32 → Int32 → Int32 → Int32 → Mem → Option (Int32 × Mem)) (x0 : Nat) (x1 : Int32) (x2 : Int32) (x3 : Int32) (x4 : Int32) (x5 : Int32) (x6 : Int32) (x7 : Int32) (g : Mem) : Option (Int32 × Mem) := if x7 = 0 then (f_L_types_l205 n Z κ28 x0 x1 x2 x3 x4 x5 x6 x7 g) else (if x7 = (2 : Int32) then (f_L_types_l205 n Z κ28 x0 x1 x2 x3 x4 x5 x6 x7 g) else (f_L_types_l233 n Z κ28 x0 x1 x2 x3 x4 x5 x6 x7 g))
set_option maxHeartbeats 4000000 in
set_option maxRecDepth 100000 in
theorem vl_L_types_l194 {x : Cq} {n : Nat} {Z : Zt} {κ28 : Nat → Int32 → Int32 → Int32 → Int32 → Int32 → Int32 → Mem → Option (Int32 × Mem)} {x0 : Nat} {x1 : Int32} {x2 : Int32} {x3 : Int32} {x4 : Int32} {x5 : Int32} {x6 : Int32} {x7 : Int32} {g : Mem} {rr : Int32} {gg : Mem} (hM : Cm x cL_types RL 8 (some .boolean) 2 Z (some (.int rr)) gg) (hκ28 : ∀ (y0 : Nat) (y1 : Int32) (y2 : Int32) (y3 : Int32) (y4 : Int32) (y5 : Int32) (y6 : Int32) (y : Mem), κ28 y0 y1 y2 y3 y4 y5 y6 y = some (rr, gg) → V x Z 0 0 28 [(0, va_rf (some y0)), (1, .int y1), (2, .int y2), (3, .int y3), (4, .int y4), (5, .int y5), (6, .int y6)] [] y) (h : f_L_types_l194 n Z κ28 x0 x1 x2 x3 x4 x5 x6 x7 g = some (rr, gg)) : V x Z 0 0 194 [(0, va_rf (some x0)), (1, .int x1), (2, .int x2), (3, .int x3), (4, .int x4), (5, .int x5), (6, .int x6), (7, .int x7)] [] g := by
  unfold f_L_types_l194 at h
  refine V_iload hM.c 7 dL_types_194 rfl ?_
  refine V_if_eq hM.c 205 dL_types_196 (by decide) (fun c64 => ?_) (fun c64 => ?_)
  · replace h := ite_p h c64
    refine V_sub [0, 1, 2, 3, 4, 5, 6, 7] rfl ?_
    exact vl_L_types_l205 hM hκ28 h
  · replace h := ite_n h c64
    refine V_iload hM.c 7 dL_types_199 rfl ?_
    refine V_iconst (v := 2) hM.c dL_types_201 (by decide) ?_
    refine V_icmp_ne hM.c 233 dL_types_202 (by decide) (fun c65 => ?_) (fun c65 => ?_)
    · replace h := ite_n h c65
      refine V_sub [0, 1, 2, 3, 4, 5, 6, 7] rfl ?_
      exact vl_L_types_l233 hM hκ28 h
    · replace h := ite_p h c65
      refine V_sub [0, 1, 2, 3, 4, 5, 6, 7] rfl ?_
      exact vl_L_types_l205 hM hκ28 h
def f_L_types_l193 (n : Nat) (Z : Zt) (κ28 : Nat → Int32 → Int32 → Int32 → Int32 → Int32 → Int32 → Mem → Option (Int32 × Mem)) (x0 : Nat) (x1 : Int32) (x3 : Int32) (x4 : Int32) (x5 : Int32) (x6 : Int32) (x7 : Int32) (s0 : Int32) (g : Mem) : Option (Int32 × Mem) := f_L_types_l194 n Z κ28 x0 x1 s0 x3 x4 x5 x6 x7 g
set_option maxHeartbeats 4000000 in
set_option maxRecDepth 100000 in
theorem vl_L_types_l193 {x : Cq} {n : Nat} {Z : Zt} {κ28 : Nat → Int32 → Int32 → Int32 → Int32 → Int32 → Int32 → Mem → Option (Int32 × Mem)} {x0 : Nat} {x1 : Int32} {x3 : Int32} {x4 : Int32} {x5 : Int32} {x6 : Int32} {x7 : Int32} {s0 : Int32} {g : Mem} {rr : Int32} {gg : Mem} (hM : Cm x cL_types RL 8 (some .boolean) 2 Z (some (.int rr)) gg) (hκ28 : ∀ (y0 : Nat) (y1 : Int32) (y2 : Int32) (y3 : Int32) (y4 : Int32) (y5 : Int32) (y6 : Int32) (y : Mem), κ28 y0 y1 y2 y3 y4 y5 y6 y = some (rr, gg) → V x Z 0 0 28 [(0, va_rf (some y0)), (1, .int y1), (2, .int y2), (3, .int y3), (4, .int y4), (5, .int y5), (6, .int y6)] [] y) (h : f_L_types_l193 n Z κ28 x0 x1 x3 x4 x5 x6 x7 s0 g = some (rr, gg)) : V x Z 0 0 193 [(0, va_rf (some x0)), (1, .int x1), (3, .int x3), (4, .int x4), (5, .int x5), (6, .int x6), (7, .int x7)] [.int s0] g := by
  unfold f_L_types_l193 at h
  refine V_istore_n (i := 2) (L' := [(2, .int s0), (0, va_rf (some x0)), (1, .int x1), (3, .int x3), (4, .int x4), (5, .int x5), (6, .int x6), (7, .int x7)]) hM.c dL_types_193 rfl (by decide) rfl ?_
  refine V_sub [1, 2, 0, 3, 4, 5, 6, 7] rfl ?_
  exact vl_L_types_l194 hM hκ28 h
def f_L_types_l192 (n : Nat) (Z : Zt) (κ28 : Nat → Int32 → Int32 → Int32 → Int32 → Int32 → Int32 → Mem → Option (Int32 × Mem)) (x0 : Nat) (x1 : Int32) (x3 : Int32) (x4 : Int32) (x5 : Int32) (x6 : Int32) (x7 : Int32) (g : Mem) : Option (Int32 × Mem) := f_L_types_l193 n Z κ28 x0 x1 x3 x4 x5 x6 x7 (0 : Int32) g
set_option maxHeartbeats 4000000 in
set_option maxRecDepth 100000 in
theorem vl_L_types_l192 {x : Cq} {n : Nat} {Z : Zt} {κ28 : Nat → Int32 → Int32 → Int32 → Int32 → Int32 → Int32 → Mem → Option (Int32 × Mem)} {x0 : Nat} {x1 : Int32} {x3 : Int32} {x4 : Int32} {x5 : Int32} {x6 : Int32} {x7 : Int32} {g : Mem} {rr : Int32} {gg : Mem} (hM : Cm x cL_types RL 8 (some .boolean) 2 Z (some (.int rr)) gg) (hκ28 : ∀ (y0 : Nat) (y1 : Int32) (y2 : Int32) (y3 : Int32) (y4 : Int32) (y5 : Int32) (y6 : Int32) (y : Mem), κ28 y0 y1 y2 y3 y4 y5 y6 y = some (rr, gg) → V x Z 0 0 28 [(0, va_rf (some y0)), (1, .int y1), (2, .int y2), (3, .int y3), (4, .int y4), (5, .int y5), (6, .int y6)] [] y) (h : f_L_types_l192 n Z κ28 x0 x1 x3 x4 x5 x6 x7 g = some (rr, gg)) : V x Z 0 0 192 [(0, va_rf (some x0)), (1, .int x1), (3, .int x3), (4, .int x4), (5, .int x5), (6, .int x6), (7, .int x7)] [] g := by
  unfold f_L_types_l192 at h
  refine V_iconst (v := 0) hM.c dL_types_192 (by decide) ?_
  refine V_sub [0, 1, 2, 3, 4, 5, 6] rfl ?_
  exact vl_L_types_l193 hM hκ28 h
def f_L_types_l182 (n : Nat) (Z : Zt) (κ28 : Nat → Int32 → Int32 → Int32 → Int32 → Int32 → Int32 → Mem → Option (Int32 × Mem)) (x0 : Nat) (x1 : Int32) (x3 : Int32) (x4 : Int32) (x5 : Int32) (x6 : Int32) (x7 : Int32) (s0 : Int32) (s1 : Nat) (g : Mem) : Option (Int32 × Mem) := bnd (f_X10_append n Z s1 s0 g) (fun r66 g67 => if r66 ≤ 0 then (f_L_types_l192 n Z κ28 x0 x1 x3 x4 x5 x6 x7 g67) else (f_L_types_l193 n Z κ28 x0 x1 x3 x4 x5 x6 x7 (1 : Int32) g67))
set_option maxHeartbeats 4000000 in
set_option maxRecDepth 100000 in
theorem vl_L_types_l182 {x : Cq} {n : Nat} {Z : Zt} {κ28 : Nat → Int32 → Int32 → Int32 → Int32 → Int32 → Int32 → Mem → Option (Int32 × Mem)} {x0 : Nat} {x1 : Int32} {x3 : Int32} {x4 : Int32} {x5 : Int32} {x6 : Int32} {x7 : Int32} {s0 : Int32} {s1 : Nat} {g : Mem} {rr : Int32} {gg : Mem} (hM : Cm x cL_types RL 8 (some .boolean) 2 Z (some (.int rr)) gg) (hκ28 : ∀ (y0 : Nat) (y1 : Int32) (y2 : Int32) (y3 : Int32) (y4 : Int32) (y5 : Int32) (y6 : Int32) (y : Mem), κ28 y0 y1 y2 y3 y4 y5 y6 y = some (rr, gg) → V x Z 0 0 28 [(0, va_rf (some y0)), (1, .int y1), (2, .int y2), (3, .int y3), (4, .int y4), (5, .int y5), (6, .int y6)] [] y) (h : f_L_types_l182 n Z κ28 x0 x1 x3 x4 x5 x6 x7 s0 s1 g = some (rr, gg)) : V x Z 0 0 182 [(0, va_rf (some x0)), (1, .int x1), (3, .int x3), (4, .int x4), (5, .int x5), (6, .int x6), (7, .int x7)] [.int s0, va_rf (some s1)] g := by
  unfold f_L_types_l182 at h
  replace h := bnd_some h
  obtain ⟨r66, g67, e68, h⟩ := h
  refine V_callV (As := [.int s0]) (c := 8) (T := TX10) (N := 10) hM.c hM.a mq_X10_append mi_X10_append tw_531 (hM.d (by decide)) hM.z rfl (by omega) (zc_X10_append e68) (vm_X10_append e68) rfl (Nat.le_of_ble_eq_true rfl) dL_types_182 ?_
  refine V_if_le hM.c 192 dL_types_185 (by decide) (fun c69 => ?_) (fun c69 => ?_)
  · replace h := ite_p h c69
    refine V_sub [0, 1, 2, 3, 4, 5, 6] rfl ?_
    exact vl_L_types_l192 hM hκ28 h
  · replace h := ite_n h c69
    refine V_iconst (v := 1) hM.c dL_types_188 (by decide) ?_
    refine V_goto hM.c 193 dL_types_189 (by decide) ?_
    refine V_sub [0, 1, 2, 3, 4, 5, 6] rfl ?_
    exact vl_L_types_l193 hM hκ28 h
def f_L_types_l154 (n : Nat) (Z : Zt) (κ28 : Nat → Int32 → Int32 → Int32 → Int32 → Int32 → Int32 → Mem → Option (Int32 × Mem)) (x0 : Nat) (x1 : Int32) (x2 : Int32) (x3 : Int32) (x4 : Int32) (x5 : Int32) (x6 : Int32) (x7 : Int32) (g : Mem) : Option (Int32 × Mem) := if x7 = 0 then (if x2 = 0 then (f_L_types_l192 n Z κ28 x0 x1 x3 x4 x5 x6 x7 g) else (bnd (f_L_low n Z (x4 >>> ((3 : Int32) &&& 31)) (2 : Int32) g) (fun r45 g46 => if r45 = 0 then (f_L_types_l182 n Z κ28 x0 x1 x3 x4 x5 x6 x7 (61 : Int32) x0 g46) else (f_L_types_l182 n Z κ28 x0 x1 x3 x4 x5 x6 x7 (126 : Int32) x0 g46)))) else (f_L_types_l194 n Z κ28 x0 x1 x2 x3 x4 x5 x6 x7 g)
set_option maxHeartbeats 4000000 in
set_option maxRecDepth 100000 in
theorem vl_L_types_l154 {x : Cq} {n : Nat} {Z : Zt} {κ28 : Nat → Int32 → Int32 → Int32 → Int32 → Int32 → Int32 → Mem → Option (Int32 × Mem)} {x0 : Nat} {x1 : Int32} {x2 : Int32} {x3 : Int32} {x4 : Int32} {x5 : Int32} {x6 : Int32} {x7 : Int32} {g : Mem} {rr : Int32} {gg : Mem} (hM : Cm x cL_types RL 8 (some .boolean) 2 Z (some (.int rr)) gg) (hκ28 : ∀ (y0 : Nat) (y1 : Int32) (y2 : Int32) (y3 : Int32) (y4 : Int32) (y5 : Int32) (y6 : Int32) (y : Mem), κ28 y0 y1 y2 y3 y4 y5 y6 y = some (rr, gg) → V x Z 0 0 28 [(0, va_rf (some y0)), (1, .int y1), (2, .int y2), (3, .int y3), (4, .int y4), (5, .int y5), (6, .int y6)] [] y) (h : f_L_types_l154 n Z κ28 x0 x1 x2 x3 x4 x5 x6 x7 g = some (rr, gg)) : V x Z 0 0 154 [(0, va_rf (some x0)), (1, .int x1), (2, .int x2), (3, .int x3), (4, .int x4), (5, .int x5), (6, .int x6), (7, .int x7)] [] g := by
  unfold f_L_types_l154 at h
  refine V_iload hM.c 7 dL_types_154 rfl ?_
  refine V_if_ne hM.c 194 dL_types_156 (by decide) (fun c43 => ?_) (fun c43 => ?_)
  · replace h := ite_n h c43
    refine V_sub [0, 1, 2, 3, 4, 5, 6, 7] rfl ?_
    exact vl_L_types_l194 hM hκ28 h
  · replace h := ite_p h c43
    refine V_iload_n hM.c 2 dL_types_159 rfl rfl ?_
    refine V_if_eq hM.c 192 dL_types_160 (by decide) (fun c44 => ?_) (fun c44 => ?_)
    · replace h := ite_p h c44
      refine V_sub [0, 1, 3, 4, 5, 6, 7] rfl ?_
      exact vl_L_types_l192 hM hκ28 h
    · replace h := ite_n h c44
      refine V_aload_n hM.c 0 dL_types_163 rfl rfl ?_
      refine V_iload hM.c 4 dL_types_164 rfl ?_
      refine V_iconst (v := 3) hM.c dL_types_166 (by decide) ?_
      refine V_ishr hM.c dL_types_167 ?_
      refine V_iconst (v := 2) hM.c dL_types_168 (by decide) ?_
      replace h := bnd_some h
      obtain ⟨r45, g46, e47, h⟩ := h
      refine V_callS (As := [.int (x4 >>> ((3 : Int32) &&& 31)), .int (2 : Int32)]) hM.c hM.a mq_L_low mi_L_low tw_407 (hM.d (by decide)) hM.z (vm_L_low e47) rfl (Nat.le_of_ble_eq_true rfl) dL_types_169 ?_
      refine V_if_ne hM.c 180 dL_types_172 (by decide) (fun c48 => ?_) (fun c48 => ?_)
      · replace h := ite_n h c48
        refine V_bipush (v := 126) hM.c dL_types_180 (by decide) ?_
        refine V_sub [0, 1, 3, 4, 5, 6, 7] rfl ?_
        exact vl_L_types_l182 hM hκ28 h
      · replace h := ite_p h c48
        refine V_bipush (v := 61) hM.c dL_types_175 (by decide) ?_
        refine V_goto hM.c 182 dL_types_177 (by decide) ?_
        refine V_sub [0, 1, 3, 4, 5, 6, 7] rfl ?_
        exact vl_L_types_l182 hM hκ28 h
def f_L_types_l153 (n : Nat) (Z : Zt) (κ28 : Nat → Int32 → Int32 → Int32 → Int32 → Int32 → Int32 → Mem → Option (Int32 × Mem)) (x0 : Nat) (x1 : Int32) (x3 : Int32) (x4 : Int32) (x5 : Int32) (x6 : Int32) (x7 : Int32) (s0 : Int32) (g : Mem) : Option (Int32 × Mem) := f_L_types_l154 n Z κ28 x0 x1 s0 x3 x4 x5 x6 x7 g
set_option maxHeartbeats 4000000 in
set_option maxRecDepth 100000 in
theorem vl_L_types_l153 {x : Cq} {n : Nat} {Z : Zt} {κ28 : Nat → Int32 → Int32 → Int32 → Int32 → Int32 → Int32 → Mem → Option (Int32 × Mem)} {x0 : Nat} {x1 : Int32} {x3 : Int32} {x4 : Int32} {x5 : Int32} {x6 : Int32} {x7 : Int32} {s0 : Int32} {g : Mem} {rr : Int32} {gg : Mem} (hM : Cm x cL_types RL 8 (some .boolean) 2 Z (some (.int rr)) gg) (hκ28 : ∀ (y0 : Nat) (y1 : Int32) (y2 : Int32) (y3 : Int32) (y4 : Int32) (y5 : Int32) (y6 : Int32) (y : Mem), κ28 y0 y1 y2 y3 y4 y5 y6 y = some (rr, gg) → V x Z 0 0 28 [(0, va_rf (some y0)), (1, .int y1), (2, .int y2), (3, .int y3), (4, .int y4), (5, .int y5), (6, .int y6)] [] y) (h : f_L_types_l153 n Z κ28 x0 x1 x3 x4 x5 x6 x7 s0 g = some (rr, gg)) : V x Z 0 0 153 [(0, va_rf (some x0)), (1, .int x1), (3, .int x3), (4, .int x4), (5, .int x5), (6, .int x6), (7, .int x7)] [.int s0] g := by
  unfold f_L_types_l153 at h
  refine V_istore_n (i := 2) (L' := [(2, .int s0), (0, va_rf (some x0)), (1, .int x1), (3, .int x3), (4, .int x4), (5, .int x5), (6, .int x6), (7, .int x7)]) hM.c dL_types_153 rfl (by decide) rfl ?_
  refine V_sub [1, 2, 0, 3, 4, 5, 6, 7] rfl ?_
  exact vl_L_types_l154 hM hκ28 h
def f_L_types_l152 (n : Nat) (Z : Zt) (κ28 : Nat → Int32 → Int32 → Int32 → Int32 → Int32 → Int32 → Mem → Option (Int32 × Mem)) (x0 : Nat) (x1 : Int32) (x3 : Int32) (x4 : Int32) (x5 : Int32) (x6 : Int32) (x7 : Int32) (g : Mem) : Option (Int32 × Mem) := f_L_types_l153 n Z κ28 x0 x1 x3 x4 x5 x6 x7 (0 : Int32) g
set_option maxHeartbeats 4000000 in
set_option maxRecDepth 100000 in
theorem vl_L_types_l152 {x : Cq} {n : Nat} {Z : Zt} {κ28 : Nat → Int32 → Int32 → Int32 → Int32 → Int32 → Int32 → Mem → Option (Int32 × Mem)} {x0 : Nat} {x1 : Int32} {x3 : Int32} {x4 : Int32} {x5 : Int32} {x6 : Int32} {x7 : Int32} {g : Mem} {rr : Int32} {gg : Mem} (hM : Cm x cL_types RL 8 (some .boolean) 2 Z (some (.int rr)) gg) (hκ28 : ∀ (y0 : Nat) (y1 : Int32) (y2 : Int32) (y3 : Int32) (y4 : Int32) (y5 : Int32) (y6 : Int32) (y : Mem), κ28 y0 y1 y2 y3 y4 y5 y6 y = some (rr, gg) → V x Z 0 0 28 [(0, va_rf (some y0)), (1, .int y1), (2, .int y2), (3, .int y3), (4, .int y4), (5, .int y5), (6, .int y6)] [] y) (h : f_L_types_l152 n Z κ28 x0 x1 x3 x4 x5 x6 x7 g = some (rr, gg)) : V x Z 0 0 152 [(0, va_rf (some x0)), (1, .int x1), (3, .int x3), (4, .int x4), (5, .int x5), (6, .int x6), (7, .int x7)] [] g := by
  unfold f_L_types_l152 at h
  refine V_iconst (v := 0) hM.c dL_types_152 (by decide) ?_
  refine V_sub [0, 1, 2, 3, 4, 5, 6] rfl ?_
  exact vl_L_types_l153 hM hκ28 h
def f_L_types_l138 (n : Nat) (Z : Zt) (κ28 : Nat → Int32 → Int32 → Int32 → Int32 → Int32 → Int32 → Mem → Option (Int32 × Mem)) (x0 : Nat) (x1 : Int32) (x3 : Int32) (x4 : Int32) (x5 : Int32) (x6 : Int32) (x7 : Int32) (s0 : Int32) (s1 : Int32) (s2 : Int32) (s3 : Nat) (g : Mem) : Option (Int32 × Mem) := bnd (f_L_low n Z s1 s0 g) (fun r49 g50 => bnd (f_X10_append n Z s3 (s2 + r49) g50) (fun r52 g53 => if r52 ≤ 0 then (f_L_types_l152 n Z κ28 x0 x1 x3 x4 x5 x6 x7 g53) else (f_L_types_l153 n Z κ28 x0 x1 x3 x4 x5 x6 x7 (1 : Int32) g53)))
set_option maxHeartbeats 4000000 in
set_option maxRecDepth 100000 in
theorem vl_L_types_l138 {x : Cq} {n : Nat} {Z : Zt} {κ28 : Nat → Int32 → Int32 → Int32 → Int32 → Int32 → Int32 → Mem → Option (Int32 × Mem)} {x0 : Nat} {x1 : Int32} {x3 : Int32} {x4 : Int32} {x5 : Int32} {x6 : Int32} {x7 : Int32} {s0 : Int32} {s1 : Int32} {s2 : Int32} {s3 : Nat} {g : Mem} {rr : Int32} {gg : Mem} (hM : Cm x cL_types RL 8 (some .boolean) 2 Z (some (.int rr)) gg) (hκ28 : ∀ (y0 : Nat) (y1 : Int32) (y2 : Int32) (y3 : Int32) (y4 : Int32) (y5 : Int32) (y6 : Int32) (y : Mem), κ28 y0 y1 y2 y3 y4 y5 y6 y = some (rr, gg) → V x Z 0 0 28 [(0, va_rf (some y0)), (1, .int y1), (2, .int y2), (3, .int y3), (4, .int y4), (5, .int y5), (6, .int y6)] [] y) (h : f_L_types_l138 n Z κ28 x0 x1 x3 x4 x5 x6 x7 s0 s1 s2 s3 g = some (rr, gg)) : V x Z 0 0 138 [(0, va_rf (some x0)), (1, .int x1), (3, .int x3), (4, .int x4), (5, .int x5), (6, .int x6), (7, .int x7)] [.int s0, .int s1, .int s2, va_rf (some s3)] g := by
  unfold f_L_types_l138 at h
  replace h := bnd_some h
  obtain ⟨r49, g50, e51, h⟩ := h
  refine V_callS (As := [.int s1, .int s0]) hM.c hM.a mq_L_low mi_L_low tw_407 (hM.d (by decide)) hM.z (vm_L_low e51) rfl (Nat.le_of_ble_eq_true rfl) dL_types_138 ?_
  refine V_iadd hM.c dL_types_141 ?_
  replace h := bnd_some h
  obtain ⟨r52, g53, e54, h⟩ := h
  refine V_callV (As := [.int (s2 + r49)]) (c := 8) (T := TX10) (N := 10) hM.c hM.a mq_X10_append mi_X10_append tw_531 (hM.d (by decide)) hM.z rfl (by omega) (zc_X10_append e54) (vm_X10_append e54) rfl (Nat.le_of_ble_eq_true rfl) dL_types_142 ?_
  refine V_if_le hM.c 152 dL_types_145 (by decide) (fun c55 => ?_) (fun c55 => ?_)
  · replace h := ite_p h c55
    refine V_sub [0, 1, 2, 3, 4, 5, 6] rfl ?_
    exact vl_L_types_l152 hM hκ28 h
  · replace h := ite_n h c55
    refine V_iconst (v := 1) hM.c dL_types_148 (by decide) ?_
    refine V_goto hM.c 153 dL_types_149 (by decide) ?_
    refine V_sub [0, 1, 2, 3, 4, 5, 6] rfl ?_
    exact vl_L_types_l153 hM hκ28 h
def f_L_types_l103 (n : Nat) (Z : Zt) (κ28 : Nat → Int32 → Int32 → Int32 → Int32 → Int32 → Int32 → Mem → Option (Int32 × Mem)) (x0 : Nat) (x1 : Int32) (x3 : Int32) (x4 : Int32) (x5 : Int32) (x6 : Int32) (x7 : Int32) (s0 : Int32) (g : Mem) : Option (Int32 × Mem) := if (3 : Int32) ≤ x7 then (f_L_types_l154 n Z κ28 x0 x1 s0 x3 x4 x5 x6 x7 g) else (if s0 = 0 then (f_L_types_l152 n Z κ28 x0 x1 x3 x4 x5 x6 x7 g) else (bnd (f_L_low n Z (x1 >>> ((20 : Int32) &&& 31)) (9 : Int32) g) (fun r35 g36 => if r35 = 0 then (f_L_types_l138 n Z κ28 x0 x1 x3 x4 x5 x6 x7 (5 : Int32) (x4 >>> ((2 : Int32) &&& 31)) (48 : Int32) x0 g36) else (f_L_types_l138 n Z κ28 x0 x1 x3 x4 x5 x6 x7 (2 : Int32) (x4 >>> ((2 : Int32) &&& 31)) (48 : Int32) x0 g36))))
set_option maxHeartbeats 4000000 in
set_option maxRecDepth 100000 in
theorem vl_L_types_l103 {x : Cq} {n : Nat} {Z : Zt} {κ28 : Nat → Int32 → Int32 → Int32 → Int32 → Int32 → Int32 → Mem → Option (Int32 × Mem)} {x0 : Nat} {x1 : Int32} {x3 : Int32} {x4 : Int32} {x5 : Int32} {x6 : Int32} {x7 : Int32} {s0 : Int32} {g : Mem} {rr : Int32} {gg : Mem} (hM : Cm x cL_types RL 8 (some .boolean) 2 Z (some (.int rr)) gg) (hκ28 : ∀ (y0 : Nat) (y1 : Int32) (y2 : Int32) (y3 : Int32) (y4 : Int32) (y5 : Int32) (y6 : Int32) (y : Mem), κ28 y0 y1 y2 y3 y4 y5 y6 y = some (rr, gg) → V x Z 0 0 28 [(0, va_rf (some y0)), (1, .int y1), (2, .int y2), (3, .int y3), (4, .int y4), (5, .int y5), (6, .int y6)] [] y) (h : f_L_types_l103 n Z κ28 x0 x1 x3 x4 x5 x6 x7 s0 g = some (rr, gg)) : V x Z 0 0 103 [(0, va_rf (some x0)), (1, .int x1), (3, .int x3), (4, .int x4), (5, .int x5), (6, .int x6), (7, .int x7)] [.int s0] g := by
  unfold f_L_types_l103 at h
  refine V_istore_n (i := 2) (L' := [(2, .int s0), (0, va_rf (some x0)), (1, .int x1), (3, .int x3), (4, .int x4), (5, .int x5), (6, .int x6), (7, .int x7)]) hM.c dL_types_103 rfl (by decide) rfl ?_
  refine V_iload hM.c 7 dL_types_104 rfl ?_
  refine V_iconst (v := 3) hM.c dL_types_106 (by decide) ?_
  refine V_icmp_ge hM.c 154 dL_types_107 (by decide) (fun c33 => ?_) (fun c33 => ?_)
  · replace h := ite_p h c33
    refine V_sub [1, 2, 0, 3, 4, 5, 6, 7] rfl ?_
    exact vl_L_types_l154 hM hκ28 h
  · replace h := ite_n h c33
    refine V_iload_n hM.c 0 dL_types_110 rfl rfl ?_
    refine V_if_eq hM.c 152 dL_types_111 (by decide) (fun c34 => ?_) (fun c34 => ?_)
    · replace h := ite_p h c34
      refine V_sub [1, 2, 3, 4, 5, 6, 7] rfl ?_
      exact vl_L_types_l152 hM hκ28 h
    · replace h := ite_n h c34
      refine V_aload_n hM.c 1 dL_types_114 rfl rfl ?_
      refine V_bipush (v := 48) hM.c dL_types_115 (by decide) ?_
      refine V_iload hM.c 4 dL_types_117 rfl ?_
      refine V_iconst (v := 2) hM.c dL_types_119 (by decide) ?_
      refine V_ishr hM.c dL_types_120 ?_
      refine V_iload_n hM.c 2 dL_types_121 rfl rfl ?_
      refine V_bipush (v := 20) hM.c dL_types_122 (by decide) ?_
      refine V_ishr hM.c dL_types_124 ?_
      refine V_bipush (v := 9) hM.c dL_types_125 (by decide) ?_
      replace h := bnd_some h
      obtain ⟨r35, g36, e37, h⟩ := h
      refine V_callS (As := [.int (x1 >>> ((20 : Int32) &&& 31)), .int (9 : Int32)]) hM.c hM.a mq_L_low mi_L_low tw_407 (hM.d (by decide)) hM.z (vm_L_low e37) rfl (Nat.le_of_ble_eq_true rfl) dL_types_127 ?_
      refine V_if_ne hM.c 137 dL_types_130 (by decide) (fun c38 => ?_) (fun c38 => ?_)
      · replace h := ite_n h c38
        refine V_iconst (v := 2) hM.c dL_types_137 (by decide) ?_
        refine V_sub [1, 2, 3, 4, 5, 6, 7] rfl ?_
        exact vl_L_types_l138 hM hκ28 h
      · replace h := ite_p h c38
        refine V_iconst (v := 5) hM.c dL_types_133 (by decide) ?_
        refine V_goto hM.c 138 dL_types_134 (by decide) ?_
        refine V_sub [1, 2, 3, 4, 5, 6, 7] rfl ?_
        exact vl_L_types_l138 hM hκ28 h
def f_L_types_l102 (n : Nat) (Z : Zt) (κ28 : Nat → Int32 → Int32 → Int32 → Int32 → Int32 → Int32 → Mem → Option (Int32 × Mem)) (x0 : Nat) (x1 : Int32) (x3 : Int32) (x4 : Int32) (x5 : Int32) (x6 : Int32) (x7 : Int32) (g : Mem) : Option (Int32 × Mem) := f_L_types_l103 n Z κ28 x0 x1 x3 x4 x5 x6 x7 (0 : Int32) g
set_option maxHeartbeats 4000000 in
set_option maxRecDepth 100000 in
theorem vl_L_types_l102 {x : Cq} {n : Nat} {Z : Zt} {κ28 : Nat → Int32 → Int32 → Int32 → Int32 → Int32 → Int32 → Mem → Option (Int32 × Mem)} {x0 : Nat} {x1 : Int32} {x3 : Int32} {x4 : Int32} {x5 : Int32} {x6 : Int32} {x7 : Int32} {g : Mem} {rr : Int32} {gg : Mem} (hM : Cm x cL_types RL 8 (some .boolean) 2 Z (some (.int rr)) gg) (hκ28 : ∀ (y0 : Nat) (y1 : Int32) (y2 : Int32) (y3 : Int32) (y4 : Int32) (y5 : Int32) (y6 : Int32) (y : Mem), κ28 y0 y1 y2 y3 y4 y5 y6 y = some (rr, gg) → V x Z 0 0 28 [(0, va_rf (some y0)), (1, .int y1), (2, .int y2), (3, .int y3), (4, .int y4), (5, .int y5), (6, .int y6)] [] y) (h : f_L_types_l102 n Z κ28 x0 x1 x3 x4 x5 x6 x7 g = some (rr, gg)) : V x Z 0 0 102 [(0, va_rf (some x0)), (1, .int x1), (3, .int x3), (4, .int x4), (5, .int x5), (6, .int x6), (7, .int x7)] [] g := by
  unfold f_L_types_l102 at h
  refine V_iconst (v := 0) hM.c dL_types_102 (by decide) ?_
  refine V_sub [0, 1, 2, 3, 4, 5, 6] rfl ?_
  exact vl_L_types_l103 hM hκ28 h
def f_L_types_l92 (n : Nat) (Z : Zt) (κ28 : Nat → Int32 → Int32 → Int32 → Int32 → Int32 → Int32 → Mem → Option (Int32 × Mem)) (x0 : Nat) (x1 : Int32) (x3 : Int32) (x4 : Int32) (x5 : Int32) (x6 : Int32) (x7 : Int32) (s0 : Int32) (s1 : Nat) (g : Mem) : Option (Int32 × Mem) := bnd (f_X10_append n Z s1 s0 g) (fun r22 g23 => if r22 ≤ 0 then (f_L_types_l102 n Z κ28 x0 x1 x3 x4 x5 x6 x7 g23) else (f_L_types_l103 n Z κ28 x0 x1 x3 x4 x5 x6 x7 (1 : Int32) g23))
set_option maxHeartbeats 4000000 in
set_option maxRecDepth 100000 in
theorem vl_L_types_l92 {x : Cq} {n : Nat} {Z : Zt} {κ28 : Nat → Int32 → Int32 → Int32 → Int32 → Int32 → Int32 → Mem → Option (Int32 × Mem)} {x0 : Nat} {x1 : Int32} {x3 : Int32} {x4 : Int32} {x5 : Int32} {x6 : Int32} {x7 : Int32} {s0 : Int32} {s1 : Nat} {g : Mem} {rr : Int32} {gg : Mem} (hM : Cm x cL_types RL 8 (some .boolean) 2 Z (some (.int rr)) gg) (hκ28 : ∀ (y0 : Nat) (y1 : Int32) (y2 : Int32) (y3 : Int32) (y4 : Int32) (y5 : Int32) (y6 : Int32) (y : Mem), κ28 y0 y1 y2 y3 y4 y5 y6 y = some (rr, gg) → V x Z 0 0 28 [(0, va_rf (some y0)), (1, .int y1), (2, .int y2), (3, .int y3), (4, .int y4), (5, .int y5), (6, .int y6)] [] y) (h : f_L_types_l92 n Z κ28 x0 x1 x3 x4 x5 x6 x7 s0 s1 g = some (rr, gg)) : V x Z 0 0 92 [(0, va_rf (some x0)), (1, .int x1), (3, .int x3), (4, .int x4), (5, .int x5), (6, .int x6), (7, .int x7)] [.int s0, va_rf (some s1)] g := by
  unfold f_L_types_l92 at h
  replace h := bnd_some h
  obtain ⟨r22, g23, e24, h⟩ := h
  refine V_callV (As := [.int s0]) (c := 8) (T := TX10) (N := 10) hM.c hM.a mq_X10_append mi_X10_append tw_531 (hM.d (by decide)) hM.z rfl (by omega) (zc_X10_append e24) (vm_X10_append e24) rfl (Nat.le_of_ble_eq_true rfl) dL_types_92 ?_
  refine V_if_le hM.c 102 dL_types_95 (by decide) (fun c25 => ?_) (fun c25 => ?_)
  · replace h := ite_p h c25
    refine V_sub [0, 1, 2, 3, 4, 5, 6] rfl ?_
    exact vl_L_types_l102 hM hκ28 h
  · replace h := ite_n h c25
    refine V_iconst (v := 1) hM.c dL_types_98 (by decide) ?_
    refine V_goto hM.c 103 dL_types_99 (by decide) ?_
    refine V_sub [0, 1, 2, 3, 4, 5, 6] rfl ?_
    exact vl_L_types_l103 hM hκ28 h
def f_L_types_l367 (n : Nat) (Z : Zt) : Nat → Nat → Int32 → Int32 → Int32 → Mem → Option (Int32 × Mem)
  | 0, _, _, _, _, _ => none
  | fu + 1, x0, x2, x3, x6, g => if x3 ≤ x6 then (grd (isz x2) (some (x2, g))) else (if x2 = 0 then (grd (isz x2) (some (x2, g))) else (bnd (f_X10_append n Z x0 (41 : Int32) g) (fun r60 g61 => if r60 ≤ 0 then (f_L_types_l367 n Z fu x0 (0 : Int32) x3 (x6 + 1) g61) else (f_L_types_l367 n Z fu x0 (1 : Int32) x3 (x6 + 1) g61))))
set_option maxHeartbeats 4000000 in
set_option maxRecDepth 100000 in
theorem vl_L_types_l367 {x : Cq} {n : Nat} {Z : Zt} {rr : Int32} {gg : Mem} (hM : Cm x cL_types RL 8 (some .boolean) 2 Z (some (.int rr)) gg) : ∀ (fu : Nat) (x0 : Nat) (x2 : Int32) (x3 : Int32) (x6 : Int32) (g : Mem), f_L_types_l367 n Z fu x0 x2 x3 x6 g = some (rr, gg) → V x Z 0 0 367 [(0, va_rf (some x0)), (2, .int x2), (3, .int x3), (6, .int x6)] [] g := by
  intro fu
  induction fu with
  | zero => intro x0 x2 x3 x6 g h; cases h
  | succ fu ih =>
    intro x0 x2 x3 x6 g h
    unfold f_L_types_l367 at h
    refine V_iload hM.c 3 dL_types_367 rfl ?_
    refine V_iload_n hM.c 2 dL_types_369 rfl rfl ?_
    refine V_icmp_ge hM.c 398 dL_types_370 (by decide) (fun c56 => ?_) (fun c56 => ?_)
    · replace h := ite_p h c56
      refine V_iload_n hM.c 1 dL_types_398 rfl rfl ?_
      replace h := grd_some h
      obtain ⟨c57, h⟩ := h
      exact V_zretE hM (isz_nar c57) h dL_types_399
    · replace h := ite_n h c56
      refine V_iload_n hM.c 1 dL_types_373 rfl rfl ?_
      refine V_if_eq hM.c 398 dL_types_374 (by decide) (fun c58 => ?_) (fun c58 => ?_)
      · replace h := ite_p h c58
        refine V_iload_n hM.c 1 dL_types_398 rfl rfl ?_
        replace h := grd_some h
        obtain ⟨c59, h⟩ := h
        exact V_zretE hM (isz_nar c59) h dL_types_399
      · replace h := ite_n h c58
        refine V_aload_n hM.c 0 dL_types_377 rfl rfl ?_
        refine V_bipush (v := 41) hM.c dL_types_378 (by decide) ?_
        replace h := bnd_some h
        obtain ⟨r60, g61, e62, h⟩ := h
        refine V_callV (As := [.int (41 : Int32)]) (c := 8) (T := TX10) (N := 10) hM.c hM.a mq_X10_append mi_X10_append tw_531 (hM.d (by decide)) hM.z rfl (by omega) (zc_X10_append e62) (vm_X10_append e62) rfl (Nat.le_of_ble_eq_true rfl) dL_types_380 ?_
        refine V_if_le hM.c 390 dL_types_383 (by decide) (fun c63 => ?_) (fun c63 => ?_)
        · replace h := ite_p h c63
          refine V_iconst (v := 0) hM.c dL_types_390 (by decide) ?_
          refine V_istore_n (i := 2) (L' := [(2, .int (0 : Int32)), (0, va_rf (some x0)), (3, .int x3), (6, .int x6)]) hM.c dL_types_391 rfl (by decide) rfl ?_
          refine V_iinc (v := (x6 + 1)) (L' := [(6, .int (x6 + 1)), (2, .int (0 : Int32)), (0, va_rf (some x0)), (3, .int x3)]) hM.c 3 dL_types_392 rfl rfl (by decide) rfl ?_
          refine V_goto hM.c 367 dL_types_395 (by decide) ?_
          refine V_sub [2, 1, 3, 0] rfl ?_
          exact ih _ _ _ _ _ h
        · replace h := ite_n h c63
          refine V_iconst (v := 1) hM.c dL_types_386 (by decide) ?_
          refine V_goto hM.c 391 dL_types_387 (by decide) ?_
          refine V_istore_n (i := 2) (L' := [(2, .int (1 : Int32)), (0, va_rf (some x0)), (3, .int x3), (6, .int x6)]) hM.c dL_types_391 rfl (by decide) rfl ?_
          refine V_iinc (v := (x6 + 1)) (L' := [(6, .int (x6 + 1)), (2, .int (1 : Int32)), (0, va_rf (some x0)), (3, .int x3)]) hM.c 3 dL_types_392 rfl rfl (by decide) rfl ?_
          refine V_goto hM.c 367 dL_types_395 (by decide) ?_
          refine V_sub [2, 1, 3, 0] rfl ?_
          exact ih _ _ _ _ _ h
def f_L_types_l347 (n : Nat) (Z : Zt) (x0 : Nat) (x1 : Int32) (x3 : Int32) (s0 : Int32) (g : Mem) : Option (Int32 × Mem) := bnd (f_L_low n Z (x1 >>> ((26 : Int32) &&& 31)) (7 : Int32) g) (fun r39 g40 => if r39 = 0 then (f_L_types_l367 n Z n x0 s0 x3 (1 : Int32) g40) else (f_L_types_l367 n Z n x0 s0 x3 (0 : Int32) g40))
set_option maxHeartbeats 4000000 in
set_option maxRecDepth 100000 in
theorem vl_L_types_l347 {x : Cq} {n : Nat} {Z : Zt} {x0 : Nat} {x1 : Int32} {x3 : Int32} {s0 : Int32} {g : Mem} {rr : Int32} {gg : Mem} (hM : Cm x cL_types RL 8 (some .boolean) 2 Z (some (.int rr)) gg) (h : f_L_types_l347 n Z x0 x1 x3 s0 g = some (rr, gg)) : V x Z 0 0 347 [(0, va_rf (some x0)), (1, .int x1), (3, .int x3)] [.int s0] g := by
  unfold f_L_types_l347 at h
  refine V_istore_n (i := 2) (L' := [(2, .int s0), (0, va_rf (some x0)), (1, .int x1), (3, .int x3)]) hM.c dL_types_347 rfl (by decide) rfl ?_
  refine V_iload_n hM.c 2 dL_types_348 rfl rfl ?_
  refine V_bipush (v := 26) hM.c dL_types_349 (by decide) ?_
  refine V_ishr hM.c dL_types_351 ?_
  refine V_bipush (v := 7) hM.c dL_types_352 (by decide) ?_
  replace h := bnd_some h
  obtain ⟨r39, g40, e41, h⟩ := h
  refine V_callS (As := [.int (x1 >>> ((26 : Int32) &&& 31)), .int (7 : Int32)]) hM.c hM.a mq_L_low mi_L_low tw_407 (hM.d (by decide)) hM.z (vm_L_low e41) rfl (Nat.le_of_ble_eq_true rfl) dL_types_354 ?_
  refine V_if_ne hM.c 364 dL_types_357 (by decide) (fun c42 => ?_) (fun c42 => ?_)
  · replace h := ite_n h c42
    refine V_iconst (v := 0) hM.c dL_types_364 (by decide) ?_
    refine V_istore (L' := [(6, .int (0 : Int32)), (2, .int s0), (0, va_rf (some x0)), (1, .int x1), (3, .int x3)]) hM.c dL_types_365 (by decide) rfl ?_
    refine V_sub [2, 1, 4, 0] rfl ?_
    exact vl_L_types_l367 hM  _ _ _ _ _ _ h
  · replace h := ite_p h c42
    refine V_iconst (v := 1) hM.c dL_types_360 (by decide) ?_
    refine V_goto hM.c 365 dL_types_361 (by decide) ?_
    refine V_istore (L' := [(6, .int (1 : Int32)), (2, .int s0), (0, va_rf (some x0)), (1, .int x1), (3, .int x3)]) hM.c dL_types_365 (by decide) rfl ?_
    refine V_sub [2, 1, 4, 0] rfl ?_
    exact vl_L_types_l367 hM  _ _ _ _ _ _ h
def f_L_types_l346 (n : Nat) (Z : Zt) (x0 : Nat) (x1 : Int32) (x3 : Int32) (g : Mem) : Option (Int32 × Mem) := f_L_types_l347 n Z x0 x1 x3 (0 : Int32) g
set_option maxHeartbeats 4000000 in
set_option maxRecDepth 100000 in
theorem vl_L_types_l346 {x : Cq} {n : Nat} {Z : Zt} {x0 : Nat} {x1 : Int32} {x3 : Int32} {g : Mem} {rr : Int32} {gg : Mem} (hM : Cm x cL_types RL 8 (some .boolean) 2 Z (some (.int rr)) gg) (h : f_L_types_l346 n Z x0 x1 x3 g = some (rr, gg)) : V x Z 0 0 346 [(0, va_rf (some x0)), (1, .int x1), (3, .int x3)] [] g := by
  unfold f_L_types_l346 at h
  refine V_iconst (v := 0) hM.c dL_types_346 (by decide) ?_
  refine V_sub [0, 1, 2] rfl ?_
  exact vl_L_types_l347 hM  h
def f_L_types_l332 (n : Nat) (Z : Zt) (x0 : Nat) (x1 : Int32) (x3 : Int32) (s0 : Int32) (s1 : Int32) (s2 : Int32) (s3 : Nat) (g : Mem) : Option (Int32 × Mem) := bnd (f_L_low n Z s1 s0 g) (fun r26 g27 => bnd (f_X10_append n Z s3 (s2 + r26) g27) (fun r29 g30 => if r29 ≤ 0 then (f_L_types_l346 n Z x0 x1 x3 g30) else (f_L_types_l347 n Z x0 x1 x3 (1 : Int32) g30)))
set_option maxHeartbeats 4000000 in
set_option maxRecDepth 100000 in
theorem vl_L_types_l332 {x : Cq} {n : Nat} {Z : Zt} {x0 : Nat} {x1 : Int32} {x3 : Int32} {s0 : Int32} {s1 : Int32} {s2 : Int32} {s3 : Nat} {g : Mem} {rr : Int32} {gg : Mem} (hM : Cm x cL_types RL 8 (some .boolean) 2 Z (some (.int rr)) gg) (h : f_L_types_l332 n Z x0 x1 x3 s0 s1 s2 s3 g = some (rr, gg)) : V x Z 0 0 332 [(0, va_rf (some x0)), (1, .int x1), (3, .int x3)] [.int s0, .int s1, .int s2, va_rf (some s3)] g := by
  unfold f_L_types_l332 at h
  replace h := bnd_some h
  obtain ⟨r26, g27, e28, h⟩ := h
  refine V_callS (As := [.int s1, .int s0]) hM.c hM.a mq_L_low mi_L_low tw_407 (hM.d (by decide)) hM.z (vm_L_low e28) rfl (Nat.le_of_ble_eq_true rfl) dL_types_332 ?_
  refine V_iadd hM.c dL_types_335 ?_
  replace h := bnd_some h
  obtain ⟨r29, g30, e31, h⟩ := h
  refine V_callV (As := [.int (s2 + r26)]) (c := 8) (T := TX10) (N := 10) hM.c hM.a mq_X10_append mi_X10_append tw_531 (hM.d (by decide)) hM.z rfl (by omega) (zc_X10_append e31) (vm_X10_append e31) rfl (Nat.le_of_ble_eq_true rfl) dL_types_336 ?_
  refine V_if_le hM.c 346 dL_types_339 (by decide) (fun c32 => ?_) (fun c32 => ?_)
  · replace h := ite_p h c32
    refine V_sub [0, 1, 2] rfl ?_
    exact vl_L_types_l346 hM  h
  · replace h := ite_n h c32
    refine V_iconst (v := 1) hM.c dL_types_342 (by decide) ?_
    refine V_goto hM.c 347 dL_types_343 (by decide) ?_
    refine V_sub [0, 1, 2] rfl ?_
    exact vl_L_types_l347 hM  h
def f_L_types_l304 (n : Nat) (Z : Zt) (x0 : Nat) (x1 : Int32) (x2 : Int32) (x3 : Int32) (g : Mem) : Option (Int32 × Mem) := if x2 = 0 then (f_L_types_l346 n Z x0 x1 x3 g) else (bnd (f_L_low n Z (x1 >>> ((24 : Int32) &&& 31)) (9 : Int32) g) (fun r18 g19 => if r18 = 0 then (f_L_types_l332 n Z x0 x1 x3 (5 : Int32) (x1 >>> ((9 : Int32) &&& 31)) (65 : Int32) x0 g19) else (f_L_types_l332 n Z x0 x1 x3 (3 : Int32) (x1 >>> ((9 : Int32) &&& 31)) (65 : Int32) x0 g19)))
set_option maxHeartbeats 4000000 in
set_option maxRecDepth 100000 in
theorem vl_L_types_l304 {x : Cq} {n : Nat} {Z : Zt} {x0 : Nat} {x1 : Int32} {x2 : Int32} {x3 : Int32} {g : Mem} {rr : Int32} {gg : Mem} (hM : Cm x cL_types RL 8 (some .boolean) 2 Z (some (.int rr)) gg) (h : f_L_types_l304 n Z x0 x1 x2 x3 g = some (rr, gg)) : V x Z 0 0 304 [(0, va_rf (some x0)), (1, .int x1), (2, .int x2), (3, .int x3)] [] g := by
  unfold f_L_types_l304 at h
  refine V_iload_n hM.c 2 dL_types_304 rfl rfl ?_
  refine V_if_eq hM.c 346 dL_types_305 (by decide) (fun c17 => ?_) (fun c17 => ?_)
  · replace h := ite_p h c17
    refine V_sub [0, 1, 3] rfl ?_
    exact vl_L_types_l346 hM  h
  · replace h := ite_n h c17
    refine V_aload_n hM.c 0 dL_types_308 rfl rfl ?_
    refine V_bipush (v := 65) hM.c dL_types_309 (by decide) ?_
    refine V_iload_n hM.c 1 dL_types_311 rfl rfl ?_
    refine V_bipush (v := 9) hM.c dL_types_312 (by decide) ?_
    refine V_ishr hM.c dL_types_314 ?_
    refine V_iload_n hM.c 1 dL_types_315 rfl rfl ?_
    refine V_bipush (v := 24) hM.c dL_types_316 (by decide) ?_
    refine V_ishr hM.c dL_types_318 ?_
    refine V_bipush (v := 9) hM.c dL_types_319 (by decide) ?_
    replace h := bnd_some h
    obtain ⟨r18, g19, e20, h⟩ := h
    refine V_callS (As := [.int (x1 >>> ((24 : Int32) &&& 31)), .int (9 : Int32)]) hM.c hM.a mq_L_low mi_L_low tw_407 (hM.d (by decide)) hM.z (vm_L_low e20) rfl (Nat.le_of_ble_eq_true rfl) dL_types_321 ?_
    refine V_if_ne hM.c 331 dL_types_324 (by decide) (fun c21 => ?_) (fun c21 => ?_)
    · replace h := ite_n h c21
      refine V_iconst (v := 3) hM.c dL_types_331 (by decide) ?_
      refine V_sub [0, 1, 3] rfl ?_
      exact vl_L_types_l332 hM  h
    · replace h := ite_p h c21
      refine V_iconst (v := 5) hM.c dL_types_327 (by decide) ?_
      refine V_goto hM.c 332 dL_types_328 (by decide) ?_
      refine V_sub [0, 1, 3] rfl ?_
      exact vl_L_types_l332 hM  h
def f_L_types_l28 (n : Nat) (Z : Zt) : Nat → Nat → Int32 → Int32 → Int32 → Int32 → Int32 → Int32 → Mem → Option (Int32 × Mem)
  | 0, _, _, _, _, _, _, _, _ => none
  | fu + 1, x0, x1, x2, x3, x4, x5, x6, g => if x5 ≤ x6 then (f_L_types_l304 n Z x0 x1 x2 x3 g) else (if x2 = 0 then (f_L_types_l304 n Z x0 x1 x2 x3 g) else (bnd (f_L_low n Z (x4 >>> ((3 : Int32) &&& 31)) (4 : Int32) g) (fun r10 g11 => if x2 = 0 then (f_L_types_l102 n Z (fun y0 y1 y2 y3 y4 y5 y6 y => f_L_types_l28 n Z fu y0 y1 y2 y3 y4 y5 y6 y) x0 x1 x3 (x4 >>> ((3 : Int32) &&& 31)) x5 x6 r10 g11) else (if r10 = 0 then (f_L_types_l92 n Z (fun y0 y1 y2 y3 y4 y5 y6 y => f_L_types_l28 n Z fu y0 y1 y2 y3 y4 y5 y6 y) x0 x1 x3 (x4 >>> ((3 : Int32) &&& 31)) x5 x6 r10 (115 : Int32) x0 g11) else (if r10 = (1 : Int32) then (f_L_types_l92 n Z (fun y0 y1 y2 y3 y4 y5 y6 y => f_L_types_l28 n Z fu y0 y1 y2 y3 y4 y5 y6 y) x0 x1 x3 (x4 >>> ((3 : Int32) &&& 31)) x5 x6 r10 (112 : Int32) x0 g11) else (if r10 = (2 : Int32) then (f_L_types_l92 n Z (fun y0 y1 y2 y3 y4 y5 y6 y => f_L_types_l28 n Z fu y0 y1 y2 y3 y4 y5 y6 y) x0 x1 x3 (x4 >>> ((3 : Int32) &&& 31)) x5 x6 r10 (106 : Int32) x0 g11) else (f_L_types_l92 n Z (fun y0 y1 y2 y3 y4 y5 y6 y => f_L_types_l28 n Z fu y0 y1 y2 y3 y4 y5 y6 y) x0 x1 x3 (x4 >>> ((3 : Int32) &&& 31)) x5 x6 r10 (117 : Int32) x0 g11)))))))
set_option maxHeartbeats 4000000 in
set_option maxRecDepth 100000 in
theorem vl_L_types_l28 {x : Cq} {n : Nat} {Z : Zt} {rr : Int32} {gg : Mem} (hM : Cm x cL_types RL 8 (some .boolean) 2 Z (some (.int rr)) gg) : ∀ (fu : Nat) (x0 : Nat) (x1 : Int32) (x2 : Int32) (x3 : Int32) (x4 : Int32) (x5 : Int32) (x6 : Int32) (g : Mem), f_L_types_l28 n Z fu x0 x1 x2 x3 x4 x5 x6 g = some (rr, gg) → V x Z 0 0 28 [(0, va_rf (some x0)), (1, .int x1), (2, .int x2), (3, .int x3), (4, .int x4), (5, .int x5), (6, .int x6)] [] g := by
  intro fu
  induction fu with
  | zero => intro x0 x1 x2 x3 x4 x5 x6 g h; cases h
  | succ fu ih =>
    intro x0 x1 x2 x3 x4 x5 x6 g h
    unfold f_L_types_l28 at h
    refine V_iload hM.c 6 dL_types_28 rfl ?_
    refine V_iload hM.c 5 dL_types_30 rfl ?_
    refine V_icmp_ge hM.c 304 dL_types_32 (by decide) (fun c8 => ?_) (fun c8 => ?_)
    · replace h := ite_p h c8
      refine V_sub [0, 1, 2, 3] rfl ?_
      exact vl_L_types_l304 hM  h
    · replace h := ite_n h c8
      refine V_iload_n hM.c 2 dL_types_35 rfl rfl ?_
      refine V_if_eq hM.c 304 dL_types_36 (by decide) (fun c9 => ?_) (fun c9 => ?_)
      · replace h := ite_p h c9
        refine V_sub [0, 1, 2, 3] rfl ?_
        exact vl_L_types_l304 hM  h
      · replace h := ite_n h c9
        refine V_iload hM.c 4 dL_types_39 rfl ?_
        refine V_iconst (v := 3) hM.c dL_types_41 (by decide) ?_
        refine V_ishr hM.c dL_types_42 ?_
        refine V_istore (L' := [(4, .int (x4 >>> ((3 : Int32) &&& 31))), (0, va_rf (some x0)), (1, .int x1), (2, .int x2), (3, .int x3), (5, .int x5), (6, .int x6)]) hM.c dL_types_43 (by decide) rfl ?_
        refine V_iload hM.c 0 dL_types_45 rfl ?_
        refine V_iconst (v := 4) hM.c dL_types_47 (by decide) ?_
        replace h := bnd_some h
        obtain ⟨r10, g11, e12, h⟩ := h
        refine V_callS (As := [.int (x4 >>> ((3 : Int32) &&& 31)), .int (4 : Int32)]) hM.c hM.a mq_L_low mi_L_low tw_407 (hM.d (by decide)) hM.z (vm_L_low e12) rfl (Nat.le_of_ble_eq_true rfl) dL_types_48 ?_
        refine V_istore (L' := [(7, .int r10), (4, .int (x4 >>> ((3 : Int32) &&& 31))), (0, va_rf (some x0)), (1, .int x1), (2, .int x2), (3, .int x3), (5, .int x5), (6, .int x6)]) hM.c dL_types_51 (by decide) rfl ?_
        refine V_iload_n hM.c 4 dL_types_53 rfl rfl ?_
        refine V_if_eq hM.c 102 dL_types_54 (by decide) (fun c13 => ?_) (fun c13 => ?_)
        · replace h := ite_p h c13
          refine V_sub [2, 3, 5, 1, 6, 7, 0] rfl ?_
          exact vl_L_types_l102 hM ih h
        · replace h := ite_n h c13
          refine V_aload_n hM.c 2 dL_types_57 rfl rfl ?_
          refine V_iload hM.c 0 dL_types_58 rfl ?_
          refine V_if_ne hM.c 68 dL_types_60 (by decide) (fun c14 => ?_) (fun c14 => ?_)
          · replace h := ite_n h c14
            refine V_iload hM.c 0 dL_types_68 rfl ?_
            refine V_iconst (v := 1) hM.c dL_types_70 (by decide) ?_
            refine V_icmp_ne hM.c 79 dL_types_71 (by decide) (fun c15 => ?_) (fun c15 => ?_)
            · replace h := ite_n h c15
              refine V_iload hM.c 0 dL_types_79 rfl ?_
              refine V_iconst (v := 2) hM.c dL_types_81 (by decide) ?_
              refine V_icmp_ne hM.c 90 dL_types_82 (by decide) (fun c16 => ?_) (fun c16 => ?_)
              · replace h := ite_n h c16
                refine V_bipush (v := 117) hM.c dL_types_90 (by decide) ?_
                refine V_sub [2, 3, 5, 1, 6, 7, 0] rfl ?_
                exact vl_L_types_l92 hM ih h
              · replace h := ite_p h c16
                refine V_bipush (v := 106) hM.c dL_types_85 (by decide) ?_
                refine V_goto hM.c 92 dL_types_87 (by decide) ?_
                refine V_sub [2, 3, 5, 1, 6, 7, 0] rfl ?_
                exact vl_L_types_l92 hM ih h
            · replace h := ite_p h c15
              refine V_bipush (v := 112) hM.c dL_types_74 (by decide) ?_
              refine V_goto hM.c 92 dL_types_76 (by decide) ?_
              refine V_sub [2, 3, 5, 1, 6, 7, 0] rfl ?_
              exact vl_L_types_l92 hM ih h
          · replace h := ite_p h c14
            refine V_bipush (v := 115) hM.c dL_types_63 (by decide) ?_
            refine V_goto hM.c 92 dL_types_65 (by decide) ?_
            refine V_sub [2, 3, 5, 1, 6, 7, 0] rfl ?_
            exact vl_L_types_l92 hM ih h
def f_L_types_l12 (n : Nat) (Z : Zt) (x0 : Nat) (x1 : Int32) (s0 : Int32) (g : Mem) : Option (Int32 × Mem) := bnd (f_L_low n Z x1 (3 : Int32) g) (fun r5 g6 => f_L_types_l28 n Z n x0 x1 s0 (0 : Int32) x1 r5 (0 : Int32) g6)
set_option maxHeartbeats 4000000 in
set_option maxRecDepth 100000 in
theorem vl_L_types_l12 {x : Cq} {n : Nat} {Z : Zt} {x0 : Nat} {x1 : Int32} {s0 : Int32} {g : Mem} {rr : Int32} {gg : Mem} (hM : Cm x cL_types RL 8 (some .boolean) 2 Z (some (.int rr)) gg) (h : f_L_types_l12 n Z x0 x1 s0 g = some (rr, gg)) : V x Z 0 0 12 [(0, va_rf (some x0)), (1, .int x1)] [.int s0] g := by
  unfold f_L_types_l12 at h
  refine V_istore_n (i := 2) (L' := [(2, .int s0), (0, va_rf (some x0)), (1, .int x1)]) hM.c dL_types_12 rfl (by decide) rfl ?_
  refine V_iconst (v := 0) hM.c dL_types_13 (by decide) ?_
  refine V_istore_n (i := 3) (L' := [(3, .int (0 : Int32)), (2, .int s0), (0, va_rf (some x0)), (1, .int x1)]) hM.c dL_types_14 rfl (by decide) rfl ?_
  refine V_iload_n hM.c 3 dL_types_15 rfl rfl ?_
  refine V_istore (L' := [(4, .int x1), (3, .int (0 : Int32)), (2, .int s0), (0, va_rf (some x0)), (1, .int x1)]) hM.c dL_types_16 (by decide) rfl ?_
  refine V_iload_n hM.c 4 dL_types_18 rfl rfl ?_
  refine V_iconst (v := 3) hM.c dL_types_19 (by decide) ?_
  replace h := bnd_some h
  obtain ⟨r5, g6, e7, h⟩ := h
  refine V_callS (As := [.int x1, .int (3 : Int32)]) hM.c hM.a mq_L_low mi_L_low tw_407 (hM.d (by decide)) hM.z (vm_L_low e7) rfl (Nat.le_of_ble_eq_true rfl) dL_types_20 ?_
  refine V_istore (L' := [(5, .int r5), (4, .int x1), (3, .int (0 : Int32)), (2, .int s0), (0, va_rf (some x0)), (1, .int x1)]) hM.c dL_types_23 (by decide) rfl ?_
  refine V_iconst (v := 0) hM.c dL_types_25 (by decide) ?_
  refine V_istore (L' := [(6, .int (0 : Int32)), (5, .int r5), (4, .int x1), (3, .int (0 : Int32)), (2, .int s0), (0, va_rf (some x0)), (1, .int x1)]) hM.c dL_types_26 (by decide) rfl ?_
  refine V_sub [5, 6, 4, 3, 2, 1, 0] rfl ?_
  exact vl_L_types_l28 hM  _ _ _ _ _ _ _ _ _ h
def f_L_types (n : Nat) (Z : Zt) (x0 : Nat) (x1 : Int32) (g : Mem) : Option (Int32 × Mem) := bnd (f_X10_clearText n Z x0 g) (fun r1 g2 => if r1 < 0 then (f_L_types_l12 n Z x0 x1 (0 : Int32) g2) else (f_L_types_l12 n Z x0 x1 (1 : Int32) g2))
theorem mq_L_types : Mq yL_types cL_types 8 (some .boolean) 2 := ⟨tw_561, tw_409, ⟨by decide +kernel, by decide +kernel, by decide +kernel⟩, by decide⟩
theorem mi_L_types : Cond.static yL_types ∈ TB := tw_559
set_option maxHeartbeats 4000000 in
set_option maxRecDepth 100000 in
theorem vm_L_types {n : Nat} {Z : Zt} {x0 : Nat} {x1 : Int32} {g : Mem} {rr : Int32} {gg : Mem} (h : f_L_types n Z x0 x1 g = some (rr, gg)) : VM yL_types cL_types 8 (some .boolean) 2 [va_rf (some x0), .int x1] Z g (some (.int rr)) gg := by
  unfold f_L_types at h
  refine VM.of (by decide +kernel) (Nat.le_of_ble_eq_true rfl) (fun x hM => ?_)
  have hM : Cm x cL_types RL 8 (some .boolean) 2 Z (some (.int rr)) gg := hM
  show V x Z 0 0 0 [(0, va_rf (some x0)), (1, .int x1)] [] g
  refine V_aload_n hM.c 0 dL_types_0 rfl rfl ?_
  replace h := bnd_some h
  obtain ⟨r1, g2, e3, h⟩ := h
  refine V_callV (As := []) (c := 8) (T := TX10) (N := 10) hM.c hM.a mq_X10_clearText mi_X10_clearText tw_510 (hM.d (by decide)) hM.z rfl (by omega) (zc_X10_clearText e3) (vm_X10_clearText e3) rfl (Nat.le_of_ble_eq_true rfl) dL_types_1 ?_
  refine V_if_lt hM.c 11 dL_types_4 (by decide) (fun c4 => ?_) (fun c4 => ?_)
  · replace h := ite_p h c4
    refine V_iconst (v := 0) hM.c dL_types_11 (by decide) ?_
    refine V_sub [0, 1] rfl ?_
    exact vl_L_types_l12 hM  h
  · replace h := ite_n h c4
    refine V_iconst (v := 1) hM.c dL_types_7 (by decide) ?_
    refine V_goto hM.c 12 dL_types_8 (by decide) ?_
    refine V_sub [0, 1] rfl ?_
    exact vl_L_types_l12 hM  h
def f_L_asks_l101 (n : Nat) (Z : Zt) (x0 : Nat) (x3 : Int32) (x6 : Int32) (g : Mem) : Option (Int32 × Mem) := if 0 ≤ x6 then (some ((1 : Int32), g)) else (bnd (f_X10_queryLength n Z x0 g) (fun r34 g35 => if r34 = x3 then (some ((1 : Int32), g35)) else (some ((0 : Int32), g35))))
set_option maxHeartbeats 4000000 in
set_option maxRecDepth 100000 in
theorem vl_L_asks_l101 {x : Cq} {n : Nat} {Z : Zt} {x0 : Nat} {x3 : Int32} {x6 : Int32} {g : Mem} {rr : Int32} {gg : Mem} (hM : Cm x cL_asks RL 8 (some .boolean) 7 Z (some (.int rr)) gg) (h : f_L_asks_l101 n Z x0 x3 x6 g = some (rr, gg)) : V x Z 0 0 101 [(0, va_rf (some x0)), (3, .int x3), (6, .int x6)] [] g := by
  unfold f_L_asks_l101 at h
  refine V_iload hM.c 2 dL_asks_101 rfl ?_
  refine V_if_ge hM.c 114 dL_asks_103 (by decide) (fun c33 => ?_) (fun c33 => ?_)
  · replace h := ite_p h c33
    refine V_iconst (v := 1) hM.c dL_asks_114 (by decide) ?_
    refine V_goto hM.c 119 dL_asks_115 (by decide) ?_
    exact V_zretE hM (isz_nar (by decide)) h dL_asks_119
  · replace h := ite_n h c33
    refine V_aload_n hM.c 0 dL_asks_106 rfl rfl ?_
    replace h := bnd_some h
    obtain ⟨r34, g35, e36, h⟩ := h
    refine V_callV (As := []) (c := 8) (T := TX10) (N := 10) hM.c hM.a mq_X10_queryLength mi_X10_queryLength tw_72 (hM.d (by decide)) hM.z rfl (by omega) (zc_X10_queryLength e36) (vm_X10_queryLength e36) rfl (Nat.le_of_ble_eq_true rfl) dL_asks_107 ?_
    refine V_iload_n hM.c 1 dL_asks_110 rfl rfl ?_
    refine V_icmp_ne hM.c 118 dL_asks_111 (by decide) (fun c37 => ?_) (fun c37 => ?_)
    · replace h := ite_n h c37
      refine V_iconst (v := 0) hM.c dL_asks_118 (by decide) ?_
      exact V_zretE hM (isz_nar (by decide)) h dL_asks_119
    · replace h := ite_p h c37
      refine V_iconst (v := 1) hM.c dL_asks_114 (by decide) ?_
      refine V_goto hM.c 119 dL_asks_115 (by decide) ?_
      exact V_zretE hM (isz_nar (by decide)) h dL_asks_119
def f_L_asks (n : Nat) (Z : Zt) (x0 : Nat) (x1 : Nat) (x2 : Int32) (g : Mem) : Option (Int32 × Mem) := bnd (f_X10_queryLength n Z x0 g) (fun r1 g2 => bnd (f_L_types n Z x0 x2 g2) (fun r4 g5 => bnd (f_X10_fault n Z x0 g5) (fun r7 g8 => bnd (f_X10_setQuery n Z x0 g8) (fun r10 g11 => grd (zk Z x1 = 12) (grd (inr (0 : Int32) (zl Z x1)) (bnd (f_X10_clearText n Z x0 (sI g11 x1 (0 : Int32).toNatClampNeg r10)) (fun r15 g16 => if r4 = 0 then (some ((0 : Int32), g16)) else (if r7 = (-6 : Int32) then (if r10 = (-5 : Int32) then (f_L_asks_l101 n Z x0 r1 r10 g16) else (if r10 = (-4 : Int32) then (f_L_asks_l101 n Z x0 r1 r10 g16) else (bnd (f_X10_answerRows n Z x0 g16) (fun r25 g26 => if r10 = r25 then (bnd (f_X10_queryLength n Z x0 g26) (fun r29 g30 => if r29 = r15 then (f_L_asks_l101 n Z x0 r1 r10 g30) else (some ((0 : Int32), g30)))) else (some ((0 : Int32), g26)))))) else (if r7 < 0 then (some ((0 : Int32), g16)) else (if r15 < r7 then (some ((0 : Int32), g16)) else (if r10 = (-3 : Int32) then (f_L_asks_l101 n Z x0 r1 r10 g16) else (some ((0 : Int32), g16)))))))))))))
theorem mq_L_asks : Mq yL_asks cL_asks 8 (some .boolean) 3 := ⟨tw_1637, tw_409, ⟨by decide +kernel, by decide +kernel, by decide +kernel⟩, by decide⟩
theorem mi_L_asks : Cond.static yL_asks ∈ TB := tw_1636
set_option maxHeartbeats 4000000 in
set_option maxRecDepth 100000 in
theorem vm_L_asks {n : Nat} {Z : Zt} {x0 : Nat} {x1 : Nat} {x2 : Int32} {g : Mem} {rr : Int32} {gg : Mem} (h : f_L_asks n Z x0 x1 x2 g = some (rr, gg)) : VM yL_asks cL_asks 8 (some .boolean) 7 [va_rf (some x0), va_rf (some x1), .int x2] Z g (some (.int rr)) gg := by
  unfold f_L_asks at h
  refine VM.of (by decide +kernel) (Nat.le_of_ble_eq_true rfl) (fun x hM => ?_)
  have hM : Cm x cL_asks RL 8 (some .boolean) 7 Z (some (.int rr)) gg := hM
  show V x Z 0 0 0 [(0, va_rf (some x0)), (1, va_rf (some x1)), (2, .int x2)] [] g
  refine V_aload_n hM.c 0 dL_asks_0 rfl rfl ?_
  replace h := bnd_some h
  obtain ⟨r1, g2, e3, h⟩ := h
  refine V_callV (As := []) (c := 8) (T := TX10) (N := 10) hM.c hM.a mq_X10_queryLength mi_X10_queryLength tw_72 (hM.d (by decide)) hM.z rfl (by omega) (zc_X10_queryLength e3) (vm_X10_queryLength e3) rfl (Nat.le_of_ble_eq_true rfl) dL_asks_1 ?_
  refine V_istore_n (i := 3) (L' := [(3, .int r1), (0, va_rf (some x0)), (1, va_rf (some x1)), (2, .int x2)]) hM.c dL_asks_4 rfl (by decide) rfl ?_
  refine V_aload_n hM.c 1 dL_asks_5 rfl rfl ?_
  refine V_iload_n hM.c 3 dL_asks_6 rfl rfl ?_
  replace h := bnd_some h
  obtain ⟨r4, g5, e6, h⟩ := h
  refine V_callS (As := [va_rf (some x0), .int x2]) hM.c hM.a mq_L_types mi_L_types tw_558 (hM.d (by decide)) hM.z (vm_L_types e6) rfl (Nat.le_of_ble_eq_true rfl) dL_asks_7 ?_
  refine V_istore (L' := [(4, .int r4), (3, .int r1), (0, va_rf (some x0)), (1, va_rf (some x1)), (2, .int x2)]) hM.c dL_asks_10 (by decide) rfl ?_
  refine V_aload_n hM.c 2 dL_asks_12 rfl rfl ?_
  replace h := bnd_some h
  obtain ⟨r7, g8, e9, h⟩ := h
  refine V_callV (As := []) (c := 8) (T := TX10) (N := 10) hM.c hM.a mq_X10_fault mi_X10_fault tw_584 (hM.d (by decide)) hM.z rfl (by omega) (zc_X10_fault e9) (vm_X10_fault e9) rfl (Nat.le_of_ble_eq_true rfl) dL_asks_13 ?_
  refine V_istore (L' := [(5, .int r7), (4, .int r4), (3, .int r1), (0, va_rf (some x0)), (1, va_rf (some x1)), (2, .int x2)]) hM.c dL_asks_16 (by decide) rfl ?_
  refine V_aload_n hM.c 3 dL_asks_18 rfl rfl ?_
  replace h := bnd_some h
  obtain ⟨r10, g11, e12, h⟩ := h
  refine V_callV (As := []) (c := 8) (T := TX10) (N := 10) hM.c hM.a mq_X10_setQuery mi_X10_setQuery tw_659 (hM.d (by decide)) hM.z rfl (by omega) (zc_X10_setQuery e12) (vm_X10_setQuery e12) rfl (Nat.le_of_ble_eq_true rfl) dL_asks_19 ?_
  refine V_istore (L' := [(6, .int r10), (5, .int r7), (4, .int r4), (3, .int r1), (0, va_rf (some x0)), (1, va_rf (some x1)), (2, .int x2)]) hM.c dL_asks_22 (by decide) rfl ?_
  refine V_aload_n hM.c 5 dL_asks_24 rfl rfl ?_
  refine V_iconst (v := 0) hM.c dL_asks_25 (by decide) ?_
  refine V_iload hM.c 0 dL_asks_26 rfl ?_
  replace h := grd_some h
  obtain ⟨z13, h⟩ := h
  replace h := grd_some h
  obtain ⟨c14, h⟩ := h
  refine V_iast hM.c z13 c14 hM.a dL_asks_28 ?_
  refine V_aload_n hM.c 4 dL_asks_29 rfl rfl ?_
  replace h := bnd_some h
  obtain ⟨r15, g16, e17, h⟩ := h
  refine V_callV (As := []) (c := 8) (T := TX10) (N := 10) hM.c hM.a mq_X10_clearText mi_X10_clearText tw_510 (hM.d (by decide)) hM.z rfl (by omega) (zc_X10_clearText e17) (vm_X10_clearText e17) rfl (Nat.le_of_ble_eq_true rfl) dL_asks_30 ?_
  refine V_istore (L' := [(7, .int r15), (6, .int r10), (5, .int r7), (4, .int r4), (3, .int r1), (0, va_rf (some x0)), (1, va_rf (some x1)), (2, .int x2)]) hM.c dL_asks_33 (by decide) rfl ?_
  refine V_iload hM.c 3 dL_asks_35 rfl ?_
  refine V_if_eq hM.c 118 dL_asks_37 (by decide) (fun c18 => ?_) (fun c18 => ?_)
  · replace h := ite_p h c18
    refine V_iconst (v := 0) hM.c dL_asks_118 (by decide) ?_
    exact V_zretE hM (isz_nar (by decide)) h dL_asks_119
  · replace h := ite_n h c18
    refine V_iload hM.c 2 dL_asks_40 rfl ?_
    refine V_bipush (v := -6) hM.c dL_asks_42 (by decide) ?_
    refine V_icmp_ne hM.c 82 dL_asks_44 (by decide) (fun c19 => ?_) (fun c19 => ?_)
    · replace h := ite_n h c19
      refine V_iload hM.c 2 dL_asks_82 rfl ?_
      refine V_if_lt hM.c 118 dL_asks_84 (by decide) (fun c20 => ?_) (fun c20 => ?_)
      · replace h := ite_p h c20
        refine V_iconst (v := 0) hM.c dL_asks_118 (by decide) ?_
        exact V_zretE hM (isz_nar (by decide)) h dL_asks_119
      · replace h := ite_n h c20
        refine V_iload hM.c 2 dL_asks_87 rfl ?_
        refine V_iload hM.c 0 dL_asks_89 rfl ?_
        refine V_icmp_gt hM.c 118 dL_asks_91 (by decide) (fun c21 => ?_) (fun c21 => ?_)
        · replace h := ite_p h c21
          refine V_iconst (v := 0) hM.c dL_asks_118 (by decide) ?_
          exact V_zretE hM (isz_nar (by decide)) h dL_asks_119
        · replace h := ite_n h c21
          refine V_iload hM.c 1 dL_asks_94 rfl ?_
          refine V_bipush (v := -3) hM.c dL_asks_96 (by decide) ?_
          refine V_icmp_ne hM.c 118 dL_asks_98 (by decide) (fun c22 => ?_) (fun c22 => ?_)
          · replace h := ite_n h c22
            refine V_iconst (v := 0) hM.c dL_asks_118 (by decide) ?_
            exact V_zretE hM (isz_nar (by decide)) h dL_asks_119
          · replace h := ite_p h c22
            refine V_sub [5, 4, 1] rfl ?_
            exact vl_L_asks_l101 hM  h
    · replace h := ite_p h c19
      refine V_iload hM.c 1 dL_asks_47 rfl ?_
      refine V_bipush (v := -5) hM.c dL_asks_49 (by decide) ?_
      refine V_icmp_eq hM.c 101 dL_asks_51 (by decide) (fun c23 => ?_) (fun c23 => ?_)
      · replace h := ite_p h c23
        refine V_sub [5, 4, 1] rfl ?_
        exact vl_L_asks_l101 hM  h
      · replace h := ite_n h c23
        refine V_iload hM.c 1 dL_asks_54 rfl ?_
        refine V_bipush (v := -4) hM.c dL_asks_56 (by decide) ?_
        refine V_icmp_eq hM.c 101 dL_asks_58 (by decide) (fun c24 => ?_) (fun c24 => ?_)
        · replace h := ite_p h c24
          refine V_sub [5, 4, 1] rfl ?_
          exact vl_L_asks_l101 hM  h
        · replace h := ite_n h c24
          refine V_iload hM.c 1 dL_asks_61 rfl ?_
          refine V_aload_n hM.c 5 dL_asks_63 rfl rfl ?_
          replace h := bnd_some h
          obtain ⟨r25, g26, e27, h⟩ := h
          refine V_callV (As := []) (c := 8) (T := TX10) (N := 10) hM.c hM.a mq_X10_answerRows mi_X10_answerRows tw_96 (hM.d (by decide)) hM.z rfl (by omega) (zc_X10_answerRows e27) (vm_X10_answerRows e27) rfl (Nat.le_of_ble_eq_true rfl) dL_asks_64 ?_
          refine V_icmp_ne hM.c 118 dL_asks_67 (by decide) (fun c28 => ?_) (fun c28 => ?_)
          · replace h := ite_n h c28
            refine V_iconst (v := 0) hM.c dL_asks_118 (by decide) ?_
            exact V_zretE hM (isz_nar (by decide)) h dL_asks_119
          · replace h := ite_p h c28
            refine V_aload_n hM.c 5 dL_asks_70 rfl rfl ?_
            replace h := bnd_some h
            obtain ⟨r29, g30, e31, h⟩ := h
            refine V_callV (As := []) (c := 8) (T := TX10) (N := 10) hM.c hM.a mq_X10_queryLength mi_X10_queryLength tw_72 (hM.d (by decide)) hM.z rfl (by omega) (zc_X10_queryLength e31) (vm_X10_queryLength e31) rfl (Nat.le_of_ble_eq_true rfl) dL_asks_71 ?_
            refine V_iload hM.c 0 dL_asks_74 rfl ?_
            refine V_icmp_ne hM.c 118 dL_asks_76 (by decide) (fun c32 => ?_) (fun c32 => ?_)
            · replace h := ite_n h c32
              refine V_iconst (v := 0) hM.c dL_asks_118 (by decide) ?_
              exact V_zretE hM (isz_nar (by decide)) h dL_asks_119
            · replace h := ite_p h c32
              refine V_goto hM.c 101 dL_asks_79 (by decide) ?_
              refine V_sub [5, 4, 1] rfl ?_
              exact vl_L_asks_l101 hM  h
def f_L_rows_l260 (n : Nat) (Z : Zt) (s0 : Int32) (s1 : Int32) (g : Mem) : Option (Int32 × Mem) := if s1 = s0 then (some ((1 : Int32), g)) else (some ((0 : Int32), g))
set_option maxHeartbeats 4000000 in
set_option maxRecDepth 100000 in
theorem vl_L_rows_l260 {x : Cq} {n : Nat} {Z : Zt} {s0 : Int32} {s1 : Int32} {g : Mem} {rr : Int32} {gg : Mem} (hM : Cm x cL_rows RL 14 (some .boolean) 8 Z (some (.int rr)) gg) (h : f_L_rows_l260 n Z s0 s1 g = some (rr, gg)) : V x Z 0 0 260 [] [.int s0, .int s1] g := by
  unfold f_L_rows_l260 at h
  refine V_icmp_ne hM.c 267 dL_rows_260 (by decide) (fun c141 => ?_) (fun c141 => ?_)
  · replace h := ite_n h c141
    refine V_iconst (v := 0) hM.c dL_rows_267 (by decide) ?_
    exact V_zretE hM (isz_nar (by decide)) h dL_rows_268
  · replace h := ite_p h c141
    refine V_iconst (v := 1) hM.c dL_rows_263 (by decide) ?_
    refine V_goto hM.c 268 dL_rows_264 (by decide) ?_
    exact V_zretE hM (isz_nar (by decide)) h dL_rows_268
def f_L_rows_l234 (n : Nat) (Z : Zt) (x7 : Int32) (x9 : Int32) (x10 : Int32) (x13 : Int32) (g : Mem) : Option (Int32 × Mem) := if x7 = (4 : Int32) then (f_L_rows_l260 n Z (-1 : Int32) x13 g) else (if x10 = x9 then (f_L_rows_l260 n Z (-2 : Int32) x13 g) else (f_L_rows_l260 n Z (-4 : Int32) x13 g))
set_option maxHeartbeats 4000000 in
set_option maxRecDepth 100000 in
theorem vl_L_rows_l234 {x : Cq} {n : Nat} {Z : Zt} {x7 : Int32} {x9 : Int32} {x10 : Int32} {x13 : Int32} {g : Mem} {rr : Int32} {gg : Mem} (hM : Cm x cL_rows RL 14 (some .boolean) 8 Z (some (.int rr)) gg) (h : f_L_rows_l234 n Z x7 x9 x10 x13 g = some (rr, gg)) : V x Z 0 0 234 [(7, .int x7), (9, .int x9), (10, .int x10), (13, .int x13)] [] g := by
  unfold f_L_rows_l234 at h
  refine V_iload hM.c 3 dL_rows_234 rfl ?_
  refine V_iload hM.c 0 dL_rows_236 rfl ?_
  refine V_iconst (v := 4) hM.c dL_rows_238 (by decide) ?_
  refine V_icmp_ne hM.c 246 dL_rows_239 (by decide) (fun c129 => ?_) (fun c129 => ?_)
  · replace h := ite_n h c129
    refine V_iload hM.c 2 dL_rows_246 rfl ?_
    refine V_iload hM.c 1 dL_rows_248 rfl ?_
    refine V_icmp_ne hM.c 258 dL_rows_250 (by decide) (fun c130 => ?_) (fun c130 => ?_)
    · replace h := ite_n h c130
      refine V_bipush (v := -4) hM.c dL_rows_258 (by decide) ?_
      refine V_sub [] rfl ?_
      exact vl_L_rows_l260 hM  h
    · replace h := ite_p h c130
      refine V_bipush (v := -2) hM.c dL_rows_253 (by decide) ?_
      refine V_goto hM.c 260 dL_rows_255 (by decide) ?_
      refine V_sub [] rfl ?_
      exact vl_L_rows_l260 hM  h
  · replace h := ite_p h c129
    refine V_iconst (v := -1) hM.c dL_rows_242 (by decide) ?_
    refine V_goto hM.c 260 dL_rows_243 (by decide) ?_
    refine V_sub [] rfl ?_
    exact vl_L_rows_l260 hM  h
def f_L_rows_l193 (n : Nat) (Z : Zt) (x0 : Nat) (x1 : Nat) (x7 : Int32) (x9 : Int32) (x10 : Int32) (x11 : Int32) (g : Mem) : Option (Int32 × Mem) := bnd (f_X10_answerRows n Z x0 g) (fun r84 g85 => bnd (f_X10_addRow n Z x0 x7 x10 g85) (fun r87 g88 => grd (zk Z x1 = 12) (grd (inr (0 : Int32) (zl Z x1)) (if x7 = (4 : Int32) then (f_L_rows_l234 n Z x7 x9 x10 r87 (sI g88 x1 (0 : Int32).toNatClampNeg r87)) else (if x10 = x9 then (f_L_rows_l234 n Z x7 x9 x10 r87 (sI g88 x1 (0 : Int32).toNatClampNeg r87)) else (if x11 = (16 : Int32) then (f_L_rows_l234 n Z x7 x9 x10 r87 (sI g88 x1 (0 : Int32).toNatClampNeg r87)) else (if r87 = (-4 : Int32) then (bnd (f_X10_queryLength n Z x0 (sI g88 x1 (0 : Int32).toNatClampNeg r87)) (fun r117 g118 => if r117 ≤ 0 then (some ((0 : Int32), g118)) else (bnd (f_X10_answerRows n Z x0 g118) (fun r121 g122 => if r121 = r84 then (some ((1 : Int32), g122)) else (some ((0 : Int32), g122)))))) else (if r87 = x11 then (bnd (f_X10_tableOf n Z x0 x11 (sI g88 x1 (0 : Int32).toNatClampNeg r87)) (fun r97 g98 => if r97 = x7 then (bnd (f_X10_cost n Z x0 x11 g98) (fun r101 g102 => if r101 = (1 : Int32) then (bnd (f_X10_trust n Z x0 x11 g102) (fun r105 g106 => if r105 = (100 : Int32) then (bnd (f_X10_withdrawn n Z x0 g106) (fun r109 g110 => if ((r109 >>> (x11 &&& 31)) &&& (1 : Int32)) = 0 then (bnd (f_X10_answerRows n Z x0 g110) (fun r113 g114 => if r113 < r84 then (some ((0 : Int32), g114)) else (some ((1 : Int32), g114)))) else (some ((0 : Int32), g110)))) else (some ((0 : Int32), g106)))) else (some ((0 : Int32), g102)))) else (some ((0 : Int32), g98)))) else (some ((0 : Int32), (sI g88 x1 (0 : Int32).toNatClampNeg r87)))))))))))
set_option maxHeartbeats 4000000 in
set_option maxRecDepth 100000 in
theorem vl_L_rows_l193 {x : Cq} {n : Nat} {Z : Zt} {x0 : Nat} {x1 : Nat} {x7 : Int32} {x9 : Int32} {x10 : Int32} {x11 : Int32} {g : Mem} {rr : Int32} {gg : Mem} (hM : Cm x cL_rows RL 14 (some .boolean) 8 Z (some (.int rr)) gg) (h : f_L_rows_l193 n Z x0 x1 x7 x9 x10 x11 g = some (rr, gg)) : V x Z 0 0 193 [(0, va_rf (some x0)), (1, va_rf (some x1)), (7, .int x7), (9, .int x9), (10, .int x10), (11, .int x11)] [] g := by
  unfold f_L_rows_l193 at h
  refine V_aload_n hM.c 0 dL_rows_193 rfl rfl ?_
  replace h := bnd_some h
  obtain ⟨r84, g85, e86, h⟩ := h
  refine V_callV (As := []) (c := 8) (T := TX10) (N := 10) hM.c hM.a mq_X10_answerRows mi_X10_answerRows tw_96 (hM.d (by decide)) hM.z rfl (by omega) (zc_X10_answerRows e86) (vm_X10_answerRows e86) rfl (Nat.le_of_ble_eq_true rfl) dL_rows_194 ?_
  refine V_istore (L' := [(12, .int r84), (0, va_rf (some x0)), (1, va_rf (some x1)), (7, .int x7), (9, .int x9), (10, .int x10), (11, .int x11)]) hM.c dL_rows_197 (by decide) rfl ?_
  refine V_aload_n hM.c 1 dL_rows_199 rfl rfl ?_
  refine V_iload hM.c 3 dL_rows_200 rfl ?_
  refine V_iload hM.c 5 dL_rows_202 rfl ?_
  replace h := bnd_some h
  obtain ⟨r87, g88, e89, h⟩ := h
  refine V_callV (As := [.int x7, .int x10]) (c := 8) (T := TX10) (N := 10) hM.c hM.a mq_X10_addRow mi_X10_addRow tw_928 (hM.d (by decide)) hM.z rfl (by omega) (zc_X10_addRow e89) (vm_X10_addRow e89) rfl (Nat.le_of_ble_eq_true rfl) dL_rows_204 ?_
  refine V_istore (L' := [(13, .int r87), (12, .int r84), (0, va_rf (some x0)), (1, va_rf (some x1)), (7, .int x7), (9, .int x9), (10, .int x10), (11, .int x11)]) hM.c dL_rows_207 (by decide) rfl ?_
  refine V_aload_n hM.c 3 dL_rows_209 rfl rfl ?_
  refine V_iconst (v := 0) hM.c dL_rows_210 (by decide) ?_
  refine V_iload hM.c 0 dL_rows_211 rfl ?_
  replace h := grd_some h
  obtain ⟨z90, h⟩ := h
  replace h := grd_some h
  obtain ⟨c91, h⟩ := h
  refine V_iast hM.c z90 c91 hM.a dL_rows_213 ?_
  refine V_iload hM.c 4 dL_rows_214 rfl ?_
  refine V_iconst (v := 4) hM.c dL_rows_216 (by decide) ?_
  refine V_icmp_eq hM.c 234 dL_rows_217 (by decide) (fun c92 => ?_) (fun c92 => ?_)
  · replace h := ite_p h c92
    refine V_sub [4, 5, 6, 0] rfl ?_
    exact vl_L_rows_l234 hM  h
  · replace h := ite_n h c92
    refine V_iload hM.c 6 dL_rows_220 rfl ?_
    refine V_iload hM.c 5 dL_rows_222 rfl ?_
    refine V_icmp_eq hM.c 234 dL_rows_224 (by decide) (fun c93 => ?_) (fun c93 => ?_)
    · replace h := ite_p h c93
      refine V_sub [4, 5, 6, 0] rfl ?_
      exact vl_L_rows_l234 hM  h
    · replace h := ite_n h c93
      refine V_iload hM.c 7 dL_rows_227 rfl ?_
      refine V_bipush (v := 16) hM.c dL_rows_229 (by decide) ?_
      refine V_icmp_ne hM.c 269 dL_rows_231 (by decide) (fun c94 => ?_) (fun c94 => ?_)
      · replace h := ite_n h c94
        refine V_iload hM.c 0 dL_rows_269 rfl ?_
        refine V_bipush (v := -4) hM.c dL_rows_271 (by decide) ?_
        refine V_icmp_ne hM.c 300 dL_rows_273 (by decide) (fun c95 => ?_) (fun c95 => ?_)
        · replace h := ite_n h c95
          refine V_iload hM.c 0 dL_rows_300 rfl ?_
          refine V_iload hM.c 7 dL_rows_302 rfl ?_
          refine V_icmp_ne hM.c 364 dL_rows_304 (by decide) (fun c96 => ?_) (fun c96 => ?_)
          · replace h := ite_n h c96
            refine V_iconst (v := 0) hM.c dL_rows_364 (by decide) ?_
            exact V_zretE hM (isz_nar (by decide)) h dL_rows_365
          · replace h := ite_p h c96
            refine V_aload_n hM.c 2 dL_rows_307 rfl rfl ?_
            refine V_iload hM.c 7 dL_rows_308 rfl ?_
            replace h := bnd_some h
            obtain ⟨r97, g98, e99, h⟩ := h
            refine V_callV (As := [.int x11]) (c := 8) (T := TX10) (N := 10) hM.c hM.a mq_X10_tableOf mi_X10_tableOf tw_17 (hM.d (by decide)) hM.z rfl (by omega) (zc_X10_tableOf e99) (vm_X10_tableOf e99) rfl (Nat.le_of_ble_eq_true rfl) dL_rows_310 ?_
            refine V_iload hM.c 4 dL_rows_313 rfl ?_
            refine V_icmp_ne hM.c 364 dL_rows_315 (by decide) (fun c100 => ?_) (fun c100 => ?_)
            · replace h := ite_n h c100
              refine V_iconst (v := 0) hM.c dL_rows_364 (by decide) ?_
              exact V_zretE hM (isz_nar (by decide)) h dL_rows_365
            · replace h := ite_p h c100
              refine V_aload_n hM.c 2 dL_rows_318 rfl rfl ?_
              refine V_iload hM.c 7 dL_rows_319 rfl ?_
              replace h := bnd_some h
              obtain ⟨r101, g102, e103, h⟩ := h
              refine V_callV (As := [.int x11]) (c := 8) (T := TX10) (N := 10) hM.c hM.a mq_X10_cost mi_X10_cost tw_32 (hM.d (by decide)) hM.z rfl (by omega) (zc_X10_cost e103) (vm_X10_cost e103) rfl (Nat.le_of_ble_eq_true rfl) dL_rows_321 ?_
              refine V_iconst (v := 1) hM.c dL_rows_324 (by decide) ?_
              refine V_icmp_ne hM.c 364 dL_rows_325 (by decide) (fun c104 => ?_) (fun c104 => ?_)
              · replace h := ite_n h c104
                refine V_iconst (v := 0) hM.c dL_rows_364 (by decide) ?_
                exact V_zretE hM (isz_nar (by decide)) h dL_rows_365
              · replace h := ite_p h c104
                refine V_aload_n hM.c 2 dL_rows_328 rfl rfl ?_
                refine V_iload hM.c 7 dL_rows_329 rfl ?_
                replace h := bnd_some h
                obtain ⟨r105, g106, e107, h⟩ := h
                refine V_callV (As := [.int x11]) (c := 8) (T := TX10) (N := 10) hM.c hM.a mq_X10_trust mi_X10_trust tw_41 (hM.d (by decide)) hM.z rfl (by omega) (zc_X10_trust e107) (vm_X10_trust e107) rfl (Nat.le_of_ble_eq_true rfl) dL_rows_331 ?_
                refine V_bipush (v := 100) hM.c dL_rows_334 (by decide) ?_
                refine V_icmp_ne hM.c 364 dL_rows_336 (by decide) (fun c108 => ?_) (fun c108 => ?_)
                · replace h := ite_n h c108
                  refine V_iconst (v := 0) hM.c dL_rows_364 (by decide) ?_
                  exact V_zretE hM (isz_nar (by decide)) h dL_rows_365
                · replace h := ite_p h c108
                  refine V_aload_n hM.c 2 dL_rows_339 rfl rfl ?_
                  replace h := bnd_some h
                  obtain ⟨r109, g110, e111, h⟩ := h
                  refine V_callV (As := []) (c := 8) (T := TX10) (N := 10) hM.c hM.a mq_X10_withdrawn mi_X10_withdrawn tw_63 (hM.d (by decide)) hM.z rfl (by omega) (zc_X10_withdrawn e111) (vm_X10_withdrawn e111) rfl (Nat.le_of_ble_eq_true rfl) dL_rows_340 ?_
                  refine V_iload hM.c 7 dL_rows_343 rfl ?_
                  refine V_ishr hM.c dL_rows_345 ?_
                  refine V_iconst (v := 1) hM.c dL_rows_346 (by decide) ?_
                  refine V_iand hM.c dL_rows_347 ?_
                  refine V_if_ne hM.c 364 dL_rows_348 (by decide) (fun c112 => ?_) (fun c112 => ?_)
                  · replace h := ite_n h c112
                    refine V_iconst (v := 0) hM.c dL_rows_364 (by decide) ?_
                    exact V_zretE hM (isz_nar (by decide)) h dL_rows_365
                  · replace h := ite_p h c112
                    refine V_aload_n hM.c 2 dL_rows_351 rfl rfl ?_
                    replace h := bnd_some h
                    obtain ⟨r113, g114, e115, h⟩ := h
                    refine V_callV (As := []) (c := 8) (T := TX10) (N := 10) hM.c hM.a mq_X10_answerRows mi_X10_answerRows tw_96 (hM.d (by decide)) hM.z rfl (by omega) (zc_X10_answerRows e115) (vm_X10_answerRows e115) rfl (Nat.le_of_ble_eq_true rfl) dL_rows_352 ?_
                    refine V_iload hM.c 1 dL_rows_355 rfl ?_
                    refine V_icmp_lt hM.c 364 dL_rows_357 (by decide) (fun c116 => ?_) (fun c116 => ?_)
                    · replace h := ite_p h c116
                      refine V_iconst (v := 0) hM.c dL_rows_364 (by decide) ?_
                      exact V_zretE hM (isz_nar (by decide)) h dL_rows_365
                    · replace h := ite_n h c116
                      refine V_iconst (v := 1) hM.c dL_rows_360 (by decide) ?_
                      refine V_goto hM.c 365 dL_rows_361 (by decide) ?_
                      exact V_zretE hM (isz_nar (by decide)) h dL_rows_365
        · replace h := ite_p h c95
          refine V_aload_n hM.c 2 dL_rows_276 rfl rfl ?_
          replace h := bnd_some h
          obtain ⟨r117, g118, e119, h⟩ := h
          refine V_callV (As := []) (c := 8) (T := TX10) (N := 10) hM.c hM.a mq_X10_queryLength mi_X10_queryLength tw_72 (hM.d (by decide)) hM.z rfl (by omega) (zc_X10_queryLength e119) (vm_X10_queryLength e119) rfl (Nat.le_of_ble_eq_true rfl) dL_rows_277 ?_
          refine V_if_le hM.c 296 dL_rows_280 (by decide) (fun c120 => ?_) (fun c120 => ?_)
          · replace h := ite_p h c120
            refine V_iconst (v := 0) hM.c dL_rows_296 (by decide) ?_
            refine V_goto hM.c 365 dL_rows_297 (by decide) ?_
            exact V_zretE hM (isz_nar (by decide)) h dL_rows_365
          · replace h := ite_n h c120
            refine V_aload_n hM.c 2 dL_rows_283 rfl rfl ?_
            replace h := bnd_some h
            obtain ⟨r121, g122, e123, h⟩ := h
            refine V_callV (As := []) (c := 8) (T := TX10) (N := 10) hM.c hM.a mq_X10_answerRows mi_X10_answerRows tw_96 (hM.d (by decide)) hM.z rfl (by omega) (zc_X10_answerRows e123) (vm_X10_answerRows e123) rfl (Nat.le_of_ble_eq_true rfl) dL_rows_284 ?_
            refine V_iload hM.c 1 dL_rows_287 rfl ?_
            refine V_icmp_ne hM.c 296 dL_rows_289 (by decide) (fun c124 => ?_) (fun c124 => ?_)
            · replace h := ite_n h c124
              refine V_iconst (v := 0) hM.c dL_rows_296 (by decide) ?_
              refine V_goto hM.c 365 dL_rows_297 (by decide) ?_
              exact V_zretE hM (isz_nar (by decide)) h dL_rows_365
            · replace h := ite_p h c124
              refine V_iconst (v := 1) hM.c dL_rows_292 (by decide) ?_
              refine V_goto hM.c 365 dL_rows_293 (by decide) ?_
              exact V_zretE hM (isz_nar (by decide)) h dL_rows_365
      · replace h := ite_p h c94
        refine V_sub [4, 5, 6, 0] rfl ?_
        exact vl_L_rows_l234 hM  h
def f_L_rows_l167 (n : Nat) (Z : Zt) : Nat → Nat → Nat → Int32 → Int32 → Int32 → Int32 → Mem → Option (Int32 × Mem)
  | 0, _, _, _, _, _, _, _ => none
  | fu + 1, x0, x1, x7, x9, x10, x11, g => if (16 : Int32) ≤ x11 then (f_L_rows_l193 n Z x0 x1 x7 x9 x10 x11 g) else (bnd (f_X10_tags n Z x0 g) (fun r73 g74 => if ((r73 >>> (x11 &&& 31)) &&& (1 : Int32)) = (1 : Int32) then (f_L_rows_l167 n Z fu x0 x1 x7 x9 x10 (x11 + 1) g74) else (f_L_rows_l193 n Z x0 x1 x7 x9 x10 x11 g74)))
set_option maxHeartbeats 4000000 in
set_option maxRecDepth 100000 in
theorem vl_L_rows_l167 {x : Cq} {n : Nat} {Z : Zt} {rr : Int32} {gg : Mem} (hM : Cm x cL_rows RL 14 (some .boolean) 8 Z (some (.int rr)) gg) : ∀ (fu : Nat) (x0 : Nat) (x1 : Nat) (x7 : Int32) (x9 : Int32) (x10 : Int32) (x11 : Int32) (g : Mem), f_L_rows_l167 n Z fu x0 x1 x7 x9 x10 x11 g = some (rr, gg) → V x Z 0 0 167 [(0, va_rf (some x0)), (1, va_rf (some x1)), (7, .int x7), (9, .int x9), (10, .int x10), (11, .int x11)] [] g := by
  intro fu
  induction fu with
  | zero => intro x0 x1 x7 x9 x10 x11 g h; cases h
  | succ fu ih =>
    intro x0 x1 x7 x9 x10 x11 g h
    unfold f_L_rows_l167 at h
    refine V_iload hM.c 5 dL_rows_167 rfl ?_
    refine V_bipush (v := 16) hM.c dL_rows_169 (by decide) ?_
    refine V_icmp_ge hM.c 193 dL_rows_171 (by decide) (fun c72 => ?_) (fun c72 => ?_)
    · replace h := ite_p h c72
      refine V_sub [0, 1, 2, 3, 4, 5] rfl ?_
      exact vl_L_rows_l193 hM  h
    · replace h := ite_n h c72
      refine V_aload_n hM.c 0 dL_rows_174 rfl rfl ?_
      replace h := bnd_some h
      obtain ⟨r73, g74, e75, h⟩ := h
      refine V_callV (As := []) (c := 8) (T := TX10) (N := 10) hM.c hM.a mq_X10_tags mi_X10_tags tw_259 (hM.d (by decide)) hM.z rfl (by omega) (zc_X10_tags e75) (vm_X10_tags e75) rfl (Nat.le_of_ble_eq_true rfl) dL_rows_175 ?_
      refine V_iload hM.c 5 dL_rows_178 rfl ?_
      refine V_ishr hM.c dL_rows_180 ?_
      refine V_iconst (v := 1) hM.c dL_rows_181 (by decide) ?_
      refine V_iand hM.c dL_rows_182 ?_
      refine V_iconst (v := 1) hM.c dL_rows_183 (by decide) ?_
      refine V_icmp_ne hM.c 193 dL_rows_184 (by decide) (fun c76 => ?_) (fun c76 => ?_)
      · replace h := ite_n h c76
        refine V_sub [0, 1, 2, 3, 4, 5] rfl ?_
        exact vl_L_rows_l193 hM  h
      · replace h := ite_p h c76
        refine V_iinc (v := (x11 + 1)) (L' := [(11, .int (x11 + 1)), (0, va_rf (some x0)), (1, va_rf (some x1)), (7, .int x7), (9, .int x9), (10, .int x10)]) hM.c 5 dL_rows_187 rfl rfl (by decide) rfl ?_
        refine V_goto hM.c 167 dL_rows_190 (by decide) ?_
        refine V_sub [1, 2, 3, 4, 5, 0] rfl ?_
        exact ih _ _ _ _ _ _ _ h
def f_L_rows_l124 (n : Nat) (Z : Zt) (x0 : Nat) (x1 : Nat) (x3 : Int32) (x7 : Int32) (x8 : Int32) (s0 : Int32) (g : Mem) : Option (Int32 × Mem) := bnd (f_L_low n Z (x3 >>> ((18 : Int32) &&& 31)) (5 : Int32) g) (fun r57 g58 => if r57 = 0 then (bnd (f_L_low n Z (x3 >>> ((3 : Int32) &&& 31)) (s0 + (1 : Int32)) g58) (fun r68 g69 => f_L_rows_l167 n Z n x0 x1 x7 s0 r68 (0 : Int32) g69)) else (if x8 = (1 : Int32) then (bnd (f_L_low n Z (x3 >>> ((3 : Int32) &&& 31)) (3 : Int32) g58) (fun r65 g66 => f_L_rows_l167 n Z n x0 x1 x7 s0 r65 (0 : Int32) g66)) else (bnd (f_L_low n Z (x3 >>> ((3 : Int32) &&& 31)) (30 : Int32) g58) (fun r62 g63 => f_L_rows_l167 n Z n x0 x1 x7 s0 r62 (0 : Int32) g63))))
set_option maxHeartbeats 4000000 in
set_option maxRecDepth 100000 in
theorem vl_L_rows_l124 {x : Cq} {n : Nat} {Z : Zt} {x0 : Nat} {x1 : Nat} {x3 : Int32} {x7 : Int32} {x8 : Int32} {s0 : Int32} {g : Mem} {rr : Int32} {gg : Mem} (hM : Cm x cL_rows RL 14 (some .boolean) 8 Z (some (.int rr)) gg) (h : f_L_rows_l124 n Z x0 x1 x3 x7 x8 s0 g = some (rr, gg)) : V x Z 0 0 124 [(0, va_rf (some x0)), (1, va_rf (some x1)), (3, .int x3), (7, .int x7), (8, .int x8)] [.int s0] g := by
  unfold f_L_rows_l124 at h
  refine V_istore (L' := [(9, .int s0), (0, va_rf (some x0)), (1, va_rf (some x1)), (3, .int x3), (7, .int x7), (8, .int x8)]) hM.c dL_rows_124 (by decide) rfl ?_
  refine V_iload_n hM.c 3 dL_rows_126 rfl rfl ?_
  refine V_iconst (v := 3) hM.c dL_rows_127 (by decide) ?_
  refine V_ishr hM.c dL_rows_128 ?_
  refine V_iload_n hM.c 3 dL_rows_129 rfl rfl ?_
  refine V_bipush (v := 18) hM.c dL_rows_130 (by decide) ?_
  refine V_ishr hM.c dL_rows_132 ?_
  refine V_iconst (v := 5) hM.c dL_rows_133 (by decide) ?_
  replace h := bnd_some h
  obtain ⟨r57, g58, e59, h⟩ := h
  refine V_callS (As := [.int (x3 >>> ((18 : Int32) &&& 31)), .int (5 : Int32)]) hM.c hM.a mq_L_low mi_L_low tw_407 (hM.d (by decide)) hM.z (vm_L_low e59) rfl (Nat.le_of_ble_eq_true rfl) dL_rows_134 ?_
  refine V_if_ne hM.c 147 dL_rows_137 (by decide) (fun c60 => ?_) (fun c60 => ?_)
  · replace h := ite_n h c60
    refine V_iload hM.c 5 dL_rows_147 rfl ?_
    refine V_iconst (v := 1) hM.c dL_rows_149 (by decide) ?_
    refine V_icmp_ne hM.c 157 dL_rows_150 (by decide) (fun c61 => ?_) (fun c61 => ?_)
    · replace h := ite_n h c61
      refine V_bipush (v := 30) hM.c dL_rows_157 (by decide) ?_
      replace h := bnd_some h
      obtain ⟨r62, g63, e64, h⟩ := h
      refine V_callS (As := [.int (x3 >>> ((3 : Int32) &&& 31)), .int (30 : Int32)]) hM.c hM.a mq_L_low mi_L_low tw_407 (hM.d (by decide)) hM.z (vm_L_low e64) rfl (Nat.le_of_ble_eq_true rfl) dL_rows_159 ?_
      refine V_istore (L' := [(10, .int r62), (9, .int s0), (0, va_rf (some x0)), (1, va_rf (some x1)), (3, .int x3), (7, .int x7), (8, .int x8)]) hM.c dL_rows_162 (by decide) rfl ?_
      refine V_iconst (v := 0) hM.c dL_rows_164 (by decide) ?_
      refine V_istore (L' := [(11, .int (0 : Int32)), (10, .int r62), (9, .int s0), (0, va_rf (some x0)), (1, va_rf (some x1)), (3, .int x3), (7, .int x7), (8, .int x8)]) hM.c dL_rows_165 (by decide) rfl ?_
      refine V_sub [3, 4, 6, 2, 1, 0] rfl ?_
      exact vl_L_rows_l167 hM  _ _ _ _ _ _ _ _ h
    · replace h := ite_p h c61
      refine V_iconst (v := 3) hM.c dL_rows_153 (by decide) ?_
      refine V_goto hM.c 159 dL_rows_154 (by decide) ?_
      replace h := bnd_some h
      obtain ⟨r65, g66, e67, h⟩ := h
      refine V_callS (As := [.int (x3 >>> ((3 : Int32) &&& 31)), .int (3 : Int32)]) hM.c hM.a mq_L_low mi_L_low tw_407 (hM.d (by decide)) hM.z (vm_L_low e67) rfl (Nat.le_of_ble_eq_true rfl) dL_rows_159 ?_
      refine V_istore (L' := [(10, .int r65), (9, .int s0), (0, va_rf (some x0)), (1, va_rf (some x1)), (3, .int x3), (7, .int x7), (8, .int x8)]) hM.c dL_rows_162 (by decide) rfl ?_
      refine V_iconst (v := 0) hM.c dL_rows_164 (by decide) ?_
      refine V_istore (L' := [(11, .int (0 : Int32)), (10, .int r65), (9, .int s0), (0, va_rf (some x0)), (1, va_rf (some x1)), (3, .int x3), (7, .int x7), (8, .int x8)]) hM.c dL_rows_165 (by decide) rfl ?_
      refine V_sub [3, 4, 6, 2, 1, 0] rfl ?_
      exact vl_L_rows_l167 hM  _ _ _ _ _ _ _ _ h
  · replace h := ite_p h c60
    refine V_iload hM.c 0 dL_rows_140 rfl ?_
    refine V_iconst (v := 1) hM.c dL_rows_142 (by decide) ?_
    refine V_iadd hM.c dL_rows_143 ?_
    refine V_goto hM.c 159 dL_rows_144 (by decide) ?_
    replace h := bnd_some h
    obtain ⟨r68, g69, e70, h⟩ := h
    refine V_callS (As := [.int (x3 >>> ((3 : Int32) &&& 31)), .int (s0 + (1 : Int32))]) hM.c hM.a mq_L_low mi_L_low tw_407 (hM.d (by decide)) hM.z (vm_L_low e70) rfl (Nat.le_of_ble_eq_true rfl) dL_rows_159 ?_
    refine V_istore (L' := [(10, .int r68), (9, .int s0), (0, va_rf (some x0)), (1, va_rf (some x1)), (3, .int x3), (7, .int x7), (8, .int x8)]) hM.c dL_rows_162 (by decide) rfl ?_
    refine V_iconst (v := 0) hM.c dL_rows_164 (by decide) ?_
    refine V_istore (L' := [(11, .int (0 : Int32)), (10, .int r68), (9, .int s0), (0, va_rf (some x0)), (1, va_rf (some x1)), (3, .int x3), (7, .int x7), (8, .int x8)]) hM.c dL_rows_165 (by decide) rfl ?_
    refine V_sub [3, 4, 6, 2, 1, 0] rfl ?_
    exact vl_L_rows_l167 hM  _ _ _ _ _ _ _ _ h
def f_L_rows_l97 (n : Nat) (Z : Zt) (x0 : Nat) (x1 : Nat) (x3 : Int32) (x7 : Int32) (s0 : Int32) (g : Mem) : Option (Int32 × Mem) := if s0 = (1 : Int32) then (f_L_rows_l124 n Z x0 x1 x3 x7 s0 (10 : Int32) g) else (if s0 = (2 : Int32) then (f_L_rows_l124 n Z x0 x1 x3 x7 s0 (100 : Int32) g) else (f_L_rows_l124 n Z x0 x1 x3 x7 s0 (1000 : Int32) g))
set_option maxHeartbeats 4000000 in
set_option maxRecDepth 100000 in
theorem vl_L_rows_l97 {x : Cq} {n : Nat} {Z : Zt} {x0 : Nat} {x1 : Nat} {x3 : Int32} {x7 : Int32} {s0 : Int32} {g : Mem} {rr : Int32} {gg : Mem} (hM : Cm x cL_rows RL 14 (some .boolean) 8 Z (some (.int rr)) gg) (h : f_L_rows_l97 n Z x0 x1 x3 x7 s0 g = some (rr, gg)) : V x Z 0 0 97 [(0, va_rf (some x0)), (1, va_rf (some x1)), (3, .int x3), (7, .int x7)] [.int s0] g := by
  unfold f_L_rows_l97 at h
  refine V_istore (L' := [(8, .int s0), (0, va_rf (some x0)), (1, va_rf (some x1)), (3, .int x3), (7, .int x7)]) hM.c dL_rows_97 (by decide) rfl ?_
  refine V_iload hM.c 0 dL_rows_99 rfl ?_
  refine V_iconst (v := 1) hM.c dL_rows_101 (by decide) ?_
  refine V_icmp_ne hM.c 110 dL_rows_102 (by decide) (fun c54 => ?_) (fun c54 => ?_)
  · replace h := ite_n h c54
    refine V_iload hM.c 0 dL_rows_110 rfl ?_
    refine V_iconst (v := 2) hM.c dL_rows_112 (by decide) ?_
    refine V_icmp_ne hM.c 121 dL_rows_113 (by decide) (fun c55 => ?_) (fun c55 => ?_)
    · replace h := ite_n h c55
      refine V_sipush (v := 1000) hM.c dL_rows_121 (by decide) ?_
      refine V_sub [1, 2, 3, 4, 0] rfl ?_
      exact vl_L_rows_l124 hM  h
    · replace h := ite_p h c55
      refine V_bipush (v := 100) hM.c dL_rows_116 (by decide) ?_
      refine V_goto hM.c 124 dL_rows_118 (by decide) ?_
      refine V_sub [1, 2, 3, 4, 0] rfl ?_
      exact vl_L_rows_l124 hM  h
  · replace h := ite_p h c54
    refine V_bipush (v := 10) hM.c dL_rows_105 (by decide) ?_
    refine V_goto hM.c 124 dL_rows_107 (by decide) ?_
    refine V_sub [1, 2, 3, 4, 0] rfl ?_
    exact vl_L_rows_l124 hM  h
def f_L_rows_l403 (n : Nat) (Z : Zt) (x0 : Nat) (x4 : Int32) (x7 : Int32) (s0 : Int32) (s1 : Int32) (g : Mem) : Option (Int32 × Mem) := if s1 = s0 then (bnd (f_X10_tableOf n Z x0 x4 g) (fun r46 g47 => if r46 = (-1 : Int32) then (bnd (f_X10_answerRows n Z x0 g47) (fun r50 g51 => if x7 < r50 then (some ((0 : Int32), g51)) else (some ((1 : Int32), g51)))) else (some ((0 : Int32), g47)))) else (some ((0 : Int32), g))
set_option maxHeartbeats 4000000 in
set_option maxRecDepth 100000 in
theorem vl_L_rows_l403 {x : Cq} {n : Nat} {Z : Zt} {x0 : Nat} {x4 : Int32} {x7 : Int32} {s0 : Int32} {s1 : Int32} {g : Mem} {rr : Int32} {gg : Mem} (hM : Cm x cL_rows RL 14 (some .boolean) 8 Z (some (.int rr)) gg) (h : f_L_rows_l403 n Z x0 x4 x7 s0 s1 g = some (rr, gg)) : V x Z 0 0 403 [(0, va_rf (some x0)), (4, .int x4), (7, .int x7)] [.int s0, .int s1] g := by
  unfold f_L_rows_l403 at h
  refine V_icmp_ne hM.c 429 dL_rows_403 (by decide) (fun c45 => ?_) (fun c45 => ?_)
  · replace h := ite_n h c45
    refine V_iconst (v := 0) hM.c dL_rows_429 (by decide) ?_
    exact V_zretE hM (isz_nar (by decide)) h dL_rows_430
  · replace h := ite_p h c45
    refine V_aload_n hM.c 0 dL_rows_406 rfl rfl ?_
    refine V_iload hM.c 1 dL_rows_407 rfl ?_
    replace h := bnd_some h
    obtain ⟨r46, g47, e48, h⟩ := h
    refine V_callV (As := [.int x4]) (c := 8) (T := TX10) (N := 10) hM.c hM.a mq_X10_tableOf mi_X10_tableOf tw_17 (hM.d (by decide)) hM.z rfl (by omega) (zc_X10_tableOf e48) (vm_X10_tableOf e48) rfl (Nat.le_of_ble_eq_true rfl) dL_rows_409 ?_
    refine V_iconst (v := -1) hM.c dL_rows_412 (by decide) ?_
    refine V_icmp_ne hM.c 429 dL_rows_413 (by decide) (fun c49 => ?_) (fun c49 => ?_)
    · replace h := ite_n h c49
      refine V_iconst (v := 0) hM.c dL_rows_429 (by decide) ?_
      exact V_zretE hM (isz_nar (by decide)) h dL_rows_430
    · replace h := ite_p h c49
      refine V_aload_n hM.c 0 dL_rows_416 rfl rfl ?_
      replace h := bnd_some h
      obtain ⟨r50, g51, e52, h⟩ := h
      refine V_callV (As := []) (c := 8) (T := TX10) (N := 10) hM.c hM.a mq_X10_answerRows mi_X10_answerRows tw_96 (hM.d (by decide)) hM.z rfl (by omega) (zc_X10_answerRows e52) (vm_X10_answerRows e52) rfl (Nat.le_of_ble_eq_true rfl) dL_rows_417 ?_
      refine V_iload hM.c 2 dL_rows_420 rfl ?_
      refine V_icmp_gt hM.c 429 dL_rows_422 (by decide) (fun c53 => ?_) (fun c53 => ?_)
      · replace h := ite_p h c53
        refine V_iconst (v := 0) hM.c dL_rows_429 (by decide) ?_
        exact V_zretE hM (isz_nar (by decide)) h dL_rows_430
      · replace h := ite_n h c53
        refine V_iconst (v := 1) hM.c dL_rows_425 (by decide) ?_
        refine V_goto hM.c 430 dL_rows_426 (by decide) ?_
        exact V_zretE hM (isz_nar (by decide)) h dL_rows_430
def f_L_rows_l600 (n : Nat) (Z : Zt) (x7 : Int32) (s0 : Int32) (g : Mem) : Option (Int32 × Mem) := if s0 = x7 then (some ((1 : Int32), g)) else (some ((0 : Int32), g))
set_option maxHeartbeats 4000000 in
set_option maxRecDepth 100000 in
theorem vl_L_rows_l600 {x : Cq} {n : Nat} {Z : Zt} {x7 : Int32} {s0 : Int32} {g : Mem} {rr : Int32} {gg : Mem} (hM : Cm x cL_rows RL 14 (some .boolean) 8 Z (some (.int rr)) gg) (h : f_L_rows_l600 n Z x7 s0 g = some (rr, gg)) : V x Z 0 0 600 [(7, .int x7)] [.int s0] g := by
  unfold f_L_rows_l600 at h
  refine V_iload hM.c 0 dL_rows_600 rfl ?_
  refine V_icmp_ne hM.c 609 dL_rows_602 (by decide) (fun c142 => ?_) (fun c142 => ?_)
  · replace h := ite_n h c142
    refine V_iconst (v := 0) hM.c dL_rows_609 (by decide) ?_
    exact V_zretE hM (isz_nar (by decide)) h dL_rows_610
  · replace h := ite_p h c142
    refine V_iconst (v := 1) hM.c dL_rows_605 (by decide) ?_
    refine V_goto hM.c 610 dL_rows_606 (by decide) ?_
    exact V_zretE hM (isz_nar (by decide)) h dL_rows_610
def f_L_rows_l566 (n : Nat) (Z : Zt) (x0 : Nat) (x2 : Int32) (x4 : Int32) (x5 : Int32) (x7 : Int32) (x9 : Int32) (s0 : Int32) (s1 : Int32) (g : Mem) : Option (Int32 × Mem) := if s1 = s0 then (if x5 = 0 then (some ((1 : Int32), g)) else (if x9 = 0 then (if x2 = (7 : Int32) then (bnd (f_X10_cost n Z x0 x4 g) (fun r138 g139 => f_L_rows_l600 n Z x7 r138 g139)) else (bnd (f_X10_trust n Z x0 x4 g) (fun r135 g136 => f_L_rows_l600 n Z x7 r135 g136))) else (some ((1 : Int32), g)))) else (some ((0 : Int32), g))
set_option maxHeartbeats 4000000 in
set_option maxRecDepth 100000 in
theorem vl_L_rows_l566 {x : Cq} {n : Nat} {Z : Zt} {x0 : Nat} {x2 : Int32} {x4 : Int32} {x5 : Int32} {x7 : Int32} {x9 : Int32} {s0 : Int32} {s1 : Int32} {g : Mem} {rr : Int32} {gg : Mem} (hM : Cm x cL_rows RL 14 (some .boolean) 8 Z (some (.int rr)) gg) (h : f_L_rows_l566 n Z x0 x2 x4 x5 x7 x9 s0 s1 g = some (rr, gg)) : V x Z 0 0 566 [(0, va_rf (some x0)), (2, .int x2), (4, .int x4), (5, .int x5), (7, .int x7), (9, .int x9)] [.int s0, .int s1] g := by
  unfold f_L_rows_l566 at h
  refine V_icmp_ne hM.c 609 dL_rows_566 (by decide) (fun c131 => ?_) (fun c131 => ?_)
  · replace h := ite_n h c131
    refine V_iconst (v := 0) hM.c dL_rows_609 (by decide) ?_
    exact V_zretE hM (isz_nar (by decide)) h dL_rows_610
  · replace h := ite_p h c131
    refine V_iload hM.c 3 dL_rows_569 rfl ?_
    refine V_if_eq hM.c 605 dL_rows_571 (by decide) (fun c132 => ?_) (fun c132 => ?_)
    · replace h := ite_p h c132
      refine V_iconst (v := 1) hM.c dL_rows_605 (by decide) ?_
      refine V_goto hM.c 610 dL_rows_606 (by decide) ?_
      exact V_zretE hM (isz_nar (by decide)) h dL_rows_610
    · replace h := ite_n h c132
      refine V_iload hM.c 5 dL_rows_574 rfl ?_
      refine V_if_ne hM.c 605 dL_rows_576 (by decide) (fun c133 => ?_) (fun c133 => ?_)
      · replace h := ite_n h c133
        refine V_iconst (v := 1) hM.c dL_rows_605 (by decide) ?_
        refine V_goto hM.c 610 dL_rows_606 (by decide) ?_
        exact V_zretE hM (isz_nar (by decide)) h dL_rows_610
      · replace h := ite_p h c133
        refine V_iload_n hM.c 1 dL_rows_579 rfl rfl ?_
        refine V_bipush (v := 7) hM.c dL_rows_580 (by decide) ?_
        refine V_icmp_ne hM.c 594 dL_rows_582 (by decide) (fun c134 => ?_) (fun c134 => ?_)
        · replace h := ite_n h c134
          refine V_aload_n hM.c 0 dL_rows_594 rfl rfl ?_
          refine V_iload hM.c 2 dL_rows_595 rfl ?_
          replace h := bnd_some h
          obtain ⟨r135, g136, e137, h⟩ := h
          refine V_callV (As := [.int x4]) (c := 8) (T := TX10) (N := 10) hM.c hM.a mq_X10_trust mi_X10_trust tw_41 (hM.d (by decide)) hM.z rfl (by omega) (zc_X10_trust e137) (vm_X10_trust e137) rfl (Nat.le_of_ble_eq_true rfl) dL_rows_597 ?_
          refine V_sub [4] rfl ?_
          exact vl_L_rows_l600 hM  h
        · replace h := ite_p h c134
          refine V_aload_n hM.c 0 dL_rows_585 rfl rfl ?_
          refine V_iload hM.c 2 dL_rows_586 rfl ?_
          replace h := bnd_some h
          obtain ⟨r138, g139, e140, h⟩ := h
          refine V_callV (As := [.int x4]) (c := 8) (T := TX10) (N := 10) hM.c hM.a mq_X10_cost mi_X10_cost tw_32 (hM.d (by decide)) hM.z rfl (by omega) (zc_X10_cost e140) (vm_X10_cost e140) rfl (Nat.le_of_ble_eq_true rfl) dL_rows_588 ?_
          refine V_goto hM.c 600 dL_rows_591 (by decide) ?_
          refine V_sub [4] rfl ?_
          exact vl_L_rows_l600 hM  h
def f_L_rows_l536 (n : Nat) (Z : Zt) (x0 : Nat) (x1 : Nat) (x2 : Int32) (x4 : Int32) (x5 : Int32) (x7 : Int32) (x8 : Int32) (x9 : Int32) (s0 : Int32) (g : Mem) : Option (Int32 × Mem) := grd (zk Z x1 = 12) (grd (inr (0 : Int32) (zl Z x1)) (if x5 = 0 then (f_L_rows_l566 n Z x0 x2 x4 x5 x7 x9 (-1 : Int32) s0 (sI g x1 (0 : Int32).toNatClampNeg s0)) else (if x9 = 0 then (f_L_rows_l566 n Z x0 x2 x4 x5 x7 x9 x8 s0 (sI g x1 (0 : Int32).toNatClampNeg s0)) else (f_L_rows_l566 n Z x0 x2 x4 x5 x7 x9 (-2 : Int32) s0 (sI g x1 (0 : Int32).toNatClampNeg s0)))))
set_option maxHeartbeats 4000000 in
set_option maxRecDepth 100000 in
theorem vl_L_rows_l536 {x : Cq} {n : Nat} {Z : Zt} {x0 : Nat} {x1 : Nat} {x2 : Int32} {x4 : Int32} {x5 : Int32} {x7 : Int32} {x8 : Int32} {x9 : Int32} {s0 : Int32} {g : Mem} {rr : Int32} {gg : Mem} (hM : Cm x cL_rows RL 14 (some .boolean) 8 Z (some (.int rr)) gg) (h : f_L_rows_l536 n Z x0 x1 x2 x4 x5 x7 x8 x9 s0 g = some (rr, gg)) : V x Z 0 0 536 [(0, va_rf (some x0)), (1, va_rf (some x1)), (2, .int x2), (4, .int x4), (5, .int x5), (7, .int x7), (8, .int x8), (9, .int x9)] [.int s0] g := by
  unfold f_L_rows_l536 at h
  refine V_istore (L' := [(10, .int s0), (0, va_rf (some x0)), (1, va_rf (some x1)), (2, .int x2), (4, .int x4), (5, .int x5), (7, .int x7), (8, .int x8), (9, .int x9)]) hM.c dL_rows_536 (by decide) rfl ?_
  refine V_aload_n hM.c 2 dL_rows_538 rfl rfl ?_
  refine V_iconst (v := 0) hM.c dL_rows_539 (by decide) ?_
  refine V_iload hM.c 0 dL_rows_540 rfl ?_
  replace h := grd_some h
  obtain ⟨z125, h⟩ := h
  replace h := grd_some h
  obtain ⟨c126, h⟩ := h
  refine V_iast hM.c z125 c126 hM.a dL_rows_542 ?_
  refine V_iload hM.c 0 dL_rows_543 rfl ?_
  refine V_iload hM.c 5 dL_rows_545 rfl ?_
  refine V_if_ne hM.c 554 dL_rows_547 (by decide) (fun c127 => ?_) (fun c127 => ?_)
  · replace h := ite_n h c127
    refine V_iload hM.c 8 dL_rows_554 rfl ?_
    refine V_if_eq hM.c 564 dL_rows_556 (by decide) (fun c128 => ?_) (fun c128 => ?_)
    · replace h := ite_p h c128
      refine V_iload hM.c 7 dL_rows_564 rfl ?_
      refine V_sub [1, 3, 4, 5, 6, 8] rfl ?_
      exact vl_L_rows_l566 hM  h
    · replace h := ite_n h c128
      refine V_bipush (v := -2) hM.c dL_rows_559 (by decide) ?_
      refine V_goto hM.c 566 dL_rows_561 (by decide) ?_
      refine V_sub [1, 3, 4, 5, 6, 8] rfl ?_
      exact vl_L_rows_l566 hM  h
  · replace h := ite_p h c127
    refine V_iconst (v := -1) hM.c dL_rows_550 (by decide) ?_
    refine V_goto hM.c 566 dL_rows_551 (by decide) ?_
    refine V_sub [1, 3, 4, 5, 6, 8] rfl ?_
    exact vl_L_rows_l566 hM  h
def f_L_rows_l509 (n : Nat) (Z : Zt) (x0 : Nat) (x1 : Nat) (x2 : Int32) (x4 : Int32) (x5 : Int32) (x7 : Int32) (x8 : Int32) (s0 : Int32) (g : Mem) : Option (Int32 × Mem) := if x2 = (7 : Int32) then (bnd (f_X10_setCost n Z x0 x4 x7 g) (fun r81 g82 => f_L_rows_l536 n Z x0 x1 x2 x4 x5 x7 x8 s0 r81 g82)) else (bnd (f_X10_setTrust n Z x0 x4 x7 g) (fun r78 g79 => f_L_rows_l536 n Z x0 x1 x2 x4 x5 x7 x8 s0 r78 g79))
set_option maxHeartbeats 4000000 in
set_option maxRecDepth 100000 in
theorem vl_L_rows_l509 {x : Cq} {n : Nat} {Z : Zt} {x0 : Nat} {x1 : Nat} {x2 : Int32} {x4 : Int32} {x5 : Int32} {x7 : Int32} {x8 : Int32} {s0 : Int32} {g : Mem} {rr : Int32} {gg : Mem} (hM : Cm x cL_rows RL 14 (some .boolean) 8 Z (some (.int rr)) gg) (h : f_L_rows_l509 n Z x0 x1 x2 x4 x5 x7 x8 s0 g = some (rr, gg)) : V x Z 0 0 509 [(0, va_rf (some x0)), (1, va_rf (some x1)), (2, .int x2), (4, .int x4), (5, .int x5), (7, .int x7), (8, .int x8)] [.int s0] g := by
  unfold f_L_rows_l509 at h
  refine V_istore (L' := [(9, .int s0), (0, va_rf (some x0)), (1, va_rf (some x1)), (2, .int x2), (4, .int x4), (5, .int x5), (7, .int x7), (8, .int x8)]) hM.c dL_rows_509 (by decide) rfl ?_
  refine V_iload_n hM.c 3 dL_rows_511 rfl rfl ?_
  refine V_bipush (v := 7) hM.c dL_rows_512 (by decide) ?_
  refine V_icmp_ne hM.c 528 dL_rows_514 (by decide) (fun c77 => ?_) (fun c77 => ?_)
  · replace h := ite_n h c77
    refine V_aload_n hM.c 1 dL_rows_528 rfl rfl ?_
    refine V_iload hM.c 4 dL_rows_529 rfl ?_
    refine V_iload hM.c 6 dL_rows_531 rfl ?_
    replace h := bnd_some h
    obtain ⟨r78, g79, e80, h⟩ := h
    refine V_callV (As := [.int x4, .int x7]) (c := 8) (T := TX10) (N := 10) hM.c hM.a mq_X10_setTrust mi_X10_setTrust tw_1217 (hM.d (by decide)) hM.z rfl (by omega) (zc_X10_setTrust e80) (vm_X10_setTrust e80) rfl (Nat.le_of_ble_eq_true rfl) dL_rows_533 ?_
    refine V_sub [1, 2, 3, 4, 5, 6, 7, 0] rfl ?_
    exact vl_L_rows_l536 hM  h
  · replace h := ite_p h c77
    refine V_aload_n hM.c 1 dL_rows_517 rfl rfl ?_
    refine V_iload hM.c 4 dL_rows_518 rfl ?_
    refine V_iload hM.c 6 dL_rows_520 rfl ?_
    replace h := bnd_some h
    obtain ⟨r81, g82, e83, h⟩ := h
    refine V_callV (As := [.int x4, .int x7]) (c := 8) (T := TX10) (N := 10) hM.c hM.a mq_X10_setCost mi_X10_setCost tw_1209 (hM.d (by decide)) hM.z rfl (by omega) (zc_X10_setCost e83) (vm_X10_setCost e83) rfl (Nat.le_of_ble_eq_true rfl) dL_rows_522 ?_
    refine V_goto hM.c 536 dL_rows_525 (by decide) ?_
    refine V_sub [1, 2, 3, 4, 5, 6, 7, 0] rfl ?_
    exact vl_L_rows_l536 hM  h
def f_L_rows_l501 (n : Nat) (Z : Zt) (x0 : Nat) (x1 : Nat) (x2 : Int32) (x4 : Int32) (x5 : Int32) (x7 : Int32) (x8 : Int32) (s0 : Int32) (s1 : Int32) (g : Mem) : Option (Int32 × Mem) := if s1 = s0 then (f_L_rows_l509 n Z x0 x1 x2 x4 x5 x7 x8 (1 : Int32) g) else (f_L_rows_l509 n Z x0 x1 x2 x4 x5 x7 x8 (0 : Int32) g)
set_option maxHeartbeats 4000000 in
set_option maxRecDepth 100000 in
theorem vl_L_rows_l501 {x : Cq} {n : Nat} {Z : Zt} {x0 : Nat} {x1 : Nat} {x2 : Int32} {x4 : Int32} {x5 : Int32} {x7 : Int32} {x8 : Int32} {s0 : Int32} {s1 : Int32} {g : Mem} {rr : Int32} {gg : Mem} (hM : Cm x cL_rows RL 14 (some .boolean) 8 Z (some (.int rr)) gg) (h : f_L_rows_l501 n Z x0 x1 x2 x4 x5 x7 x8 s0 s1 g = some (rr, gg)) : V x Z 0 0 501 [(0, va_rf (some x0)), (1, va_rf (some x1)), (2, .int x2), (4, .int x4), (5, .int x5), (7, .int x7), (8, .int x8)] [.int s0, .int s1] g := by
  unfold f_L_rows_l501 at h
  refine V_icmp_ne hM.c 508 dL_rows_501 (by decide) (fun c71 => ?_) (fun c71 => ?_)
  · replace h := ite_n h c71
    refine V_iconst (v := 0) hM.c dL_rows_508 (by decide) ?_
    refine V_sub [0, 1, 2, 3, 4, 5, 6] rfl ?_
    exact vl_L_rows_l509 hM  h
  · replace h := ite_p h c71
    refine V_iconst (v := 1) hM.c dL_rows_504 (by decide) ?_
    refine V_goto hM.c 509 dL_rows_505 (by decide) ?_
    refine V_sub [0, 1, 2, 3, 4, 5, 6] rfl ?_
    exact vl_L_rows_l509 hM  h
def f_L_rows_l483 (n : Nat) (Z : Zt) (x0 : Nat) (x1 : Nat) (x2 : Int32) (x4 : Int32) (x5 : Int32) (x7 : Int32) (s0 : Int32) (g : Mem) : Option (Int32 × Mem) := if x2 = (7 : Int32) then (f_L_rows_l501 n Z x0 x1 x2 x4 x5 x7 s0 (1000 : Int32) x7 g) else (f_L_rows_l501 n Z x0 x1 x2 x4 x5 x7 s0 (101 : Int32) x7 g)
set_option maxHeartbeats 4000000 in
set_option maxRecDepth 100000 in
theorem vl_L_rows_l483 {x : Cq} {n : Nat} {Z : Zt} {x0 : Nat} {x1 : Nat} {x2 : Int32} {x4 : Int32} {x5 : Int32} {x7 : Int32} {s0 : Int32} {g : Mem} {rr : Int32} {gg : Mem} (hM : Cm x cL_rows RL 14 (some .boolean) 8 Z (some (.int rr)) gg) (h : f_L_rows_l483 n Z x0 x1 x2 x4 x5 x7 s0 g = some (rr, gg)) : V x Z 0 0 483 [(0, va_rf (some x0)), (1, va_rf (some x1)), (2, .int x2), (4, .int x4), (5, .int x5), (7, .int x7)] [.int s0] g := by
  unfold f_L_rows_l483 at h
  refine V_istore (L' := [(8, .int s0), (0, va_rf (some x0)), (1, va_rf (some x1)), (2, .int x2), (4, .int x4), (5, .int x5), (7, .int x7)]) hM.c dL_rows_483 (by decide) rfl ?_
  refine V_iload hM.c 6 dL_rows_485 rfl ?_
  refine V_iload_n hM.c 3 dL_rows_487 rfl rfl ?_
  refine V_bipush (v := 7) hM.c dL_rows_488 (by decide) ?_
  refine V_icmp_ne hM.c 499 dL_rows_490 (by decide) (fun c56 => ?_) (fun c56 => ?_)
  · replace h := ite_n h c56
    refine V_bipush (v := 101) hM.c dL_rows_499 (by decide) ?_
    refine V_sub [1, 2, 3, 4, 5, 6, 0] rfl ?_
    exact vl_L_rows_l501 hM  h
  · replace h := ite_p h c56
    refine V_sipush (v := 1000) hM.c dL_rows_493 (by decide) ?_
    refine V_goto hM.c 501 dL_rows_496 (by decide) ?_
    refine V_sub [1, 2, 3, 4, 5, 6, 0] rfl ?_
    exact vl_L_rows_l501 hM  h
def f_L_rows_l448 (n : Nat) (Z : Zt) (x0 : Nat) (x1 : Nat) (x2 : Int32) (x4 : Int32) (x5 : Int32) (s0 : Int32) (s1 : Int32) (g : Mem) : Option (Int32 × Mem) := bnd (f_L_low n Z s1 s0 g) (fun r34 g35 => if x5 = 0 then (f_L_rows_l483 n Z x0 x1 x2 x4 x5 r34 (0 : Int32) g35) else (if x2 = (7 : Int32) then (bnd (f_X10_cost n Z x0 x4 g35) (fun r42 g43 => f_L_rows_l483 n Z x0 x1 x2 x4 x5 r34 r42 g43)) else (bnd (f_X10_trust n Z x0 x4 g35) (fun r39 g40 => f_L_rows_l483 n Z x0 x1 x2 x4 x5 r34 r39 g40))))
set_option maxHeartbeats 4000000 in
set_option maxRecDepth 100000 in
theorem vl_L_rows_l448 {x : Cq} {n : Nat} {Z : Zt} {x0 : Nat} {x1 : Nat} {x2 : Int32} {x4 : Int32} {x5 : Int32} {s0 : Int32} {s1 : Int32} {g : Mem} {rr : Int32} {gg : Mem} (hM : Cm x cL_rows RL 14 (some .boolean) 8 Z (some (.int rr)) gg) (h : f_L_rows_l448 n Z x0 x1 x2 x4 x5 s0 s1 g = some (rr, gg)) : V x Z 0 0 448 [(0, va_rf (some x0)), (1, va_rf (some x1)), (2, .int x2), (4, .int x4), (5, .int x5)] [.int s0, .int s1] g := by
  unfold f_L_rows_l448 at h
  replace h := bnd_some h
  obtain ⟨r34, g35, e36, h⟩ := h
  refine V_callS (As := [.int s1, .int s0]) hM.c hM.a mq_L_low mi_L_low tw_407 (hM.d (by decide)) hM.z (vm_L_low e36) rfl (Nat.le_of_ble_eq_true rfl) dL_rows_448 ?_
  refine V_istore (L' := [(7, .int r34), (0, va_rf (some x0)), (1, va_rf (some x1)), (2, .int x2), (4, .int x4), (5, .int x5)]) hM.c dL_rows_451 (by decide) rfl ?_
  refine V_iload hM.c 5 dL_rows_453 rfl ?_
  refine V_if_ne hM.c 462 dL_rows_455 (by decide) (fun c37 => ?_) (fun c37 => ?_)
  · replace h := ite_n h c37
    refine V_iload_n hM.c 3 dL_rows_462 rfl rfl ?_
    refine V_bipush (v := 7) hM.c dL_rows_463 (by decide) ?_
    refine V_icmp_ne hM.c 477 dL_rows_465 (by decide) (fun c38 => ?_) (fun c38 => ?_)
    · replace h := ite_n h c38
      refine V_aload_n hM.c 1 dL_rows_477 rfl rfl ?_
      refine V_iload hM.c 4 dL_rows_478 rfl ?_
      replace h := bnd_some h
      obtain ⟨r39, g40, e41, h⟩ := h
      refine V_callV (As := [.int x4]) (c := 8) (T := TX10) (N := 10) hM.c hM.a mq_X10_trust mi_X10_trust tw_41 (hM.d (by decide)) hM.z rfl (by omega) (zc_X10_trust e41) (vm_X10_trust e41) rfl (Nat.le_of_ble_eq_true rfl) dL_rows_480 ?_
      refine V_sub [1, 2, 3, 4, 5, 0] rfl ?_
      exact vl_L_rows_l483 hM  h
    · replace h := ite_p h c38
      refine V_aload_n hM.c 1 dL_rows_468 rfl rfl ?_
      refine V_iload hM.c 4 dL_rows_469 rfl ?_
      replace h := bnd_some h
      obtain ⟨r42, g43, e44, h⟩ := h
      refine V_callV (As := [.int x4]) (c := 8) (T := TX10) (N := 10) hM.c hM.a mq_X10_cost mi_X10_cost tw_32 (hM.d (by decide)) hM.z rfl (by omega) (zc_X10_cost e44) (vm_X10_cost e44) rfl (Nat.le_of_ble_eq_true rfl) dL_rows_471 ?_
      refine V_goto hM.c 483 dL_rows_474 (by decide) ?_
      refine V_sub [1, 2, 3, 4, 5, 0] rfl ?_
      exact vl_L_rows_l483 hM  h
  · replace h := ite_p h c37
    refine V_iconst (v := 0) hM.c dL_rows_458 (by decide) ?_
    refine V_goto hM.c 483 dL_rows_459 (by decide) ?_
    refine V_sub [1, 2, 3, 4, 5, 0] rfl ?_
    exact vl_L_rows_l483 hM  h
def f_L_rows_l41 (n : Nat) (Z : Zt) : Nat → Nat → Nat → Int32 → Int32 → Int32 → Int32 → Int32 → Int32 → Mem → Option (Int32 × Mem)
  | 0, _, _, _, _, _, _, _, _, _ => none
  | fu + 1, x0, x1, x2, x3, x4, x5, x6, x7, g => if (16 : Int32) ≤ x7 then (if (6 : Int32) ≤ x2 then (if x2 = (6 : Int32) then (bnd (f_X10_answerRows n Z x0 g) (fun r13 g14 => bnd (f_X10_dropRow n Z x0 x4 g14) (fun r16 g17 => grd (zk Z x1 = 12) (grd (inr (0 : Int32) (zl Z x1)) (grd (zk Z x1 = 12) (grd (inr (0 : Int32) (zl Z x1)) (if x5 = 0 then (f_L_rows_l403 n Z x0 x4 r13 (-1 : Int32) (gI (sI g17 x1 (0 : Int32).toNatClampNeg r16) x1 (0 : Int32).toNatClampNeg) (sI g17 x1 (0 : Int32).toNatClampNeg r16)) else (f_L_rows_l403 n Z x0 x4 r13 (x6 - (1 : Int32)) (gI (sI g17 x1 (0 : Int32).toNatClampNeg r16) x1 (0 : Int32).toNatClampNeg) (sI g17 x1 (0 : Int32).toNatClampNeg r16))))))))) else (if x2 = (7 : Int32) then (f_L_rows_l448 n Z x0 x1 x2 x4 x5 (1001 : Int32) (x3 >>> ((5 : Int32) &&& 31)) g) else (f_L_rows_l448 n Z x0 x1 x2 x4 x5 (102 : Int32) (x3 >>> ((5 : Int32) &&& 31)) g))) else (bnd (f_L_low n Z x3 (5 : Int32) g) (fun r24 g25 => if r24 = (4 : Int32) then (f_L_rows_l97 n Z x0 x1 x3 r24 (1 : Int32) g25) else (bnd (f_X10_columns n Z x0 r24 g25) (fun r28 g29 => f_L_rows_l97 n Z x0 x1 x3 r24 r28 g29))))) else (bnd (f_X10_tags n Z x0 g) (fun r31 g32 => f_L_rows_l41 n Z fu x0 x1 x2 x3 x4 x5 (x6 + ((r31 >>> (x7 &&& 31)) &&& (1 : Int32))) (x7 + 1) g32))
set_option maxHeartbeats 4000000 in
set_option maxRecDepth 100000 in
theorem vl_L_rows_l41 {x : Cq} {n : Nat} {Z : Zt} {rr : Int32} {gg : Mem} (hM : Cm x cL_rows RL 14 (some .boolean) 8 Z (some (.int rr)) gg) : ∀ (fu : Nat) (x0 : Nat) (x1 : Nat) (x2 : Int32) (x3 : Int32) (x4 : Int32) (x5 : Int32) (x6 : Int32) (x7 : Int32) (g : Mem), f_L_rows_l41 n Z fu x0 x1 x2 x3 x4 x5 x6 x7 g = some (rr, gg) → V x Z 0 0 41 [(0, va_rf (some x0)), (1, va_rf (some x1)), (2, .int x2), (3, .int x3), (4, .int x4), (5, .int x5), (6, .int x6), (7, .int x7)] [] g := by
  intro fu
  induction fu with
  | zero => intro x0 x1 x2 x3 x4 x5 x6 x7 g h; cases h
  | succ fu ih =>
    intro x0 x1 x2 x3 x4 x5 x6 x7 g h
    unfold f_L_rows_l41 at h
    refine V_iload hM.c 7 dL_rows_41 rfl ?_
    refine V_bipush (v := 16) hM.c dL_rows_43 (by decide) ?_
    refine V_icmp_ge hM.c 68 dL_rows_45 (by decide) (fun c9 => ?_) (fun c9 => ?_)
    · replace h := ite_p h c9
      refine V_iload_n hM.c 2 dL_rows_68 rfl rfl ?_
      refine V_bipush (v := 6) hM.c dL_rows_69 (by decide) ?_
      refine V_icmp_ge hM.c 366 dL_rows_71 (by decide) (fun c10 => ?_) (fun c10 => ?_)
      · replace h := ite_p h c10
        refine V_iload_n hM.c 2 dL_rows_366 rfl rfl ?_
        refine V_bipush (v := 6) hM.c dL_rows_367 (by decide) ?_
        refine V_icmp_ne hM.c 431 dL_rows_369 (by decide) (fun c11 => ?_) (fun c11 => ?_)
        · replace h := ite_n h c11
          refine V_iload_n hM.c 3 dL_rows_431 rfl rfl ?_
          refine V_iconst (v := 5) hM.c dL_rows_432 (by decide) ?_
          refine V_ishr hM.c dL_rows_433 ?_
          refine V_iload_n hM.c 2 dL_rows_434 rfl rfl ?_
          refine V_bipush (v := 7) hM.c dL_rows_435 (by decide) ?_
          refine V_icmp_ne hM.c 446 dL_rows_437 (by decide) (fun c12 => ?_) (fun c12 => ?_)
          · replace h := ite_n h c12
            refine V_bipush (v := 102) hM.c dL_rows_446 (by decide) ?_
            refine V_sub [0, 1, 2, 4, 5] rfl ?_
            exact vl_L_rows_l448 hM  h
          · replace h := ite_p h c12
            refine V_sipush (v := 1001) hM.c dL_rows_440 (by decide) ?_
            refine V_goto hM.c 448 dL_rows_443 (by decide) ?_
            refine V_sub [0, 1, 2, 4, 5] rfl ?_
            exact vl_L_rows_l448 hM  h
        · replace h := ite_p h c11
          refine V_aload_n hM.c 0 dL_rows_372 rfl rfl ?_
          replace h := bnd_some h
          obtain ⟨r13, g14, e15, h⟩ := h
          refine V_callV (As := []) (c := 8) (T := TX10) (N := 10) hM.c hM.a mq_X10_answerRows mi_X10_answerRows tw_96 (hM.d (by decide)) hM.z rfl (by omega) (zc_X10_answerRows e15) (vm_X10_answerRows e15) rfl (Nat.le_of_ble_eq_true rfl) dL_rows_373 ?_
          refine V_istore (L' := [(7, .int r13), (0, va_rf (some x0)), (1, va_rf (some x1)), (2, .int x2), (3, .int x3), (4, .int x4), (5, .int x5), (6, .int x6)]) hM.c dL_rows_376 (by decide) rfl ?_
          refine V_aload_n hM.c 2 dL_rows_378 rfl rfl ?_
          refine V_iconst (v := 0) hM.c dL_rows_379 (by decide) ?_
          refine V_aload_n hM.c 1 dL_rows_380 rfl rfl ?_
          refine V_iload hM.c 5 dL_rows_381 rfl ?_
          replace h := bnd_some h
          obtain ⟨r16, g17, e18, h⟩ := h
          refine V_callV (As := [.int x4]) (c := 8) (T := TX10) (N := 10) hM.c hM.a mq_X10_dropRow mi_X10_dropRow tw_1190 (hM.d (by decide)) hM.z rfl (by omega) (zc_X10_dropRow e18) (vm_X10_dropRow e18) rfl (Nat.le_of_ble_eq_true rfl) dL_rows_383 ?_
          replace h := grd_some h
          obtain ⟨z19, h⟩ := h
          replace h := grd_some h
          obtain ⟨c20, h⟩ := h
          refine V_iast hM.c z19 c20 hM.a dL_rows_386 ?_
          refine V_aload_n hM.c 2 dL_rows_387 rfl rfl ?_
          refine V_iconst (v := 0) hM.c dL_rows_388 (by decide) ?_
          replace h := grd_some h
          obtain ⟨z21, h⟩ := h
          replace h := grd_some h
          obtain ⟨c22, h⟩ := h
          refine V_iald hM.c z21 c22 dL_rows_389 ?_
          refine V_iload hM.c 6 dL_rows_390 rfl ?_
          refine V_if_eq hM.c 402 dL_rows_392 (by decide) (fun c23 => ?_) (fun c23 => ?_)
          · replace h := ite_p h c23
            refine V_iconst (v := -1) hM.c dL_rows_402 (by decide) ?_
            refine V_sub [1, 5, 0] rfl ?_
            exact vl_L_rows_l403 hM  h
          · replace h := ite_n h c23
            refine V_iload hM.c 7 dL_rows_395 rfl ?_
            refine V_iconst (v := 1) hM.c dL_rows_397 (by decide) ?_
            refine V_isub hM.c dL_rows_398 ?_
            refine V_goto hM.c 403 dL_rows_399 (by decide) ?_
            refine V_sub [1, 5, 0] rfl ?_
            exact vl_L_rows_l403 hM  h
      · replace h := ite_n h c10
        refine V_iload_n hM.c 3 dL_rows_74 rfl rfl ?_
        refine V_iconst (v := 5) hM.c dL_rows_75 (by decide) ?_
        replace h := bnd_some h
        obtain ⟨r24, g25, e26, h⟩ := h
        refine V_callS (As := [.int x3, .int (5 : Int32)]) hM.c hM.a mq_L_low mi_L_low tw_407 (hM.d (by decide)) hM.z (vm_L_low e26) rfl (Nat.le_of_ble_eq_true rfl) dL_rows_76 ?_
        refine V_istore (L' := [(7, .int r24), (0, va_rf (some x0)), (1, va_rf (some x1)), (2, .int x2), (3, .int x3), (4, .int x4), (5, .int x5), (6, .int x6)]) hM.c dL_rows_79 (by decide) rfl ?_
        refine V_iload hM.c 0 dL_rows_81 rfl ?_
        refine V_iconst (v := 4) hM.c dL_rows_83 (by decide) ?_
        refine V_icmp_ne hM.c 91 dL_rows_84 (by decide) (fun c27 => ?_) (fun c27 => ?_)
        · replace h := ite_n h c27
          refine V_aload_n hM.c 1 dL_rows_91 rfl rfl ?_
          refine V_iload hM.c 0 dL_rows_92 rfl ?_
          replace h := bnd_some h
          obtain ⟨r28, g29, e30, h⟩ := h
          refine V_callV (As := [.int r24]) (c := 8) (T := TX10) (N := 10) hM.c hM.a mq_X10_columns mi_X10_columns tw_2 (hM.d (by decide)) hM.z rfl (by omega) (zc_X10_columns e30) (vm_X10_columns e30) rfl (Nat.le_of_ble_eq_true rfl) dL_rows_94 ?_
          refine V_sub [1, 2, 4, 0] rfl ?_
          exact vl_L_rows_l97 hM  h
        · replace h := ite_p h c27
          refine V_iconst (v := 1) hM.c dL_rows_87 (by decide) ?_
          refine V_goto hM.c 97 dL_rows_88 (by decide) ?_
          refine V_sub [1, 2, 4, 0] rfl ?_
          exact vl_L_rows_l97 hM  h
    · replace h := ite_n h c9
      refine V_iload hM.c 6 dL_rows_48 rfl ?_
      refine V_aload_n hM.c 0 dL_rows_50 rfl rfl ?_
      replace h := bnd_some h
      obtain ⟨r31, g32, e33, h⟩ := h
      refine V_callV (As := []) (c := 8) (T := TX10) (N := 10) hM.c hM.a mq_X10_tags mi_X10_tags tw_259 (hM.d (by decide)) hM.z rfl (by omega) (zc_X10_tags e33) (vm_X10_tags e33) rfl (Nat.le_of_ble_eq_true rfl) dL_rows_51 ?_
      refine V_iload hM.c 7 dL_rows_54 rfl ?_
      refine V_ishr hM.c dL_rows_56 ?_
      refine V_iconst (v := 1) hM.c dL_rows_57 (by decide) ?_
      refine V_iand hM.c dL_rows_58 ?_
      refine V_iadd hM.c dL_rows_59 ?_
      refine V_istore (L' := [(6, .int (x6 + ((r31 >>> (x7 &&& 31)) &&& (1 : Int32)))), (0, va_rf (some x0)), (1, va_rf (some x1)), (2, .int x2), (3, .int x3), (4, .int x4), (5, .int x5), (7, .int x7)]) hM.c dL_rows_60 (by decide) rfl ?_
      refine V_iinc (v := (x7 + 1)) (L' := [(7, .int (x7 + 1)), (6, .int (x6 + ((r31 >>> (x7 &&& 31)) &&& (1 : Int32)))), (0, va_rf (some x0)), (1, va_rf (some x1)), (2, .int x2), (3, .int x3), (4, .int x4), (5, .int x5)]) hM.c 7 dL_rows_62 rfl rfl (by decide) rfl ?_
      refine V_goto hM.c 41 dL_rows_65 (by decide) ?_
      refine V_sub [2, 3, 4, 5, 6, 7, 1, 0] rfl ?_
      exact ih _ _ _ _ _ _ _ _ _ h
def f_L_rows_l33 (n : Nat) (Z : Zt) (x0 : Nat) (x1 : Nat) (x2 : Int32) (x3 : Int32) (x4 : Int32) (s0 : Int32) (g : Mem) : Option (Int32 × Mem) := f_L_rows_l41 n Z n x0 x1 x2 x3 x4 s0 (0 : Int32) (0 : Int32) g
set_option maxHeartbeats 4000000 in
set_option maxRecDepth 100000 in
theorem vl_L_rows_l33 {x : Cq} {n : Nat} {Z : Zt} {x0 : Nat} {x1 : Nat} {x2 : Int32} {x3 : Int32} {x4 : Int32} {s0 : Int32} {g : Mem} {rr : Int32} {gg : Mem} (hM : Cm x cL_rows RL 14 (some .boolean) 8 Z (some (.int rr)) gg) (h : f_L_rows_l33 n Z x0 x1 x2 x3 x4 s0 g = some (rr, gg)) : V x Z 0 0 33 [(0, va_rf (some x0)), (1, va_rf (some x1)), (2, .int x2), (3, .int x3), (4, .int x4)] [.int s0] g := by
  unfold f_L_rows_l33 at h
  refine V_istore (L' := [(5, .int s0), (0, va_rf (some x0)), (1, va_rf (some x1)), (2, .int x2), (3, .int x3), (4, .int x4)]) hM.c dL_rows_33 (by decide) rfl ?_
  refine V_iconst (v := 0) hM.c dL_rows_35 (by decide) ?_
  refine V_istore (L' := [(6, .int (0 : Int32)), (5, .int s0), (0, va_rf (some x0)), (1, va_rf (some x1)), (2, .int x2), (3, .int x3), (4, .int x4)]) hM.c dL_rows_36 (by decide) rfl ?_
  refine V_iconst (v := 0) hM.c dL_rows_38 (by decide) ?_
  refine V_istore (L' := [(7, .int (0 : Int32)), (6, .int (0 : Int32)), (5, .int s0), (0, va_rf (some x0)), (1, va_rf (some x1)), (2, .int x2), (3, .int x3), (4, .int x4)]) hM.c dL_rows_39 (by decide) rfl ?_
  refine V_sub [3, 4, 5, 6, 7, 2, 1, 0] rfl ?_
  exact vl_L_rows_l41 hM  _ _ _ _ _ _ _ _ _ _ h
def f_L_rows_l32 (n : Nat) (Z : Zt) (x0 : Nat) (x1 : Nat) (x2 : Int32) (x3 : Int32) (x4 : Int32) (g : Mem) : Option (Int32 × Mem) := f_L_rows_l33 n Z x0 x1 x2 x3 x4 (0 : Int32) g
set_option maxHeartbeats 4000000 in
set_option maxRecDepth 100000 in
theorem vl_L_rows_l32 {x : Cq} {n : Nat} {Z : Zt} {x0 : Nat} {x1 : Nat} {x2 : Int32} {x3 : Int32} {x4 : Int32} {g : Mem} {rr : Int32} {gg : Mem} (hM : Cm x cL_rows RL 14 (some .boolean) 8 Z (some (.int rr)) gg) (h : f_L_rows_l32 n Z x0 x1 x2 x3 x4 g = some (rr, gg)) : V x Z 0 0 32 [(0, va_rf (some x0)), (1, va_rf (some x1)), (2, .int x2), (3, .int x3), (4, .int x4)] [] g := by
  unfold f_L_rows_l32 at h
  refine V_iconst (v := 0) hM.c dL_rows_32 (by decide) ?_
  refine V_sub [0, 1, 2, 3, 4] rfl ?_
  exact vl_L_rows_l33 hM  h
def f_L_rows (n : Nat) (Z : Zt) (x0 : Nat) (x1 : Nat) (x2 : Int32) (x3 : Int32) (g : Mem) : Option (Int32 × Mem) := bnd (f_L_low n Z x3 (17 : Int32) g) (fun r1 g2 => if (16 : Int32) ≤ r1 then (f_L_rows_l32 n Z x0 x1 x2 x3 r1 g2) else (bnd (f_X10_tags n Z x0 g2) (fun r5 g6 => if ((r5 >>> (r1 &&& 31)) &&& (1 : Int32)) = (1 : Int32) then (f_L_rows_l33 n Z x0 x1 x2 x3 r1 (1 : Int32) g6) else (f_L_rows_l32 n Z x0 x1 x2 x3 r1 g6))))
theorem mq_L_rows : Mq yL_rows cL_rows 14 (some .boolean) 4 := ⟨tw_1232, tw_409, ⟨by decide +kernel, by decide +kernel, by decide +kernel⟩, by decide⟩
theorem mi_L_rows : Cond.static yL_rows ∈ TB := tw_1231
set_option maxHeartbeats 4000000 in
set_option maxRecDepth 100000 in
theorem vm_L_rows {n : Nat} {Z : Zt} {x0 : Nat} {x1 : Nat} {x2 : Int32} {x3 : Int32} {g : Mem} {rr : Int32} {gg : Mem} (h : f_L_rows n Z x0 x1 x2 x3 g = some (rr, gg)) : VM yL_rows cL_rows 14 (some .boolean) 8 [va_rf (some x0), va_rf (some x1), .int x2, .int x3] Z g (some (.int rr)) gg := by
  unfold f_L_rows at h
  refine VM.of (by decide +kernel) (Nat.le_of_ble_eq_true rfl) (fun x hM => ?_)
  have hM : Cm x cL_rows RL 14 (some .boolean) 8 Z (some (.int rr)) gg := hM
  show V x Z 0 0 0 [(0, va_rf (some x0)), (1, va_rf (some x1)), (2, .int x2), (3, .int x3)] [] g
  refine V_iload_n hM.c 3 dL_rows_0 rfl rfl ?_
  refine V_bipush (v := 17) hM.c dL_rows_1 (by decide) ?_
  replace h := bnd_some h
  obtain ⟨r1, g2, e3, h⟩ := h
  refine V_callS (As := [.int x3, .int (17 : Int32)]) hM.c hM.a mq_L_low mi_L_low tw_407 (hM.d (by decide)) hM.z (vm_L_low e3) rfl (Nat.le_of_ble_eq_true rfl) dL_rows_3 ?_
  refine V_istore (L' := [(4, .int r1), (0, va_rf (some x0)), (1, va_rf (some x1)), (2, .int x2), (3, .int x3)]) hM.c dL_rows_6 (by decide) rfl ?_
  refine V_iload hM.c 0 dL_rows_8 rfl ?_
  refine V_bipush (v := 16) hM.c dL_rows_10 (by decide) ?_
  refine V_icmp_ge hM.c 32 dL_rows_12 (by decide) (fun c4 => ?_) (fun c4 => ?_)
  · replace h := ite_p h c4
    refine V_sub [1, 2, 3, 4, 0] rfl ?_
    exact vl_L_rows_l32 hM  h
  · replace h := ite_n h c4
    refine V_aload_n hM.c 1 dL_rows_15 rfl rfl ?_
    replace h := bnd_some h
    obtain ⟨r5, g6, e7, h⟩ := h
    refine V_callV (As := []) (c := 8) (T := TX10) (N := 10) hM.c hM.a mq_X10_tags mi_X10_tags tw_259 (hM.d (by decide)) hM.z rfl (by omega) (zc_X10_tags e7) (vm_X10_tags e7) rfl (Nat.le_of_ble_eq_true rfl) dL_rows_16 ?_
    refine V_iload hM.c 0 dL_rows_19 rfl ?_
    refine V_ishr hM.c dL_rows_21 ?_
    refine V_iconst (v := 1) hM.c dL_rows_22 (by decide) ?_
    refine V_iand hM.c dL_rows_23 ?_
    refine V_iconst (v := 1) hM.c dL_rows_24 (by decide) ?_
    refine V_icmp_ne hM.c 32 dL_rows_25 (by decide) (fun c8 => ?_) (fun c8 => ?_)
    · replace h := ite_n h c8
      refine V_sub [1, 2, 3, 4, 0] rfl ?_
      exact vl_L_rows_l32 hM  h
    · replace h := ite_p h c8
      refine V_iconst (v := 1) hM.c dL_rows_28 (by decide) ?_
      refine V_goto hM.c 33 dL_rows_29 (by decide) ?_
      refine V_sub [1, 2, 3, 4, 0] rfl ?_
      exact vl_L_rows_l33 hM  h
def f_L_acts_l286 (n : Nat) (Z : Zt) (x6 : Int32) (x8 : Int32) (x9 : Int32) (x11 : Int32) (s0 : Int32) (s1 : Int32) (g : Mem) : Option (Int32 × Mem) := if s1 = s0 then (if x8 = 0 then (some ((1 : Int32), g)) else (if x6 = 0 then (some ((1 : Int32), g)) else (if x11 = x9 then (some ((1 : Int32), g)) else (some ((0 : Int32), g))))) else (some ((0 : Int32), g))
set_option maxHeartbeats 4000000 in
set_option maxRecDepth 100000 in
theorem vl_L_acts_l286 {x : Cq} {n : Nat} {Z : Zt} {x6 : Int32} {x8 : Int32} {x9 : Int32} {x11 : Int32} {s0 : Int32} {s1 : Int32} {g : Mem} {rr : Int32} {gg : Mem} (hM : Cm x cL_acts RL 12 (some .boolean) 9 Z (some (.int rr)) gg) (h : f_L_acts_l286 n Z x6 x8 x9 x11 s0 s1 g = some (rr, gg)) : V x Z 0 0 286 [(6, .int x6), (8, .int x8), (9, .int x9), (11, .int x11)] [.int s0, .int s1] g := by
  unfold f_L_acts_l286 at h
  refine V_icmp_ne hM.c 310 dL_acts_286 (by decide) (fun c152 => ?_) (fun c152 => ?_)
  · replace h := ite_n h c152
    refine V_iconst (v := 0) hM.c dL_acts_310 (by decide) ?_
    exact V_zretE hM (isz_nar (by decide)) h dL_acts_311
  · replace h := ite_p h c152
    refine V_iload hM.c 1 dL_acts_289 rfl ?_
    refine V_if_eq hM.c 306 dL_acts_291 (by decide) (fun c153 => ?_) (fun c153 => ?_)
    · replace h := ite_p h c153
      refine V_iconst (v := 1) hM.c dL_acts_306 (by decide) ?_
      refine V_goto hM.c 311 dL_acts_307 (by decide) ?_
      exact V_zretE hM (isz_nar (by decide)) h dL_acts_311
    · replace h := ite_n h c153
      refine V_iload hM.c 0 dL_acts_294 rfl ?_
      refine V_if_eq hM.c 306 dL_acts_296 (by decide) (fun c154 => ?_) (fun c154 => ?_)
      · replace h := ite_p h c154
        refine V_iconst (v := 1) hM.c dL_acts_306 (by decide) ?_
        refine V_goto hM.c 311 dL_acts_307 (by decide) ?_
        exact V_zretE hM (isz_nar (by decide)) h dL_acts_311
      · replace h := ite_n h c154
        refine V_iload hM.c 3 dL_acts_299 rfl ?_
        refine V_iload hM.c 2 dL_acts_301 rfl ?_
        refine V_icmp_ne hM.c 310 dL_acts_303 (by decide) (fun c155 => ?_) (fun c155 => ?_)
        · replace h := ite_n h c155
          refine V_iconst (v := 0) hM.c dL_acts_310 (by decide) ?_
          exact V_zretE hM (isz_nar (by decide)) h dL_acts_311
        · replace h := ite_p h c155
          refine V_iconst (v := 1) hM.c dL_acts_306 (by decide) ?_
          refine V_goto hM.c 311 dL_acts_307 (by decide) ?_
          exact V_zretE hM (isz_nar (by decide)) h dL_acts_311
def f_L_acts_l267 (n : Nat) (Z : Zt) (x0 : Nat) (x5 : Int32) (x6 : Int32) (x8 : Int32) (x9 : Int32) (x11 : Int32) (g : Mem) : Option (Int32 × Mem) := bnd (f_X10_withdrawn n Z x0 g) (fun r148 g149 => if x6 = 0 then (f_L_acts_l286 n Z x6 x8 x9 x11 (0 : Int32) ((r148 >>> (x5 &&& 31)) &&& (1 : Int32)) g149) else (f_L_acts_l286 n Z x6 x8 x9 x11 (1 : Int32) ((r148 >>> (x5 &&& 31)) &&& (1 : Int32)) g149))
set_option maxHeartbeats 4000000 in
set_option maxRecDepth 100000 in
theorem vl_L_acts_l267 {x : Cq} {n : Nat} {Z : Zt} {x0 : Nat} {x5 : Int32} {x6 : Int32} {x8 : Int32} {x9 : Int32} {x11 : Int32} {g : Mem} {rr : Int32} {gg : Mem} (hM : Cm x cL_acts RL 12 (some .boolean) 9 Z (some (.int rr)) gg) (h : f_L_acts_l267 n Z x0 x5 x6 x8 x9 x11 g = some (rr, gg)) : V x Z 0 0 267 [(0, va_rf (some x0)), (5, .int x5), (6, .int x6), (8, .int x8), (9, .int x9), (11, .int x11)] [] g := by
  unfold f_L_acts_l267 at h
  refine V_aload_n hM.c 0 dL_acts_267 rfl rfl ?_
  replace h := bnd_some h
  obtain ⟨r148, g149, e150, h⟩ := h
  refine V_callV (As := []) (c := 8) (T := TX10) (N := 10) hM.c hM.a mq_X10_withdrawn mi_X10_withdrawn tw_63 (hM.d (by decide)) hM.z rfl (by omega) (zc_X10_withdrawn e150) (vm_X10_withdrawn e150) rfl (Nat.le_of_ble_eq_true rfl) dL_acts_268 ?_
  refine V_iload hM.c 1 dL_acts_271 rfl ?_
  refine V_ishr hM.c dL_acts_273 ?_
  refine V_iconst (v := 1) hM.c dL_acts_274 (by decide) ?_
  refine V_iand hM.c dL_acts_275 ?_
  refine V_iload hM.c 2 dL_acts_276 rfl ?_
  refine V_if_eq hM.c 285 dL_acts_278 (by decide) (fun c151 => ?_) (fun c151 => ?_)
  · replace h := ite_p h c151
    refine V_iconst (v := 0) hM.c dL_acts_285 (by decide) ?_
    refine V_sub [2, 3, 4, 5] rfl ?_
    exact vl_L_acts_l286 hM  h
  · replace h := ite_n h c151
    refine V_iconst (v := 1) hM.c dL_acts_281 (by decide) ?_
    refine V_goto hM.c 286 dL_acts_282 (by decide) ?_
    refine V_sub [2, 3, 4, 5] rfl ?_
    exact vl_L_acts_l286 hM  h
def f_L_acts_l206 (n : Nat) (Z : Zt) (x0 : Nat) (x1 : Nat) (x5 : Int32) (x6 : Int32) (x7 : Int32) (x8 : Int32) (x9 : Int32) (s0 : Int32) (g : Mem) : Option (Int32 × Mem) := bnd (f_X10_setWithdrawn n Z x0 x5 x6 g) (fun r138 g139 => grd (zk Z x1 = 12) (grd (inr (0 : Int32) (zl Z x1)) (if x7 = 0 then (if r138 = (-1 : Int32) then (some ((1 : Int32), (sI g139 x1 (0 : Int32).toNatClampNeg r138))) else (some ((0 : Int32), (sI g139 x1 (0 : Int32).toNatClampNeg r138)))) else (if x6 = 0 then (if r138 < x9 then (some ((0 : Int32), (sI g139 x1 (0 : Int32).toNatClampNeg r138))) else (f_L_acts_l267 n Z x0 x5 x6 x8 x9 r138 (sI g139 x1 (0 : Int32).toNatClampNeg r138))) else (if r138 = (x9 - s0) then (f_L_acts_l267 n Z x0 x5 x6 x8 x9 r138 (sI g139 x1 (0 : Int32).toNatClampNeg r138)) else (some ((0 : Int32), (sI g139 x1 (0 : Int32).toNatClampNeg r138))))))))
set_option maxHeartbeats 4000000 in
set_option maxRecDepth 100000 in
theorem vl_L_acts_l206 {x : Cq} {n : Nat} {Z : Zt} {x0 : Nat} {x1 : Nat} {x5 : Int32} {x6 : Int32} {x7 : Int32} {x8 : Int32} {x9 : Int32} {s0 : Int32} {g : Mem} {rr : Int32} {gg : Mem} (hM : Cm x cL_acts RL 12 (some .boolean) 9 Z (some (.int rr)) gg) (h : f_L_acts_l206 n Z x0 x1 x5 x6 x7 x8 x9 s0 g = some (rr, gg)) : V x Z 0 0 206 [(0, va_rf (some x0)), (1, va_rf (some x1)), (5, .int x5), (6, .int x6), (7, .int x7), (8, .int x8), (9, .int x9)] [.int s0] g := by
  unfold f_L_acts_l206 at h
  refine V_istore (L' := [(10, .int s0), (0, va_rf (some x0)), (1, va_rf (some x1)), (5, .int x5), (6, .int x6), (7, .int x7), (8, .int x8), (9, .int x9)]) hM.c dL_acts_206 (by decide) rfl ?_
  refine V_aload_n hM.c 1 dL_acts_208 rfl rfl ?_
  refine V_iload hM.c 3 dL_acts_209 rfl ?_
  refine V_iload hM.c 4 dL_acts_211 rfl ?_
  replace h := bnd_some h
  obtain ⟨r138, g139, e140, h⟩ := h
  refine V_callV (As := [.int x5, .int x6]) (c := 8) (T := TX10) (N := 10) hM.c hM.a mq_X10_setWithdrawn mi_X10_setWithdrawn tw_1623 (hM.d (by decide)) hM.z rfl (by omega) (zc_X10_setWithdrawn e140) (vm_X10_setWithdrawn e140) rfl (Nat.le_of_ble_eq_true rfl) dL_acts_213 ?_
  refine V_istore (L' := [(11, .int r138), (10, .int s0), (0, va_rf (some x0)), (1, va_rf (some x1)), (5, .int x5), (6, .int x6), (7, .int x7), (8, .int x8), (9, .int x9)]) hM.c dL_acts_216 (by decide) rfl ?_
  refine V_aload_n hM.c 3 dL_acts_218 rfl rfl ?_
  refine V_iconst (v := 0) hM.c dL_acts_219 (by decide) ?_
  refine V_iload hM.c 0 dL_acts_220 rfl ?_
  replace h := grd_some h
  obtain ⟨z141, h⟩ := h
  replace h := grd_some h
  obtain ⟨c142, h⟩ := h
  refine V_iast hM.c z141 c142 hM.a dL_acts_222 ?_
  refine V_iload hM.c 6 dL_acts_223 rfl ?_
  refine V_if_ne hM.c 242 dL_acts_225 (by decide) (fun c143 => ?_) (fun c143 => ?_)
  · replace h := ite_n h c143
    refine V_iload hM.c 5 dL_acts_242 rfl ?_
    refine V_if_eq hM.c 260 dL_acts_244 (by decide) (fun c144 => ?_) (fun c144 => ?_)
    · replace h := ite_p h c144
      refine V_iload hM.c 0 dL_acts_260 rfl ?_
      refine V_iload hM.c 8 dL_acts_262 rfl ?_
      refine V_icmp_lt hM.c 310 dL_acts_264 (by decide) (fun c145 => ?_) (fun c145 => ?_)
      · replace h := ite_p h c145
        refine V_iconst (v := 0) hM.c dL_acts_310 (by decide) ?_
        exact V_zretE hM (isz_nar (by decide)) h dL_acts_311
      · replace h := ite_n h c145
        refine V_sub [2, 4, 5, 7, 8, 0] rfl ?_
        exact vl_L_acts_l267 hM  h
    · replace h := ite_n h c144
      refine V_iload hM.c 0 dL_acts_247 rfl ?_
      refine V_iload hM.c 8 dL_acts_249 rfl ?_
      refine V_iload hM.c 1 dL_acts_251 rfl ?_
      refine V_isub hM.c dL_acts_253 ?_
      refine V_icmp_ne hM.c 310 dL_acts_254 (by decide) (fun c146 => ?_) (fun c146 => ?_)
      · replace h := ite_n h c146
        refine V_iconst (v := 0) hM.c dL_acts_310 (by decide) ?_
        exact V_zretE hM (isz_nar (by decide)) h dL_acts_311
      · replace h := ite_p h c146
        refine V_goto hM.c 267 dL_acts_257 (by decide) ?_
        refine V_sub [2, 4, 5, 7, 8, 0] rfl ?_
        exact vl_L_acts_l267 hM  h
  · replace h := ite_p h c143
    refine V_iload hM.c 0 dL_acts_228 rfl ?_
    refine V_iconst (v := -1) hM.c dL_acts_230 (by decide) ?_
    refine V_icmp_ne hM.c 238 dL_acts_231 (by decide) (fun c147 => ?_) (fun c147 => ?_)
    · replace h := ite_n h c147
      refine V_iconst (v := 0) hM.c dL_acts_238 (by decide) ?_
      refine V_goto hM.c 311 dL_acts_239 (by decide) ?_
      exact V_zretE hM (isz_nar (by decide)) h dL_acts_311
    · replace h := ite_p h c147
      refine V_iconst (v := 1) hM.c dL_acts_234 (by decide) ?_
      refine V_goto hM.c 311 dL_acts_235 (by decide) ?_
      exact V_zretE hM (isz_nar (by decide)) h dL_acts_311
def f_L_acts_l153 (n : Nat) (Z : Zt) : Nat → Nat → Nat → Int32 → Int32 → Int32 → Int32 → Int32 → Int32 → Mem → Option (Int32 × Mem)
  | 0, _, _, _, _, _, _, _, _, _ => none
  | fu + 1, x0, x1, x5, x6, x7, x8, x9, x10, g => bnd (f_X10_answerRows n Z x0 g) (fun r125 g126 => if r125 ≤ x10 then (if x7 = 0 then (f_L_acts_l206 n Z x0 x1 x5 x6 x7 x8 x9 (0 : Int32) g126) else (bnd (f_X10_lostIf n Z x0 ((1 : Int32) <<< (x5 &&& 31)) g126) (fun r130 g131 => f_L_acts_l206 n Z x0 x1 x5 x6 x7 x8 x9 r130 g131))) else (bnd (f_X10_derivations n Z x0 x10 g126) (fun r133 g134 => if (lg_cmp r133 (0 : Int64)) ≤ 0 then (f_L_acts_l153 n Z fu x0 x1 x5 x6 x7 x8 (x9 + (0 : Int32)) (x10 + 1) g134) else (f_L_acts_l153 n Z fu x0 x1 x5 x6 x7 x8 (x9 + (1 : Int32)) (x10 + 1) g134))))
set_option maxHeartbeats 4000000 in
set_option maxRecDepth 100000 in
theorem vl_L_acts_l153 {x : Cq} {n : Nat} {Z : Zt} {rr : Int32} {gg : Mem} (hM : Cm x cL_acts RL 12 (some .boolean) 9 Z (some (.int rr)) gg) : ∀ (fu : Nat) (x0 : Nat) (x1 : Nat) (x5 : Int32) (x6 : Int32) (x7 : Int32) (x8 : Int32) (x9 : Int32) (x10 : Int32) (g : Mem), f_L_acts_l153 n Z fu x0 x1 x5 x6 x7 x8 x9 x10 g = some (rr, gg) → V x Z 0 0 153 [(0, va_rf (some x0)), (1, va_rf (some x1)), (5, .int x5), (6, .int x6), (7, .int x7), (8, .int x8), (9, .int x9), (10, .int x10)] [] g := by
  intro fu
  induction fu with
  | zero => intro x0 x1 x5 x6 x7 x8 x9 x10 g h; cases h
  | succ fu ih =>
    intro x0 x1 x5 x6 x7 x8 x9 x10 g h
    unfold f_L_acts_l153 at h
    refine V_iload hM.c 7 dL_acts_153 rfl ?_
    refine V_aload_n hM.c 0 dL_acts_155 rfl rfl ?_
    replace h := bnd_some h
    obtain ⟨r125, g126, e127, h⟩ := h
    refine V_callV (As := []) (c := 8) (T := TX10) (N := 10) hM.c hM.a mq_X10_answerRows mi_X10_answerRows tw_96 (hM.d (by decide)) hM.z rfl (by omega) (zc_X10_answerRows e127) (vm_X10_answerRows e127) rfl (Nat.le_of_ble_eq_true rfl) dL_acts_156 ?_
    refine V_icmp_ge hM.c 189 dL_acts_159 (by decide) (fun c128 => ?_) (fun c128 => ?_)
    · replace h := ite_p h c128
      refine V_iload hM.c 4 dL_acts_189 rfl ?_
      refine V_if_eq hM.c 205 dL_acts_191 (by decide) (fun c129 => ?_) (fun c129 => ?_)
      · replace h := ite_p h c129
        refine V_iconst (v := 0) hM.c dL_acts_205 (by decide) ?_
        refine V_sub [0, 1, 2, 3, 4, 5, 6] rfl ?_
        exact vl_L_acts_l206 hM  h
      · replace h := ite_n h c129
        refine V_aload_n hM.c 0 dL_acts_194 rfl rfl ?_
        refine V_iconst (v := 1) hM.c dL_acts_195 (by decide) ?_
        refine V_iload hM.c 2 dL_acts_196 rfl ?_
        refine V_ishl hM.c dL_acts_198 ?_
        replace h := bnd_some h
        obtain ⟨r130, g131, e132, h⟩ := h
        refine V_callV (As := [.int ((1 : Int32) <<< (x5 &&& 31))]) (c := 8) (T := TX10) (N := 10) hM.c hM.a mq_X10_lostIf mi_X10_lostIf tw_1609 (hM.d (by decide)) hM.z rfl (by omega) (zc_X10_lostIf e132) (vm_X10_lostIf e132) rfl (Nat.le_of_ble_eq_true rfl) dL_acts_199 ?_
        refine V_goto hM.c 206 dL_acts_202 (by decide) ?_
        refine V_sub [0, 1, 2, 3, 4, 5, 6] rfl ?_
        exact vl_L_acts_l206 hM  h
    · replace h := ite_n h c128
      refine V_iload hM.c 6 dL_acts_162 rfl ?_
      refine V_aload_n hM.c 0 dL_acts_164 rfl rfl ?_
      refine V_iload hM.c 7 dL_acts_165 rfl ?_
      replace h := bnd_some h
      obtain ⟨r133, g134, e135, h⟩ := h
      refine V_callV (As := [.int x10]) (c := 8) (T := TX10) (N := 10) hM.c hM.a mq_X10_derivations mi_X10_derivations tw_167 (hM.d (by decide)) hM.z rfl (by omega) (zc_X10_derivations e135) (vm_X10_derivations e135) rfl (Nat.le_of_ble_eq_true rfl) dL_acts_167 ?_
      refine V_lconst (v := 0) hM.c dL_acts_170 (by decide) ?_
      refine V_lcmp hM.c dL_acts_171 ?_
      refine V_if_le hM.c 179 dL_acts_172 (by decide) (fun c136 => ?_) (fun c136 => ?_)
      · replace h := ite_p h c136
        refine V_iconst (v := 0) hM.c dL_acts_179 (by decide) ?_
        refine V_iadd hM.c dL_acts_180 ?_
        refine V_istore (L' := [(9, .int (x9 + (0 : Int32))), (0, va_rf (some x0)), (1, va_rf (some x1)), (5, .int x5), (6, .int x6), (7, .int x7), (8, .int x8), (10, .int x10)]) hM.c dL_acts_181 (by decide) rfl ?_
        refine V_iinc (v := (x10 + 1)) (L' := [(10, .int (x10 + 1)), (9, .int (x9 + (0 : Int32))), (0, va_rf (some x0)), (1, va_rf (some x1)), (5, .int x5), (6, .int x6), (7, .int x7), (8, .int x8)]) hM.c 7 dL_acts_183 rfl rfl (by decide) rfl ?_
        refine V_goto hM.c 153 dL_acts_186 (by decide) ?_
        refine V_sub [2, 3, 4, 5, 6, 7, 1, 0] rfl ?_
        exact ih _ _ _ _ _ _ _ _ _ h
      · replace h := ite_n h c136
        refine V_iconst (v := 1) hM.c dL_acts_175 (by decide) ?_
        refine V_goto hM.c 180 dL_acts_176 (by decide) ?_
        refine V_iadd hM.c dL_acts_180 ?_
        refine V_istore (L' := [(9, .int (x9 + (1 : Int32))), (0, va_rf (some x0)), (1, va_rf (some x1)), (5, .int x5), (6, .int x6), (7, .int x7), (8, .int x8), (10, .int x10)]) hM.c dL_acts_181 (by decide) rfl ?_
        refine V_iinc (v := (x10 + 1)) (L' := [(10, .int (x10 + 1)), (9, .int (x9 + (1 : Int32))), (0, va_rf (some x0)), (1, va_rf (some x1)), (5, .int x5), (6, .int x6), (7, .int x7), (8, .int x8)]) hM.c 7 dL_acts_183 rfl rfl (by decide) rfl ?_
        refine V_goto hM.c 153 dL_acts_186 (by decide) ?_
        refine V_sub [2, 3, 4, 5, 6, 7, 1, 0] rfl ?_
        exact ih _ _ _ _ _ _ _ _ _ h
def f_L_acts_l145 (n : Nat) (Z : Zt) (x0 : Nat) (x1 : Nat) (x5 : Int32) (x6 : Int32) (x7 : Int32) (s0 : Int32) (g : Mem) : Option (Int32 × Mem) := f_L_acts_l153 n Z n x0 x1 x5 x6 x7 s0 (0 : Int32) (0 : Int32) g
set_option maxHeartbeats 4000000 in
set_option maxRecDepth 100000 in
theorem vl_L_acts_l145 {x : Cq} {n : Nat} {Z : Zt} {x0 : Nat} {x1 : Nat} {x5 : Int32} {x6 : Int32} {x7 : Int32} {s0 : Int32} {g : Mem} {rr : Int32} {gg : Mem} (hM : Cm x cL_acts RL 12 (some .boolean) 9 Z (some (.int rr)) gg) (h : f_L_acts_l145 n Z x0 x1 x5 x6 x7 s0 g = some (rr, gg)) : V x Z 0 0 145 [(0, va_rf (some x0)), (1, va_rf (some x1)), (5, .int x5), (6, .int x6), (7, .int x7)] [.int s0] g := by
  unfold f_L_acts_l145 at h
  refine V_istore (L' := [(8, .int s0), (0, va_rf (some x0)), (1, va_rf (some x1)), (5, .int x5), (6, .int x6), (7, .int x7)]) hM.c dL_acts_145 (by decide) rfl ?_
  refine V_iconst (v := 0) hM.c dL_acts_147 (by decide) ?_
  refine V_istore (L' := [(9, .int (0 : Int32)), (8, .int s0), (0, va_rf (some x0)), (1, va_rf (some x1)), (5, .int x5), (6, .int x6), (7, .int x7)]) hM.c dL_acts_148 (by decide) rfl ?_
  refine V_iconst (v := 0) hM.c dL_acts_150 (by decide) ?_
  refine V_istore (L' := [(10, .int (0 : Int32)), (9, .int (0 : Int32)), (8, .int s0), (0, va_rf (some x0)), (1, va_rf (some x1)), (5, .int x5), (6, .int x6), (7, .int x7)]) hM.c dL_acts_151 (by decide) rfl ?_
  refine V_sub [3, 4, 5, 6, 7, 2, 1, 0] rfl ?_
  exact vl_L_acts_l153 hM  _ _ _ _ _ _ _ _ _ _ h
def f_L_acts_l144 (n : Nat) (Z : Zt) (x0 : Nat) (x1 : Nat) (x5 : Int32) (x6 : Int32) (x7 : Int32) (g : Mem) : Option (Int32 × Mem) := f_L_acts_l145 n Z x0 x1 x5 x6 x7 (0 : Int32) g
set_option maxHeartbeats 4000000 in
set_option maxRecDepth 100000 in
theorem vl_L_acts_l144 {x : Cq} {n : Nat} {Z : Zt} {x0 : Nat} {x1 : Nat} {x5 : Int32} {x6 : Int32} {x7 : Int32} {g : Mem} {rr : Int32} {gg : Mem} (hM : Cm x cL_acts RL 12 (some .boolean) 9 Z (some (.int rr)) gg) (h : f_L_acts_l144 n Z x0 x1 x5 x6 x7 g = some (rr, gg)) : V x Z 0 0 144 [(0, va_rf (some x0)), (1, va_rf (some x1)), (5, .int x5), (6, .int x6), (7, .int x7)] [] g := by
  unfold f_L_acts_l144 at h
  refine V_iconst (v := 0) hM.c dL_acts_144 (by decide) ?_
  refine V_sub [0, 1, 2, 3, 4] rfl ?_
  exact vl_L_acts_l145 hM  h
def f_L_acts_l120 (n : Nat) (Z : Zt) (x0 : Nat) (x1 : Nat) (x5 : Int32) (x6 : Int32) (s0 : Int32) (g : Mem) : Option (Int32 × Mem) := if s0 = 0 then (f_L_acts_l144 n Z x0 x1 x5 x6 s0 g) else (bnd (f_X10_withdrawn n Z x0 g) (fun r92 g93 => if ((r92 >>> (x5 &&& 31)) &&& (1 : Int32)) = (1 : Int32) then (f_L_acts_l145 n Z x0 x1 x5 x6 s0 (1 : Int32) g93) else (f_L_acts_l144 n Z x0 x1 x5 x6 s0 g93)))
set_option maxHeartbeats 4000000 in
set_option maxRecDepth 100000 in
theorem vl_L_acts_l120 {x : Cq} {n : Nat} {Z : Zt} {x0 : Nat} {x1 : Nat} {x5 : Int32} {x6 : Int32} {s0 : Int32} {g : Mem} {rr : Int32} {gg : Mem} (hM : Cm x cL_acts RL 12 (some .boolean) 9 Z (some (.int rr)) gg) (h : f_L_acts_l120 n Z x0 x1 x5 x6 s0 g = some (rr, gg)) : V x Z 0 0 120 [(0, va_rf (some x0)), (1, va_rf (some x1)), (5, .int x5), (6, .int x6)] [.int s0] g := by
  unfold f_L_acts_l120 at h
  refine V_istore (L' := [(7, .int s0), (0, va_rf (some x0)), (1, va_rf (some x1)), (5, .int x5), (6, .int x6)]) hM.c dL_acts_120 (by decide) rfl ?_
  refine V_iload hM.c 0 dL_acts_122 rfl ?_
  refine V_if_eq hM.c 144 dL_acts_124 (by decide) (fun c91 => ?_) (fun c91 => ?_)
  · replace h := ite_p h c91
    refine V_sub [1, 2, 3, 4, 0] rfl ?_
    exact vl_L_acts_l144 hM  h
  · replace h := ite_n h c91
    refine V_aload_n hM.c 1 dL_acts_127 rfl rfl ?_
    replace h := bnd_some h
    obtain ⟨r92, g93, e94, h⟩ := h
    refine V_callV (As := []) (c := 8) (T := TX10) (N := 10) hM.c hM.a mq_X10_withdrawn mi_X10_withdrawn tw_63 (hM.d (by decide)) hM.z rfl (by omega) (zc_X10_withdrawn e94) (vm_X10_withdrawn e94) rfl (Nat.le_of_ble_eq_true rfl) dL_acts_128 ?_
    refine V_iload hM.c 3 dL_acts_131 rfl ?_
    refine V_ishr hM.c dL_acts_133 ?_
    refine V_iconst (v := 1) hM.c dL_acts_134 (by decide) ?_
    refine V_iand hM.c dL_acts_135 ?_
    refine V_iconst (v := 1) hM.c dL_acts_136 (by decide) ?_
    refine V_icmp_ne hM.c 144 dL_acts_137 (by decide) (fun c95 => ?_) (fun c95 => ?_)
    · replace h := ite_n h c95
      refine V_sub [1, 2, 3, 4, 0] rfl ?_
      exact vl_L_acts_l144 hM  h
    · replace h := ite_p h c95
      refine V_iconst (v := 1) hM.c dL_acts_140 (by decide) ?_
      refine V_goto hM.c 145 dL_acts_141 (by decide) ?_
      refine V_sub [1, 2, 3, 4, 0] rfl ?_
      exact vl_L_acts_l145 hM  h
def f_L_acts_l119 (n : Nat) (Z : Zt) (x0 : Nat) (x1 : Nat) (x5 : Int32) (x6 : Int32) (g : Mem) : Option (Int32 × Mem) := f_L_acts_l120 n Z x0 x1 x5 x6 (0 : Int32) g
set_option maxHeartbeats 4000000 in
set_option maxRecDepth 100000 in
theorem vl_L_acts_l119 {x : Cq} {n : Nat} {Z : Zt} {x0 : Nat} {x1 : Nat} {x5 : Int32} {x6 : Int32} {g : Mem} {rr : Int32} {gg : Mem} (hM : Cm x cL_acts RL 12 (some .boolean) 9 Z (some (.int rr)) gg) (h : f_L_acts_l119 n Z x0 x1 x5 x6 g = some (rr, gg)) : V x Z 0 0 119 [(0, va_rf (some x0)), (1, va_rf (some x1)), (5, .int x5), (6, .int x6)] [] g := by
  unfold f_L_acts_l119 at h
  refine V_iconst (v := 0) hM.c dL_acts_119 (by decide) ?_
  refine V_sub [0, 1, 2, 3] rfl ?_
  exact vl_L_acts_l120 hM  h
def f_L_acts_l93 (n : Nat) (Z : Zt) (x0 : Nat) (x1 : Nat) (x5 : Int32) (s0 : Int32) (g : Mem) : Option (Int32 × Mem) := if (16 : Int32) ≤ x5 then (f_L_acts_l119 n Z x0 x1 x5 s0 g) else (bnd (f_X10_tags n Z x0 g) (fun r67 g68 => if ((r67 >>> (x5 &&& 31)) &&& (1 : Int32)) = (1 : Int32) then (f_L_acts_l120 n Z x0 x1 x5 s0 (1 : Int32) g68) else (f_L_acts_l119 n Z x0 x1 x5 s0 g68)))
set_option maxHeartbeats 4000000 in
set_option maxRecDepth 100000 in
theorem vl_L_acts_l93 {x : Cq} {n : Nat} {Z : Zt} {x0 : Nat} {x1 : Nat} {x5 : Int32} {s0 : Int32} {g : Mem} {rr : Int32} {gg : Mem} (hM : Cm x cL_acts RL 12 (some .boolean) 9 Z (some (.int rr)) gg) (h : f_L_acts_l93 n Z x0 x1 x5 s0 g = some (rr, gg)) : V x Z 0 0 93 [(0, va_rf (some x0)), (1, va_rf (some x1)), (5, .int x5)] [.int s0] g := by
  unfold f_L_acts_l93 at h
  refine V_istore (L' := [(6, .int s0), (0, va_rf (some x0)), (1, va_rf (some x1)), (5, .int x5)]) hM.c dL_acts_93 (by decide) rfl ?_
  refine V_iload hM.c 3 dL_acts_95 rfl ?_
  refine V_bipush (v := 16) hM.c dL_acts_97 (by decide) ?_
  refine V_icmp_ge hM.c 119 dL_acts_99 (by decide) (fun c66 => ?_) (fun c66 => ?_)
  · replace h := ite_p h c66
    refine V_sub [1, 2, 3, 0] rfl ?_
    exact vl_L_acts_l119 hM  h
  · replace h := ite_n h c66
    refine V_aload_n hM.c 1 dL_acts_102 rfl rfl ?_
    replace h := bnd_some h
    obtain ⟨r67, g68, e69, h⟩ := h
    refine V_callV (As := []) (c := 8) (T := TX10) (N := 10) hM.c hM.a mq_X10_tags mi_X10_tags tw_259 (hM.d (by decide)) hM.z rfl (by omega) (zc_X10_tags e69) (vm_X10_tags e69) rfl (Nat.le_of_ble_eq_true rfl) dL_acts_103 ?_
    refine V_iload hM.c 3 dL_acts_106 rfl ?_
    refine V_ishr hM.c dL_acts_108 ?_
    refine V_iconst (v := 1) hM.c dL_acts_109 (by decide) ?_
    refine V_iand hM.c dL_acts_110 ?_
    refine V_iconst (v := 1) hM.c dL_acts_111 (by decide) ?_
    refine V_icmp_ne hM.c 119 dL_acts_112 (by decide) (fun c70 => ?_) (fun c70 => ?_)
    · replace h := ite_n h c70
      refine V_sub [1, 2, 3, 0] rfl ?_
      exact vl_L_acts_l119 hM  h
    · replace h := ite_p h c70
      refine V_iconst (v := 1) hM.c dL_acts_115 (by decide) ?_
      refine V_goto hM.c 120 dL_acts_116 (by decide) ?_
      refine V_sub [1, 2, 3, 0] rfl ?_
      exact vl_L_acts_l120 hM  h
def f_L_acts_l395 (n : Nat) (Z : Zt) (x0 : Nat) (s0 : Int32) (s1 : Int32) (g : Mem) : Option (Int32 × Mem) := if s1 = s0 then (bnd (f_X10_queryLength n Z x0 g) (fun r110 g111 => if r110 = 0 then (bnd (f_X10_answerColumns n Z x0 g111) (fun r114 g115 => if r114 = 0 then (some ((1 : Int32), g115)) else (some ((0 : Int32), g115)))) else (some ((0 : Int32), g111)))) else (some ((0 : Int32), g))
set_option maxHeartbeats 4000000 in
set_option maxRecDepth 100000 in
theorem vl_L_acts_l395 {x : Cq} {n : Nat} {Z : Zt} {x0 : Nat} {s0 : Int32} {s1 : Int32} {g : Mem} {rr : Int32} {gg : Mem} (hM : Cm x cL_acts RL 12 (some .boolean) 9 Z (some (.int rr)) gg) (h : f_L_acts_l395 n Z x0 s0 s1 g = some (rr, gg)) : V x Z 0 0 395 [(0, va_rf (some x0))] [.int s0, .int s1] g := by
  unfold f_L_acts_l395 at h
  refine V_icmp_ne hM.c 416 dL_acts_395 (by decide) (fun c109 => ?_) (fun c109 => ?_)
  · replace h := ite_n h c109
    refine V_iconst (v := 0) hM.c dL_acts_416 (by decide) ?_
    exact V_zretE hM (isz_nar (by decide)) h dL_acts_417
  · replace h := ite_p h c109
    refine V_aload_n hM.c 0 dL_acts_398 rfl rfl ?_
    replace h := bnd_some h
    obtain ⟨r110, g111, e112, h⟩ := h
    refine V_callV (As := []) (c := 8) (T := TX10) (N := 10) hM.c hM.a mq_X10_queryLength mi_X10_queryLength tw_72 (hM.d (by decide)) hM.z rfl (by omega) (zc_X10_queryLength e112) (vm_X10_queryLength e112) rfl (Nat.le_of_ble_eq_true rfl) dL_acts_399 ?_
    refine V_if_ne hM.c 416 dL_acts_402 (by decide) (fun c113 => ?_) (fun c113 => ?_)
    · replace h := ite_n h c113
      refine V_iconst (v := 0) hM.c dL_acts_416 (by decide) ?_
      exact V_zretE hM (isz_nar (by decide)) h dL_acts_417
    · replace h := ite_p h c113
      refine V_aload_n hM.c 0 dL_acts_405 rfl rfl ?_
      replace h := bnd_some h
      obtain ⟨r114, g115, e116, h⟩ := h
      refine V_callV (As := []) (c := 8) (T := TX10) (N := 10) hM.c hM.a mq_X10_answerColumns mi_X10_answerColumns tw_113 (hM.d (by decide)) hM.z rfl (by omega) (zc_X10_answerColumns e116) (vm_X10_answerColumns e116) rfl (Nat.le_of_ble_eq_true rfl) dL_acts_406 ?_
      refine V_if_ne hM.c 416 dL_acts_409 (by decide) (fun c117 => ?_) (fun c117 => ?_)
      · replace h := ite_n h c117
        refine V_iconst (v := 0) hM.c dL_acts_416 (by decide) ?_
        exact V_zretE hM (isz_nar (by decide)) h dL_acts_417
      · replace h := ite_p h c117
        refine V_iconst (v := 1) hM.c dL_acts_412 (by decide) ?_
        refine V_goto hM.c 417 dL_acts_413 (by decide) ?_
        exact V_zretE hM (isz_nar (by decide)) h dL_acts_417
def f_L_acts_l371 (n : Nat) (Z : Zt) (x0 : Nat) (x1 : Nat) (x3 : Int32) (x5 : Int32) (x6 : Int32) (s0 : Int32) (s1 : Int32) (s2 : Nat) (g : Mem) : Option (Int32 × Mem) := grd (zk Z s2 = 12) (grd (inr s1 (zl Z s2)) (bnd (f_L_low n Z x3 (3 : Int32) (sI g s2 s1.toNatClampNeg s0)) (fun r84 g85 => if 0 < r84 then (some ((1 : Int32), g85)) else (grd (zk Z x1 = 12) (grd (inr (0 : Int32) (zl Z x1)) (if x6 = 0 then (f_L_acts_l395 n Z x0 (-5 : Int32) (gI g85 x1 (0 : Int32).toNatClampNeg) g85) else (f_L_acts_l395 n Z x0 x5 (gI g85 x1 (0 : Int32).toNatClampNeg) g85)))))))
set_option maxHeartbeats 4000000 in
set_option maxRecDepth 100000 in
theorem vl_L_acts_l371 {x : Cq} {n : Nat} {Z : Zt} {x0 : Nat} {x1 : Nat} {x3 : Int32} {x5 : Int32} {x6 : Int32} {s0 : Int32} {s1 : Int32} {s2 : Nat} {g : Mem} {rr : Int32} {gg : Mem} (hM : Cm x cL_acts RL 12 (some .boolean) 9 Z (some (.int rr)) gg) (h : f_L_acts_l371 n Z x0 x1 x3 x5 x6 s0 s1 s2 g = some (rr, gg)) : V x Z 0 0 371 [(0, va_rf (some x0)), (1, va_rf (some x1)), (3, .int x3), (5, .int x5), (6, .int x6)] [.int s0, .int s1, va_rf (some s2)] g := by
  unfold f_L_acts_l371 at h
  replace h := grd_some h
  obtain ⟨z82, h⟩ := h
  replace h := grd_some h
  obtain ⟨c83, h⟩ := h
  refine V_iast hM.c z82 c83 hM.a dL_acts_371 ?_
  refine V_iload_n hM.c 2 dL_acts_372 rfl rfl ?_
  refine V_iconst (v := 3) hM.c dL_acts_373 (by decide) ?_
  replace h := bnd_some h
  obtain ⟨r84, g85, e86, h⟩ := h
  refine V_callS (As := [.int x3, .int (3 : Int32)]) hM.c hM.a mq_L_low mi_L_low tw_407 (hM.d (by decide)) hM.z (vm_L_low e86) rfl (Nat.le_of_ble_eq_true rfl) dL_acts_374 ?_
  refine V_if_gt hM.c 412 dL_acts_377 (by decide) (fun c87 => ?_) (fun c87 => ?_)
  · replace h := ite_p h c87
    refine V_iconst (v := 1) hM.c dL_acts_412 (by decide) ?_
    refine V_goto hM.c 417 dL_acts_413 (by decide) ?_
    exact V_zretE hM (isz_nar (by decide)) h dL_acts_417
  · replace h := ite_n h c87
    refine V_aload_n hM.c 1 dL_acts_380 rfl rfl ?_
    refine V_iconst (v := 0) hM.c dL_acts_381 (by decide) ?_
    replace h := grd_some h
    obtain ⟨z88, h⟩ := h
    replace h := grd_some h
    obtain ⟨c89, h⟩ := h
    refine V_iald hM.c z88 c89 dL_acts_382 ?_
    refine V_iload hM.c 4 dL_acts_383 rfl ?_
    refine V_if_eq hM.c 393 dL_acts_385 (by decide) (fun c90 => ?_) (fun c90 => ?_)
    · replace h := ite_p h c90
      refine V_bipush (v := -5) hM.c dL_acts_393 (by decide) ?_
      refine V_sub [0] rfl ?_
      exact vl_L_acts_l395 hM  h
    · replace h := ite_n h c90
      refine V_iload hM.c 3 dL_acts_388 rfl ?_
      refine V_goto hM.c 395 dL_acts_390 (by decide) ?_
      refine V_sub [0] rfl ?_
      exact vl_L_acts_l395 hM  h
def f_L_acts_l351 (n : Nat) (Z : Zt) (x0 : Nat) (x1 : Nat) (x3 : Int32) (x5 : Int32) (s0 : Int32) (g : Mem) : Option (Int32 × Mem) := bnd (f_L_low n Z x3 (3 : Int32) g) (fun r59 g60 => if r59 ≤ 0 then (bnd (f_X10_dropQuery n Z x0 g60) (fun r63 g64 => f_L_acts_l371 n Z x0 x1 x3 x5 s0 r63 (0 : Int32) x1 g64)) else (f_L_acts_l371 n Z x0 x1 x3 x5 s0 (-1 : Int32) (0 : Int32) x1 g60))
set_option maxHeartbeats 4000000 in
set_option maxRecDepth 100000 in
theorem vl_L_acts_l351 {x : Cq} {n : Nat} {Z : Zt} {x0 : Nat} {x1 : Nat} {x3 : Int32} {x5 : Int32} {s0 : Int32} {g : Mem} {rr : Int32} {gg : Mem} (hM : Cm x cL_acts RL 12 (some .boolean) 9 Z (some (.int rr)) gg) (h : f_L_acts_l351 n Z x0 x1 x3 x5 s0 g = some (rr, gg)) : V x Z 0 0 351 [(0, va_rf (some x0)), (1, va_rf (some x1)), (3, .int x3), (5, .int x5)] [.int s0] g := by
  unfold f_L_acts_l351 at h
  refine V_istore (L' := [(6, .int s0), (0, va_rf (some x0)), (1, va_rf (some x1)), (3, .int x3), (5, .int x5)]) hM.c dL_acts_351 (by decide) rfl ?_
  refine V_aload_n hM.c 2 dL_acts_353 rfl rfl ?_
  refine V_iconst (v := 0) hM.c dL_acts_354 (by decide) ?_
  refine V_iload_n hM.c 3 dL_acts_355 rfl rfl ?_
  refine V_iconst (v := 3) hM.c dL_acts_356 (by decide) ?_
  replace h := bnd_some h
  obtain ⟨r59, g60, e61, h⟩ := h
  refine V_callS (As := [.int x3, .int (3 : Int32)]) hM.c hM.a mq_L_low mi_L_low tw_407 (hM.d (by decide)) hM.z (vm_L_low e61) rfl (Nat.le_of_ble_eq_true rfl) dL_acts_357 ?_
  refine V_if_le hM.c 367 dL_acts_360 (by decide) (fun c62 => ?_) (fun c62 => ?_)
  · replace h := ite_p h c62
    refine V_aload_n hM.c 1 dL_acts_367 rfl rfl ?_
    replace h := bnd_some h
    obtain ⟨r63, g64, e65, h⟩ := h
    refine V_callV (As := []) (c := 8) (T := TX10) (N := 10) hM.c hM.a mq_X10_dropQuery mi_X10_dropQuery tw_1736 (hM.d (by decide)) hM.z rfl (by omega) (zc_X10_dropQuery e65) (vm_X10_dropQuery e65) rfl (Nat.le_of_ble_eq_true rfl) dL_acts_368 ?_
    refine V_sub [1, 2, 3, 4, 0] rfl ?_
    exact vl_L_acts_l371 hM  h
  · replace h := ite_n h c62
    refine V_iconst (v := -1) hM.c dL_acts_363 (by decide) ?_
    refine V_goto hM.c 371 dL_acts_364 (by decide) ?_
    refine V_sub [1, 2, 3, 4, 0] rfl ?_
    exact vl_L_acts_l371 hM  h
def f_L_acts_l628 (n : Nat) (Z : Zt) (s0 : Int32) (s1 : Int32) (g : Mem) : Option (Int32 × Mem) := if s1 = s0 then (some ((1 : Int32), g)) else (some ((0 : Int32), g))
set_option maxHeartbeats 4000000 in
set_option maxRecDepth 100000 in
theorem vl_L_acts_l628 {x : Cq} {n : Nat} {Z : Zt} {s0 : Int32} {s1 : Int32} {g : Mem} {rr : Int32} {gg : Mem} (hM : Cm x cL_acts RL 12 (some .boolean) 9 Z (some (.int rr)) gg) (h : f_L_acts_l628 n Z s0 s1 g = some (rr, gg)) : V x Z 0 0 628 [] [.int s0, .int s1] g := by
  unfold f_L_acts_l628 at h
  refine V_icmp_ne hM.c 635 dL_acts_628 (by decide) (fun c137 => ?_) (fun c137 => ?_)
  · replace h := ite_n h c137
    refine V_iconst (v := 0) hM.c dL_acts_635 (by decide) ?_
    exact V_zretE hM (isz_nar (by decide)) h dL_acts_636
  · replace h := ite_p h c137
    refine V_iconst (v := 1) hM.c dL_acts_631 (by decide) ?_
    refine V_goto hM.c 636 dL_acts_632 (by decide) ?_
    exact V_zretE hM (isz_nar (by decide)) h dL_acts_636
def f_L_acts_l592 (n : Nat) (Z : Zt) (x0 : Nat) (x5 : Int32) (x6 : Int32) (x7 : Int32) (x8 : Int32) (x9 : Int32) (s0 : Int32) (s1 : Int32) (g : Mem) : Option (Int32 × Mem) := if s1 = s0 then (bnd (f_X10_columns n Z x0 x5 g) (fun r119 g120 => if x5 = (4 : Int32) then (f_L_acts_l628 n Z (-1 : Int32) r119 g120) else (if x8 = 0 then (if x7 = 0 then (f_L_acts_l628 n Z x9 r119 g120) else (f_L_acts_l628 n Z x6 r119 g120)) else (f_L_acts_l628 n Z x9 r119 g120)))) else (some ((0 : Int32), g))
set_option maxHeartbeats 4000000 in
set_option maxRecDepth 100000 in
theorem vl_L_acts_l592 {x : Cq} {n : Nat} {Z : Zt} {x0 : Nat} {x5 : Int32} {x6 : Int32} {x7 : Int32} {x8 : Int32} {x9 : Int32} {s0 : Int32} {s1 : Int32} {g : Mem} {rr : Int32} {gg : Mem} (hM : Cm x cL_acts RL 12 (some .boolean) 9 Z (some (.int rr)) gg) (h : f_L_acts_l592 n Z x0 x5 x6 x7 x8 x9 s0 s1 g = some (rr, gg)) : V x Z 0 0 592 [(0, va_rf (some x0)), (5, .int x5), (6, .int x6), (7, .int x7), (8, .int x8), (9, .int x9)] [.int s0, .int s1] g := by
  unfold f_L_acts_l592 at h
  refine V_icmp_ne hM.c 635 dL_acts_592 (by decide) (fun c118 => ?_) (fun c118 => ?_)
  · replace h := ite_n h c118
    refine V_iconst (v := 0) hM.c dL_acts_635 (by decide) ?_
    exact V_zretE hM (isz_nar (by decide)) h dL_acts_636
  · replace h := ite_p h c118
    refine V_aload_n hM.c 0 dL_acts_595 rfl rfl ?_
    refine V_iload hM.c 1 dL_acts_596 rfl ?_
    replace h := bnd_some h
    obtain ⟨r119, g120, e121, h⟩ := h
    refine V_callV (As := [.int x5]) (c := 8) (T := TX10) (N := 10) hM.c hM.a mq_X10_columns mi_X10_columns tw_2 (hM.d (by decide)) hM.z rfl (by omega) (zc_X10_columns e121) (vm_X10_columns e121) rfl (Nat.le_of_ble_eq_true rfl) dL_acts_598 ?_
    refine V_iload hM.c 1 dL_acts_601 rfl ?_
    refine V_iconst (v := 4) hM.c dL_acts_603 (by decide) ?_
    refine V_icmp_ne hM.c 611 dL_acts_604 (by decide) (fun c122 => ?_) (fun c122 => ?_)
    · replace h := ite_n h c122
      refine V_iload hM.c 4 dL_acts_611 rfl ?_
      refine V_if_ne hM.c 621 dL_acts_613 (by decide) (fun c123 => ?_) (fun c123 => ?_)
      · replace h := ite_n h c123
        refine V_iload hM.c 5 dL_acts_621 rfl ?_
        refine V_goto hM.c 628 dL_acts_623 (by decide) ?_
        refine V_sub [] rfl ?_
        exact vl_L_acts_l628 hM  h
      · replace h := ite_p h c123
        refine V_iload hM.c 3 dL_acts_616 rfl ?_
        refine V_if_ne hM.c 626 dL_acts_618 (by decide) (fun c124 => ?_) (fun c124 => ?_)
        · replace h := ite_n h c124
          refine V_iload hM.c 2 dL_acts_626 rfl ?_
          refine V_sub [] rfl ?_
          exact vl_L_acts_l628 hM  h
        · replace h := ite_p h c124
          refine V_iload hM.c 5 dL_acts_621 rfl ?_
          refine V_goto hM.c 628 dL_acts_623 (by decide) ?_
          refine V_sub [] rfl ?_
          exact vl_L_acts_l628 hM  h
    · replace h := ite_p h c122
      refine V_iconst (v := -1) hM.c dL_acts_607 (by decide) ?_
      refine V_goto hM.c 628 dL_acts_608 (by decide) ?_
      refine V_sub [] rfl ?_
      exact vl_L_acts_l628 hM  h
def f_L_acts_l536 (n : Nat) (Z : Zt) (x0 : Nat) (x1 : Nat) (x5 : Int32) (x6 : Int32) (x7 : Int32) (s0 : Int32) (g : Mem) : Option (Int32 × Mem) := bnd (f_X10_columns n Z x0 x5 g) (fun r96 g97 => bnd (f_X10_setColumns n Z x0 x5 x6 g97) (fun r99 g100 => grd (zk Z x1 = 12) (grd (inr (0 : Int32) (zl Z x1)) (grd (zk Z x1 = 12) (grd (inr (0 : Int32) (zl Z x1)) (if x5 = (4 : Int32) then (f_L_acts_l592 n Z x0 x5 x6 x7 s0 r96 (-1 : Int32) (gI (sI g100 x1 (0 : Int32).toNatClampNeg r99) x1 (0 : Int32).toNatClampNeg) (sI g100 x1 (0 : Int32).toNatClampNeg r99)) else (if s0 = 0 then (if x7 = 0 then (f_L_acts_l592 n Z x0 x5 x6 x7 s0 r96 (-5 : Int32) (gI (sI g100 x1 (0 : Int32).toNatClampNeg r99) x1 (0 : Int32).toNatClampNeg) (sI g100 x1 (0 : Int32).toNatClampNeg r99)) else (f_L_acts_l592 n Z x0 x5 x6 x7 s0 r96 r96 (gI (sI g100 x1 (0 : Int32).toNatClampNeg r99) x1 (0 : Int32).toNatClampNeg) (sI g100 x1 (0 : Int32).toNatClampNeg r99))) else (f_L_acts_l592 n Z x0 x5 x6 x7 s0 r96 (-2 : Int32) (gI (sI g100 x1 (0 : Int32).toNatClampNeg r99) x1 (0 : Int32).toNatClampNeg) (sI g100 x1 (0 : Int32).toNatClampNeg r99)))))))))
set_option maxHeartbeats 4000000 in
set_option maxRecDepth 100000 in
theorem vl_L_acts_l536 {x : Cq} {n : Nat} {Z : Zt} {x0 : Nat} {x1 : Nat} {x5 : Int32} {x6 : Int32} {x7 : Int32} {s0 : Int32} {g : Mem} {rr : Int32} {gg : Mem} (hM : Cm x cL_acts RL 12 (some .boolean) 9 Z (some (.int rr)) gg) (h : f_L_acts_l536 n Z x0 x1 x5 x6 x7 s0 g = some (rr, gg)) : V x Z 0 0 536 [(0, va_rf (some x0)), (1, va_rf (some x1)), (5, .int x5), (6, .int x6), (7, .int x7)] [.int s0] g := by
  unfold f_L_acts_l536 at h
  refine V_istore (L' := [(8, .int s0), (0, va_rf (some x0)), (1, va_rf (some x1)), (5, .int x5), (6, .int x6), (7, .int x7)]) hM.c dL_acts_536 (by decide) rfl ?_
  refine V_aload_n hM.c 1 dL_acts_538 rfl rfl ?_
  refine V_iload hM.c 3 dL_acts_539 rfl ?_
  replace h := bnd_some h
  obtain ⟨r96, g97, e98, h⟩ := h
  refine V_callV (As := [.int x5]) (c := 8) (T := TX10) (N := 10) hM.c hM.a mq_X10_columns mi_X10_columns tw_2 (hM.d (by decide)) hM.z rfl (by omega) (zc_X10_columns e98) (vm_X10_columns e98) rfl (Nat.le_of_ble_eq_true rfl) dL_acts_541 ?_
  refine V_istore (L' := [(9, .int r96), (8, .int s0), (0, va_rf (some x0)), (1, va_rf (some x1)), (5, .int x5), (6, .int x6), (7, .int x7)]) hM.c dL_acts_544 (by decide) rfl ?_
  refine V_aload_n hM.c 3 dL_acts_546 rfl rfl ?_
  refine V_iconst (v := 0) hM.c dL_acts_547 (by decide) ?_
  refine V_aload_n hM.c 2 dL_acts_548 rfl rfl ?_
  refine V_iload hM.c 4 dL_acts_549 rfl ?_
  refine V_iload hM.c 5 dL_acts_551 rfl ?_
  replace h := bnd_some h
  obtain ⟨r99, g100, e101, h⟩ := h
  refine V_callV (As := [.int x5, .int x6]) (c := 8) (T := TX10) (N := 10) hM.c hM.a mq_X10_setColumns mi_X10_setColumns tw_1750 (hM.d (by decide)) hM.z rfl (by omega) (zc_X10_setColumns e101) (vm_X10_setColumns e101) rfl (Nat.le_of_ble_eq_true rfl) dL_acts_553 ?_
  replace h := grd_some h
  obtain ⟨z102, h⟩ := h
  replace h := grd_some h
  obtain ⟨c103, h⟩ := h
  refine V_iast hM.c z102 c103 hM.a dL_acts_556 ?_
  refine V_aload_n hM.c 3 dL_acts_557 rfl rfl ?_
  refine V_iconst (v := 0) hM.c dL_acts_558 (by decide) ?_
  replace h := grd_some h
  obtain ⟨z104, h⟩ := h
  replace h := grd_some h
  obtain ⟨c105, h⟩ := h
  refine V_iald hM.c z104 c105 dL_acts_559 ?_
  refine V_iload hM.c 4 dL_acts_560 rfl ?_
  refine V_iconst (v := 4) hM.c dL_acts_562 (by decide) ?_
  refine V_icmp_ne hM.c 570 dL_acts_563 (by decide) (fun c106 => ?_) (fun c106 => ?_)
  · replace h := ite_n h c106
    refine V_iload hM.c 1 dL_acts_570 rfl ?_
    refine V_if_eq hM.c 580 dL_acts_572 (by decide) (fun c107 => ?_) (fun c107 => ?_)
    · replace h := ite_p h c107
      refine V_iload hM.c 6 dL_acts_580 rfl ?_
      refine V_if_eq hM.c 590 dL_acts_582 (by decide) (fun c108 => ?_) (fun c108 => ?_)
      · replace h := ite_p h c108
        refine V_bipush (v := -5) hM.c dL_acts_590 (by decide) ?_
        refine V_sub [2, 4, 5, 6, 1, 0] rfl ?_
        exact vl_L_acts_l592 hM  h
      · replace h := ite_n h c108
        refine V_iload hM.c 0 dL_acts_585 rfl ?_
        refine V_goto hM.c 592 dL_acts_587 (by decide) ?_
        refine V_sub [2, 4, 5, 6, 1, 0] rfl ?_
        exact vl_L_acts_l592 hM  h
    · replace h := ite_n h c107
      refine V_bipush (v := -2) hM.c dL_acts_575 (by decide) ?_
      refine V_goto hM.c 592 dL_acts_577 (by decide) ?_
      refine V_sub [2, 4, 5, 6, 1, 0] rfl ?_
      exact vl_L_acts_l592 hM  h
  · replace h := ite_p h c106
    refine V_iconst (v := -1) hM.c dL_acts_566 (by decide) ?_
    refine V_goto hM.c 592 dL_acts_567 (by decide) ?_
    refine V_sub [2, 4, 5, 6, 1, 0] rfl ?_
    exact vl_L_acts_l592 hM  h
def f_L_acts_l479 (n : Nat) (Z : Zt) : Nat → Nat → Nat → Int32 → Int32 → Int32 → Int32 → Mem → Option (Int32 × Mem)
  | 0, _, _, _, _, _, _, _ => none
  | fu + 1, x0, x1, x5, x6, x7, x8, g => bnd (f_X10_queryLength n Z x0 g) (fun r71 g72 => if r71 ≤ x8 then (if x6 = 0 then (f_L_acts_l536 n Z x0 x1 x5 x6 x7 (1 : Int32) g72) else (if x6 = (4 : Int32) then (f_L_acts_l536 n Z x0 x1 x5 x6 x7 (1 : Int32) g72) else (f_L_acts_l536 n Z x0 x1 x5 x6 x7 (0 : Int32) g72))) else (if x7 = 0 then (f_L_acts_l479 n Z fu x0 x1 x5 x6 (0 : Int32) (x8 + 1) g72) else (bnd (f_X10_queryAt n Z x0 x8 g72) (fun r78 g79 => if r78 = ((65 : Int32) + x5) then (f_L_acts_l479 n Z fu x0 x1 x5 x6 (0 : Int32) (x8 + 1) g79) else (f_L_acts_l479 n Z fu x0 x1 x5 x6 (1 : Int32) (x8 + 1) g79)))))
set_option maxHeartbeats 4000000 in
set_option maxRecDepth 100000 in
theorem vl_L_acts_l479 {x : Cq} {n : Nat} {Z : Zt} {rr : Int32} {gg : Mem} (hM : Cm x cL_acts RL 12 (some .boolean) 9 Z (some (.int rr)) gg) : ∀ (fu : Nat) (x0 : Nat) (x1 : Nat) (x5 : Int32) (x6 : Int32) (x7 : Int32) (x8 : Int32) (g : Mem), f_L_acts_l479 n Z fu x0 x1 x5 x6 x7 x8 g = some (rr, gg) → V x Z 0 0 479 [(0, va_rf (some x0)), (1, va_rf (some x1)), (5, .int x5), (6, .int x6), (7, .int x7), (8, .int x8)] [] g := by
  intro fu
  induction fu with
  | zero => intro x0 x1 x5 x6 x7 x8 g h; cases h
  | succ fu ih =>
    intro x0 x1 x5 x6 x7 x8 g h
    unfold f_L_acts_l479 at h
    refine V_iload hM.c 5 dL_acts_479 rfl ?_
    refine V_aload_n hM.c 0 dL_acts_481 rfl rfl ?_
    replace h := bnd_some h
    obtain ⟨r71, g72, e73, h⟩ := h
    refine V_callV (As := []) (c := 8) (T := TX10) (N := 10) hM.c hM.a mq_X10_queryLength mi_X10_queryLength tw_72 (hM.d (by decide)) hM.z rfl (by omega) (zc_X10_queryLength e73) (vm_X10_queryLength e73) rfl (Nat.le_of_ble_eq_true rfl) dL_acts_482 ?_
    refine V_icmp_ge hM.c 520 dL_acts_485 (by decide) (fun c74 => ?_) (fun c74 => ?_)
    · replace h := ite_p h c74
      refine V_iload hM.c 3 dL_acts_520 rfl ?_
      refine V_if_eq hM.c 531 dL_acts_522 (by decide) (fun c75 => ?_) (fun c75 => ?_)
      · replace h := ite_p h c75
        refine V_iconst (v := 1) hM.c dL_acts_531 (by decide) ?_
        refine V_goto hM.c 536 dL_acts_532 (by decide) ?_
        refine V_sub [0, 1, 2, 3, 4] rfl ?_
        exact vl_L_acts_l536 hM  h
      · replace h := ite_n h c75
        refine V_iload hM.c 3 dL_acts_525 rfl ?_
        refine V_iconst (v := 4) hM.c dL_acts_527 (by decide) ?_
        refine V_icmp_ne hM.c 535 dL_acts_528 (by decide) (fun c76 => ?_) (fun c76 => ?_)
        · replace h := ite_n h c76
          refine V_iconst (v := 0) hM.c dL_acts_535 (by decide) ?_
          refine V_sub [0, 1, 2, 3, 4] rfl ?_
          exact vl_L_acts_l536 hM  h
        · replace h := ite_p h c76
          refine V_iconst (v := 1) hM.c dL_acts_531 (by decide) ?_
          refine V_goto hM.c 536 dL_acts_532 (by decide) ?_
          refine V_sub [0, 1, 2, 3, 4] rfl ?_
          exact vl_L_acts_l536 hM  h
    · replace h := ite_n h c74
      refine V_iload hM.c 4 dL_acts_488 rfl ?_
      refine V_if_eq hM.c 511 dL_acts_490 (by decide) (fun c77 => ?_) (fun c77 => ?_)
      · replace h := ite_p h c77
        refine V_iconst (v := 0) hM.c dL_acts_511 (by decide) ?_
        refine V_istore (L' := [(7, .int (0 : Int32)), (0, va_rf (some x0)), (1, va_rf (some x1)), (5, .int x5), (6, .int x6), (8, .int x8)]) hM.c dL_acts_512 (by decide) rfl ?_
        refine V_iinc (v := (x8 + 1)) (L' := [(8, .int (x8 + 1)), (7, .int (0 : Int32)), (0, va_rf (some x0)), (1, va_rf (some x1)), (5, .int x5), (6, .int x6)]) hM.c 5 dL_acts_514 rfl rfl (by decide) rfl ?_
        refine V_goto hM.c 479 dL_acts_517 (by decide) ?_
        refine V_sub [2, 3, 4, 5, 1, 0] rfl ?_
        exact ih _ _ _ _ _ _ _ h
      · replace h := ite_n h c77
        refine V_aload_n hM.c 0 dL_acts_493 rfl rfl ?_
        refine V_iload hM.c 5 dL_acts_494 rfl ?_
        replace h := bnd_some h
        obtain ⟨r78, g79, e80, h⟩ := h
        refine V_callV (As := [.int x8]) (c := 8) (T := TX10) (N := 10) hM.c hM.a mq_X10_queryAt mi_X10_queryAt tw_87 (hM.d (by decide)) hM.z rfl (by omega) (zc_X10_queryAt e80) (vm_X10_queryAt e80) rfl (Nat.le_of_ble_eq_true rfl) dL_acts_496 ?_
        refine V_bipush (v := 65) hM.c dL_acts_499 (by decide) ?_
        refine V_iload hM.c 2 dL_acts_501 rfl ?_
        refine V_iadd hM.c dL_acts_503 ?_
        refine V_icmp_eq hM.c 511 dL_acts_504 (by decide) (fun c81 => ?_) (fun c81 => ?_)
        · replace h := ite_p h c81
          refine V_iconst (v := 0) hM.c dL_acts_511 (by decide) ?_
          refine V_istore (L' := [(7, .int (0 : Int32)), (0, va_rf (some x0)), (1, va_rf (some x1)), (5, .int x5), (6, .int x6), (8, .int x8)]) hM.c dL_acts_512 (by decide) rfl ?_
          refine V_iinc (v := (x8 + 1)) (L' := [(8, .int (x8 + 1)), (7, .int (0 : Int32)), (0, va_rf (some x0)), (1, va_rf (some x1)), (5, .int x5), (6, .int x6)]) hM.c 5 dL_acts_514 rfl rfl (by decide) rfl ?_
          refine V_goto hM.c 479 dL_acts_517 (by decide) ?_
          refine V_sub [2, 3, 4, 5, 1, 0] rfl ?_
          exact ih _ _ _ _ _ _ _ h
        · replace h := ite_n h c81
          refine V_iconst (v := 1) hM.c dL_acts_507 (by decide) ?_
          refine V_goto hM.c 512 dL_acts_508 (by decide) ?_
          refine V_istore (L' := [(7, .int (1 : Int32)), (0, va_rf (some x0)), (1, va_rf (some x1)), (5, .int x5), (6, .int x6), (8, .int x8)]) hM.c dL_acts_512 (by decide) rfl ?_
          refine V_iinc (v := (x8 + 1)) (L' := [(8, .int (x8 + 1)), (7, .int (1 : Int32)), (0, va_rf (some x0)), (1, va_rf (some x1)), (5, .int x5), (6, .int x6)]) hM.c 5 dL_acts_514 rfl rfl (by decide) rfl ?_
          refine V_goto hM.c 479 dL_acts_517 (by decide) ?_
          refine V_sub [2, 3, 4, 5, 1, 0] rfl ?_
          exact ih _ _ _ _ _ _ _ h
def f_L_acts_l440 (n : Nat) (Z : Zt) : Nat → Nat → Nat → Int32 → Int32 → Int32 → Int32 → Mem → Option (Int32 × Mem)
  | 0, _, _, _, _, _, _, _ => none
  | fu + 1, x0, x1, x5, x6, x7, x8, g => if (16 : Int32) ≤ x8 then (f_L_acts_l479 n Z n x0 x1 x5 x6 x7 (0 : Int32) g) else (if x7 = 0 then (f_L_acts_l440 n Z fu x0 x1 x5 x6 (0 : Int32) (x8 + 1) g) else (bnd (f_X10_tableOf n Z x0 x8 g) (fun r55 g56 => if r55 = x5 then (f_L_acts_l440 n Z fu x0 x1 x5 x6 (0 : Int32) (x8 + 1) g56) else (f_L_acts_l440 n Z fu x0 x1 x5 x6 (1 : Int32) (x8 + 1) g56))))
set_option maxHeartbeats 4000000 in
set_option maxRecDepth 100000 in
theorem vl_L_acts_l440 {x : Cq} {n : Nat} {Z : Zt} {rr : Int32} {gg : Mem} (hM : Cm x cL_acts RL 12 (some .boolean) 9 Z (some (.int rr)) gg) : ∀ (fu : Nat) (x0 : Nat) (x1 : Nat) (x5 : Int32) (x6 : Int32) (x7 : Int32) (x8 : Int32) (g : Mem), f_L_acts_l440 n Z fu x0 x1 x5 x6 x7 x8 g = some (rr, gg) → V x Z 0 0 440 [(0, va_rf (some x0)), (1, va_rf (some x1)), (5, .int x5), (6, .int x6), (7, .int x7), (8, .int x8)] [] g := by
  intro fu
  induction fu with
  | zero => intro x0 x1 x5 x6 x7 x8 g h; cases h
  | succ fu ih =>
    intro x0 x1 x5 x6 x7 x8 g h
    unfold f_L_acts_l440 at h
    refine V_iload hM.c 5 dL_acts_440 rfl ?_
    refine V_bipush (v := 16) hM.c dL_acts_442 (by decide) ?_
    refine V_icmp_ge hM.c 476 dL_acts_444 (by decide) (fun c53 => ?_) (fun c53 => ?_)
    · replace h := ite_p h c53
      refine V_iconst (v := 0) hM.c dL_acts_476 (by decide) ?_
      refine V_istore (L' := [(8, .int (0 : Int32)), (0, va_rf (some x0)), (1, va_rf (some x1)), (5, .int x5), (6, .int x6), (7, .int x7)]) hM.c dL_acts_477 (by decide) rfl ?_
      refine V_sub [1, 2, 3, 4, 5, 0] rfl ?_
      exact vl_L_acts_l479 hM  _ _ _ _ _ _ _ _ h
    · replace h := ite_n h c53
      refine V_iload hM.c 4 dL_acts_447 rfl ?_
      refine V_if_eq hM.c 467 dL_acts_449 (by decide) (fun c54 => ?_) (fun c54 => ?_)
      · replace h := ite_p h c54
        refine V_iconst (v := 0) hM.c dL_acts_467 (by decide) ?_
        refine V_istore (L' := [(7, .int (0 : Int32)), (0, va_rf (some x0)), (1, va_rf (some x1)), (5, .int x5), (6, .int x6), (8, .int x8)]) hM.c dL_acts_468 (by decide) rfl ?_
        refine V_iinc (v := (x8 + 1)) (L' := [(8, .int (x8 + 1)), (7, .int (0 : Int32)), (0, va_rf (some x0)), (1, va_rf (some x1)), (5, .int x5), (6, .int x6)]) hM.c 5 dL_acts_470 rfl rfl (by decide) rfl ?_
        refine V_goto hM.c 440 dL_acts_473 (by decide) ?_
        refine V_sub [2, 3, 4, 5, 1, 0] rfl ?_
        exact ih _ _ _ _ _ _ _ h
      · replace h := ite_n h c54
        refine V_aload_n hM.c 0 dL_acts_452 rfl rfl ?_
        refine V_iload hM.c 5 dL_acts_453 rfl ?_
        replace h := bnd_some h
        obtain ⟨r55, g56, e57, h⟩ := h
        refine V_callV (As := [.int x8]) (c := 8) (T := TX10) (N := 10) hM.c hM.a mq_X10_tableOf mi_X10_tableOf tw_17 (hM.d (by decide)) hM.z rfl (by omega) (zc_X10_tableOf e57) (vm_X10_tableOf e57) rfl (Nat.le_of_ble_eq_true rfl) dL_acts_455 ?_
        refine V_iload hM.c 2 dL_acts_458 rfl ?_
        refine V_icmp_eq hM.c 467 dL_acts_460 (by decide) (fun c58 => ?_) (fun c58 => ?_)
        · replace h := ite_p h c58
          refine V_iconst (v := 0) hM.c dL_acts_467 (by decide) ?_
          refine V_istore (L' := [(7, .int (0 : Int32)), (0, va_rf (some x0)), (1, va_rf (some x1)), (5, .int x5), (6, .int x6), (8, .int x8)]) hM.c dL_acts_468 (by decide) rfl ?_
          refine V_iinc (v := (x8 + 1)) (L' := [(8, .int (x8 + 1)), (7, .int (0 : Int32)), (0, va_rf (some x0)), (1, va_rf (some x1)), (5, .int x5), (6, .int x6)]) hM.c 5 dL_acts_470 rfl rfl (by decide) rfl ?_
          refine V_goto hM.c 440 dL_acts_473 (by decide) ?_
          refine V_sub [2, 3, 4, 5, 1, 0] rfl ?_
          exact ih _ _ _ _ _ _ _ h
        · replace h := ite_n h c58
          refine V_iconst (v := 1) hM.c dL_acts_463 (by decide) ?_
          refine V_goto hM.c 468 dL_acts_464 (by decide) ?_
          refine V_istore (L' := [(7, .int (1 : Int32)), (0, va_rf (some x0)), (1, va_rf (some x1)), (5, .int x5), (6, .int x6), (8, .int x8)]) hM.c dL_acts_468 (by decide) rfl ?_
          refine V_iinc (v := (x8 + 1)) (L' := [(8, .int (x8 + 1)), (7, .int (1 : Int32)), (0, va_rf (some x0)), (1, va_rf (some x1)), (5, .int x5), (6, .int x6)]) hM.c 5 dL_acts_470 rfl rfl (by decide) rfl ?_
          refine V_goto hM.c 440 dL_acts_473 (by decide) ?_
          refine V_sub [2, 3, 4, 5, 1, 0] rfl ?_
          exact ih _ _ _ _ _ _ _ h
def f_L_acts (n : Nat) (Z : Zt) (x0 : Nat) (x1 : Nat) (x2 : Int32) (x3 : Int32) (g : Mem) : Option (Int32 × Mem) := bnd (f_L_low n Z x2 (18 : Int32) g) (fun r1 g2 => grd (zk Z x1 = 12) (grd (inr (0 : Int32) (zl Z x1)) (if (10 : Int32) ≤ r1 then (if (12 : Int32) ≤ r1 then (if (16 : Int32) ≤ r1 then (if r1 = (16 : Int32) then (bnd (f_X10_answerRows n Z x0 (sI g2 x1 (0 : Int32).toNatClampNeg (-1 : Int32))) (fun r16 g17 => bnd (f_X10_queryLength n Z x0 g17) (fun r19 g20 => if r19 ≤ 0 then (f_L_acts_l351 n Z x0 x1 x3 r16 (0 : Int32) g20) else (f_L_acts_l351 n Z x0 x1 x3 r16 (1 : Int32) g20)))) else (bnd (f_L_low n Z x3 (5 : Int32) (sI g2 x1 (0 : Int32).toNatClampNeg (-1 : Int32))) (fun r10 g11 => bnd (f_L_low n Z (x3 >>> ((3 : Int32) &&& 31)) (5 : Int32) g11) (fun r13 g14 => f_L_acts_l440 n Z n x0 x1 r10 r13 (1 : Int32) (0 : Int32) g14)))) else (bnd (f_L_asks n Z x0 x1 x3 (sI g2 x1 (0 : Int32).toNatClampNeg (-1 : Int32))) (fun r23 g24 => grd (isz r23) (some (r23, g24))))) else (bnd (f_L_low n Z x3 (17 : Int32) (sI g2 x1 (0 : Int32).toNatClampNeg (-1 : Int32))) (fun r27 g28 => bnd (f_L_low n Z (x3 >>> ((5 : Int32) &&& 31)) (3 : Int32) g28) (fun r30 g31 => if r30 ≤ 0 then (f_L_acts_l93 n Z x0 x1 r27 (0 : Int32) g31) else (f_L_acts_l93 n Z x0 x1 r27 (1 : Int32) g31))))) else (if (6 : Int32) ≤ r1 then (if r1 = (6 : Int32) then (bnd (f_L_rows n Z x0 x1 (6 : Int32) x3 (sI g2 x1 (0 : Int32).toNatClampNeg (-1 : Int32))) (fun r45 g46 => grd (isz r45) (some (r45, g46)))) else (if (9 : Int32) ≤ r1 then (bnd (f_L_rows n Z x0 x1 (8 : Int32) x3 (sI g2 x1 (0 : Int32).toNatClampNeg (-1 : Int32))) (fun r37 g38 => grd (isz r37) (some (r37, g38)))) else (bnd (f_L_rows n Z x0 x1 (7 : Int32) x3 (sI g2 x1 (0 : Int32).toNatClampNeg (-1 : Int32))) (fun r41 g42 => grd (isz r41) (some (r41, g42)))))) else (bnd (f_L_rows n Z x0 x1 (0 : Int32) x3 (sI g2 x1 (0 : Int32).toNatClampNeg (-1 : Int32))) (fun r49 g50 => grd (isz r49) (some (r49, g50))))))))
theorem mq_L_acts : Mq yL_acts cL_acts 12 (some .boolean) 4 := ⟨tw_2402, tw_409, ⟨by decide +kernel, by decide +kernel, by decide +kernel⟩, by decide⟩
theorem mi_L_acts : Cond.static yL_acts ∈ TB := tw_2401
set_option maxHeartbeats 4000000 in
set_option maxRecDepth 100000 in
theorem vm_L_acts {n : Nat} {Z : Zt} {x0 : Nat} {x1 : Nat} {x2 : Int32} {x3 : Int32} {g : Mem} {rr : Int32} {gg : Mem} (h : f_L_acts n Z x0 x1 x2 x3 g = some (rr, gg)) : VM yL_acts cL_acts 12 (some .boolean) 9 [va_rf (some x0), va_rf (some x1), .int x2, .int x3] Z g (some (.int rr)) gg := by
  unfold f_L_acts at h
  refine VM.of (by decide +kernel) (Nat.le_of_ble_eq_true rfl) (fun x hM => ?_)
  have hM : Cm x cL_acts RL 12 (some .boolean) 9 Z (some (.int rr)) gg := hM
  show V x Z 0 0 0 [(0, va_rf (some x0)), (1, va_rf (some x1)), (2, .int x2), (3, .int x3)] [] g
  refine V_iload_n hM.c 2 dL_acts_0 rfl rfl ?_
  refine V_bipush (v := 18) hM.c dL_acts_1 (by decide) ?_
  replace h := bnd_some h
  obtain ⟨r1, g2, e3, h⟩ := h
  refine V_callS (As := [.int x2, .int (18 : Int32)]) hM.c hM.a mq_L_low mi_L_low tw_407 (hM.d (by decide)) hM.z (vm_L_low e3) rfl (Nat.le_of_ble_eq_true rfl) dL_acts_3 ?_
  refine V_istore (L' := [(4, .int r1), (0, va_rf (some x0)), (1, va_rf (some x1)), (2, .int x2), (3, .int x3)]) hM.c dL_acts_6 (by decide) rfl ?_
  refine V_aload_n hM.c 2 dL_acts_8 rfl rfl ?_
  refine V_iconst (v := 0) hM.c dL_acts_9 (by decide) ?_
  refine V_iconst (v := -1) hM.c dL_acts_10 (by decide) ?_
  replace h := grd_some h
  obtain ⟨z4, h⟩ := h
  replace h := grd_some h
  obtain ⟨c5, h⟩ := h
  refine V_iast hM.c z4 c5 hM.a dL_acts_11 ?_
  refine V_iload hM.c 0 dL_acts_12 rfl ?_
  refine V_bipush (v := 10) hM.c dL_acts_14 (by decide) ?_
  refine V_icmp_ge hM.c 63 dL_acts_16 (by decide) (fun c6 => ?_) (fun c6 => ?_)
  · replace h := ite_p h c6
    refine V_iload hM.c 0 dL_acts_63 rfl ?_
    refine V_bipush (v := 12) hM.c dL_acts_65 (by decide) ?_
    refine V_icmp_ge hM.c 312 dL_acts_67 (by decide) (fun c7 => ?_) (fun c7 => ?_)
    · replace h := ite_p h c7
      refine V_iload hM.c 0 dL_acts_312 rfl ?_
      refine V_bipush (v := 16) hM.c dL_acts_314 (by decide) ?_
      refine V_icmp_ge hM.c 326 dL_acts_316 (by decide) (fun c8 => ?_) (fun c8 => ?_)
      · replace h := ite_p h c8
        refine V_iload hM.c 0 dL_acts_326 rfl ?_
        refine V_bipush (v := 16) hM.c dL_acts_328 (by decide) ?_
        refine V_icmp_ne hM.c 418 dL_acts_330 (by decide) (fun c9 => ?_) (fun c9 => ?_)
        · replace h := ite_n h c9
          refine V_iload_n hM.c 4 dL_acts_418 rfl rfl ?_
          refine V_iconst (v := 5) hM.c dL_acts_419 (by decide) ?_
          replace h := bnd_some h
          obtain ⟨r10, g11, e12, h⟩ := h
          refine V_callS (As := [.int x3, .int (5 : Int32)]) hM.c hM.a mq_L_low mi_L_low tw_407 (hM.d (by decide)) hM.z (vm_L_low e12) rfl (Nat.le_of_ble_eq_true rfl) dL_acts_420 ?_
          refine V_istore (L' := [(5, .int r10), (4, .int r1), (0, va_rf (some x0)), (1, va_rf (some x1)), (2, .int x2), (3, .int x3)]) hM.c dL_acts_423 (by decide) rfl ?_
          refine V_iload_n hM.c 5 dL_acts_425 rfl rfl ?_
          refine V_iconst (v := 3) hM.c dL_acts_426 (by decide) ?_
          refine V_ishr hM.c dL_acts_427 ?_
          refine V_iconst (v := 5) hM.c dL_acts_428 (by decide) ?_
          replace h := bnd_some h
          obtain ⟨r13, g14, e15, h⟩ := h
          refine V_callS (As := [.int (x3 >>> ((3 : Int32) &&& 31)), .int (5 : Int32)]) hM.c hM.a mq_L_low mi_L_low tw_407 (hM.d (by decide)) hM.z (vm_L_low e15) rfl (Nat.le_of_ble_eq_true rfl) dL_acts_429 ?_
          refine V_istore (L' := [(6, .int r13), (5, .int r10), (4, .int r1), (0, va_rf (some x0)), (1, va_rf (some x1)), (2, .int x2), (3, .int x3)]) hM.c dL_acts_432 (by decide) rfl ?_
          refine V_iconst (v := 1) hM.c dL_acts_434 (by decide) ?_
          refine V_istore (L' := [(7, .int (1 : Int32)), (6, .int r13), (5, .int r10), (4, .int r1), (0, va_rf (some x0)), (1, va_rf (some x1)), (2, .int x2), (3, .int x3)]) hM.c dL_acts_435 (by decide) rfl ?_
          refine V_iconst (v := 0) hM.c dL_acts_437 (by decide) ?_
          refine V_istore (L' := [(8, .int (0 : Int32)), (7, .int (1 : Int32)), (6, .int r13), (5, .int r10), (4, .int r1), (0, va_rf (some x0)), (1, va_rf (some x1)), (2, .int x2), (3, .int x3)]) hM.c dL_acts_438 (by decide) rfl ?_
          refine V_sub [5, 6, 3, 2, 1, 0] rfl ?_
          exact vl_L_acts_l440 hM  _ _ _ _ _ _ _ _ h
        · replace h := ite_p h c9
          refine V_aload_n hM.c 1 dL_acts_333 rfl rfl ?_
          replace h := bnd_some h
          obtain ⟨r16, g17, e18, h⟩ := h
          refine V_callV (As := []) (c := 8) (T := TX10) (N := 10) hM.c hM.a mq_X10_answerRows mi_X10_answerRows tw_96 (hM.d (by decide)) hM.z rfl (by omega) (zc_X10_answerRows e18) (vm_X10_answerRows e18) rfl (Nat.le_of_ble_eq_true rfl) dL_acts_334 ?_
          refine V_istore (L' := [(5, .int r16), (4, .int r1), (0, va_rf (some x0)), (1, va_rf (some x1)), (2, .int x2), (3, .int x3)]) hM.c dL_acts_337 (by decide) rfl ?_
          refine V_aload_n hM.c 2 dL_acts_339 rfl rfl ?_
          replace h := bnd_some h
          obtain ⟨r19, g20, e21, h⟩ := h
          refine V_callV (As := []) (c := 8) (T := TX10) (N := 10) hM.c hM.a mq_X10_queryLength mi_X10_queryLength tw_72 (hM.d (by decide)) hM.z rfl (by omega) (zc_X10_queryLength e21) (vm_X10_queryLength e21) rfl (Nat.le_of_ble_eq_true rfl) dL_acts_340 ?_
          refine V_if_le hM.c 350 dL_acts_343 (by decide) (fun c22 => ?_) (fun c22 => ?_)
          · replace h := ite_p h c22
            refine V_iconst (v := 0) hM.c dL_acts_350 (by decide) ?_
            refine V_sub [2, 3, 5, 0] rfl ?_
            exact vl_L_acts_l351 hM  h
          · replace h := ite_n h c22
            refine V_iconst (v := 1) hM.c dL_acts_346 (by decide) ?_
            refine V_goto hM.c 351 dL_acts_347 (by decide) ?_
            refine V_sub [2, 3, 5, 0] rfl ?_
            exact vl_L_acts_l351 hM  h
      · replace h := ite_n h c8
        refine V_aload_n hM.c 1 dL_acts_319 rfl rfl ?_
        refine V_aload_n hM.c 2 dL_acts_320 rfl rfl ?_
        refine V_iload_n hM.c 4 dL_acts_321 rfl rfl ?_
        replace h := bnd_some h
        obtain ⟨r23, g24, e25, h⟩ := h
        refine V_callS (As := [va_rf (some x0), va_rf (some x1), .int x3]) hM.c hM.a mq_L_asks mi_L_asks tw_1635 (hM.d (by decide)) hM.z (vm_L_asks e25) rfl (Nat.le_of_ble_eq_true rfl) dL_acts_322 ?_
        replace h := grd_some h
        obtain ⟨c26, h⟩ := h
        exact V_zretE hM (isz_nar c26) h dL_acts_325
    · replace h := ite_n h c7
      refine V_iload_n hM.c 4 dL_acts_70 rfl rfl ?_
      refine V_bipush (v := 17) hM.c dL_acts_71 (by decide) ?_
      replace h := bnd_some h
      obtain ⟨r27, g28, e29, h⟩ := h
      refine V_callS (As := [.int x3, .int (17 : Int32)]) hM.c hM.a mq_L_low mi_L_low tw_407 (hM.d (by decide)) hM.z (vm_L_low e29) rfl (Nat.le_of_ble_eq_true rfl) dL_acts_73 ?_
      refine V_istore (L' := [(5, .int r27), (4, .int r1), (0, va_rf (some x0)), (1, va_rf (some x1)), (2, .int x2), (3, .int x3)]) hM.c dL_acts_76 (by decide) rfl ?_
      refine V_iload_n hM.c 5 dL_acts_78 rfl rfl ?_
      refine V_iconst (v := 5) hM.c dL_acts_79 (by decide) ?_
      refine V_ishr hM.c dL_acts_80 ?_
      refine V_iconst (v := 3) hM.c dL_acts_81 (by decide) ?_
      replace h := bnd_some h
      obtain ⟨r30, g31, e32, h⟩ := h
      refine V_callS (As := [.int (x3 >>> ((5 : Int32) &&& 31)), .int (3 : Int32)]) hM.c hM.a mq_L_low mi_L_low tw_407 (hM.d (by decide)) hM.z (vm_L_low e32) rfl (Nat.le_of_ble_eq_true rfl) dL_acts_82 ?_
      refine V_if_le hM.c 92 dL_acts_85 (by decide) (fun c33 => ?_) (fun c33 => ?_)
      · replace h := ite_p h c33
        refine V_iconst (v := 0) hM.c dL_acts_92 (by decide) ?_
        refine V_sub [2, 3, 0] rfl ?_
        exact vl_L_acts_l93 hM  h
      · replace h := ite_n h c33
        refine V_iconst (v := 1) hM.c dL_acts_88 (by decide) ?_
        refine V_goto hM.c 93 dL_acts_89 (by decide) ?_
        refine V_sub [2, 3, 0] rfl ?_
        exact vl_L_acts_l93 hM  h
  · replace h := ite_n h c6
    refine V_aload_n hM.c 1 dL_acts_19 rfl rfl ?_
    refine V_aload_n hM.c 2 dL_acts_20 rfl rfl ?_
    refine V_iload hM.c 0 dL_acts_21 rfl ?_
    refine V_bipush (v := 6) hM.c dL_acts_23 (by decide) ?_
    refine V_icmp_ge hM.c 32 dL_acts_25 (by decide) (fun c34 => ?_) (fun c34 => ?_)
    · replace h := ite_p h c34
      refine V_iload hM.c 0 dL_acts_32 rfl ?_
      refine V_bipush (v := 6) hM.c dL_acts_34 (by decide) ?_
      refine V_icmp_ne hM.c 44 dL_acts_36 (by decide) (fun c35 => ?_) (fun c35 => ?_)
      · replace h := ite_n h c35
        refine V_iload hM.c 0 dL_acts_44 rfl ?_
        refine V_bipush (v := 9) hM.c dL_acts_46 (by decide) ?_
        refine V_icmp_ge hM.c 56 dL_acts_48 (by decide) (fun c36 => ?_) (fun c36 => ?_)
        · replace h := ite_p h c36
          refine V_bipush (v := 8) hM.c dL_acts_56 (by decide) ?_
          refine V_iload_n hM.c 4 dL_acts_58 rfl rfl ?_
          replace h := bnd_some h
          obtain ⟨r37, g38, e39, h⟩ := h
          refine V_callS (As := [va_rf (some x0), va_rf (some x1), .int (8 : Int32), .int x3]) hM.c hM.a mq_L_rows mi_L_rows tw_1230 (hM.d (by decide)) hM.z (vm_L_rows e39) rfl (Nat.le_of_ble_eq_true rfl) dL_acts_59 ?_
          replace h := grd_some h
          obtain ⟨c40, h⟩ := h
          exact V_zretE hM (isz_nar c40) h dL_acts_62
        · replace h := ite_n h c36
          refine V_bipush (v := 7) hM.c dL_acts_51 (by decide) ?_
          refine V_goto hM.c 58 dL_acts_53 (by decide) ?_
          refine V_iload_n hM.c 4 dL_acts_58 rfl rfl ?_
          replace h := bnd_some h
          obtain ⟨r41, g42, e43, h⟩ := h
          refine V_callS (As := [va_rf (some x0), va_rf (some x1), .int (7 : Int32), .int x3]) hM.c hM.a mq_L_rows mi_L_rows tw_1230 (hM.d (by decide)) hM.z (vm_L_rows e43) rfl (Nat.le_of_ble_eq_true rfl) dL_acts_59 ?_
          replace h := grd_some h
          obtain ⟨c44, h⟩ := h
          exact V_zretE hM (isz_nar c44) h dL_acts_62
      · replace h := ite_p h c35
        refine V_bipush (v := 6) hM.c dL_acts_39 (by decide) ?_
        refine V_goto hM.c 58 dL_acts_41 (by decide) ?_
        refine V_iload_n hM.c 4 dL_acts_58 rfl rfl ?_
        replace h := bnd_some h
        obtain ⟨r45, g46, e47, h⟩ := h
        refine V_callS (As := [va_rf (some x0), va_rf (some x1), .int (6 : Int32), .int x3]) hM.c hM.a mq_L_rows mi_L_rows tw_1230 (hM.d (by decide)) hM.z (vm_L_rows e47) rfl (Nat.le_of_ble_eq_true rfl) dL_acts_59 ?_
        replace h := grd_some h
        obtain ⟨c48, h⟩ := h
        exact V_zretE hM (isz_nar c48) h dL_acts_62
    · replace h := ite_n h c34
      refine V_iconst (v := 0) hM.c dL_acts_28 (by decide) ?_
      refine V_goto hM.c 58 dL_acts_29 (by decide) ?_
      refine V_iload_n hM.c 4 dL_acts_58 rfl rfl ?_
      replace h := bnd_some h
      obtain ⟨r49, g50, e51, h⟩ := h
      refine V_callS (As := [va_rf (some x0), va_rf (some x1), .int (0 : Int32), .int x3]) hM.c hM.a mq_L_rows mi_L_rows tw_1230 (hM.d (by decide)) hM.z (vm_L_rows e51) rfl (Nat.le_of_ble_eq_true rfl) dL_acts_59 ?_
      replace h := grd_some h
      obtain ⟨c52, h⟩ := h
      exact V_zretE hM (isz_nar c52) h dL_acts_62

/-! THE LAW: what its walk stands over; its function; the walk -/
def Cl (x : Cq) (b L : Nat) (xw : Nat → Int32) : Prop := Cx x code RL 8 ∧ va_X b L xw (xs x) (xs x).heap ∧ b < (xs x).heap.size ∧ xA x = (fun q => (xs x).heap.size ≤ q) ∧ xH x = (xs x).heap ∧ xR x = room_1 ∧ (xM x).sig.returnType = ret ∧ xa x = #[Value.ref b] ∧ xQ x = lw_Z (xb x) #[Value.ref b] (xs x)
section LAW
variable {x : Cq} {Z : Zt} {n0 k0 pc b L : Nat} {Lc : List (Nat × Value)} {rest : List Value} {g : Mem} {xw : Nat → Int32}
theorem Cl.d (h : Cl x b L xw) {d' : Nat} (q : d' + 1 ≤ 2047) : d' + 1 ≤ (xR x).frames ∧ 40 * d' + 40 ≤ (xR x).locals := by
  obtain ⟨-, -, -, -, -, hR, -⟩ := h
  rw [hR]
  exact ⟨by show _ ≤ 2048; omega, by show _ ≤ 84000; omega⟩
theorem Cl.r (h : Cl x b L xw) {u v : Nat} (q : u ≤ 600000 ∧ v ≤ 7302250) : u ≤ (xR x).cells ∧ v ≤ (xR x).slots := by
  obtain ⟨-, -, -, -, -, hR, -⟩ := h
  rw [hR]
  exact q
theorem Cl.lh (h : Cl x b L xw) : Lh x := by
  obtain ⟨-, -, -, hA, hH, -⟩ := h
  intro q hq
  rw [hA]
  rw [hH] at hq
  exact hq
theorem V_sld (hL : Cl x b L xw) {i : Int32} (hi : inr i L) (hdg : decode code pc = .ok (.iaload, 1)) (kk : V x Z n0 k0 (pc + 1) Lc (.int (xw i.toNatClampNeg) :: rest) g) : V x Z n0 k0 pc Lc (.int i :: va_rf (some b) :: rest) g := by
  obtain ⟨hC, hX, hbl, hA, hH, -⟩ := hL
  intro H locs ls h1 h2 h3
  have h3' := h3
  rw [hA, hH] at h3'
  exact va_sld hC.x hC.b hX hbl (Nat.not_le.mpr hbl) h3' (inr_in hi) hdg (kk H locs ls h1 h2 h3)
theorem V_slen (hL : Cl x b L xw) (hdg : decode code pc = .ok (.arraylength, 1)) (kk : V x Z n0 k0 (pc + 1) Lc (.int (Int32.ofNat L) :: rest) g) : V x Z n0 k0 pc Lc (va_rf (some b) :: rest) g := by
  obtain ⟨hC, hX, hbl, hA, hH, -⟩ := hL
  intro H locs ls h1 h2 h3
  have h3' := h3
  rw [hA, hH] at h3'
  exact va_slen hC.x hC.b hX hbl (Nat.not_le.mpr hbl) h3' hdg (kk H locs ls h1 h2 h3)
theorem V_lend (hL : Cl x b L xw) (hn : n0 ≤ 600000 ∧ k0 ≤ 7302250) (hdg : decode code pc = .ok (.ireturn, 1)) : V x Z n0 k0 pc Lc [.int 1] g := by
  obtain ⟨hC, hX, hbl, hA, hH, hR, hr, ha, hQ⟩ := hL
  intro H locs ls h1 h2 h3
  rw [hA, hH] at h3
  rw [hQ, hR, ha]
  refine va_forget (fun q hq => h3.2.2 q hq) ?_
  refine W.widen hn.1 hn.2 ?_
  exact lw_ret (d0 := (xs x).drawn) (Drawn.sameBut.refl _ _) hC.x hC.b hr hC.l hdg
end LAW
def f_law_c0 (n : Nat) (Z : Zt) (a1 a2 L : Nat) (xw : Nat → Int32) (κ : Int32 → Mem → Option Int32) (x3 : Int32) (g : Mem) : Option Int32 := grd (inr (x3 + (1 : Int32)) L) (grd (inr (x3 + (2 : Int32)) L) (bnd (f_X10_setColumns n Z a1 (xw (x3 + (1 : Int32)).toNatClampNeg) (xw (x3 + (2 : Int32)).toNatClampNeg) g) (fun r6 g7 => grd (inr (x3 + (1 : Int32)) L) (grd (inr (x3 + (2 : Int32)) L) (bnd (f_X11_setColumns n Z a2 (xw (x3 + (1 : Int32)).toNatClampNeg) (xw (x3 + (2 : Int32)).toNatClampNeg) g7) (fun r11 g12 => if r6 = r11 then (κ (x3 + 5) g12) else (some (0 : Int32))))))))
set_option maxHeartbeats 4000000 in
set_option maxRecDepth 100000 in
theorem vlaw_c0 {x : Cq} {n : Nat} {Z : Zt} {a1 a2 b L : Nat} {xw : Nat → Int32} {κ : Int32 → Mem → Option Int32} {x3 : Int32} {g : Mem} (hL : Cl x b L xw) (hA : Lv x Z) (hκ : ∀ (y3 : Int32) (y : Mem), κ y3 y = some 1 → V x Z 1483 67748 18 [(0, va_rf (some b)), (1, va_rf (some a1)), (2, va_rf (some a2)), (3, .int y3)] [] y) (h : f_law_c0 n Z a1 a2 L xw κ x3 g = some 1) : V x Z 1483 67748 204 [(0, va_rf (some b)), (1, va_rf (some a1)), (2, va_rf (some a2)), (3, .int x3)] [] g := by
  have hC : Cx x code RL 8 := hL.1
  unfold f_law_c0 at h
  refine V_aload_n hC 1 dL_law_204 rfl rfl ?_
  refine V_aload_n hC 0 dL_law_205 rfl rfl ?_
  refine V_iload_n hC 3 dL_law_206 rfl rfl ?_
  refine V_iconst (v := 1) hC dL_law_207 (by decide) ?_
  refine V_iadd hC dL_law_208 ?_
  replace h := grd_some h
  obtain ⟨c4, h⟩ := h
  refine V_sld hL c4 dL_law_209 ?_
  refine V_aload_n hC 0 dL_law_210 rfl rfl ?_
  refine V_iload_n hC 3 dL_law_211 rfl rfl ?_
  refine V_iconst (v := 2) hC dL_law_212 (by decide) ?_
  refine V_iadd hC dL_law_213 ?_
  replace h := grd_some h
  obtain ⟨c5, h⟩ := h
  refine V_sld hL c5 dL_law_214 ?_
  replace h := bnd_some h
  obtain ⟨r6, g7, e8, h⟩ := h
  refine V_callV (As := [.int (xw (x3 + (1 : Int32)).toNatClampNeg), .int (xw (x3 + (2 : Int32)).toNatClampNeg)]) (c := 8) (T := TX10) (N := 10) hC hA mq_X10_setColumns mi_X10_setColumns tw_135 (hL.d (by decide)) (hL.r (by decide)) rfl (by omega) (zc_X10_setColumns e8) (vm_X10_setColumns e8) rfl (Nat.le_of_ble_eq_true rfl) dL_law_215 ?_
  refine V_aload_n hC 2 dL_law_218 rfl rfl ?_
  refine V_aload_n hC 0 dL_law_219 rfl rfl ?_
  refine V_iload_n hC 3 dL_law_220 rfl rfl ?_
  refine V_iconst (v := 1) hC dL_law_221 (by decide) ?_
  refine V_iadd hC dL_law_222 ?_
  replace h := grd_some h
  obtain ⟨c9, h⟩ := h
  refine V_sld hL c9 dL_law_223 ?_
  refine V_aload_n hC 0 dL_law_224 rfl rfl ?_
  refine V_iload_n hC 3 dL_law_225 rfl rfl ?_
  refine V_iconst (v := 2) hC dL_law_226 (by decide) ?_
  refine V_iadd hC dL_law_227 ?_
  replace h := grd_some h
  obtain ⟨c10, h⟩ := h
  refine V_sld hL c10 dL_law_228 ?_
  replace h := bnd_some h
  obtain ⟨r11, g12, e13, h⟩ := h
  refine V_callV (As := [.int (xw (x3 + (1 : Int32)).toNatClampNeg), .int (xw (x3 + (2 : Int32)).toNatClampNeg)]) (c := 9) (T := TX11) (N := 32) hC hA mq_X11_setColumns mi_X11_setColumns tw_205 (hL.d (by decide)) (hL.r (by decide)) rfl (by omega) (zc_X11_setColumns e13) (vm_X11_setColumns e13) rfl (Nat.le_of_ble_eq_true rfl) dL_law_229 ?_
  refine V_icmp_eq hC 1189 dL_law_232 (by decide) (fun c14 => ?_) (fun c14 => ?_)
  · replace h := ite_p h c14
    refine V_iinc (v := (x3 + 5)) (L' := [(3, .int (x3 + 5)), (0, va_rf (some b)), (1, va_rf (some a1)), (2, va_rf (some a2))]) hC 3 dL_law_1189 rfl rfl (by decide) rfl ?_
    refine V_goto hC 18 dL_law_1192 (by decide) ?_
    refine V_sub [1, 2, 3, 0] rfl ?_
    exact hκ _ _ h
  · replace h := ite_n h c14
    refine V_iconst (v := 0) hC dL_law_235 (by decide) ?_
    exact absurd h (by decide)
def f_law_c1 (n : Nat) (Z : Zt) (a1 a2 L : Nat) (xw : Nat → Int32) (κ : Int32 → Mem → Option Int32) (x3 : Int32) (g : Mem) : Option Int32 := grd (inr (x3 + (1 : Int32)) L) (grd (inr (x3 + (2 : Int32)) L) (bnd (f_X10_addRow n Z a1 (xw (x3 + (1 : Int32)).toNatClampNeg) (xw (x3 + (2 : Int32)).toNatClampNeg) g) (fun r18 g19 => grd (inr (x3 + (1 : Int32)) L) (grd (inr (x3 + (2 : Int32)) L) (bnd (f_X11_addRow n Z a2 (xw (x3 + (1 : Int32)).toNatClampNeg) (xw (x3 + (2 : Int32)).toNatClampNeg) g19) (fun r23 g24 => if r18 = r23 then (κ (x3 + 5) g24) else (some (0 : Int32))))))))
set_option maxHeartbeats 4000000 in
set_option maxRecDepth 100000 in
theorem vlaw_c1 {x : Cq} {n : Nat} {Z : Zt} {a1 a2 b L : Nat} {xw : Nat → Int32} {κ : Int32 → Mem → Option Int32} {x3 : Int32} {g : Mem} (hL : Cl x b L xw) (hA : Lv x Z) (hκ : ∀ (y3 : Int32) (y : Mem), κ y3 y = some 1 → V x Z 1483 67748 18 [(0, va_rf (some b)), (1, va_rf (some a1)), (2, va_rf (some a2)), (3, .int y3)] [] y) (h : f_law_c1 n Z a1 a2 L xw κ x3 g = some 1) : V x Z 1483 67748 237 [(0, va_rf (some b)), (1, va_rf (some a1)), (2, va_rf (some a2)), (3, .int x3)] [] g := by
  have hC : Cx x code RL 8 := hL.1
  unfold f_law_c1 at h
  refine V_aload_n hC 1 dL_law_237 rfl rfl ?_
  refine V_aload_n hC 0 dL_law_238 rfl rfl ?_
  refine V_iload_n hC 3 dL_law_239 rfl rfl ?_
  refine V_iconst (v := 1) hC dL_law_240 (by decide) ?_
  refine V_iadd hC dL_law_241 ?_
  replace h := grd_some h
  obtain ⟨c16, h⟩ := h
  refine V_sld hL c16 dL_law_242 ?_
  refine V_aload_n hC 0 dL_law_243 rfl rfl ?_
  refine V_iload_n hC 3 dL_law_244 rfl rfl ?_
  refine V_iconst (v := 2) hC dL_law_245 (by decide) ?_
  refine V_iadd hC dL_law_246 ?_
  replace h := grd_some h
  obtain ⟨c17, h⟩ := h
  refine V_sld hL c17 dL_law_247 ?_
  replace h := bnd_some h
  obtain ⟨r18, g19, e20, h⟩ := h
  refine V_callV (As := [.int (xw (x3 + (1 : Int32)).toNatClampNeg), .int (xw (x3 + (2 : Int32)).toNatClampNeg)]) (c := 8) (T := TX10) (N := 10) hC hA mq_X10_addRow mi_X10_addRow tw_233 (hL.d (by decide)) (hL.r (by decide)) rfl (by omega) (zc_X10_addRow e20) (vm_X10_addRow e20) rfl (Nat.le_of_ble_eq_true rfl) dL_law_248 ?_
  refine V_aload_n hC 2 dL_law_251 rfl rfl ?_
  refine V_aload_n hC 0 dL_law_252 rfl rfl ?_
  refine V_iload_n hC 3 dL_law_253 rfl rfl ?_
  refine V_iconst (v := 1) hC dL_law_254 (by decide) ?_
  refine V_iadd hC dL_law_255 ?_
  replace h := grd_some h
  obtain ⟨c21, h⟩ := h
  refine V_sld hL c21 dL_law_256 ?_
  refine V_aload_n hC 0 dL_law_257 rfl rfl ?_
  refine V_iload_n hC 3 dL_law_258 rfl rfl ?_
  refine V_iconst (v := 2) hC dL_law_259 (by decide) ?_
  refine V_iadd hC dL_law_260 ?_
  replace h := grd_some h
  obtain ⟨c22, h⟩ := h
  refine V_sld hL c22 dL_law_261 ?_
  replace h := bnd_some h
  obtain ⟨r23, g24, e25, h⟩ := h
  refine V_callV (As := [.int (xw (x3 + (1 : Int32)).toNatClampNeg), .int (xw (x3 + (2 : Int32)).toNatClampNeg)]) (c := 9) (T := TX11) (N := 32) hC hA mq_X11_addRow mi_X11_addRow tw_395 (hL.d (by decide)) (hL.r (by decide)) rfl (by omega) (zc_X11_addRow e25) (vm_X11_addRow e25) rfl (Nat.le_of_ble_eq_true rfl) dL_law_262 ?_
  refine V_icmp_eq hC 1189 dL_law_265 (by decide) (fun c26 => ?_) (fun c26 => ?_)
  · replace h := ite_p h c26
    refine V_iinc (v := (x3 + 5)) (L' := [(3, .int (x3 + 5)), (0, va_rf (some b)), (1, va_rf (some a1)), (2, va_rf (some a2))]) hC 3 dL_law_1189 rfl rfl (by decide) rfl ?_
    refine V_goto hC 18 dL_law_1192 (by decide) ?_
    refine V_sub [1, 2, 3, 0] rfl ?_
    exact hκ _ _ h
  · replace h := ite_n h c26
    refine V_iconst (v := 0) hC dL_law_268 (by decide) ?_
    exact absurd h (by decide)
def f_law_c2 (n : Nat) (Z : Zt) (a1 a2 L : Nat) (xw : Nat → Int32) (κ : Int32 → Mem → Option Int32) (x3 : Int32) (g : Mem) : Option Int32 := grd (inr (x3 + (1 : Int32)) L) (bnd (f_X10_dropRow n Z a1 (xw (x3 + (1 : Int32)).toNatClampNeg) g) (fun r29 g30 => grd (inr (x3 + (1 : Int32)) L) (bnd (f_X11_dropRow n Z a2 (xw (x3 + (1 : Int32)).toNatClampNeg) g30) (fun r33 g34 => if r29 = r33 then (κ (x3 + 5) g34) else (some (0 : Int32))))))
set_option maxHeartbeats 4000000 in
set_option maxRecDepth 100000 in
theorem vlaw_c2 {x : Cq} {n : Nat} {Z : Zt} {a1 a2 b L : Nat} {xw : Nat → Int32} {κ : Int32 → Mem → Option Int32} {x3 : Int32} {g : Mem} (hL : Cl x b L xw) (hA : Lv x Z) (hκ : ∀ (y3 : Int32) (y : Mem), κ y3 y = some 1 → V x Z 1483 67748 18 [(0, va_rf (some b)), (1, va_rf (some a1)), (2, va_rf (some a2)), (3, .int y3)] [] y) (h : f_law_c2 n Z a1 a2 L xw κ x3 g = some 1) : V x Z 1483 67748 270 [(0, va_rf (some b)), (1, va_rf (some a1)), (2, va_rf (some a2)), (3, .int x3)] [] g := by
  have hC : Cx x code RL 8 := hL.1
  unfold f_law_c2 at h
  refine V_aload_n hC 1 dL_law_270 rfl rfl ?_
  refine V_aload_n hC 0 dL_law_271 rfl rfl ?_
  refine V_iload_n hC 3 dL_law_272 rfl rfl ?_
  refine V_iconst (v := 1) hC dL_law_273 (by decide) ?_
  refine V_iadd hC dL_law_274 ?_
  replace h := grd_some h
  obtain ⟨c28, h⟩ := h
  refine V_sld hL c28 dL_law_275 ?_
  replace h := bnd_some h
  obtain ⟨r29, g30, e31, h⟩ := h
  refine V_callV (As := [.int (xw (x3 + (1 : Int32)).toNatClampNeg)]) (c := 8) (T := TX10) (N := 10) hC hA mq_X10_dropRow mi_X10_dropRow tw_527 (hL.d (by decide)) (hL.r (by decide)) rfl (by omega) (zc_X10_dropRow e31) (vm_X10_dropRow e31) rfl (Nat.le_of_ble_eq_true rfl) dL_law_276 ?_
  refine V_aload_n hC 2 dL_law_279 rfl rfl ?_
  refine V_aload_n hC 0 dL_law_280 rfl rfl ?_
  refine V_iload_n hC 3 dL_law_281 rfl rfl ?_
  refine V_iconst (v := 1) hC dL_law_282 (by decide) ?_
  refine V_iadd hC dL_law_283 ?_
  replace h := grd_some h
  obtain ⟨c32, h⟩ := h
  refine V_sld hL c32 dL_law_284 ?_
  replace h := bnd_some h
  obtain ⟨r33, g34, e35, h⟩ := h
  refine V_callV (As := [.int (xw (x3 + (1 : Int32)).toNatClampNeg)]) (c := 9) (T := TX11) (N := 32) hC hA mq_X11_dropRow mi_X11_dropRow tw_551 (hL.d (by decide)) (hL.r (by decide)) rfl (by omega) (zc_X11_dropRow e35) (vm_X11_dropRow e35) rfl (Nat.le_of_ble_eq_true rfl) dL_law_285 ?_
  refine V_icmp_eq hC 1189 dL_law_288 (by decide) (fun c36 => ?_) (fun c36 => ?_)
  · replace h := ite_p h c36
    refine V_iinc (v := (x3 + 5)) (L' := [(3, .int (x3 + 5)), (0, va_rf (some b)), (1, va_rf (some a1)), (2, va_rf (some a2))]) hC 3 dL_law_1189 rfl rfl (by decide) rfl ?_
    refine V_goto hC 18 dL_law_1192 (by decide) ?_
    refine V_sub [1, 2, 3, 0] rfl ?_
    exact hκ _ _ h
  · replace h := ite_n h c36
    refine V_iconst (v := 0) hC dL_law_291 (by decide) ?_
    exact absurd h (by decide)
def f_law_c3 (n : Nat) (Z : Zt) (a1 a2 L : Nat) (xw : Nat → Int32) (κ : Int32 → Mem → Option Int32) (x3 : Int32) (g : Mem) : Option Int32 := grd (inr (x3 + (1 : Int32)) L) (grd (inr (x3 + (2 : Int32)) L) (bnd (f_X10_setCost n Z a1 (xw (x3 + (1 : Int32)).toNatClampNeg) (xw (x3 + (2 : Int32)).toNatClampNeg) g) (fun r40 g41 => grd (inr (x3 + (1 : Int32)) L) (grd (inr (x3 + (2 : Int32)) L) (bnd (f_X11_setCost n Z a2 (xw (x3 + (1 : Int32)).toNatClampNeg) (xw (x3 + (2 : Int32)).toNatClampNeg) g41) (fun r45 g46 => if r40 = r45 then (κ (x3 + 5) g46) else (some (0 : Int32))))))))
set_option maxHeartbeats 4000000 in
set_option maxRecDepth 100000 in
theorem vlaw_c3 {x : Cq} {n : Nat} {Z : Zt} {a1 a2 b L : Nat} {xw : Nat → Int32} {κ : Int32 → Mem → Option Int32} {x3 : Int32} {g : Mem} (hL : Cl x b L xw) (hA : Lv x Z) (hκ : ∀ (y3 : Int32) (y : Mem), κ y3 y = some 1 → V x Z 1483 67748 18 [(0, va_rf (some b)), (1, va_rf (some a1)), (2, va_rf (some a2)), (3, .int y3)] [] y) (h : f_law_c3 n Z a1 a2 L xw κ x3 g = some 1) : V x Z 1483 67748 293 [(0, va_rf (some b)), (1, va_rf (some a1)), (2, va_rf (some a2)), (3, .int x3)] [] g := by
  have hC : Cx x code RL 8 := hL.1
  unfold f_law_c3 at h
  refine V_aload_n hC 1 dL_law_293 rfl rfl ?_
  refine V_aload_n hC 0 dL_law_294 rfl rfl ?_
  refine V_iload_n hC 3 dL_law_295 rfl rfl ?_
  refine V_iconst (v := 1) hC dL_law_296 (by decide) ?_
  refine V_iadd hC dL_law_297 ?_
  replace h := grd_some h
  obtain ⟨c38, h⟩ := h
  refine V_sld hL c38 dL_law_298 ?_
  refine V_aload_n hC 0 dL_law_299 rfl rfl ?_
  refine V_iload_n hC 3 dL_law_300 rfl rfl ?_
  refine V_iconst (v := 2) hC dL_law_301 (by decide) ?_
  refine V_iadd hC dL_law_302 ?_
  replace h := grd_some h
  obtain ⟨c39, h⟩ := h
  refine V_sld hL c39 dL_law_303 ?_
  replace h := bnd_some h
  obtain ⟨r40, g41, e42, h⟩ := h
  refine V_callV (As := [.int (xw (x3 + (1 : Int32)).toNatClampNeg), .int (xw (x3 + (2 : Int32)).toNatClampNeg)]) (c := 8) (T := TX10) (N := 10) hC hA mq_X10_setCost mi_X10_setCost tw_566 (hL.d (by decide)) (hL.r (by decide)) rfl (by omega) (zc_X10_setCost e42) (vm_X10_setCost e42) rfl (Nat.le_of_ble_eq_true rfl) dL_law_304 ?_
  refine V_aload_n hC 2 dL_law_307 rfl rfl ?_
  refine V_aload_n hC 0 dL_law_308 rfl rfl ?_
  refine V_iload_n hC 3 dL_law_309 rfl rfl ?_
  refine V_iconst (v := 1) hC dL_law_310 (by decide) ?_
  refine V_iadd hC dL_law_311 ?_
  replace h := grd_some h
  obtain ⟨c43, h⟩ := h
  refine V_sld hL c43 dL_law_312 ?_
  refine V_aload_n hC 0 dL_law_313 rfl rfl ?_
  refine V_iload_n hC 3 dL_law_314 rfl rfl ?_
  refine V_iconst (v := 2) hC dL_law_315 (by decide) ?_
  refine V_iadd hC dL_law_316 ?_
  replace h := grd_some h
  obtain ⟨c44, h⟩ := h
  refine V_sld hL c44 dL_law_317 ?_
  replace h := bnd_some h
  obtain ⟨r45, g46, e47, h⟩ := h
  refine V_callV (As := [.int (xw (x3 + (1 : Int32)).toNatClampNeg), .int (xw (x3 + (2 : Int32)).toNatClampNeg)]) (c := 9) (T := TX11) (N := 32) hC hA mq_X11_setCost mi_X11_setCost tw_578 (hL.d (by decide)) (hL.r (by decide)) rfl (by omega) (zc_X11_setCost e47) (vm_X11_setCost e47) rfl (Nat.le_of_ble_eq_true rfl) dL_law_318 ?_
  refine V_icmp_eq hC 1189 dL_law_321 (by decide) (fun c48 => ?_) (fun c48 => ?_)
  · replace h := ite_p h c48
    refine V_iinc (v := (x3 + 5)) (L' := [(3, .int (x3 + 5)), (0, va_rf (some b)), (1, va_rf (some a1)), (2, va_rf (some a2))]) hC 3 dL_law_1189 rfl rfl (by decide) rfl ?_
    refine V_goto hC 18 dL_law_1192 (by decide) ?_
    refine V_sub [1, 2, 3, 0] rfl ?_
    exact hκ _ _ h
  · replace h := ite_n h c48
    refine V_iconst (v := 0) hC dL_law_324 (by decide) ?_
    exact absurd h (by decide)
def f_law_c4 (n : Nat) (Z : Zt) (a1 a2 L : Nat) (xw : Nat → Int32) (κ : Int32 → Mem → Option Int32) (x3 : Int32) (g : Mem) : Option Int32 := grd (inr (x3 + (1 : Int32)) L) (grd (inr (x3 + (2 : Int32)) L) (bnd (f_X10_setTrust n Z a1 (xw (x3 + (1 : Int32)).toNatClampNeg) (xw (x3 + (2 : Int32)).toNatClampNeg) g) (fun r52 g53 => grd (inr (x3 + (1 : Int32)) L) (grd (inr (x3 + (2 : Int32)) L) (bnd (f_X11_setTrust n Z a2 (xw (x3 + (1 : Int32)).toNatClampNeg) (xw (x3 + (2 : Int32)).toNatClampNeg) g53) (fun r57 g58 => if r52 = r57 then (κ (x3 + 5) g58) else (some (0 : Int32))))))))
set_option maxHeartbeats 4000000 in
set_option maxRecDepth 100000 in
theorem vlaw_c4 {x : Cq} {n : Nat} {Z : Zt} {a1 a2 b L : Nat} {xw : Nat → Int32} {κ : Int32 → Mem → Option Int32} {x3 : Int32} {g : Mem} (hL : Cl x b L xw) (hA : Lv x Z) (hκ : ∀ (y3 : Int32) (y : Mem), κ y3 y = some 1 → V x Z 1483 67748 18 [(0, va_rf (some b)), (1, va_rf (some a1)), (2, va_rf (some a2)), (3, .int y3)] [] y) (h : f_law_c4 n Z a1 a2 L xw κ x3 g = some 1) : V x Z 1483 67748 326 [(0, va_rf (some b)), (1, va_rf (some a1)), (2, va_rf (some a2)), (3, .int x3)] [] g := by
  have hC : Cx x code RL 8 := hL.1
  unfold f_law_c4 at h
  refine V_aload_n hC 1 dL_law_326 rfl rfl ?_
  refine V_aload_n hC 0 dL_law_327 rfl rfl ?_
  refine V_iload_n hC 3 dL_law_328 rfl rfl ?_
  refine V_iconst (v := 1) hC dL_law_329 (by decide) ?_
  refine V_iadd hC dL_law_330 ?_
  replace h := grd_some h
  obtain ⟨c50, h⟩ := h
  refine V_sld hL c50 dL_law_331 ?_
  refine V_aload_n hC 0 dL_law_332 rfl rfl ?_
  refine V_iload_n hC 3 dL_law_333 rfl rfl ?_
  refine V_iconst (v := 2) hC dL_law_334 (by decide) ?_
  refine V_iadd hC dL_law_335 ?_
  replace h := grd_some h
  obtain ⟨c51, h⟩ := h
  refine V_sld hL c51 dL_law_336 ?_
  replace h := bnd_some h
  obtain ⟨r52, g53, e54, h⟩ := h
  refine V_callV (As := [.int (xw (x3 + (1 : Int32)).toNatClampNeg), .int (xw (x3 + (2 : Int32)).toNatClampNeg)]) (c := 8) (T := TX10) (N := 10) hC hA mq_X10_setTrust mi_X10_setTrust tw_582 (hL.d (by decide)) (hL.r (by decide)) rfl (by omega) (zc_X10_setTrust e54) (vm_X10_setTrust e54) rfl (Nat.le_of_ble_eq_true rfl) dL_law_337 ?_
  refine V_aload_n hC 2 dL_law_340 rfl rfl ?_
  refine V_aload_n hC 0 dL_law_341 rfl rfl ?_
  refine V_iload_n hC 3 dL_law_342 rfl rfl ?_
  refine V_iconst (v := 1) hC dL_law_343 (by decide) ?_
  refine V_iadd hC dL_law_344 ?_
  replace h := grd_some h
  obtain ⟨c55, h⟩ := h
  refine V_sld hL c55 dL_law_345 ?_
  refine V_aload_n hC 0 dL_law_346 rfl rfl ?_
  refine V_iload_n hC 3 dL_law_347 rfl rfl ?_
  refine V_iconst (v := 2) hC dL_law_348 (by decide) ?_
  refine V_iadd hC dL_law_349 ?_
  replace h := grd_some h
  obtain ⟨c56, h⟩ := h
  refine V_sld hL c56 dL_law_350 ?_
  replace h := bnd_some h
  obtain ⟨r57, g58, e59, h⟩ := h
  refine V_callV (As := [.int (xw (x3 + (1 : Int32)).toNatClampNeg), .int (xw (x3 + (2 : Int32)).toNatClampNeg)]) (c := 9) (T := TX11) (N := 32) hC hA mq_X11_setTrust mi_X11_setTrust tw_594 (hL.d (by decide)) (hL.r (by decide)) rfl (by omega) (zc_X11_setTrust e59) (vm_X11_setTrust e59) rfl (Nat.le_of_ble_eq_true rfl) dL_law_351 ?_
  refine V_icmp_eq hC 1189 dL_law_354 (by decide) (fun c60 => ?_) (fun c60 => ?_)
  · replace h := ite_p h c60
    refine V_iinc (v := (x3 + 5)) (L' := [(3, .int (x3 + 5)), (0, va_rf (some b)), (1, va_rf (some a1)), (2, va_rf (some a2))]) hC 3 dL_law_1189 rfl rfl (by decide) rfl ?_
    refine V_goto hC 18 dL_law_1192 (by decide) ?_
    refine V_sub [1, 2, 3, 0] rfl ?_
    exact hκ _ _ h
  · replace h := ite_n h c60
    refine V_iconst (v := 0) hC dL_law_357 (by decide) ?_
    exact absurd h (by decide)
def f_law_c5 (n : Nat) (Z : Zt) (a1 a2 L : Nat) (xw : Nat → Int32) (κ : Int32 → Mem → Option Int32) (x3 : Int32) (g : Mem) : Option Int32 := grd (inr (x3 + (1 : Int32)) L) (grd (inr (x3 + (2 : Int32)) L) (if (xw (x3 + (2 : Int32)).toNatClampNeg) = 0 then (bnd (f_X10_setWithdrawn n Z a1 (xw (x3 + (1 : Int32)).toNatClampNeg) (0 : Int32) g) (fun r65 g66 => grd (inr (x3 + (1 : Int32)) L) (grd (inr (x3 + (2 : Int32)) L) (if (xw (x3 + (2 : Int32)).toNatClampNeg) = 0 then (bnd (f_X11_setWithdrawn n Z a2 (xw (x3 + (1 : Int32)).toNatClampNeg) (0 : Int32) g66) (fun r71 g72 => if r65 = r71 then (κ (x3 + 5) g72) else (some (0 : Int32)))) else (bnd (f_X11_setWithdrawn n Z a2 (xw (x3 + (1 : Int32)).toNatClampNeg) (1 : Int32) g66) (fun r75 g76 => if r65 = r75 then (κ (x3 + 5) g76) else (some (0 : Int32)))))))) else (bnd (f_X10_setWithdrawn n Z a1 (xw (x3 + (1 : Int32)).toNatClampNeg) (1 : Int32) g) (fun r79 g80 => grd (inr (x3 + (1 : Int32)) L) (grd (inr (x3 + (2 : Int32)) L) (if (xw (x3 + (2 : Int32)).toNatClampNeg) = 0 then (bnd (f_X11_setWithdrawn n Z a2 (xw (x3 + (1 : Int32)).toNatClampNeg) (0 : Int32) g80) (fun r85 g86 => if r79 = r85 then (κ (x3 + 5) g86) else (some (0 : Int32)))) else (bnd (f_X11_setWithdrawn n Z a2 (xw (x3 + (1 : Int32)).toNatClampNeg) (1 : Int32) g80) (fun r89 g90 => if r79 = r89 then (κ (x3 + 5) g90) else (some (0 : Int32))))))))))
set_option maxHeartbeats 4000000 in
set_option maxRecDepth 100000 in
theorem vlaw_c5 {x : Cq} {n : Nat} {Z : Zt} {a1 a2 b L : Nat} {xw : Nat → Int32} {κ : Int32 → Mem → Option Int32} {x3 : Int32} {g : Mem} (hL : Cl x b L xw) (hA : Lv x Z) (hκ : ∀ (y3 : Int32) (y : Mem), κ y3 y = some 1 → V x Z 1483 67748 18 [(0, va_rf (some b)), (1, va_rf (some a1)), (2, va_rf (some a2)), (3, .int y3)] [] y) (h : f_law_c5 n Z a1 a2 L xw κ x3 g = some 1) : V x Z 1483 67748 359 [(0, va_rf (some b)), (1, va_rf (some a1)), (2, va_rf (some a2)), (3, .int x3)] [] g := by
  have hC : Cx x code RL 8 := hL.1
  unfold f_law_c5 at h
  refine V_aload_n hC 1 dL_law_359 rfl rfl ?_
  refine V_aload_n hC 0 dL_law_360 rfl rfl ?_
  refine V_iload_n hC 3 dL_law_361 rfl rfl ?_
  refine V_iconst (v := 1) hC dL_law_362 (by decide) ?_
  refine V_iadd hC dL_law_363 ?_
  replace h := grd_some h
  obtain ⟨c62, h⟩ := h
  refine V_sld hL c62 dL_law_364 ?_
  refine V_aload_n hC 0 dL_law_365 rfl rfl ?_
  refine V_iload_n hC 3 dL_law_366 rfl rfl ?_
  refine V_iconst (v := 2) hC dL_law_367 (by decide) ?_
  refine V_iadd hC dL_law_368 ?_
  replace h := grd_some h
  obtain ⟨c63, h⟩ := h
  refine V_sld hL c63 dL_law_369 ?_
  refine V_if_eq hC 377 dL_law_370 (by decide) (fun c64 => ?_) (fun c64 => ?_)
  · replace h := ite_p h c64
    refine V_iconst (v := 0) hC dL_law_377 (by decide) ?_
    replace h := bnd_some h
    obtain ⟨r65, g66, e67, h⟩ := h
    refine V_callV (As := [.int (xw (x3 + (1 : Int32)).toNatClampNeg), .int (0 : Int32)]) (c := 8) (T := TX10) (N := 10) hC hA mq_X10_setWithdrawn mi_X10_setWithdrawn tw_598 (hL.d (by decide)) (hL.r (by decide)) rfl (by omega) (zc_X10_setWithdrawn e67) (vm_X10_setWithdrawn e67) rfl (Nat.le_of_ble_eq_true rfl) dL_law_378 ?_
    refine V_aload_n hC 2 dL_law_381 rfl rfl ?_
    refine V_aload_n hC 0 dL_law_382 rfl rfl ?_
    refine V_iload_n hC 3 dL_law_383 rfl rfl ?_
    refine V_iconst (v := 1) hC dL_law_384 (by decide) ?_
    refine V_iadd hC dL_law_385 ?_
    replace h := grd_some h
    obtain ⟨c68, h⟩ := h
    refine V_sld hL c68 dL_law_386 ?_
    refine V_aload_n hC 0 dL_law_387 rfl rfl ?_
    refine V_iload_n hC 3 dL_law_388 rfl rfl ?_
    refine V_iconst (v := 2) hC dL_law_389 (by decide) ?_
    refine V_iadd hC dL_law_390 ?_
    replace h := grd_some h
    obtain ⟨c69, h⟩ := h
    refine V_sld hL c69 dL_law_391 ?_
    refine V_if_eq hC 399 dL_law_392 (by decide) (fun c70 => ?_) (fun c70 => ?_)
    · replace h := ite_p h c70
      refine V_iconst (v := 0) hC dL_law_399 (by decide) ?_
      replace h := bnd_some h
      obtain ⟨r71, g72, e73, h⟩ := h
      refine V_callV (As := [.int (xw (x3 + (1 : Int32)).toNatClampNeg), .int (0 : Int32)]) (c := 9) (T := TX11) (N := 32) hC hA mq_X11_setWithdrawn mi_X11_setWithdrawn tw_639 (hL.d (by decide)) (hL.r (by decide)) rfl (by omega) (zc_X11_setWithdrawn e73) (vm_X11_setWithdrawn e73) rfl (Nat.le_of_ble_eq_true rfl) dL_law_400 ?_
      refine V_icmp_eq hC 1189 dL_law_403 (by decide) (fun c74 => ?_) (fun c74 => ?_)
      · replace h := ite_p h c74
        refine V_iinc (v := (x3 + 5)) (L' := [(3, .int (x3 + 5)), (0, va_rf (some b)), (1, va_rf (some a1)), (2, va_rf (some a2))]) hC 3 dL_law_1189 rfl rfl (by decide) rfl ?_
        refine V_goto hC 18 dL_law_1192 (by decide) ?_
        refine V_sub [1, 2, 3, 0] rfl ?_
        exact hκ _ _ h
      · replace h := ite_n h c74
        refine V_iconst (v := 0) hC dL_law_406 (by decide) ?_
        exact absurd h (by decide)
    · replace h := ite_n h c70
      refine V_iconst (v := 1) hC dL_law_395 (by decide) ?_
      refine V_goto hC 400 dL_law_396 (by decide) ?_
      replace h := bnd_some h
      obtain ⟨r75, g76, e77, h⟩ := h
      refine V_callV (As := [.int (xw (x3 + (1 : Int32)).toNatClampNeg), .int (1 : Int32)]) (c := 9) (T := TX11) (N := 32) hC hA mq_X11_setWithdrawn mi_X11_setWithdrawn tw_639 (hL.d (by decide)) (hL.r (by decide)) rfl (by omega) (zc_X11_setWithdrawn e77) (vm_X11_setWithdrawn e77) rfl (Nat.le_of_ble_eq_true rfl) dL_law_400 ?_
      refine V_icmp_eq hC 1189 dL_law_403 (by decide) (fun c78 => ?_) (fun c78 => ?_)
      · replace h := ite_p h c78
        refine V_iinc (v := (x3 + 5)) (L' := [(3, .int (x3 + 5)), (0, va_rf (some b)), (1, va_rf (some a1)), (2, va_rf (some a2))]) hC 3 dL_law_1189 rfl rfl (by decide) rfl ?_
        refine V_goto hC 18 dL_law_1192 (by decide) ?_
        refine V_sub [1, 2, 3, 0] rfl ?_
        exact hκ _ _ h
      · replace h := ite_n h c78
        refine V_iconst (v := 0) hC dL_law_406 (by decide) ?_
        exact absurd h (by decide)
  · replace h := ite_n h c64
    refine V_iconst (v := 1) hC dL_law_373 (by decide) ?_
    refine V_goto hC 378 dL_law_374 (by decide) ?_
    replace h := bnd_some h
    obtain ⟨r79, g80, e81, h⟩ := h
    refine V_callV (As := [.int (xw (x3 + (1 : Int32)).toNatClampNeg), .int (1 : Int32)]) (c := 8) (T := TX10) (N := 10) hC hA mq_X10_setWithdrawn mi_X10_setWithdrawn tw_598 (hL.d (by decide)) (hL.r (by decide)) rfl (by omega) (zc_X10_setWithdrawn e81) (vm_X10_setWithdrawn e81) rfl (Nat.le_of_ble_eq_true rfl) dL_law_378 ?_
    refine V_aload_n hC 2 dL_law_381 rfl rfl ?_
    refine V_aload_n hC 0 dL_law_382 rfl rfl ?_
    refine V_iload_n hC 3 dL_law_383 rfl rfl ?_
    refine V_iconst (v := 1) hC dL_law_384 (by decide) ?_
    refine V_iadd hC dL_law_385 ?_
    replace h := grd_some h
    obtain ⟨c82, h⟩ := h
    refine V_sld hL c82 dL_law_386 ?_
    refine V_aload_n hC 0 dL_law_387 rfl rfl ?_
    refine V_iload_n hC 3 dL_law_388 rfl rfl ?_
    refine V_iconst (v := 2) hC dL_law_389 (by decide) ?_
    refine V_iadd hC dL_law_390 ?_
    replace h := grd_some h
    obtain ⟨c83, h⟩ := h
    refine V_sld hL c83 dL_law_391 ?_
    refine V_if_eq hC 399 dL_law_392 (by decide) (fun c84 => ?_) (fun c84 => ?_)
    · replace h := ite_p h c84
      refine V_iconst (v := 0) hC dL_law_399 (by decide) ?_
      replace h := bnd_some h
      obtain ⟨r85, g86, e87, h⟩ := h
      refine V_callV (As := [.int (xw (x3 + (1 : Int32)).toNatClampNeg), .int (0 : Int32)]) (c := 9) (T := TX11) (N := 32) hC hA mq_X11_setWithdrawn mi_X11_setWithdrawn tw_639 (hL.d (by decide)) (hL.r (by decide)) rfl (by omega) (zc_X11_setWithdrawn e87) (vm_X11_setWithdrawn e87) rfl (Nat.le_of_ble_eq_true rfl) dL_law_400 ?_
      refine V_icmp_eq hC 1189 dL_law_403 (by decide) (fun c88 => ?_) (fun c88 => ?_)
      · replace h := ite_p h c88
        refine V_iinc (v := (x3 + 5)) (L' := [(3, .int (x3 + 5)), (0, va_rf (some b)), (1, va_rf (some a1)), (2, va_rf (some a2))]) hC 3 dL_law_1189 rfl rfl (by decide) rfl ?_
        refine V_goto hC 18 dL_law_1192 (by decide) ?_
        refine V_sub [1, 2, 3, 0] rfl ?_
        exact hκ _ _ h
      · replace h := ite_n h c88
        refine V_iconst (v := 0) hC dL_law_406 (by decide) ?_
        exact absurd h (by decide)
    · replace h := ite_n h c84
      refine V_iconst (v := 1) hC dL_law_395 (by decide) ?_
      refine V_goto hC 400 dL_law_396 (by decide) ?_
      replace h := bnd_some h
      obtain ⟨r89, g90, e91, h⟩ := h
      refine V_callV (As := [.int (xw (x3 + (1 : Int32)).toNatClampNeg), .int (1 : Int32)]) (c := 9) (T := TX11) (N := 32) hC hA mq_X11_setWithdrawn mi_X11_setWithdrawn tw_639 (hL.d (by decide)) (hL.r (by decide)) rfl (by omega) (zc_X11_setWithdrawn e91) (vm_X11_setWithdrawn e91) rfl (Nat.le_of_ble_eq_true rfl) dL_law_400 ?_
      refine V_icmp_eq hC 1189 dL_law_403 (by decide) (fun c92 => ?_) (fun c92 => ?_)
      · replace h := ite_p h c92
        refine V_iinc (v := (x3 + 5)) (L' := [(3, .int (x3 + 5)), (0, va_rf (some b)), (1, va_rf (some a1)), (2, va_rf (some a2))]) hC 3 dL_law_1189 rfl rfl (by decide) rfl ?_
        refine V_goto hC 18 dL_law_1192 (by decide) ?_
        refine V_sub [1, 2, 3, 0] rfl ?_
        exact hκ _ _ h
      · replace h := ite_n h c92
        refine V_iconst (v := 0) hC dL_law_406 (by decide) ?_
        exact absurd h (by decide)
def f_law_c6 (n : Nat) (Z : Zt) (a1 a2 L : Nat) (xw : Nat → Int32) (κ : Int32 → Mem → Option Int32) (x3 : Int32) (g : Mem) : Option Int32 := bnd (f_X10_setQuery n Z a1 g) (fun r94 g95 => bnd (f_X11_setQuery n Z a2 g95) (fun r97 g98 => if r94 = r97 then (κ (x3 + 5) g98) else (some (0 : Int32))))
set_option maxHeartbeats 4000000 in
set_option maxRecDepth 100000 in
theorem vlaw_c6 {x : Cq} {n : Nat} {Z : Zt} {a1 a2 b L : Nat} {xw : Nat → Int32} {κ : Int32 → Mem → Option Int32} {x3 : Int32} {g : Mem} (hL : Cl x b L xw) (hA : Lv x Z) (hκ : ∀ (y3 : Int32) (y : Mem), κ y3 y = some 1 → V x Z 1483 67748 18 [(0, va_rf (some b)), (1, va_rf (some a1)), (2, va_rf (some a2)), (3, .int y3)] [] y) (h : f_law_c6 n Z a1 a2 L xw κ x3 g = some 1) : V x Z 1483 67748 408 [(0, va_rf (some b)), (1, va_rf (some a1)), (2, va_rf (some a2)), (3, .int x3)] [] g := by
  have hC : Cx x code RL 8 := hL.1
  unfold f_law_c6 at h
  refine V_aload_n hC 1 dL_law_408 rfl rfl ?_
  replace h := bnd_some h
  obtain ⟨r94, g95, e96, h⟩ := h
  refine V_callV (As := []) (c := 8) (T := TX10) (N := 10) hC hA mq_X10_setQuery mi_X10_setQuery tw_666 (hL.d (by decide)) (hL.r (by decide)) rfl (by omega) (zc_X10_setQuery e96) (vm_X10_setQuery e96) rfl (Nat.le_of_ble_eq_true rfl) dL_law_409 ?_
  refine V_aload_n hC 2 dL_law_412 rfl rfl ?_
  replace h := bnd_some h
  obtain ⟨r97, g98, e99, h⟩ := h
  refine V_callV (As := []) (c := 9) (T := TX11) (N := 32) hC hA mq_X11_setQuery mi_X11_setQuery tw_747 (hL.d (by decide)) (hL.r (by decide)) rfl (by omega) (zc_X11_setQuery e99) (vm_X11_setQuery e99) rfl (Nat.le_of_ble_eq_true rfl) dL_law_413 ?_
  refine V_icmp_eq hC 1189 dL_law_416 (by decide) (fun c100 => ?_) (fun c100 => ?_)
  · replace h := ite_p h c100
    refine V_iinc (v := (x3 + 5)) (L' := [(3, .int (x3 + 5)), (0, va_rf (some b)), (1, va_rf (some a1)), (2, va_rf (some a2))]) hC 3 dL_law_1189 rfl rfl (by decide) rfl ?_
    refine V_goto hC 18 dL_law_1192 (by decide) ?_
    refine V_sub [1, 2, 3, 0] rfl ?_
    exact hκ _ _ h
  · replace h := ite_n h c100
    refine V_iconst (v := 0) hC dL_law_419 (by decide) ?_
    exact absurd h (by decide)
def f_law_c7 (n : Nat) (Z : Zt) (a1 a2 L : Nat) (xw : Nat → Int32) (κ : Int32 → Mem → Option Int32) (x3 : Int32) (g : Mem) : Option Int32 := bnd (f_X10_dropQuery n Z a1 g) (fun r102 g103 => bnd (f_X11_dropQuery n Z a2 g103) (fun r105 g106 => if r102 = r105 then (κ (x3 + 5) g106) else (some (0 : Int32))))
set_option maxHeartbeats 4000000 in
set_option maxRecDepth 100000 in
theorem vlaw_c7 {x : Cq} {n : Nat} {Z : Zt} {a1 a2 b L : Nat} {xw : Nat → Int32} {κ : Int32 → Mem → Option Int32} {x3 : Int32} {g : Mem} (hL : Cl x b L xw) (hA : Lv x Z) (hκ : ∀ (y3 : Int32) (y : Mem), κ y3 y = some 1 → V x Z 1483 67748 18 [(0, va_rf (some b)), (1, va_rf (some a1)), (2, va_rf (some a2)), (3, .int y3)] [] y) (h : f_law_c7 n Z a1 a2 L xw κ x3 g = some 1) : V x Z 1483 67748 421 [(0, va_rf (some b)), (1, va_rf (some a1)), (2, va_rf (some a2)), (3, .int x3)] [] g := by
  have hC : Cx x code RL 8 := hL.1
  unfold f_law_c7 at h
  refine V_aload_n hC 1 dL_law_421 rfl rfl ?_
  replace h := bnd_some h
  obtain ⟨r102, g103, e104, h⟩ := h
  refine V_callV (As := []) (c := 8) (T := TX10) (N := 10) hC hA mq_X10_dropQuery mi_X10_dropQuery tw_767 (hL.d (by decide)) (hL.r (by decide)) rfl (by omega) (zc_X10_dropQuery e104) (vm_X10_dropQuery e104) rfl (Nat.le_of_ble_eq_true rfl) dL_law_422 ?_
  refine V_aload_n hC 2 dL_law_425 rfl rfl ?_
  replace h := bnd_some h
  obtain ⟨r105, g106, e107, h⟩ := h
  refine V_callV (As := []) (c := 9) (T := TX11) (N := 32) hC hA mq_X11_dropQuery mi_X11_dropQuery tw_773 (hL.d (by decide)) (hL.r (by decide)) rfl (by omega) (zc_X11_dropQuery e107) (vm_X11_dropQuery e107) rfl (Nat.le_of_ble_eq_true rfl) dL_law_426 ?_
  refine V_icmp_eq hC 1189 dL_law_429 (by decide) (fun c108 => ?_) (fun c108 => ?_)
  · replace h := ite_p h c108
    refine V_iinc (v := (x3 + 5)) (L' := [(3, .int (x3 + 5)), (0, va_rf (some b)), (1, va_rf (some a1)), (2, va_rf (some a2))]) hC 3 dL_law_1189 rfl rfl (by decide) rfl ?_
    refine V_goto hC 18 dL_law_1192 (by decide) ?_
    refine V_sub [1, 2, 3, 0] rfl ?_
    exact hκ _ _ h
  · replace h := ite_n h c108
    refine V_iconst (v := 0) hC dL_law_432 (by decide) ?_
    exact absurd h (by decide)
def f_law_c8 (n : Nat) (Z : Zt) (a1 a2 L : Nat) (xw : Nat → Int32) (κ : Int32 → Mem → Option Int32) (x3 : Int32) (g : Mem) : Option Int32 := grd (inr (x3 + (1 : Int32)) L) (bnd (f_X10_append n Z a1 (xw (x3 + (1 : Int32)).toNatClampNeg) g) (fun r111 g112 => grd (inr (x3 + (1 : Int32)) L) (bnd (f_X11_append n Z a2 (xw (x3 + (1 : Int32)).toNatClampNeg) g112) (fun r115 g116 => if r111 = r115 then (κ (x3 + 5) g116) else (some (0 : Int32))))))
set_option maxHeartbeats 4000000 in
set_option maxRecDepth 100000 in
theorem vlaw_c8 {x : Cq} {n : Nat} {Z : Zt} {a1 a2 b L : Nat} {xw : Nat → Int32} {κ : Int32 → Mem → Option Int32} {x3 : Int32} {g : Mem} (hL : Cl x b L xw) (hA : Lv x Z) (hκ : ∀ (y3 : Int32) (y : Mem), κ y3 y = some 1 → V x Z 1483 67748 18 [(0, va_rf (some b)), (1, va_rf (some a1)), (2, va_rf (some a2)), (3, .int y3)] [] y) (h : f_law_c8 n Z a1 a2 L xw κ x3 g = some 1) : V x Z 1483 67748 434 [(0, va_rf (some b)), (1, va_rf (some a1)), (2, va_rf (some a2)), (3, .int x3)] [] g := by
  have hC : Cx x code RL 8 := hL.1
  unfold f_law_c8 at h
  refine V_aload_n hC 1 dL_law_434 rfl rfl ?_
  refine V_aload_n hC 0 dL_law_435 rfl rfl ?_
  refine V_iload_n hC 3 dL_law_436 rfl rfl ?_
  refine V_iconst (v := 1) hC dL_law_437 (by decide) ?_
  refine V_iadd hC dL_law_438 ?_
  replace h := grd_some h
  obtain ⟨c110, h⟩ := h
  refine V_sld hL c110 dL_law_439 ?_
  replace h := bnd_some h
  obtain ⟨r111, g112, e113, h⟩ := h
  refine V_callV (As := [.int (xw (x3 + (1 : Int32)).toNatClampNeg)]) (c := 8) (T := TX10) (N := 10) hC hA mq_X10_append mi_X10_append tw_777 (hL.d (by decide)) (hL.r (by decide)) rfl (by omega) (zc_X10_append e113) (vm_X10_append e113) rfl (Nat.le_of_ble_eq_true rfl) dL_law_440 ?_
  refine V_aload_n hC 2 dL_law_443 rfl rfl ?_
  refine V_aload_n hC 0 dL_law_444 rfl rfl ?_
  refine V_iload_n hC 3 dL_law_445 rfl rfl ?_
  refine V_iconst (v := 1) hC dL_law_446 (by decide) ?_
  refine V_iadd hC dL_law_447 ?_
  replace h := grd_some h
  obtain ⟨c114, h⟩ := h
  refine V_sld hL c114 dL_law_448 ?_
  replace h := bnd_some h
  obtain ⟨r115, g116, e117, h⟩ := h
  refine V_callV (As := [.int (xw (x3 + (1 : Int32)).toNatClampNeg)]) (c := 9) (T := TX11) (N := 32) hC hA mq_X11_append mi_X11_append tw_782 (hL.d (by decide)) (hL.r (by decide)) rfl (by omega) (zc_X11_append e117) (vm_X11_append e117) rfl (Nat.le_of_ble_eq_true rfl) dL_law_449 ?_
  refine V_icmp_eq hC 1189 dL_law_452 (by decide) (fun c118 => ?_) (fun c118 => ?_)
  · replace h := ite_p h c118
    refine V_iinc (v := (x3 + 5)) (L' := [(3, .int (x3 + 5)), (0, va_rf (some b)), (1, va_rf (some a1)), (2, va_rf (some a2))]) hC 3 dL_law_1189 rfl rfl (by decide) rfl ?_
    refine V_goto hC 18 dL_law_1192 (by decide) ?_
    refine V_sub [1, 2, 3, 0] rfl ?_
    exact hκ _ _ h
  · replace h := ite_n h c118
    refine V_iconst (v := 0) hC dL_law_455 (by decide) ?_
    exact absurd h (by decide)
def f_law_c9 (n : Nat) (Z : Zt) (a1 a2 L : Nat) (xw : Nat → Int32) (κ : Int32 → Mem → Option Int32) (x3 : Int32) (g : Mem) : Option Int32 := bnd (f_X10_clearText n Z a1 g) (fun r120 g121 => bnd (f_X11_clearText n Z a2 g121) (fun r123 g124 => if r120 = r123 then (κ (x3 + 5) g124) else (some (0 : Int32))))
set_option maxHeartbeats 4000000 in
set_option maxRecDepth 100000 in
theorem vlaw_c9 {x : Cq} {n : Nat} {Z : Zt} {a1 a2 b L : Nat} {xw : Nat → Int32} {κ : Int32 → Mem → Option Int32} {x3 : Int32} {g : Mem} (hL : Cl x b L xw) (hA : Lv x Z) (hκ : ∀ (y3 : Int32) (y : Mem), κ y3 y = some 1 → V x Z 1483 67748 18 [(0, va_rf (some b)), (1, va_rf (some a1)), (2, va_rf (some a2)), (3, .int y3)] [] y) (h : f_law_c9 n Z a1 a2 L xw κ x3 g = some 1) : V x Z 1483 67748 457 [(0, va_rf (some b)), (1, va_rf (some a1)), (2, va_rf (some a2)), (3, .int x3)] [] g := by
  have hC : Cx x code RL 8 := hL.1
  unfold f_law_c9 at h
  refine V_aload_n hC 1 dL_law_457 rfl rfl ?_
  replace h := bnd_some h
  obtain ⟨r120, g121, e122, h⟩ := h
  refine V_callV (As := []) (c := 8) (T := TX10) (N := 10) hC hA mq_X10_clearText mi_X10_clearText tw_786 (hL.d (by decide)) (hL.r (by decide)) rfl (by omega) (zc_X10_clearText e122) (vm_X10_clearText e122) rfl (Nat.le_of_ble_eq_true rfl) dL_law_458 ?_
  refine V_aload_n hC 2 dL_law_461 rfl rfl ?_
  replace h := bnd_some h
  obtain ⟨r123, g124, e125, h⟩ := h
  refine V_callV (As := []) (c := 9) (T := TX11) (N := 32) hC hA mq_X11_clearText mi_X11_clearText tw_790 (hL.d (by decide)) (hL.r (by decide)) rfl (by omega) (zc_X11_clearText e125) (vm_X11_clearText e125) rfl (Nat.le_of_ble_eq_true rfl) dL_law_462 ?_
  refine V_icmp_eq hC 1189 dL_law_465 (by decide) (fun c126 => ?_) (fun c126 => ?_)
  · replace h := ite_p h c126
    refine V_iinc (v := (x3 + 5)) (L' := [(3, .int (x3 + 5)), (0, va_rf (some b)), (1, va_rf (some a1)), (2, va_rf (some a2))]) hC 3 dL_law_1189 rfl rfl (by decide) rfl ?_
    refine V_goto hC 18 dL_law_1192 (by decide) ?_
    refine V_sub [1, 2, 3, 0] rfl ?_
    exact hκ _ _ h
  · replace h := ite_n h c126
    refine V_iconst (v := 0) hC dL_law_468 (by decide) ?_
    exact absurd h (by decide)
def f_law_c10 (n : Nat) (Z : Zt) (a1 a2 L : Nat) (xw : Nat → Int32) (κ : Int32 → Mem → Option Int32) (x3 : Int32) (g : Mem) : Option Int32 := bnd (f_X10_fault n Z a1 g) (fun r128 g129 => bnd (f_X11_fault n Z a2 g129) (fun r131 g132 => if r128 = r131 then (κ (x3 + 5) g132) else (some (0 : Int32))))
set_option maxHeartbeats 4000000 in
set_option maxRecDepth 100000 in
theorem vlaw_c10 {x : Cq} {n : Nat} {Z : Zt} {a1 a2 b L : Nat} {xw : Nat → Int32} {κ : Int32 → Mem → Option Int32} {x3 : Int32} {g : Mem} (hL : Cl x b L xw) (hA : Lv x Z) (hκ : ∀ (y3 : Int32) (y : Mem), κ y3 y = some 1 → V x Z 1483 67748 18 [(0, va_rf (some b)), (1, va_rf (some a1)), (2, va_rf (some a2)), (3, .int y3)] [] y) (h : f_law_c10 n Z a1 a2 L xw κ x3 g = some 1) : V x Z 1483 67748 470 [(0, va_rf (some b)), (1, va_rf (some a1)), (2, va_rf (some a2)), (3, .int x3)] [] g := by
  have hC : Cx x code RL 8 := hL.1
  unfold f_law_c10 at h
  refine V_aload_n hC 1 dL_law_470 rfl rfl ?_
  replace h := bnd_some h
  obtain ⟨r128, g129, e130, h⟩ := h
  refine V_callV (As := []) (c := 8) (T := TX10) (N := 10) hC hA mq_X10_fault mi_X10_fault tw_794 (hL.d (by decide)) (hL.r (by decide)) rfl (by omega) (zc_X10_fault e130) (vm_X10_fault e130) rfl (Nat.le_of_ble_eq_true rfl) dL_law_471 ?_
  refine V_aload_n hC 2 dL_law_474 rfl rfl ?_
  replace h := bnd_some h
  obtain ⟨r131, g132, e133, h⟩ := h
  refine V_callV (As := []) (c := 9) (T := TX11) (N := 32) hC hA mq_X11_fault mi_X11_fault tw_802 (hL.d (by decide)) (hL.r (by decide)) rfl (by omega) (zc_X11_fault e133) (vm_X11_fault e133) rfl (Nat.le_of_ble_eq_true rfl) dL_law_475 ?_
  refine V_icmp_eq hC 1189 dL_law_478 (by decide) (fun c134 => ?_) (fun c134 => ?_)
  · replace h := ite_p h c134
    refine V_iinc (v := (x3 + 5)) (L' := [(3, .int (x3 + 5)), (0, va_rf (some b)), (1, va_rf (some a1)), (2, va_rf (some a2))]) hC 3 dL_law_1189 rfl rfl (by decide) rfl ?_
    refine V_goto hC 18 dL_law_1192 (by decide) ?_
    refine V_sub [1, 2, 3, 0] rfl ?_
    exact hκ _ _ h
  · replace h := ite_n h c134
    refine V_iconst (v := 0) hC dL_law_481 (by decide) ?_
    exact absurd h (by decide)
def f_law_c11 (n : Nat) (Z : Zt) (a1 a2 L : Nat) (xw : Nat → Int32) (κ : Int32 → Mem → Option Int32) (x3 : Int32) (g : Mem) : Option Int32 := bnd (f_X10_undo n Z a1 g) (fun r136 g137 => bnd (f_X11_undo n Z a2 g137) (fun r139 g140 => if r136 = r139 then (κ (x3 + 5) g140) else (some (0 : Int32))))
set_option maxHeartbeats 4000000 in
set_option maxRecDepth 100000 in
theorem vlaw_c11 {x : Cq} {n : Nat} {Z : Zt} {a1 a2 b L : Nat} {xw : Nat → Int32} {κ : Int32 → Mem → Option Int32} {x3 : Int32} {g : Mem} (hL : Cl x b L xw) (hA : Lv x Z) (hκ : ∀ (y3 : Int32) (y : Mem), κ y3 y = some 1 → V x Z 1483 67748 18 [(0, va_rf (some b)), (1, va_rf (some a1)), (2, va_rf (some a2)), (3, .int y3)] [] y) (h : f_law_c11 n Z a1 a2 L xw κ x3 g = some 1) : V x Z 1483 67748 483 [(0, va_rf (some b)), (1, va_rf (some a1)), (2, va_rf (some a2)), (3, .int x3)] [] g := by
  have hC : Cx x code RL 8 := hL.1
  unfold f_law_c11 at h
  refine V_aload_n hC 1 dL_law_483 rfl rfl ?_
  replace h := bnd_some h
  obtain ⟨r136, g137, e138, h⟩ := h
  refine V_callV (As := []) (c := 8) (T := TX10) (N := 10) hC hA mq_X10_undo mi_X10_undo tw_806 (hL.d (by decide)) (hL.r (by decide)) rfl (by omega) (zc_X10_undo e138) (vm_X10_undo e138) rfl (Nat.le_of_ble_eq_true rfl) dL_law_484 ?_
  refine V_aload_n hC 2 dL_law_487 rfl rfl ?_
  replace h := bnd_some h
  obtain ⟨r139, g140, e141, h⟩ := h
  refine V_callV (As := []) (c := 9) (T := TX11) (N := 32) hC hA mq_X11_undo mi_X11_undo tw_818 (hL.d (by decide)) (hL.r (by decide)) rfl (by omega) (zc_X11_undo e141) (vm_X11_undo e141) rfl (Nat.le_of_ble_eq_true rfl) dL_law_488 ?_
  refine V_icmp_eq hC 1189 dL_law_491 (by decide) (fun c142 => ?_) (fun c142 => ?_)
  · replace h := ite_p h c142
    refine V_iinc (v := (x3 + 5)) (L' := [(3, .int (x3 + 5)), (0, va_rf (some b)), (1, va_rf (some a1)), (2, va_rf (some a2))]) hC 3 dL_law_1189 rfl rfl (by decide) rfl ?_
    refine V_goto hC 18 dL_law_1192 (by decide) ?_
    refine V_sub [1, 2, 3, 0] rfl ?_
    exact hκ _ _ h
  · replace h := ite_n h c142
    refine V_iconst (v := 0) hC dL_law_494 (by decide) ?_
    exact absurd h (by decide)
def f_law_c12 (n : Nat) (Z : Zt) (a1 a2 L : Nat) (xw : Nat → Int32) (κ : Int32 → Mem → Option Int32) (x3 : Int32) (g : Mem) : Option Int32 := grd (inr (x3 + (1 : Int32)) L) (bnd (f_X10_columns n Z a1 (xw (x3 + (1 : Int32)).toNatClampNeg) g) (fun r145 g146 => grd (inr (x3 + (1 : Int32)) L) (bnd (f_X11_columns n Z a2 (xw (x3 + (1 : Int32)).toNatClampNeg) g146) (fun r149 g150 => if r145 = r149 then (κ (x3 + 5) g150) else (some (0 : Int32))))))
set_option maxHeartbeats 4000000 in
set_option maxRecDepth 100000 in
theorem vlaw_c12 {x : Cq} {n : Nat} {Z : Zt} {a1 a2 b L : Nat} {xw : Nat → Int32} {κ : Int32 → Mem → Option Int32} {x3 : Int32} {g : Mem} (hL : Cl x b L xw) (hA : Lv x Z) (hκ : ∀ (y3 : Int32) (y : Mem), κ y3 y = some 1 → V x Z 1483 67748 18 [(0, va_rf (some b)), (1, va_rf (some a1)), (2, va_rf (some a2)), (3, .int y3)] [] y) (h : f_law_c12 n Z a1 a2 L xw κ x3 g = some 1) : V x Z 1483 67748 496 [(0, va_rf (some b)), (1, va_rf (some a1)), (2, va_rf (some a2)), (3, .int x3)] [] g := by
  have hC : Cx x code RL 8 := hL.1
  unfold f_law_c12 at h
  refine V_aload_n hC 1 dL_law_496 rfl rfl ?_
  refine V_aload_n hC 0 dL_law_497 rfl rfl ?_
  refine V_iload_n hC 3 dL_law_498 rfl rfl ?_
  refine V_iconst (v := 1) hC dL_law_499 (by decide) ?_
  refine V_iadd hC dL_law_500 ?_
  replace h := grd_some h
  obtain ⟨c144, h⟩ := h
  refine V_sld hL c144 dL_law_501 ?_
  replace h := bnd_some h
  obtain ⟨r145, g146, e147, h⟩ := h
  refine V_callV (As := [.int (xw (x3 + (1 : Int32)).toNatClampNeg)]) (c := 8) (T := TX10) (N := 10) hC hA mq_X10_columns mi_X10_columns tw_822 (hL.d (by decide)) (hL.r (by decide)) rfl (by omega) (zc_X10_columns e147) (vm_X10_columns e147) rfl (Nat.le_of_ble_eq_true rfl) dL_law_502 ?_
  refine V_aload_n hC 2 dL_law_505 rfl rfl ?_
  refine V_aload_n hC 0 dL_law_506 rfl rfl ?_
  refine V_iload_n hC 3 dL_law_507 rfl rfl ?_
  refine V_iconst (v := 1) hC dL_law_508 (by decide) ?_
  refine V_iadd hC dL_law_509 ?_
  replace h := grd_some h
  obtain ⟨c148, h⟩ := h
  refine V_sld hL c148 dL_law_510 ?_
  replace h := bnd_some h
  obtain ⟨r149, g150, e151, h⟩ := h
  refine V_callV (As := [.int (xw (x3 + (1 : Int32)).toNatClampNeg)]) (c := 9) (T := TX11) (N := 32) hC hA mq_X11_columns mi_X11_columns tw_826 (hL.d (by decide)) (hL.r (by decide)) rfl (by omega) (zc_X11_columns e151) (vm_X11_columns e151) rfl (Nat.le_of_ble_eq_true rfl) dL_law_511 ?_
  refine V_icmp_eq hC 1189 dL_law_514 (by decide) (fun c152 => ?_) (fun c152 => ?_)
  · replace h := ite_p h c152
    refine V_iinc (v := (x3 + 5)) (L' := [(3, .int (x3 + 5)), (0, va_rf (some b)), (1, va_rf (some a1)), (2, va_rf (some a2))]) hC 3 dL_law_1189 rfl rfl (by decide) rfl ?_
    refine V_goto hC 18 dL_law_1192 (by decide) ?_
    refine V_sub [1, 2, 3, 0] rfl ?_
    exact hκ _ _ h
  · replace h := ite_n h c152
    refine V_iconst (v := 0) hC dL_law_517 (by decide) ?_
    exact absurd h (by decide)
def f_law_c13 (n : Nat) (Z : Zt) (a1 a2 L : Nat) (xw : Nat → Int32) (κ : Int32 → Mem → Option Int32) (x3 : Int32) (g : Mem) : Option Int32 := bnd (f_X10_tags n Z a1 g) (fun r154 g155 => bnd (f_X11_tags n Z a2 g155) (fun r157 g158 => if r154 = r157 then (κ (x3 + 5) g158) else (some (0 : Int32))))
set_option maxHeartbeats 4000000 in
set_option maxRecDepth 100000 in
theorem vlaw_c13 {x : Cq} {n : Nat} {Z : Zt} {a1 a2 b L : Nat} {xw : Nat → Int32} {κ : Int32 → Mem → Option Int32} {x3 : Int32} {g : Mem} (hL : Cl x b L xw) (hA : Lv x Z) (hκ : ∀ (y3 : Int32) (y : Mem), κ y3 y = some 1 → V x Z 1483 67748 18 [(0, va_rf (some b)), (1, va_rf (some a1)), (2, va_rf (some a2)), (3, .int y3)] [] y) (h : f_law_c13 n Z a1 a2 L xw κ x3 g = some 1) : V x Z 1483 67748 519 [(0, va_rf (some b)), (1, va_rf (some a1)), (2, va_rf (some a2)), (3, .int x3)] [] g := by
  have hC : Cx x code RL 8 := hL.1
  unfold f_law_c13 at h
  refine V_aload_n hC 1 dL_law_519 rfl rfl ?_
  replace h := bnd_some h
  obtain ⟨r154, g155, e156, h⟩ := h
  refine V_callV (As := []) (c := 8) (T := TX10) (N := 10) hC hA mq_X10_tags mi_X10_tags tw_830 (hL.d (by decide)) (hL.r (by decide)) rfl (by omega) (zc_X10_tags e156) (vm_X10_tags e156) rfl (Nat.le_of_ble_eq_true rfl) dL_law_520 ?_
  refine V_aload_n hC 2 dL_law_523 rfl rfl ?_
  replace h := bnd_some h
  obtain ⟨r157, g158, e159, h⟩ := h
  refine V_callV (As := []) (c := 9) (T := TX11) (N := 32) hC hA mq_X11_tags mi_X11_tags tw_834 (hL.d (by decide)) (hL.r (by decide)) rfl (by omega) (zc_X11_tags e159) (vm_X11_tags e159) rfl (Nat.le_of_ble_eq_true rfl) dL_law_524 ?_
  refine V_icmp_eq hC 1189 dL_law_527 (by decide) (fun c160 => ?_) (fun c160 => ?_)
  · replace h := ite_p h c160
    refine V_iinc (v := (x3 + 5)) (L' := [(3, .int (x3 + 5)), (0, va_rf (some b)), (1, va_rf (some a1)), (2, va_rf (some a2))]) hC 3 dL_law_1189 rfl rfl (by decide) rfl ?_
    refine V_goto hC 18 dL_law_1192 (by decide) ?_
    refine V_sub [1, 2, 3, 0] rfl ?_
    exact hκ _ _ h
  · replace h := ite_n h c160
    refine V_iconst (v := 0) hC dL_law_530 (by decide) ?_
    exact absurd h (by decide)
def f_law_c14 (n : Nat) (Z : Zt) (a1 a2 L : Nat) (xw : Nat → Int32) (κ : Int32 → Mem → Option Int32) (x3 : Int32) (g : Mem) : Option Int32 := bnd (f_X10_withdrawn n Z a1 g) (fun r162 g163 => bnd (f_X11_withdrawn n Z a2 g163) (fun r165 g166 => if r162 = r165 then (κ (x3 + 5) g166) else (some (0 : Int32))))
set_option maxHeartbeats 4000000 in
set_option maxRecDepth 100000 in
theorem vlaw_c14 {x : Cq} {n : Nat} {Z : Zt} {a1 a2 b L : Nat} {xw : Nat → Int32} {κ : Int32 → Mem → Option Int32} {x3 : Int32} {g : Mem} (hL : Cl x b L xw) (hA : Lv x Z) (hκ : ∀ (y3 : Int32) (y : Mem), κ y3 y = some 1 → V x Z 1483 67748 18 [(0, va_rf (some b)), (1, va_rf (some a1)), (2, va_rf (some a2)), (3, .int y3)] [] y) (h : f_law_c14 n Z a1 a2 L xw κ x3 g = some 1) : V x Z 1483 67748 532 [(0, va_rf (some b)), (1, va_rf (some a1)), (2, va_rf (some a2)), (3, .int x3)] [] g := by
  have hC : Cx x code RL 8 := hL.1
  unfold f_law_c14 at h
  refine V_aload_n hC 1 dL_law_532 rfl rfl ?_
  replace h := bnd_some h
  obtain ⟨r162, g163, e164, h⟩ := h
  refine V_callV (As := []) (c := 8) (T := TX10) (N := 10) hC hA mq_X10_withdrawn mi_X10_withdrawn tw_838 (hL.d (by decide)) (hL.r (by decide)) rfl (by omega) (zc_X10_withdrawn e164) (vm_X10_withdrawn e164) rfl (Nat.le_of_ble_eq_true rfl) dL_law_533 ?_
  refine V_aload_n hC 2 dL_law_536 rfl rfl ?_
  replace h := bnd_some h
  obtain ⟨r165, g166, e167, h⟩ := h
  refine V_callV (As := []) (c := 9) (T := TX11) (N := 32) hC hA mq_X11_withdrawn mi_X11_withdrawn tw_842 (hL.d (by decide)) (hL.r (by decide)) rfl (by omega) (zc_X11_withdrawn e167) (vm_X11_withdrawn e167) rfl (Nat.le_of_ble_eq_true rfl) dL_law_537 ?_
  refine V_icmp_eq hC 1189 dL_law_540 (by decide) (fun c168 => ?_) (fun c168 => ?_)
  · replace h := ite_p h c168
    refine V_iinc (v := (x3 + 5)) (L' := [(3, .int (x3 + 5)), (0, va_rf (some b)), (1, va_rf (some a1)), (2, va_rf (some a2))]) hC 3 dL_law_1189 rfl rfl (by decide) rfl ?_
    refine V_goto hC 18 dL_law_1192 (by decide) ?_
    refine V_sub [1, 2, 3, 0] rfl ?_
    exact hκ _ _ h
  · replace h := ite_n h c168
    refine V_iconst (v := 0) hC dL_law_543 (by decide) ?_
    exact absurd h (by decide)
def f_law_c15 (n : Nat) (Z : Zt) (a1 a2 L : Nat) (xw : Nat → Int32) (κ : Int32 → Mem → Option Int32) (x3 : Int32) (g : Mem) : Option Int32 := grd (inr (x3 + (1 : Int32)) L) (bnd (f_X10_tableOf n Z a1 (xw (x3 + (1 : Int32)).toNatClampNeg) g) (fun r171 g172 => grd (inr (x3 + (1 : Int32)) L) (bnd (f_X11_tableOf n Z a2 (xw (x3 + (1 : Int32)).toNatClampNeg) g172) (fun r175 g176 => if r171 = r175 then (κ (x3 + 5) g176) else (some (0 : Int32))))))
set_option maxHeartbeats 4000000 in
set_option maxRecDepth 100000 in
theorem vlaw_c15 {x : Cq} {n : Nat} {Z : Zt} {a1 a2 b L : Nat} {xw : Nat → Int32} {κ : Int32 → Mem → Option Int32} {x3 : Int32} {g : Mem} (hL : Cl x b L xw) (hA : Lv x Z) (hκ : ∀ (y3 : Int32) (y : Mem), κ y3 y = some 1 → V x Z 1483 67748 18 [(0, va_rf (some b)), (1, va_rf (some a1)), (2, va_rf (some a2)), (3, .int y3)] [] y) (h : f_law_c15 n Z a1 a2 L xw κ x3 g = some 1) : V x Z 1483 67748 545 [(0, va_rf (some b)), (1, va_rf (some a1)), (2, va_rf (some a2)), (3, .int x3)] [] g := by
  have hC : Cx x code RL 8 := hL.1
  unfold f_law_c15 at h
  refine V_aload_n hC 1 dL_law_545 rfl rfl ?_
  refine V_aload_n hC 0 dL_law_546 rfl rfl ?_
  refine V_iload_n hC 3 dL_law_547 rfl rfl ?_
  refine V_iconst (v := 1) hC dL_law_548 (by decide) ?_
  refine V_iadd hC dL_law_549 ?_
  replace h := grd_some h
  obtain ⟨c170, h⟩ := h
  refine V_sld hL c170 dL_law_550 ?_
  replace h := bnd_some h
  obtain ⟨r171, g172, e173, h⟩ := h
  refine V_callV (As := [.int (xw (x3 + (1 : Int32)).toNatClampNeg)]) (c := 8) (T := TX10) (N := 10) hC hA mq_X10_tableOf mi_X10_tableOf tw_846 (hL.d (by decide)) (hL.r (by decide)) rfl (by omega) (zc_X10_tableOf e173) (vm_X10_tableOf e173) rfl (Nat.le_of_ble_eq_true rfl) dL_law_551 ?_
  refine V_aload_n hC 2 dL_law_554 rfl rfl ?_
  refine V_aload_n hC 0 dL_law_555 rfl rfl ?_
  refine V_iload_n hC 3 dL_law_556 rfl rfl ?_
  refine V_iconst (v := 1) hC dL_law_557 (by decide) ?_
  refine V_iadd hC dL_law_558 ?_
  replace h := grd_some h
  obtain ⟨c174, h⟩ := h
  refine V_sld hL c174 dL_law_559 ?_
  replace h := bnd_some h
  obtain ⟨r175, g176, e177, h⟩ := h
  refine V_callV (As := [.int (xw (x3 + (1 : Int32)).toNatClampNeg)]) (c := 9) (T := TX11) (N := 32) hC hA mq_X11_tableOf mi_X11_tableOf tw_851 (hL.d (by decide)) (hL.r (by decide)) rfl (by omega) (zc_X11_tableOf e177) (vm_X11_tableOf e177) rfl (Nat.le_of_ble_eq_true rfl) dL_law_560 ?_
  refine V_icmp_eq hC 1189 dL_law_563 (by decide) (fun c178 => ?_) (fun c178 => ?_)
  · replace h := ite_p h c178
    refine V_iinc (v := (x3 + 5)) (L' := [(3, .int (x3 + 5)), (0, va_rf (some b)), (1, va_rf (some a1)), (2, va_rf (some a2))]) hC 3 dL_law_1189 rfl rfl (by decide) rfl ?_
    refine V_goto hC 18 dL_law_1192 (by decide) ?_
    refine V_sub [1, 2, 3, 0] rfl ?_
    exact hκ _ _ h
  · replace h := ite_n h c178
    refine V_iconst (v := 0) hC dL_law_566 (by decide) ?_
    exact absurd h (by decide)
def f_law_c16 (n : Nat) (Z : Zt) (a1 a2 L : Nat) (xw : Nat → Int32) (κ : Int32 → Mem → Option Int32) (x3 : Int32) (g : Mem) : Option Int32 := grd (inr (x3 + (1 : Int32)) L) (grd (inr (x3 + (2 : Int32)) L) (bnd (f_X10_value n Z a1 (xw (x3 + (1 : Int32)).toNatClampNeg) (xw (x3 + (2 : Int32)).toNatClampNeg) g) (fun r182 g183 => grd (inr (x3 + (1 : Int32)) L) (grd (inr (x3 + (2 : Int32)) L) (bnd (f_X11_value n Z a2 (xw (x3 + (1 : Int32)).toNatClampNeg) (xw (x3 + (2 : Int32)).toNatClampNeg) g183) (fun r187 g188 => if r182 = r187 then (κ (x3 + 5) g188) else (some (0 : Int32))))))))
set_option maxHeartbeats 4000000 in
set_option maxRecDepth 100000 in
theorem vlaw_c16 {x : Cq} {n : Nat} {Z : Zt} {a1 a2 b L : Nat} {xw : Nat → Int32} {κ : Int32 → Mem → Option Int32} {x3 : Int32} {g : Mem} (hL : Cl x b L xw) (hA : Lv x Z) (hκ : ∀ (y3 : Int32) (y : Mem), κ y3 y = some 1 → V x Z 1483 67748 18 [(0, va_rf (some b)), (1, va_rf (some a1)), (2, va_rf (some a2)), (3, .int y3)] [] y) (h : f_law_c16 n Z a1 a2 L xw κ x3 g = some 1) : V x Z 1483 67748 568 [(0, va_rf (some b)), (1, va_rf (some a1)), (2, va_rf (some a2)), (3, .int x3)] [] g := by
  have hC : Cx x code RL 8 := hL.1
  unfold f_law_c16 at h
  refine V_aload_n hC 1 dL_law_568 rfl rfl ?_
  refine V_aload_n hC 0 dL_law_569 rfl rfl ?_
  refine V_iload_n hC 3 dL_law_570 rfl rfl ?_
  refine V_iconst (v := 1) hC dL_law_571 (by decide) ?_
  refine V_iadd hC dL_law_572 ?_
  replace h := grd_some h
  obtain ⟨c180, h⟩ := h
  refine V_sld hL c180 dL_law_573 ?_
  refine V_aload_n hC 0 dL_law_574 rfl rfl ?_
  refine V_iload_n hC 3 dL_law_575 rfl rfl ?_
  refine V_iconst (v := 2) hC dL_law_576 (by decide) ?_
  refine V_iadd hC dL_law_577 ?_
  replace h := grd_some h
  obtain ⟨c181, h⟩ := h
  refine V_sld hL c181 dL_law_578 ?_
  replace h := bnd_some h
  obtain ⟨r182, g183, e184, h⟩ := h
  refine V_callV (As := [.int (xw (x3 + (1 : Int32)).toNatClampNeg), .int (xw (x3 + (2 : Int32)).toNatClampNeg)]) (c := 8) (T := TX10) (N := 10) hC hA mq_X10_value mi_X10_value tw_855 (hL.d (by decide)) (hL.r (by decide)) rfl (by omega) (zc_X10_value e184) (vm_X10_value e184) rfl (Nat.le_of_ble_eq_true rfl) dL_law_579 ?_
  refine V_aload_n hC 2 dL_law_582 rfl rfl ?_
  refine V_aload_n hC 0 dL_law_583 rfl rfl ?_
  refine V_iload_n hC 3 dL_law_584 rfl rfl ?_
  refine V_iconst (v := 1) hC dL_law_585 (by decide) ?_
  refine V_iadd hC dL_law_586 ?_
  replace h := grd_some h
  obtain ⟨c185, h⟩ := h
  refine V_sld hL c185 dL_law_587 ?_
  refine V_aload_n hC 0 dL_law_588 rfl rfl ?_
  refine V_iload_n hC 3 dL_law_589 rfl rfl ?_
  refine V_iconst (v := 2) hC dL_law_590 (by decide) ?_
  refine V_iadd hC dL_law_591 ?_
  replace h := grd_some h
  obtain ⟨c186, h⟩ := h
  refine V_sld hL c186 dL_law_592 ?_
  replace h := bnd_some h
  obtain ⟨r187, g188, e189, h⟩ := h
  refine V_callV (As := [.int (xw (x3 + (1 : Int32)).toNatClampNeg), .int (xw (x3 + (2 : Int32)).toNatClampNeg)]) (c := 9) (T := TX11) (N := 32) hC hA mq_X11_value mi_X11_value tw_861 (hL.d (by decide)) (hL.r (by decide)) rfl (by omega) (zc_X11_value e189) (vm_X11_value e189) rfl (Nat.le_of_ble_eq_true rfl) dL_law_593 ?_
  refine V_icmp_eq hC 1189 dL_law_596 (by decide) (fun c190 => ?_) (fun c190 => ?_)
  · replace h := ite_p h c190
    refine V_iinc (v := (x3 + 5)) (L' := [(3, .int (x3 + 5)), (0, va_rf (some b)), (1, va_rf (some a1)), (2, va_rf (some a2))]) hC 3 dL_law_1189 rfl rfl (by decide) rfl ?_
    refine V_goto hC 18 dL_law_1192 (by decide) ?_
    refine V_sub [1, 2, 3, 0] rfl ?_
    exact hκ _ _ h
  · replace h := ite_n h c190
    refine V_iconst (v := 0) hC dL_law_599 (by decide) ?_
    exact absurd h (by decide)
def f_law_c17 (n : Nat) (Z : Zt) (a1 a2 L : Nat) (xw : Nat → Int32) (κ : Int32 → Mem → Option Int32) (x3 : Int32) (g : Mem) : Option Int32 := grd (inr (x3 + (1 : Int32)) L) (bnd (f_X10_cost n Z a1 (xw (x3 + (1 : Int32)).toNatClampNeg) g) (fun r193 g194 => grd (inr (x3 + (1 : Int32)) L) (bnd (f_X11_cost n Z a2 (xw (x3 + (1 : Int32)).toNatClampNeg) g194) (fun r197 g198 => if r193 = r197 then (κ (x3 + 5) g198) else (some (0 : Int32))))))
set_option maxHeartbeats 4000000 in
set_option maxRecDepth 100000 in
theorem vlaw_c17 {x : Cq} {n : Nat} {Z : Zt} {a1 a2 b L : Nat} {xw : Nat → Int32} {κ : Int32 → Mem → Option Int32} {x3 : Int32} {g : Mem} (hL : Cl x b L xw) (hA : Lv x Z) (hκ : ∀ (y3 : Int32) (y : Mem), κ y3 y = some 1 → V x Z 1483 67748 18 [(0, va_rf (some b)), (1, va_rf (some a1)), (2, va_rf (some a2)), (3, .int y3)] [] y) (h : f_law_c17 n Z a1 a2 L xw κ x3 g = some 1) : V x Z 1483 67748 601 [(0, va_rf (some b)), (1, va_rf (some a1)), (2, va_rf (some a2)), (3, .int x3)] [] g := by
  have hC : Cx x code RL 8 := hL.1
  unfold f_law_c17 at h
  refine V_aload_n hC 1 dL_law_601 rfl rfl ?_
  refine V_aload_n hC 0 dL_law_602 rfl rfl ?_
  refine V_iload_n hC 3 dL_law_603 rfl rfl ?_
  refine V_iconst (v := 1) hC dL_law_604 (by decide) ?_
  refine V_iadd hC dL_law_605 ?_
  replace h := grd_some h
  obtain ⟨c192, h⟩ := h
  refine V_sld hL c192 dL_law_606 ?_
  replace h := bnd_some h
  obtain ⟨r193, g194, e195, h⟩ := h
  refine V_callV (As := [.int (xw (x3 + (1 : Int32)).toNatClampNeg)]) (c := 8) (T := TX10) (N := 10) hC hA mq_X10_cost mi_X10_cost tw_865 (hL.d (by decide)) (hL.r (by decide)) rfl (by omega) (zc_X10_cost e195) (vm_X10_cost e195) rfl (Nat.le_of_ble_eq_true rfl) dL_law_607 ?_
  refine V_aload_n hC 2 dL_law_610 rfl rfl ?_
  refine V_aload_n hC 0 dL_law_611 rfl rfl ?_
  refine V_iload_n hC 3 dL_law_612 rfl rfl ?_
  refine V_iconst (v := 1) hC dL_law_613 (by decide) ?_
  refine V_iadd hC dL_law_614 ?_
  replace h := grd_some h
  obtain ⟨c196, h⟩ := h
  refine V_sld hL c196 dL_law_615 ?_
  replace h := bnd_some h
  obtain ⟨r197, g198, e199, h⟩ := h
  refine V_callV (As := [.int (xw (x3 + (1 : Int32)).toNatClampNeg)]) (c := 9) (T := TX11) (N := 32) hC hA mq_X11_cost mi_X11_cost tw_869 (hL.d (by decide)) (hL.r (by decide)) rfl (by omega) (zc_X11_cost e199) (vm_X11_cost e199) rfl (Nat.le_of_ble_eq_true rfl) dL_law_616 ?_
  refine V_icmp_eq hC 1189 dL_law_619 (by decide) (fun c200 => ?_) (fun c200 => ?_)
  · replace h := ite_p h c200
    refine V_iinc (v := (x3 + 5)) (L' := [(3, .int (x3 + 5)), (0, va_rf (some b)), (1, va_rf (some a1)), (2, va_rf (some a2))]) hC 3 dL_law_1189 rfl rfl (by decide) rfl ?_
    refine V_goto hC 18 dL_law_1192 (by decide) ?_
    refine V_sub [1, 2, 3, 0] rfl ?_
    exact hκ _ _ h
  · replace h := ite_n h c200
    refine V_iconst (v := 0) hC dL_law_622 (by decide) ?_
    exact absurd h (by decide)
def f_law_c18 (n : Nat) (Z : Zt) (a1 a2 L : Nat) (xw : Nat → Int32) (κ : Int32 → Mem → Option Int32) (x3 : Int32) (g : Mem) : Option Int32 := grd (inr (x3 + (1 : Int32)) L) (bnd (f_X10_trust n Z a1 (xw (x3 + (1 : Int32)).toNatClampNeg) g) (fun r203 g204 => grd (inr (x3 + (1 : Int32)) L) (bnd (f_X11_trust n Z a2 (xw (x3 + (1 : Int32)).toNatClampNeg) g204) (fun r207 g208 => if r203 = r207 then (κ (x3 + 5) g208) else (some (0 : Int32))))))
set_option maxHeartbeats 4000000 in
set_option maxRecDepth 100000 in
theorem vlaw_c18 {x : Cq} {n : Nat} {Z : Zt} {a1 a2 b L : Nat} {xw : Nat → Int32} {κ : Int32 → Mem → Option Int32} {x3 : Int32} {g : Mem} (hL : Cl x b L xw) (hA : Lv x Z) (hκ : ∀ (y3 : Int32) (y : Mem), κ y3 y = some 1 → V x Z 1483 67748 18 [(0, va_rf (some b)), (1, va_rf (some a1)), (2, va_rf (some a2)), (3, .int y3)] [] y) (h : f_law_c18 n Z a1 a2 L xw κ x3 g = some 1) : V x Z 1483 67748 624 [(0, va_rf (some b)), (1, va_rf (some a1)), (2, va_rf (some a2)), (3, .int x3)] [] g := by
  have hC : Cx x code RL 8 := hL.1
  unfold f_law_c18 at h
  refine V_aload_n hC 1 dL_law_624 rfl rfl ?_
  refine V_aload_n hC 0 dL_law_625 rfl rfl ?_
  refine V_iload_n hC 3 dL_law_626 rfl rfl ?_
  refine V_iconst (v := 1) hC dL_law_627 (by decide) ?_
  refine V_iadd hC dL_law_628 ?_
  replace h := grd_some h
  obtain ⟨c202, h⟩ := h
  refine V_sld hL c202 dL_law_629 ?_
  replace h := bnd_some h
  obtain ⟨r203, g204, e205, h⟩ := h
  refine V_callV (As := [.int (xw (x3 + (1 : Int32)).toNatClampNeg)]) (c := 8) (T := TX10) (N := 10) hC hA mq_X10_trust mi_X10_trust tw_873 (hL.d (by decide)) (hL.r (by decide)) rfl (by omega) (zc_X10_trust e205) (vm_X10_trust e205) rfl (Nat.le_of_ble_eq_true rfl) dL_law_630 ?_
  refine V_aload_n hC 2 dL_law_633 rfl rfl ?_
  refine V_aload_n hC 0 dL_law_634 rfl rfl ?_
  refine V_iload_n hC 3 dL_law_635 rfl rfl ?_
  refine V_iconst (v := 1) hC dL_law_636 (by decide) ?_
  refine V_iadd hC dL_law_637 ?_
  replace h := grd_some h
  obtain ⟨c206, h⟩ := h
  refine V_sld hL c206 dL_law_638 ?_
  replace h := bnd_some h
  obtain ⟨r207, g208, e209, h⟩ := h
  refine V_callV (As := [.int (xw (x3 + (1 : Int32)).toNatClampNeg)]) (c := 9) (T := TX11) (N := 32) hC hA mq_X11_trust mi_X11_trust tw_877 (hL.d (by decide)) (hL.r (by decide)) rfl (by omega) (zc_X11_trust e209) (vm_X11_trust e209) rfl (Nat.le_of_ble_eq_true rfl) dL_law_639 ?_
  refine V_icmp_eq hC 1189 dL_law_642 (by decide) (fun c210 => ?_) (fun c210 => ?_)
  · replace h := ite_p h c210
    refine V_iinc (v := (x3 + 5)) (L' := [(3, .int (x3 + 5)), (0, va_rf (some b)), (1, va_rf (some a1)), (2, va_rf (some a2))]) hC 3 dL_law_1189 rfl rfl (by decide) rfl ?_
    refine V_goto hC 18 dL_law_1192 (by decide) ?_
    refine V_sub [1, 2, 3, 0] rfl ?_
    exact hκ _ _ h
  · replace h := ite_n h c210
    refine V_iconst (v := 0) hC dL_law_645 (by decide) ?_
    exact absurd h (by decide)
def f_law_c19 (n : Nat) (Z : Zt) (a1 a2 L : Nat) (xw : Nat → Int32) (κ : Int32 → Mem → Option Int32) (x3 : Int32) (g : Mem) : Option Int32 := bnd (f_X10_queryLength n Z a1 g) (fun r212 g213 => bnd (f_X11_queryLength n Z a2 g213) (fun r215 g216 => if r212 = r215 then (κ (x3 + 5) g216) else (some (0 : Int32))))
set_option maxHeartbeats 4000000 in
set_option maxRecDepth 100000 in
theorem vlaw_c19 {x : Cq} {n : Nat} {Z : Zt} {a1 a2 b L : Nat} {xw : Nat → Int32} {κ : Int32 → Mem → Option Int32} {x3 : Int32} {g : Mem} (hL : Cl x b L xw) (hA : Lv x Z) (hκ : ∀ (y3 : Int32) (y : Mem), κ y3 y = some 1 → V x Z 1483 67748 18 [(0, va_rf (some b)), (1, va_rf (some a1)), (2, va_rf (some a2)), (3, .int y3)] [] y) (h : f_law_c19 n Z a1 a2 L xw κ x3 g = some 1) : V x Z 1483 67748 647 [(0, va_rf (some b)), (1, va_rf (some a1)), (2, va_rf (some a2)), (3, .int x3)] [] g := by
  have hC : Cx x code RL 8 := hL.1
  unfold f_law_c19 at h
  refine V_aload_n hC 1 dL_law_647 rfl rfl ?_
  replace h := bnd_some h
  obtain ⟨r212, g213, e214, h⟩ := h
  refine V_callV (As := []) (c := 8) (T := TX10) (N := 10) hC hA mq_X10_queryLength mi_X10_queryLength tw_881 (hL.d (by decide)) (hL.r (by decide)) rfl (by omega) (zc_X10_queryLength e214) (vm_X10_queryLength e214) rfl (Nat.le_of_ble_eq_true rfl) dL_law_648 ?_
  refine V_aload_n hC 2 dL_law_651 rfl rfl ?_
  replace h := bnd_some h
  obtain ⟨r215, g216, e217, h⟩ := h
  refine V_callV (As := []) (c := 9) (T := TX11) (N := 32) hC hA mq_X11_queryLength mi_X11_queryLength tw_885 (hL.d (by decide)) (hL.r (by decide)) rfl (by omega) (zc_X11_queryLength e217) (vm_X11_queryLength e217) rfl (Nat.le_of_ble_eq_true rfl) dL_law_652 ?_
  refine V_icmp_eq hC 1189 dL_law_655 (by decide) (fun c218 => ?_) (fun c218 => ?_)
  · replace h := ite_p h c218
    refine V_iinc (v := (x3 + 5)) (L' := [(3, .int (x3 + 5)), (0, va_rf (some b)), (1, va_rf (some a1)), (2, va_rf (some a2))]) hC 3 dL_law_1189 rfl rfl (by decide) rfl ?_
    refine V_goto hC 18 dL_law_1192 (by decide) ?_
    refine V_sub [1, 2, 3, 0] rfl ?_
    exact hκ _ _ h
  · replace h := ite_n h c218
    refine V_iconst (v := 0) hC dL_law_658 (by decide) ?_
    exact absurd h (by decide)
def f_law_c20 (n : Nat) (Z : Zt) (a1 a2 L : Nat) (xw : Nat → Int32) (κ : Int32 → Mem → Option Int32) (x3 : Int32) (g : Mem) : Option Int32 := grd (inr (x3 + (1 : Int32)) L) (bnd (f_X10_queryAt n Z a1 (xw (x3 + (1 : Int32)).toNatClampNeg) g) (fun r221 g222 => grd (inr (x3 + (1 : Int32)) L) (bnd (f_X11_queryAt n Z a2 (xw (x3 + (1 : Int32)).toNatClampNeg) g222) (fun r225 g226 => if r221 = r225 then (κ (x3 + 5) g226) else (some (0 : Int32))))))
set_option maxHeartbeats 4000000 in
set_option maxRecDepth 100000 in
theorem vlaw_c20 {x : Cq} {n : Nat} {Z : Zt} {a1 a2 b L : Nat} {xw : Nat → Int32} {κ : Int32 → Mem → Option Int32} {x3 : Int32} {g : Mem} (hL : Cl x b L xw) (hA : Lv x Z) (hκ : ∀ (y3 : Int32) (y : Mem), κ y3 y = some 1 → V x Z 1483 67748 18 [(0, va_rf (some b)), (1, va_rf (some a1)), (2, va_rf (some a2)), (3, .int y3)] [] y) (h : f_law_c20 n Z a1 a2 L xw κ x3 g = some 1) : V x Z 1483 67748 660 [(0, va_rf (some b)), (1, va_rf (some a1)), (2, va_rf (some a2)), (3, .int x3)] [] g := by
  have hC : Cx x code RL 8 := hL.1
  unfold f_law_c20 at h
  refine V_aload_n hC 1 dL_law_660 rfl rfl ?_
  refine V_aload_n hC 0 dL_law_661 rfl rfl ?_
  refine V_iload_n hC 3 dL_law_662 rfl rfl ?_
  refine V_iconst (v := 1) hC dL_law_663 (by decide) ?_
  refine V_iadd hC dL_law_664 ?_
  replace h := grd_some h
  obtain ⟨c220, h⟩ := h
  refine V_sld hL c220 dL_law_665 ?_
  replace h := bnd_some h
  obtain ⟨r221, g222, e223, h⟩ := h
  refine V_callV (As := [.int (xw (x3 + (1 : Int32)).toNatClampNeg)]) (c := 8) (T := TX10) (N := 10) hC hA mq_X10_queryAt mi_X10_queryAt tw_889 (hL.d (by decide)) (hL.r (by decide)) rfl (by omega) (zc_X10_queryAt e223) (vm_X10_queryAt e223) rfl (Nat.le_of_ble_eq_true rfl) dL_law_666 ?_
  refine V_aload_n hC 2 dL_law_669 rfl rfl ?_
  refine V_aload_n hC 0 dL_law_670 rfl rfl ?_
  refine V_iload_n hC 3 dL_law_671 rfl rfl ?_
  refine V_iconst (v := 1) hC dL_law_672 (by decide) ?_
  refine V_iadd hC dL_law_673 ?_
  replace h := grd_some h
  obtain ⟨c224, h⟩ := h
  refine V_sld hL c224 dL_law_674 ?_
  replace h := bnd_some h
  obtain ⟨r225, g226, e227, h⟩ := h
  refine V_callV (As := [.int (xw (x3 + (1 : Int32)).toNatClampNeg)]) (c := 9) (T := TX11) (N := 32) hC hA mq_X11_queryAt mi_X11_queryAt tw_894 (hL.d (by decide)) (hL.r (by decide)) rfl (by omega) (zc_X11_queryAt e227) (vm_X11_queryAt e227) rfl (Nat.le_of_ble_eq_true rfl) dL_law_675 ?_
  refine V_icmp_eq hC 1189 dL_law_678 (by decide) (fun c228 => ?_) (fun c228 => ?_)
  · replace h := ite_p h c228
    refine V_iinc (v := (x3 + 5)) (L' := [(3, .int (x3 + 5)), (0, va_rf (some b)), (1, va_rf (some a1)), (2, va_rf (some a2))]) hC 3 dL_law_1189 rfl rfl (by decide) rfl ?_
    refine V_goto hC 18 dL_law_1192 (by decide) ?_
    refine V_sub [1, 2, 3, 0] rfl ?_
    exact hκ _ _ h
  · replace h := ite_n h c228
    refine V_iconst (v := 0) hC dL_law_681 (by decide) ?_
    exact absurd h (by decide)
def f_law_c21 (n : Nat) (Z : Zt) (a1 a2 L : Nat) (xw : Nat → Int32) (κ : Int32 → Mem → Option Int32) (x3 : Int32) (g : Mem) : Option Int32 := bnd (f_X10_answerRows n Z a1 g) (fun r230 g231 => bnd (f_X11_answerRows n Z a2 g231) (fun r233 g234 => if r230 = r233 then (κ (x3 + 5) g234) else (some (0 : Int32))))
set_option maxHeartbeats 4000000 in
set_option maxRecDepth 100000 in
theorem vlaw_c21 {x : Cq} {n : Nat} {Z : Zt} {a1 a2 b L : Nat} {xw : Nat → Int32} {κ : Int32 → Mem → Option Int32} {x3 : Int32} {g : Mem} (hL : Cl x b L xw) (hA : Lv x Z) (hκ : ∀ (y3 : Int32) (y : Mem), κ y3 y = some 1 → V x Z 1483 67748 18 [(0, va_rf (some b)), (1, va_rf (some a1)), (2, va_rf (some a2)), (3, .int y3)] [] y) (h : f_law_c21 n Z a1 a2 L xw κ x3 g = some 1) : V x Z 1483 67748 683 [(0, va_rf (some b)), (1, va_rf (some a1)), (2, va_rf (some a2)), (3, .int x3)] [] g := by
  have hC : Cx x code RL 8 := hL.1
  unfold f_law_c21 at h
  refine V_aload_n hC 1 dL_law_683 rfl rfl ?_
  replace h := bnd_some h
  obtain ⟨r230, g231, e232, h⟩ := h
  refine V_callV (As := []) (c := 8) (T := TX10) (N := 10) hC hA mq_X10_answerRows mi_X10_answerRows tw_898 (hL.d (by decide)) (hL.r (by decide)) rfl (by omega) (zc_X10_answerRows e232) (vm_X10_answerRows e232) rfl (Nat.le_of_ble_eq_true rfl) dL_law_684 ?_
  refine V_aload_n hC 2 dL_law_687 rfl rfl ?_
  replace h := bnd_some h
  obtain ⟨r233, g234, e235, h⟩ := h
  refine V_callV (As := []) (c := 9) (T := TX11) (N := 32) hC hA mq_X11_answerRows mi_X11_answerRows tw_899 (hL.d (by decide)) (hL.r (by decide)) rfl (by omega) (zc_X11_answerRows e235) (vm_X11_answerRows e235) rfl (Nat.le_of_ble_eq_true rfl) dL_law_688 ?_
  refine V_icmp_eq hC 1189 dL_law_691 (by decide) (fun c236 => ?_) (fun c236 => ?_)
  · replace h := ite_p h c236
    refine V_iinc (v := (x3 + 5)) (L' := [(3, .int (x3 + 5)), (0, va_rf (some b)), (1, va_rf (some a1)), (2, va_rf (some a2))]) hC 3 dL_law_1189 rfl rfl (by decide) rfl ?_
    refine V_goto hC 18 dL_law_1192 (by decide) ?_
    refine V_sub [1, 2, 3, 0] rfl ?_
    exact hκ _ _ h
  · replace h := ite_n h c236
    refine V_iconst (v := 0) hC dL_law_694 (by decide) ?_
    exact absurd h (by decide)
def f_law_c22 (n : Nat) (Z : Zt) (a1 a2 L : Nat) (xw : Nat → Int32) (κ : Int32 → Mem → Option Int32) (x3 : Int32) (g : Mem) : Option Int32 := bnd (f_X10_answerColumns n Z a1 g) (fun r238 g239 => bnd (f_X11_answerColumns n Z a2 g239) (fun r241 g242 => if r238 = r241 then (κ (x3 + 5) g242) else (some (0 : Int32))))
set_option maxHeartbeats 4000000 in
set_option maxRecDepth 100000 in
theorem vlaw_c22 {x : Cq} {n : Nat} {Z : Zt} {a1 a2 b L : Nat} {xw : Nat → Int32} {κ : Int32 → Mem → Option Int32} {x3 : Int32} {g : Mem} (hL : Cl x b L xw) (hA : Lv x Z) (hκ : ∀ (y3 : Int32) (y : Mem), κ y3 y = some 1 → V x Z 1483 67748 18 [(0, va_rf (some b)), (1, va_rf (some a1)), (2, va_rf (some a2)), (3, .int y3)] [] y) (h : f_law_c22 n Z a1 a2 L xw κ x3 g = some 1) : V x Z 1483 67748 696 [(0, va_rf (some b)), (1, va_rf (some a1)), (2, va_rf (some a2)), (3, .int x3)] [] g := by
  have hC : Cx x code RL 8 := hL.1
  unfold f_law_c22 at h
  refine V_aload_n hC 1 dL_law_696 rfl rfl ?_
  replace h := bnd_some h
  obtain ⟨r238, g239, e240, h⟩ := h
  refine V_callV (As := []) (c := 8) (T := TX10) (N := 10) hC hA mq_X10_answerColumns mi_X10_answerColumns tw_903 (hL.d (by decide)) (hL.r (by decide)) rfl (by omega) (zc_X10_answerColumns e240) (vm_X10_answerColumns e240) rfl (Nat.le_of_ble_eq_true rfl) dL_law_697 ?_
  refine V_aload_n hC 2 dL_law_700 rfl rfl ?_
  replace h := bnd_some h
  obtain ⟨r241, g242, e243, h⟩ := h
  refine V_callV (As := []) (c := 9) (T := TX11) (N := 32) hC hA mq_X11_answerColumns mi_X11_answerColumns tw_908 (hL.d (by decide)) (hL.r (by decide)) rfl (by omega) (zc_X11_answerColumns e243) (vm_X11_answerColumns e243) rfl (Nat.le_of_ble_eq_true rfl) dL_law_701 ?_
  refine V_icmp_eq hC 1189 dL_law_704 (by decide) (fun c244 => ?_) (fun c244 => ?_)
  · replace h := ite_p h c244
    refine V_iinc (v := (x3 + 5)) (L' := [(3, .int (x3 + 5)), (0, va_rf (some b)), (1, va_rf (some a1)), (2, va_rf (some a2))]) hC 3 dL_law_1189 rfl rfl (by decide) rfl ?_
    refine V_goto hC 18 dL_law_1192 (by decide) ?_
    refine V_sub [1, 2, 3, 0] rfl ?_
    exact hκ _ _ h
  · replace h := ite_n h c244
    refine V_iconst (v := 0) hC dL_law_707 (by decide) ?_
    exact absurd h (by decide)
def f_law_c23 (n : Nat) (Z : Zt) (a1 a2 L : Nat) (xw : Nat → Int32) (κ : Int32 → Mem → Option Int32) (x3 : Int32) (g : Mem) : Option Int32 := grd (inr (x3 + (1 : Int32)) L) (grd (inr (x3 + (2 : Int32)) L) (bnd (f_X10_answerValue n Z a1 (xw (x3 + (1 : Int32)).toNatClampNeg) (xw (x3 + (2 : Int32)).toNatClampNeg) g) (fun r248 g249 => grd (inr (x3 + (1 : Int32)) L) (grd (inr (x3 + (2 : Int32)) L) (bnd (f_X11_answerValue n Z a2 (xw (x3 + (1 : Int32)).toNatClampNeg) (xw (x3 + (2 : Int32)).toNatClampNeg) g249) (fun r253 g254 => if r248 = r253 then (κ (x3 + 5) g254) else (some (0 : Int32))))))))
set_option maxHeartbeats 4000000 in
set_option maxRecDepth 100000 in
theorem vlaw_c23 {x : Cq} {n : Nat} {Z : Zt} {a1 a2 b L : Nat} {xw : Nat → Int32} {κ : Int32 → Mem → Option Int32} {x3 : Int32} {g : Mem} (hL : Cl x b L xw) (hA : Lv x Z) (hκ : ∀ (y3 : Int32) (y : Mem), κ y3 y = some 1 → V x Z 1483 67748 18 [(0, va_rf (some b)), (1, va_rf (some a1)), (2, va_rf (some a2)), (3, .int y3)] [] y) (h : f_law_c23 n Z a1 a2 L xw κ x3 g = some 1) : V x Z 1483 67748 709 [(0, va_rf (some b)), (1, va_rf (some a1)), (2, va_rf (some a2)), (3, .int x3)] [] g := by
  have hC : Cx x code RL 8 := hL.1
  unfold f_law_c23 at h
  refine V_aload_n hC 1 dL_law_709 rfl rfl ?_
  refine V_aload_n hC 0 dL_law_710 rfl rfl ?_
  refine V_iload_n hC 3 dL_law_711 rfl rfl ?_
  refine V_iconst (v := 1) hC dL_law_712 (by decide) ?_
  refine V_iadd hC dL_law_713 ?_
  replace h := grd_some h
  obtain ⟨c246, h⟩ := h
  refine V_sld hL c246 dL_law_714 ?_
  refine V_aload_n hC 0 dL_law_715 rfl rfl ?_
  refine V_iload_n hC 3 dL_law_716 rfl rfl ?_
  refine V_iconst (v := 2) hC dL_law_717 (by decide) ?_
  refine V_iadd hC dL_law_718 ?_
  replace h := grd_some h
  obtain ⟨c247, h⟩ := h
  refine V_sld hL c247 dL_law_719 ?_
  replace h := bnd_some h
  obtain ⟨r248, g249, e250, h⟩ := h
  refine V_callV (As := [.int (xw (x3 + (1 : Int32)).toNatClampNeg), .int (xw (x3 + (2 : Int32)).toNatClampNeg)]) (c := 8) (T := TX10) (N := 10) hC hA mq_X10_answerValue mi_X10_answerValue tw_912 (hL.d (by decide)) (hL.r (by decide)) rfl (by omega) (zc_X10_answerValue e250) (vm_X10_answerValue e250) rfl (Nat.le_of_ble_eq_true rfl) dL_law_720 ?_
  refine V_aload_n hC 2 dL_law_723 rfl rfl ?_
  refine V_aload_n hC 0 dL_law_724 rfl rfl ?_
  refine V_iload_n hC 3 dL_law_725 rfl rfl ?_
  refine V_iconst (v := 1) hC dL_law_726 (by decide) ?_
  refine V_iadd hC dL_law_727 ?_
  replace h := grd_some h
  obtain ⟨c251, h⟩ := h
  refine V_sld hL c251 dL_law_728 ?_
  refine V_aload_n hC 0 dL_law_729 rfl rfl ?_
  refine V_iload_n hC 3 dL_law_730 rfl rfl ?_
  refine V_iconst (v := 2) hC dL_law_731 (by decide) ?_
  refine V_iadd hC dL_law_732 ?_
  replace h := grd_some h
  obtain ⟨c252, h⟩ := h
  refine V_sld hL c252 dL_law_733 ?_
  replace h := bnd_some h
  obtain ⟨r253, g254, e255, h⟩ := h
  refine V_callV (As := [.int (xw (x3 + (1 : Int32)).toNatClampNeg), .int (xw (x3 + (2 : Int32)).toNatClampNeg)]) (c := 9) (T := TX11) (N := 32) hC hA mq_X11_answerValue mi_X11_answerValue tw_918 (hL.d (by decide)) (hL.r (by decide)) rfl (by omega) (zc_X11_answerValue e255) (vm_X11_answerValue e255) rfl (Nat.le_of_ble_eq_true rfl) dL_law_734 ?_
  refine V_icmp_eq hC 1189 dL_law_737 (by decide) (fun c256 => ?_) (fun c256 => ?_)
  · replace h := ite_p h c256
    refine V_iinc (v := (x3 + 5)) (L' := [(3, .int (x3 + 5)), (0, va_rf (some b)), (1, va_rf (some a1)), (2, va_rf (some a2))]) hC 3 dL_law_1189 rfl rfl (by decide) rfl ?_
    refine V_goto hC 18 dL_law_1192 (by decide) ?_
    refine V_sub [1, 2, 3, 0] rfl ?_
    exact hκ _ _ h
  · replace h := ite_n h c256
    refine V_iconst (v := 0) hC dL_law_740 (by decide) ?_
    exact absurd h (by decide)
def f_law_c24 (n : Nat) (Z : Zt) (a1 a2 L : Nat) (xw : Nat → Int32) (κ : Int32 → Mem → Option Int32) (x3 : Int32) (g : Mem) : Option Int32 := grd (inr (x3 + (1 : Int32)) L) (grd (inr (x3 + (2 : Int32)) L) (bnd (f_X10_terms n Z a1 (xw (x3 + (1 : Int32)).toNatClampNeg) (xw (x3 + (2 : Int32)).toNatClampNeg) g) (fun r260 g261 => grd (inr (x3 + (1 : Int32)) L) (grd (inr (x3 + (2 : Int32)) L) (bnd (f_X11_terms n Z a2 (xw (x3 + (1 : Int32)).toNatClampNeg) (xw (x3 + (2 : Int32)).toNatClampNeg) g261) (fun r265 g266 => if r260 = r265 then (κ (x3 + 5) g266) else (some (0 : Int32))))))))
set_option maxHeartbeats 4000000 in
set_option maxRecDepth 100000 in
theorem vlaw_c24 {x : Cq} {n : Nat} {Z : Zt} {a1 a2 b L : Nat} {xw : Nat → Int32} {κ : Int32 → Mem → Option Int32} {x3 : Int32} {g : Mem} (hL : Cl x b L xw) (hA : Lv x Z) (hκ : ∀ (y3 : Int32) (y : Mem), κ y3 y = some 1 → V x Z 1483 67748 18 [(0, va_rf (some b)), (1, va_rf (some a1)), (2, va_rf (some a2)), (3, .int y3)] [] y) (h : f_law_c24 n Z a1 a2 L xw κ x3 g = some 1) : V x Z 1483 67748 742 [(0, va_rf (some b)), (1, va_rf (some a1)), (2, va_rf (some a2)), (3, .int x3)] [] g := by
  have hC : Cx x code RL 8 := hL.1
  unfold f_law_c24 at h
  refine V_aload_n hC 1 dL_law_742 rfl rfl ?_
  refine V_aload_n hC 0 dL_law_743 rfl rfl ?_
  refine V_iload_n hC 3 dL_law_744 rfl rfl ?_
  refine V_iconst (v := 1) hC dL_law_745 (by decide) ?_
  refine V_iadd hC dL_law_746 ?_
  replace h := grd_some h
  obtain ⟨c258, h⟩ := h
  refine V_sld hL c258 dL_law_747 ?_
  refine V_aload_n hC 0 dL_law_748 rfl rfl ?_
  refine V_iload_n hC 3 dL_law_749 rfl rfl ?_
  refine V_iconst (v := 2) hC dL_law_750 (by decide) ?_
  refine V_iadd hC dL_law_751 ?_
  replace h := grd_some h
  obtain ⟨c259, h⟩ := h
  refine V_sld hL c259 dL_law_752 ?_
  replace h := bnd_some h
  obtain ⟨r260, g261, e262, h⟩ := h
  refine V_callV (As := [.int (xw (x3 + (1 : Int32)).toNatClampNeg), .int (xw (x3 + (2 : Int32)).toNatClampNeg)]) (c := 8) (T := TX10) (N := 10) hC hA mq_X10_terms mi_X10_terms tw_926 (hL.d (by decide)) (hL.r (by decide)) rfl (by omega) (zc_X10_terms e262) (vm_X10_terms e262) rfl (Nat.le_of_ble_eq_true rfl) dL_law_753 ?_
  refine V_aload_n hC 2 dL_law_756 rfl rfl ?_
  refine V_aload_n hC 0 dL_law_757 rfl rfl ?_
  refine V_iload_n hC 3 dL_law_758 rfl rfl ?_
  refine V_iconst (v := 1) hC dL_law_759 (by decide) ?_
  refine V_iadd hC dL_law_760 ?_
  replace h := grd_some h
  obtain ⟨c263, h⟩ := h
  refine V_sld hL c263 dL_law_761 ?_
  refine V_aload_n hC 0 dL_law_762 rfl rfl ?_
  refine V_iload_n hC 3 dL_law_763 rfl rfl ?_
  refine V_iconst (v := 2) hC dL_law_764 (by decide) ?_
  refine V_iadd hC dL_law_765 ?_
  replace h := grd_some h
  obtain ⟨c264, h⟩ := h
  refine V_sld hL c264 dL_law_766 ?_
  replace h := bnd_some h
  obtain ⟨r265, g266, e267, h⟩ := h
  refine V_callV (As := [.int (xw (x3 + (1 : Int32)).toNatClampNeg), .int (xw (x3 + (2 : Int32)).toNatClampNeg)]) (c := 9) (T := TX11) (N := 32) hC hA mq_X11_terms mi_X11_terms tw_964 (hL.d (by decide)) (hL.r (by decide)) rfl (by omega) (zc_X11_terms e267) (vm_X11_terms e267) rfl (Nat.le_of_ble_eq_true rfl) dL_law_767 ?_
  refine V_icmp_eq hC 1189 dL_law_770 (by decide) (fun c268 => ?_) (fun c268 => ?_)
  · replace h := ite_p h c268
    refine V_iinc (v := (x3 + 5)) (L' := [(3, .int (x3 + 5)), (0, va_rf (some b)), (1, va_rf (some a1)), (2, va_rf (some a2))]) hC 3 dL_law_1189 rfl rfl (by decide) rfl ?_
    refine V_goto hC 18 dL_law_1192 (by decide) ?_
    refine V_sub [1, 2, 3, 0] rfl ?_
    exact hκ _ _ h
  · replace h := ite_n h c268
    refine V_iconst (v := 0) hC dL_law_773 (by decide) ?_
    exact absurd h (by decide)
def f_law_c25 (n : Nat) (Z : Zt) (a1 a2 L : Nat) (xw : Nat → Int32) (κ : Int32 → Mem → Option Int32) (x3 : Int32) (g : Mem) : Option Int32 := grd (inr (x3 + (1 : Int32)) L) (grd (inr (x3 + (2 : Int32)) L) (grd (inr (x3 + (3 : Int32)) L) (bnd (f_X10_coefficient n Z a1 (xw (x3 + (1 : Int32)).toNatClampNeg) (xw (x3 + (2 : Int32)).toNatClampNeg) (xw (x3 + (3 : Int32)).toNatClampNeg) g) (fun r273 g274 => grd (inr (x3 + (1 : Int32)) L) (grd (inr (x3 + (2 : Int32)) L) (grd (inr (x3 + (3 : Int32)) L) (bnd (f_X11_coefficient n Z a2 (xw (x3 + (1 : Int32)).toNatClampNeg) (xw (x3 + (2 : Int32)).toNatClampNeg) (xw (x3 + (3 : Int32)).toNatClampNeg) g274) (fun r279 g280 => if (lg_cmp r273 r279) = 0 then (κ (x3 + 5) g280) else (some (0 : Int32))))))))))
set_option maxHeartbeats 4000000 in
set_option maxRecDepth 100000 in
theorem vlaw_c25 {x : Cq} {n : Nat} {Z : Zt} {a1 a2 b L : Nat} {xw : Nat → Int32} {κ : Int32 → Mem → Option Int32} {x3 : Int32} {g : Mem} (hL : Cl x b L xw) (hA : Lv x Z) (hκ : ∀ (y3 : Int32) (y : Mem), κ y3 y = some 1 → V x Z 1483 67748 18 [(0, va_rf (some b)), (1, va_rf (some a1)), (2, va_rf (some a2)), (3, .int y3)] [] y) (h : f_law_c25 n Z a1 a2 L xw κ x3 g = some 1) : V x Z 1483 67748 775 [(0, va_rf (some b)), (1, va_rf (some a1)), (2, va_rf (some a2)), (3, .int x3)] [] g := by
  have hC : Cx x code RL 8 := hL.1
  unfold f_law_c25 at h
  refine V_aload_n hC 1 dL_law_775 rfl rfl ?_
  refine V_aload_n hC 0 dL_law_776 rfl rfl ?_
  refine V_iload_n hC 3 dL_law_777 rfl rfl ?_
  refine V_iconst (v := 1) hC dL_law_778 (by decide) ?_
  refine V_iadd hC dL_law_779 ?_
  replace h := grd_some h
  obtain ⟨c270, h⟩ := h
  refine V_sld hL c270 dL_law_780 ?_
  refine V_aload_n hC 0 dL_law_781 rfl rfl ?_
  refine V_iload_n hC 3 dL_law_782 rfl rfl ?_
  refine V_iconst (v := 2) hC dL_law_783 (by decide) ?_
  refine V_iadd hC dL_law_784 ?_
  replace h := grd_some h
  obtain ⟨c271, h⟩ := h
  refine V_sld hL c271 dL_law_785 ?_
  refine V_aload_n hC 0 dL_law_786 rfl rfl ?_
  refine V_iload_n hC 3 dL_law_787 rfl rfl ?_
  refine V_iconst (v := 3) hC dL_law_788 (by decide) ?_
  refine V_iadd hC dL_law_789 ?_
  replace h := grd_some h
  obtain ⟨c272, h⟩ := h
  refine V_sld hL c272 dL_law_790 ?_
  replace h := bnd_some h
  obtain ⟨r273, g274, e275, h⟩ := h
  refine V_callV (As := [.int (xw (x3 + (1 : Int32)).toNatClampNeg), .int (xw (x3 + (2 : Int32)).toNatClampNeg), .int (xw (x3 + (3 : Int32)).toNatClampNeg)]) (c := 8) (T := TX10) (N := 10) hC hA mq_X10_coefficient mi_X10_coefficient tw_986 (hL.d (by decide)) (hL.r (by decide)) rfl (by omega) (zc_X10_coefficient e275) (vm_X10_coefficient e275) rfl (Nat.le_of_ble_eq_true rfl) dL_law_791 ?_
  refine V_aload_n hC 2 dL_law_794 rfl rfl ?_
  refine V_aload_n hC 0 dL_law_795 rfl rfl ?_
  refine V_iload_n hC 3 dL_law_796 rfl rfl ?_
  refine V_iconst (v := 1) hC dL_law_797 (by decide) ?_
  refine V_iadd hC dL_law_798 ?_
  replace h := grd_some h
  obtain ⟨c276, h⟩ := h
  refine V_sld hL c276 dL_law_799 ?_
  refine V_aload_n hC 0 dL_law_800 rfl rfl ?_
  refine V_iload_n hC 3 dL_law_801 rfl rfl ?_
  refine V_iconst (v := 2) hC dL_law_802 (by decide) ?_
  refine V_iadd hC dL_law_803 ?_
  replace h := grd_some h
  obtain ⟨c277, h⟩ := h
  refine V_sld hL c277 dL_law_804 ?_
  refine V_aload_n hC 0 dL_law_805 rfl rfl ?_
  refine V_iload_n hC 3 dL_law_806 rfl rfl ?_
  refine V_iconst (v := 3) hC dL_law_807 (by decide) ?_
  refine V_iadd hC dL_law_808 ?_
  replace h := grd_some h
  obtain ⟨c278, h⟩ := h
  refine V_sld hL c278 dL_law_809 ?_
  replace h := bnd_some h
  obtain ⟨r279, g280, e281, h⟩ := h
  refine V_callV (As := [.int (xw (x3 + (1 : Int32)).toNatClampNeg), .int (xw (x3 + (2 : Int32)).toNatClampNeg), .int (xw (x3 + (3 : Int32)).toNatClampNeg)]) (c := 9) (T := TX11) (N := 32) hC hA mq_X11_coefficient mi_X11_coefficient tw_994 (hL.d (by decide)) (hL.r (by decide)) rfl (by omega) (zc_X11_coefficient e281) (vm_X11_coefficient e281) rfl (Nat.le_of_ble_eq_true rfl) dL_law_810 ?_
  refine V_lcmp hC dL_law_813 ?_
  refine V_if_eq hC 1189 dL_law_814 (by decide) (fun c282 => ?_) (fun c282 => ?_)
  · replace h := ite_p h c282
    refine V_iinc (v := (x3 + 5)) (L' := [(3, .int (x3 + 5)), (0, va_rf (some b)), (1, va_rf (some a1)), (2, va_rf (some a2))]) hC 3 dL_law_1189 rfl rfl (by decide) rfl ?_
    refine V_goto hC 18 dL_law_1192 (by decide) ?_
    refine V_sub [1, 2, 3, 0] rfl ?_
    exact hκ _ _ h
  · replace h := ite_n h c282
    refine V_iconst (v := 0) hC dL_law_817 (by decide) ?_
    exact absurd h (by decide)
def f_law_c26 (n : Nat) (Z : Zt) (a1 a2 L : Nat) (xw : Nat → Int32) (κ : Int32 → Mem → Option Int32) (x3 : Int32) (g : Mem) : Option Int32 := grd (inr (x3 + (1 : Int32)) L) (grd (inr (x3 + (2 : Int32)) L) (grd (inr (x3 + (3 : Int32)) L) (grd (inr (x3 + (4 : Int32)) L) (bnd (f_X10_exponent n Z a1 (xw (x3 + (1 : Int32)).toNatClampNeg) (xw (x3 + (2 : Int32)).toNatClampNeg) (xw (x3 + (3 : Int32)).toNatClampNeg) (xw (x3 + (4 : Int32)).toNatClampNeg) g) (fun r288 g289 => grd (inr (x3 + (1 : Int32)) L) (grd (inr (x3 + (2 : Int32)) L) (grd (inr (x3 + (3 : Int32)) L) (grd (inr (x3 + (4 : Int32)) L) (bnd (f_X11_exponent n Z a2 (xw (x3 + (1 : Int32)).toNatClampNeg) (xw (x3 + (2 : Int32)).toNatClampNeg) (xw (x3 + (3 : Int32)).toNatClampNeg) (xw (x3 + (4 : Int32)).toNatClampNeg) g289) (fun r295 g296 => if r288 = r295 then (κ (x3 + 5) g296) else (some (0 : Int32))))))))))))
set_option maxHeartbeats 4000000 in
set_option maxRecDepth 100000 in
theorem vlaw_c26 {x : Cq} {n : Nat} {Z : Zt} {a1 a2 b L : Nat} {xw : Nat → Int32} {κ : Int32 → Mem → Option Int32} {x3 : Int32} {g : Mem} (hL : Cl x b L xw) (hA : Lv x Z) (hκ : ∀ (y3 : Int32) (y : Mem), κ y3 y = some 1 → V x Z 1483 67748 18 [(0, va_rf (some b)), (1, va_rf (some a1)), (2, va_rf (some a2)), (3, .int y3)] [] y) (h : f_law_c26 n Z a1 a2 L xw κ x3 g = some 1) : V x Z 1483 67748 819 [(0, va_rf (some b)), (1, va_rf (some a1)), (2, va_rf (some a2)), (3, .int x3)] [] g := by
  have hC : Cx x code RL 8 := hL.1
  unfold f_law_c26 at h
  refine V_aload_n hC 1 dL_law_819 rfl rfl ?_
  refine V_aload_n hC 0 dL_law_820 rfl rfl ?_
  refine V_iload_n hC 3 dL_law_821 rfl rfl ?_
  refine V_iconst (v := 1) hC dL_law_822 (by decide) ?_
  refine V_iadd hC dL_law_823 ?_
  replace h := grd_some h
  obtain ⟨c284, h⟩ := h
  refine V_sld hL c284 dL_law_824 ?_
  refine V_aload_n hC 0 dL_law_825 rfl rfl ?_
  refine V_iload_n hC 3 dL_law_826 rfl rfl ?_
  refine V_iconst (v := 2) hC dL_law_827 (by decide) ?_
  refine V_iadd hC dL_law_828 ?_
  replace h := grd_some h
  obtain ⟨c285, h⟩ := h
  refine V_sld hL c285 dL_law_829 ?_
  refine V_aload_n hC 0 dL_law_830 rfl rfl ?_
  refine V_iload_n hC 3 dL_law_831 rfl rfl ?_
  refine V_iconst (v := 3) hC dL_law_832 (by decide) ?_
  refine V_iadd hC dL_law_833 ?_
  replace h := grd_some h
  obtain ⟨c286, h⟩ := h
  refine V_sld hL c286 dL_law_834 ?_
  refine V_aload_n hC 0 dL_law_835 rfl rfl ?_
  refine V_iload_n hC 3 dL_law_836 rfl rfl ?_
  refine V_iconst (v := 4) hC dL_law_837 (by decide) ?_
  refine V_iadd hC dL_law_838 ?_
  replace h := grd_some h
  obtain ⟨c287, h⟩ := h
  refine V_sld hL c287 dL_law_839 ?_
  replace h := bnd_some h
  obtain ⟨r288, g289, e290, h⟩ := h
  refine V_callV (As := [.int (xw (x3 + (1 : Int32)).toNatClampNeg), .int (xw (x3 + (2 : Int32)).toNatClampNeg), .int (xw (x3 + (3 : Int32)).toNatClampNeg), .int (xw (x3 + (4 : Int32)).toNatClampNeg)]) (c := 8) (T := TX10) (N := 10) hC hA mq_X10_exponent mi_X10_exponent tw_1000 (hL.d (by decide)) (hL.r (by decide)) rfl (by omega) (zc_X10_exponent e290) (vm_X10_exponent e290) rfl (Nat.le_of_ble_eq_true rfl) dL_law_840 ?_
  refine V_aload_n hC 2 dL_law_843 rfl rfl ?_
  refine V_aload_n hC 0 dL_law_844 rfl rfl ?_
  refine V_iload_n hC 3 dL_law_845 rfl rfl ?_
  refine V_iconst (v := 1) hC dL_law_846 (by decide) ?_
  refine V_iadd hC dL_law_847 ?_
  replace h := grd_some h
  obtain ⟨c291, h⟩ := h
  refine V_sld hL c291 dL_law_848 ?_
  refine V_aload_n hC 0 dL_law_849 rfl rfl ?_
  refine V_iload_n hC 3 dL_law_850 rfl rfl ?_
  refine V_iconst (v := 2) hC dL_law_851 (by decide) ?_
  refine V_iadd hC dL_law_852 ?_
  replace h := grd_some h
  obtain ⟨c292, h⟩ := h
  refine V_sld hL c292 dL_law_853 ?_
  refine V_aload_n hC 0 dL_law_854 rfl rfl ?_
  refine V_iload_n hC 3 dL_law_855 rfl rfl ?_
  refine V_iconst (v := 3) hC dL_law_856 (by decide) ?_
  refine V_iadd hC dL_law_857 ?_
  replace h := grd_some h
  obtain ⟨c293, h⟩ := h
  refine V_sld hL c293 dL_law_858 ?_
  refine V_aload_n hC 0 dL_law_859 rfl rfl ?_
  refine V_iload_n hC 3 dL_law_860 rfl rfl ?_
  refine V_iconst (v := 4) hC dL_law_861 (by decide) ?_
  refine V_iadd hC dL_law_862 ?_
  replace h := grd_some h
  obtain ⟨c294, h⟩ := h
  refine V_sld hL c294 dL_law_863 ?_
  replace h := bnd_some h
  obtain ⟨r295, g296, e297, h⟩ := h
  refine V_callV (As := [.int (xw (x3 + (1 : Int32)).toNatClampNeg), .int (xw (x3 + (2 : Int32)).toNatClampNeg), .int (xw (x3 + (3 : Int32)).toNatClampNeg), .int (xw (x3 + (4 : Int32)).toNatClampNeg)]) (c := 9) (T := TX11) (N := 32) hC hA mq_X11_exponent mi_X11_exponent tw_1008 (hL.d (by decide)) (hL.r (by decide)) rfl (by omega) (zc_X11_exponent e297) (vm_X11_exponent e297) rfl (Nat.le_of_ble_eq_true rfl) dL_law_864 ?_
  refine V_icmp_eq hC 1189 dL_law_867 (by decide) (fun c298 => ?_) (fun c298 => ?_)
  · replace h := ite_p h c298
    refine V_iinc (v := (x3 + 5)) (L' := [(3, .int (x3 + 5)), (0, va_rf (some b)), (1, va_rf (some a1)), (2, va_rf (some a2))]) hC 3 dL_law_1189 rfl rfl (by decide) rfl ?_
    refine V_goto hC 18 dL_law_1192 (by decide) ?_
    refine V_sub [1, 2, 3, 0] rfl ?_
    exact hκ _ _ h
  · replace h := ite_n h c298
    refine V_iconst (v := 0) hC dL_law_870 (by decide) ?_
    exact absurd h (by decide)
def f_law_c27 (n : Nat) (Z : Zt) (a1 a2 L : Nat) (xw : Nat → Int32) (κ : Int32 → Mem → Option Int32) (x3 : Int32) (g : Mem) : Option Int32 := grd (inr (x3 + (1 : Int32)) L) (bnd (f_X10_lineage n Z a1 (xw (x3 + (1 : Int32)).toNatClampNeg) g) (fun r301 g302 => grd (inr (x3 + (1 : Int32)) L) (bnd (f_X11_lineage n Z a2 (xw (x3 + (1 : Int32)).toNatClampNeg) g302) (fun r305 g306 => if r301 = r305 then (κ (x3 + 5) g306) else (some (0 : Int32))))))
set_option maxHeartbeats 4000000 in
set_option maxRecDepth 100000 in
theorem vlaw_c27 {x : Cq} {n : Nat} {Z : Zt} {a1 a2 b L : Nat} {xw : Nat → Int32} {κ : Int32 → Mem → Option Int32} {x3 : Int32} {g : Mem} (hL : Cl x b L xw) (hA : Lv x Z) (hκ : ∀ (y3 : Int32) (y : Mem), κ y3 y = some 1 → V x Z 1483 67748 18 [(0, va_rf (some b)), (1, va_rf (some a1)), (2, va_rf (some a2)), (3, .int y3)] [] y) (h : f_law_c27 n Z a1 a2 L xw κ x3 g = some 1) : V x Z 1483 67748 872 [(0, va_rf (some b)), (1, va_rf (some a1)), (2, va_rf (some a2)), (3, .int x3)] [] g := by
  have hC : Cx x code RL 8 := hL.1
  unfold f_law_c27 at h
  refine V_aload_n hC 1 dL_law_872 rfl rfl ?_
  refine V_aload_n hC 0 dL_law_873 rfl rfl ?_
  refine V_iload_n hC 3 dL_law_874 rfl rfl ?_
  refine V_iconst (v := 1) hC dL_law_875 (by decide) ?_
  refine V_iadd hC dL_law_876 ?_
  replace h := grd_some h
  obtain ⟨c300, h⟩ := h
  refine V_sld hL c300 dL_law_877 ?_
  replace h := bnd_some h
  obtain ⟨r301, g302, e303, h⟩ := h
  refine V_callV (As := [.int (xw (x3 + (1 : Int32)).toNatClampNeg)]) (c := 8) (T := TX10) (N := 10) hC hA mq_X10_lineage mi_X10_lineage tw_1012 (hL.d (by decide)) (hL.r (by decide)) rfl (by omega) (zc_X10_lineage e303) (vm_X10_lineage e303) rfl (Nat.le_of_ble_eq_true rfl) dL_law_878 ?_
  refine V_aload_n hC 2 dL_law_881 rfl rfl ?_
  refine V_aload_n hC 0 dL_law_882 rfl rfl ?_
  refine V_iload_n hC 3 dL_law_883 rfl rfl ?_
  refine V_iconst (v := 1) hC dL_law_884 (by decide) ?_
  refine V_iadd hC dL_law_885 ?_
  replace h := grd_some h
  obtain ⟨c304, h⟩ := h
  refine V_sld hL c304 dL_law_886 ?_
  replace h := bnd_some h
  obtain ⟨r305, g306, e307, h⟩ := h
  refine V_callV (As := [.int (xw (x3 + (1 : Int32)).toNatClampNeg)]) (c := 9) (T := TX11) (N := 32) hC hA mq_X11_lineage mi_X11_lineage tw_1024 (hL.d (by decide)) (hL.r (by decide)) rfl (by omega) (zc_X11_lineage e307) (vm_X11_lineage e307) rfl (Nat.le_of_ble_eq_true rfl) dL_law_887 ?_
  refine V_icmp_eq hC 1189 dL_law_890 (by decide) (fun c308 => ?_) (fun c308 => ?_)
  · replace h := ite_p h c308
    refine V_iinc (v := (x3 + 5)) (L' := [(3, .int (x3 + 5)), (0, va_rf (some b)), (1, va_rf (some a1)), (2, va_rf (some a2))]) hC 3 dL_law_1189 rfl rfl (by decide) rfl ?_
    refine V_goto hC 18 dL_law_1192 (by decide) ?_
    refine V_sub [1, 2, 3, 0] rfl ?_
    exact hκ _ _ h
  · replace h := ite_n h c308
    refine V_iconst (v := 0) hC dL_law_893 (by decide) ?_
    exact absurd h (by decide)
def f_law_c28 (n : Nat) (Z : Zt) (a1 a2 L : Nat) (xw : Nat → Int32) (κ : Int32 → Mem → Option Int32) (x3 : Int32) (g : Mem) : Option Int32 := grd (inr (x3 + (1 : Int32)) L) (bnd (f_X10_derivations n Z a1 (xw (x3 + (1 : Int32)).toNatClampNeg) g) (fun r311 g312 => grd (inr (x3 + (1 : Int32)) L) (bnd (f_X11_derivations n Z a2 (xw (x3 + (1 : Int32)).toNatClampNeg) g312) (fun r315 g316 => if (lg_cmp r311 r315) = 0 then (κ (x3 + 5) g316) else (some (0 : Int32))))))
set_option maxHeartbeats 4000000 in
set_option maxRecDepth 100000 in
theorem vlaw_c28 {x : Cq} {n : Nat} {Z : Zt} {a1 a2 b L : Nat} {xw : Nat → Int32} {κ : Int32 → Mem → Option Int32} {x3 : Int32} {g : Mem} (hL : Cl x b L xw) (hA : Lv x Z) (hκ : ∀ (y3 : Int32) (y : Mem), κ y3 y = some 1 → V x Z 1483 67748 18 [(0, va_rf (some b)), (1, va_rf (some a1)), (2, va_rf (some a2)), (3, .int y3)] [] y) (h : f_law_c28 n Z a1 a2 L xw κ x3 g = some 1) : V x Z 1483 67748 895 [(0, va_rf (some b)), (1, va_rf (some a1)), (2, va_rf (some a2)), (3, .int x3)] [] g := by
  have hC : Cx x code RL 8 := hL.1
  unfold f_law_c28 at h
  refine V_aload_n hC 1 dL_law_895 rfl rfl ?_
  refine V_aload_n hC 0 dL_law_896 rfl rfl ?_
  refine V_iload_n hC 3 dL_law_897 rfl rfl ?_
  refine V_iconst (v := 1) hC dL_law_898 (by decide) ?_
  refine V_iadd hC dL_law_899 ?_
  replace h := grd_some h
  obtain ⟨c310, h⟩ := h
  refine V_sld hL c310 dL_law_900 ?_
  replace h := bnd_some h
  obtain ⟨r311, g312, e313, h⟩ := h
  refine V_callV (As := [.int (xw (x3 + (1 : Int32)).toNatClampNeg)]) (c := 8) (T := TX10) (N := 10) hC hA mq_X10_derivations mi_X10_derivations tw_1032 (hL.d (by decide)) (hL.r (by decide)) rfl (by omega) (zc_X10_derivations e313) (vm_X10_derivations e313) rfl (Nat.le_of_ble_eq_true rfl) dL_law_901 ?_
  refine V_aload_n hC 2 dL_law_904 rfl rfl ?_
  refine V_aload_n hC 0 dL_law_905 rfl rfl ?_
  refine V_iload_n hC 3 dL_law_906 rfl rfl ?_
  refine V_iconst (v := 1) hC dL_law_907 (by decide) ?_
  refine V_iadd hC dL_law_908 ?_
  replace h := grd_some h
  obtain ⟨c314, h⟩ := h
  refine V_sld hL c314 dL_law_909 ?_
  replace h := bnd_some h
  obtain ⟨r315, g316, e317, h⟩ := h
  refine V_callV (As := [.int (xw (x3 + (1 : Int32)).toNatClampNeg)]) (c := 9) (T := TX11) (N := 32) hC hA mq_X11_derivations mi_X11_derivations tw_1045 (hL.d (by decide)) (hL.r (by decide)) rfl (by omega) (zc_X11_derivations e317) (vm_X11_derivations e317) rfl (Nat.le_of_ble_eq_true rfl) dL_law_910 ?_
  refine V_lcmp hC dL_law_913 ?_
  refine V_if_eq hC 1189 dL_law_914 (by decide) (fun c318 => ?_) (fun c318 => ?_)
  · replace h := ite_p h c318
    refine V_iinc (v := (x3 + 5)) (L' := [(3, .int (x3 + 5)), (0, va_rf (some b)), (1, va_rf (some a1)), (2, va_rf (some a2))]) hC 3 dL_law_1189 rfl rfl (by decide) rfl ?_
    refine V_goto hC 18 dL_law_1192 (by decide) ?_
    refine V_sub [1, 2, 3, 0] rfl ?_
    exact hκ _ _ h
  · replace h := ite_n h c318
    refine V_iconst (v := 0) hC dL_law_917 (by decide) ?_
    exact absurd h (by decide)
def f_law_c29 (n : Nat) (Z : Zt) (a1 a2 L : Nat) (xw : Nat → Int32) (κ : Int32 → Mem → Option Int32) (x3 : Int32) (g : Mem) : Option Int32 := grd (inr (x3 + (1 : Int32)) L) (bnd (f_X10_leastCost n Z a1 (xw (x3 + (1 : Int32)).toNatClampNeg) g) (fun r321 g322 => grd (inr (x3 + (1 : Int32)) L) (bnd (f_X11_leastCost n Z a2 (xw (x3 + (1 : Int32)).toNatClampNeg) g322) (fun r325 g326 => if r321 = r325 then (κ (x3 + 5) g326) else (some (0 : Int32))))))
set_option maxHeartbeats 4000000 in
set_option maxRecDepth 100000 in
theorem vlaw_c29 {x : Cq} {n : Nat} {Z : Zt} {a1 a2 b L : Nat} {xw : Nat → Int32} {κ : Int32 → Mem → Option Int32} {x3 : Int32} {g : Mem} (hL : Cl x b L xw) (hA : Lv x Z) (hκ : ∀ (y3 : Int32) (y : Mem), κ y3 y = some 1 → V x Z 1483 67748 18 [(0, va_rf (some b)), (1, va_rf (some a1)), (2, va_rf (some a2)), (3, .int y3)] [] y) (h : f_law_c29 n Z a1 a2 L xw κ x3 g = some 1) : V x Z 1483 67748 919 [(0, va_rf (some b)), (1, va_rf (some a1)), (2, va_rf (some a2)), (3, .int x3)] [] g := by
  have hC : Cx x code RL 8 := hL.1
  unfold f_law_c29 at h
  refine V_aload_n hC 1 dL_law_919 rfl rfl ?_
  refine V_aload_n hC 0 dL_law_920 rfl rfl ?_
  refine V_iload_n hC 3 dL_law_921 rfl rfl ?_
  refine V_iconst (v := 1) hC dL_law_922 (by decide) ?_
  refine V_iadd hC dL_law_923 ?_
  replace h := grd_some h
  obtain ⟨c320, h⟩ := h
  refine V_sld hL c320 dL_law_924 ?_
  replace h := bnd_some h
  obtain ⟨r321, g322, e323, h⟩ := h
  refine V_callV (As := [.int (xw (x3 + (1 : Int32)).toNatClampNeg)]) (c := 8) (T := TX10) (N := 10) hC hA mq_X10_leastCost mi_X10_leastCost tw_1049 (hL.d (by decide)) (hL.r (by decide)) rfl (by omega) (zc_X10_leastCost e323) (vm_X10_leastCost e323) rfl (Nat.le_of_ble_eq_true rfl) dL_law_925 ?_
  refine V_aload_n hC 2 dL_law_928 rfl rfl ?_
  refine V_aload_n hC 0 dL_law_929 rfl rfl ?_
  refine V_iload_n hC 3 dL_law_930 rfl rfl ?_
  refine V_iconst (v := 1) hC dL_law_931 (by decide) ?_
  refine V_iadd hC dL_law_932 ?_
  replace h := grd_some h
  obtain ⟨c324, h⟩ := h
  refine V_sld hL c324 dL_law_933 ?_
  replace h := bnd_some h
  obtain ⟨r325, g326, e327, h⟩ := h
  refine V_callV (As := [.int (xw (x3 + (1 : Int32)).toNatClampNeg)]) (c := 9) (T := TX11) (N := 32) hC hA mq_X11_leastCost mi_X11_leastCost tw_1063 (hL.d (by decide)) (hL.r (by decide)) rfl (by omega) (zc_X11_leastCost e327) (vm_X11_leastCost e327) rfl (Nat.le_of_ble_eq_true rfl) dL_law_934 ?_
  refine V_icmp_eq hC 1189 dL_law_937 (by decide) (fun c328 => ?_) (fun c328 => ?_)
  · replace h := ite_p h c328
    refine V_iinc (v := (x3 + 5)) (L' := [(3, .int (x3 + 5)), (0, va_rf (some b)), (1, va_rf (some a1)), (2, va_rf (some a2))]) hC 3 dL_law_1189 rfl rfl (by decide) rfl ?_
    refine V_goto hC 18 dL_law_1192 (by decide) ?_
    refine V_sub [1, 2, 3, 0] rfl ?_
    exact hκ _ _ h
  · replace h := ite_n h c328
    refine V_iconst (v := 0) hC dL_law_940 (by decide) ?_
    exact absurd h (by decide)
def f_law_c30 (n : Nat) (Z : Zt) (a1 a2 L : Nat) (xw : Nat → Int32) (κ : Int32 → Mem → Option Int32) (x3 : Int32) (g : Mem) : Option Int32 := grd (inr (x3 + (1 : Int32)) L) (bnd (f_X10_cheapestTags n Z a1 (xw (x3 + (1 : Int32)).toNatClampNeg) g) (fun r331 g332 => grd (inr (x3 + (1 : Int32)) L) (bnd (f_X11_cheapestTags n Z a2 (xw (x3 + (1 : Int32)).toNatClampNeg) g332) (fun r335 g336 => if r331 = r335 then (κ (x3 + 5) g336) else (some (0 : Int32))))))
set_option maxHeartbeats 4000000 in
set_option maxRecDepth 100000 in
theorem vlaw_c30 {x : Cq} {n : Nat} {Z : Zt} {a1 a2 b L : Nat} {xw : Nat → Int32} {κ : Int32 → Mem → Option Int32} {x3 : Int32} {g : Mem} (hL : Cl x b L xw) (hA : Lv x Z) (hκ : ∀ (y3 : Int32) (y : Mem), κ y3 y = some 1 → V x Z 1483 67748 18 [(0, va_rf (some b)), (1, va_rf (some a1)), (2, va_rf (some a2)), (3, .int y3)] [] y) (h : f_law_c30 n Z a1 a2 L xw κ x3 g = some 1) : V x Z 1483 67748 942 [(0, va_rf (some b)), (1, va_rf (some a1)), (2, va_rf (some a2)), (3, .int x3)] [] g := by
  have hC : Cx x code RL 8 := hL.1
  unfold f_law_c30 at h
  refine V_aload_n hC 1 dL_law_942 rfl rfl ?_
  refine V_aload_n hC 0 dL_law_943 rfl rfl ?_
  refine V_iload_n hC 3 dL_law_944 rfl rfl ?_
  refine V_iconst (v := 1) hC dL_law_945 (by decide) ?_
  refine V_iadd hC dL_law_946 ?_
  replace h := grd_some h
  obtain ⟨c330, h⟩ := h
  refine V_sld hL c330 dL_law_947 ?_
  replace h := bnd_some h
  obtain ⟨r331, g332, e333, h⟩ := h
  refine V_callV (As := [.int (xw (x3 + (1 : Int32)).toNatClampNeg)]) (c := 8) (T := TX10) (N := 10) hC hA mq_X10_cheapestTags mi_X10_cheapestTags tw_1075 (hL.d (by decide)) (hL.r (by decide)) rfl (by omega) (zc_X10_cheapestTags e333) (vm_X10_cheapestTags e333) rfl (Nat.le_of_ble_eq_true rfl) dL_law_948 ?_
  refine V_aload_n hC 2 dL_law_951 rfl rfl ?_
  refine V_aload_n hC 0 dL_law_952 rfl rfl ?_
  refine V_iload_n hC 3 dL_law_953 rfl rfl ?_
  refine V_iconst (v := 1) hC dL_law_954 (by decide) ?_
  refine V_iadd hC dL_law_955 ?_
  replace h := grd_some h
  obtain ⟨c334, h⟩ := h
  refine V_sld hL c334 dL_law_956 ?_
  replace h := bnd_some h
  obtain ⟨r335, g336, e337, h⟩ := h
  refine V_callV (As := [.int (xw (x3 + (1 : Int32)).toNatClampNeg)]) (c := 9) (T := TX11) (N := 32) hC hA mq_X11_cheapestTags mi_X11_cheapestTags tw_1080 (hL.d (by decide)) (hL.r (by decide)) rfl (by omega) (zc_X11_cheapestTags e337) (vm_X11_cheapestTags e337) rfl (Nat.le_of_ble_eq_true rfl) dL_law_957 ?_
  refine V_icmp_eq hC 1189 dL_law_960 (by decide) (fun c338 => ?_) (fun c338 => ?_)
  · replace h := ite_p h c338
    refine V_iinc (v := (x3 + 5)) (L' := [(3, .int (x3 + 5)), (0, va_rf (some b)), (1, va_rf (some a1)), (2, va_rf (some a2))]) hC 3 dL_law_1189 rfl rfl (by decide) rfl ?_
    refine V_goto hC 18 dL_law_1192 (by decide) ?_
    refine V_sub [1, 2, 3, 0] rfl ?_
    exact hκ _ _ h
  · replace h := ite_n h c338
    refine V_iconst (v := 0) hC dL_law_963 (by decide) ?_
    exact absurd h (by decide)
def f_law_c31 (n : Nat) (Z : Zt) (a1 a2 L : Nat) (xw : Nat → Int32) (κ : Int32 → Mem → Option Int32) (x3 : Int32) (g : Mem) : Option Int32 := grd (inr (x3 + (1 : Int32)) L) (bnd (f_X10_answerTrust n Z a1 (xw (x3 + (1 : Int32)).toNatClampNeg) g) (fun r341 g342 => grd (inr (x3 + (1 : Int32)) L) (bnd (f_X11_answerTrust n Z a2 (xw (x3 + (1 : Int32)).toNatClampNeg) g342) (fun r345 g346 => if r341 = r345 then (κ (x3 + 5) g346) else (some (0 : Int32))))))
set_option maxHeartbeats 4000000 in
set_option maxRecDepth 100000 in
theorem vlaw_c31 {x : Cq} {n : Nat} {Z : Zt} {a1 a2 b L : Nat} {xw : Nat → Int32} {κ : Int32 → Mem → Option Int32} {x3 : Int32} {g : Mem} (hL : Cl x b L xw) (hA : Lv x Z) (hκ : ∀ (y3 : Int32) (y : Mem), κ y3 y = some 1 → V x Z 1483 67748 18 [(0, va_rf (some b)), (1, va_rf (some a1)), (2, va_rf (some a2)), (3, .int y3)] [] y) (h : f_law_c31 n Z a1 a2 L xw κ x3 g = some 1) : V x Z 1483 67748 965 [(0, va_rf (some b)), (1, va_rf (some a1)), (2, va_rf (some a2)), (3, .int x3)] [] g := by
  have hC : Cx x code RL 8 := hL.1
  unfold f_law_c31 at h
  refine V_aload_n hC 1 dL_law_965 rfl rfl ?_
  refine V_aload_n hC 0 dL_law_966 rfl rfl ?_
  refine V_iload_n hC 3 dL_law_967 rfl rfl ?_
  refine V_iconst (v := 1) hC dL_law_968 (by decide) ?_
  refine V_iadd hC dL_law_969 ?_
  replace h := grd_some h
  obtain ⟨c340, h⟩ := h
  refine V_sld hL c340 dL_law_970 ?_
  replace h := bnd_some h
  obtain ⟨r341, g342, e343, h⟩ := h
  refine V_callV (As := [.int (xw (x3 + (1 : Int32)).toNatClampNeg)]) (c := 8) (T := TX10) (N := 10) hC hA mq_X10_answerTrust mi_X10_answerTrust tw_1084 (hL.d (by decide)) (hL.r (by decide)) rfl (by omega) (zc_X10_answerTrust e343) (vm_X10_answerTrust e343) rfl (Nat.le_of_ble_eq_true rfl) dL_law_971 ?_
  refine V_aload_n hC 2 dL_law_974 rfl rfl ?_
  refine V_aload_n hC 0 dL_law_975 rfl rfl ?_
  refine V_iload_n hC 3 dL_law_976 rfl rfl ?_
  refine V_iconst (v := 1) hC dL_law_977 (by decide) ?_
  refine V_iadd hC dL_law_978 ?_
  replace h := grd_some h
  obtain ⟨c344, h⟩ := h
  refine V_sld hL c344 dL_law_979 ?_
  replace h := bnd_some h
  obtain ⟨r345, g346, e347, h⟩ := h
  refine V_callV (As := [.int (xw (x3 + (1 : Int32)).toNatClampNeg)]) (c := 9) (T := TX11) (N := 32) hC hA mq_X11_answerTrust mi_X11_answerTrust tw_1097 (hL.d (by decide)) (hL.r (by decide)) rfl (by omega) (zc_X11_answerTrust e347) (vm_X11_answerTrust e347) rfl (Nat.le_of_ble_eq_true rfl) dL_law_980 ?_
  refine V_icmp_eq hC 1189 dL_law_983 (by decide) (fun c348 => ?_) (fun c348 => ?_)
  · replace h := ite_p h c348
    refine V_iinc (v := (x3 + 5)) (L' := [(3, .int (x3 + 5)), (0, va_rf (some b)), (1, va_rf (some a1)), (2, va_rf (some a2))]) hC 3 dL_law_1189 rfl rfl (by decide) rfl ?_
    refine V_goto hC 18 dL_law_1192 (by decide) ?_
    refine V_sub [1, 2, 3, 0] rfl ?_
    exact hκ _ _ h
  · replace h := ite_n h c348
    refine V_iconst (v := 0) hC dL_law_986 (by decide) ?_
    exact absurd h (by decide)
def f_law_c32 (n : Nat) (Z : Zt) (a1 a2 L : Nat) (xw : Nat → Int32) (κ : Int32 → Mem → Option Int32) (x3 : Int32) (g : Mem) : Option Int32 := grd (inr (x3 + (1 : Int32)) L) (bnd (f_X10_confidence n Z a1 (xw (x3 + (1 : Int32)).toNatClampNeg) g) (fun r351 g352 => grd (nn64 (FP.f2d r351)) (grd (inr (x3 + (1 : Int32)) L) (bnd (f_X11_confidence n Z a2 (xw (x3 + (1 : Int32)).toNatClampNeg) g352) (fun r356 g357 => grd (nn64 (FP.f2d r356)) (if (Op.cmpValue (FP.dcmp (FP.f2d r351) (FP.f2d r356)) .l) = 0 then (κ (x3 + 5) g357) else (if (Op.cmpValue (FP.dcmp (FP.f2d r351) (FP.f2d r351)) .l) = 0 then (some (0 : Int32)) else (if (Op.cmpValue (FP.dcmp (FP.f2d r356) (FP.f2d r356)) .l) = 0 then (some (0 : Int32)) else (κ (x3 + 5) g357)))))))))
set_option maxHeartbeats 4000000 in
set_option maxRecDepth 100000 in
theorem vlaw_c32 {x : Cq} {n : Nat} {Z : Zt} {a1 a2 b L : Nat} {xw : Nat → Int32} {κ : Int32 → Mem → Option Int32} {x3 : Int32} {g : Mem} (hL : Cl x b L xw) (hA : Lv x Z) (hκ : ∀ (y3 : Int32) (y : Mem), κ y3 y = some 1 → V x Z 1483 67748 18 [(0, va_rf (some b)), (1, va_rf (some a1)), (2, va_rf (some a2)), (3, .int y3)] [] y) (h : f_law_c32 n Z a1 a2 L xw κ x3 g = some 1) : V x Z 1483 67748 988 [(0, va_rf (some b)), (1, va_rf (some a1)), (2, va_rf (some a2)), (3, .int x3)] [] g := by
  have hC : Cx x code RL 8 := hL.1
  unfold f_law_c32 at h
  refine V_aload_n hC 1 dL_law_988 rfl rfl ?_
  refine V_aload_n hC 0 dL_law_989 rfl rfl ?_
  refine V_iload_n hC 3 dL_law_990 rfl rfl ?_
  refine V_iconst (v := 1) hC dL_law_991 (by decide) ?_
  refine V_iadd hC dL_law_992 ?_
  replace h := grd_some h
  obtain ⟨c350, h⟩ := h
  refine V_sld hL c350 dL_law_993 ?_
  replace h := bnd_some h
  obtain ⟨r351, g352, e353, h⟩ := h
  refine V_callV (As := [.int (xw (x3 + (1 : Int32)).toNatClampNeg)]) (c := 8) (T := TX10) (N := 10) hC hA mq_X10_confidence mi_X10_confidence tw_1105 (hL.d (by decide)) (hL.r (by decide)) rfl (by omega) (zc_X10_confidence e353) (vm_X10_confidence e353) rfl (Nat.le_of_ble_eq_true rfl) dL_law_994 ?_
  replace h := grd_some h
  obtain ⟨c354, h⟩ := h
  refine V_f2d hC c354 dL_law_997 ?_
  refine V_dstore (i := 4) (L' := [(4, .double (FP.f2d r351)), (0, va_rf (some b)), (1, va_rf (some a1)), (2, va_rf (some a2)), (3, .int x3)]) hC dL_law_998 (by decide) rfl ?_
  refine V_aload_n hC 3 dL_law_1000 rfl rfl ?_
  refine V_aload_n hC 1 dL_law_1001 rfl rfl ?_
  refine V_iload_n hC 4 dL_law_1002 rfl rfl ?_
  refine V_iconst (v := 1) hC dL_law_1003 (by decide) ?_
  refine V_iadd hC dL_law_1004 ?_
  replace h := grd_some h
  obtain ⟨c355, h⟩ := h
  refine V_sld hL c355 dL_law_1005 ?_
  replace h := bnd_some h
  obtain ⟨r356, g357, e358, h⟩ := h
  refine V_callV (As := [.int (xw (x3 + (1 : Int32)).toNatClampNeg)]) (c := 9) (T := TX11) (N := 32) hC hA mq_X11_confidence mi_X11_confidence tw_1115 (hL.d (by decide)) (hL.r (by decide)) rfl (by omega) (zc_X11_confidence e358) (vm_X11_confidence e358) rfl (Nat.le_of_ble_eq_true rfl) dL_law_1006 ?_
  replace h := grd_some h
  obtain ⟨c359, h⟩ := h
  refine V_f2d hC c359 dL_law_1009 ?_
  refine V_dstore (i := 6) (L' := [(6, .double (FP.f2d r356)), (4, .double (FP.f2d r351)), (0, va_rf (some b)), (1, va_rf (some a1)), (2, va_rf (some a2)), (3, .int x3)]) hC dL_law_1010 (by decide) rfl ?_
  refine V_dload hC 1 dL_law_1012 rfl ?_
  refine V_dload hC 0 dL_law_1014 rfl ?_
  refine V_dcmpl hC dL_law_1016 ?_
  refine V_if_eq hC 1038 dL_law_1017 (by decide) (fun c360 => ?_) (fun c360 => ?_)
  · replace h := ite_p h c360
    refine V_goto hC 1189 dL_law_1038 (by decide) ?_
    refine V_iinc (v := (x3 + 5)) (L' := [(3, .int (x3 + 5)), (6, .double (FP.f2d r356)), (4, .double (FP.f2d r351)), (0, va_rf (some b)), (1, va_rf (some a1)), (2, va_rf (some a2))]) hC 5 dL_law_1189 rfl rfl (by decide) rfl ?_
    refine V_goto hC 18 dL_law_1192 (by decide) ?_
    refine V_sub [3, 4, 5, 0] rfl ?_
    exact hκ _ _ h
  · replace h := ite_n h c360
    refine V_dload hC 1 dL_law_1020 rfl ?_
    refine V_dload hC 1 dL_law_1022 rfl ?_
    refine V_dcmpl hC dL_law_1024 ?_
    refine V_if_eq hC 1036 dL_law_1025 (by decide) (fun c361 => ?_) (fun c361 => ?_)
    · replace h := ite_p h c361
      refine V_iconst (v := 0) hC dL_law_1036 (by decide) ?_
      exact absurd h (by decide)
    · replace h := ite_n h c361
      refine V_dload hC 0 dL_law_1028 rfl ?_
      refine V_dload hC 0 dL_law_1030 rfl ?_
      refine V_dcmpl hC dL_law_1032 ?_
      refine V_if_ne hC 1038 dL_law_1033 (by decide) (fun c362 => ?_) (fun c362 => ?_)
      · replace h := ite_n h c362
        refine V_goto hC 1189 dL_law_1038 (by decide) ?_
        refine V_iinc (v := (x3 + 5)) (L' := [(3, .int (x3 + 5)), (6, .double (FP.f2d r356)), (4, .double (FP.f2d r351)), (0, va_rf (some b)), (1, va_rf (some a1)), (2, va_rf (some a2))]) hC 5 dL_law_1189 rfl rfl (by decide) rfl ?_
        refine V_goto hC 18 dL_law_1192 (by decide) ?_
        refine V_sub [3, 4, 5, 0] rfl ?_
        exact hκ _ _ h
      · replace h := ite_p h c362
        refine V_iconst (v := 0) hC dL_law_1036 (by decide) ?_
        exact absurd h (by decide)
def f_law_c33 (n : Nat) (Z : Zt) (a1 a2 L : Nat) (xw : Nat → Int32) (κ : Int32 → Mem → Option Int32) (x3 : Int32) (g : Mem) : Option Int32 := grd (inr (x3 + (1 : Int32)) L) (bnd (f_X10_needed n Z a1 (xw (x3 + (1 : Int32)).toNatClampNeg) g) (fun r365 g366 => grd (inr (x3 + (1 : Int32)) L) (bnd (f_X11_needed n Z a2 (xw (x3 + (1 : Int32)).toNatClampNeg) g366) (fun r369 g370 => if r365 = r369 then (κ (x3 + 5) g370) else (some (0 : Int32))))))
set_option maxHeartbeats 4000000 in
set_option maxRecDepth 100000 in
theorem vlaw_c33 {x : Cq} {n : Nat} {Z : Zt} {a1 a2 b L : Nat} {xw : Nat → Int32} {κ : Int32 → Mem → Option Int32} {x3 : Int32} {g : Mem} (hL : Cl x b L xw) (hA : Lv x Z) (hκ : ∀ (y3 : Int32) (y : Mem), κ y3 y = some 1 → V x Z 1483 67748 18 [(0, va_rf (some b)), (1, va_rf (some a1)), (2, va_rf (some a2)), (3, .int y3)] [] y) (h : f_law_c33 n Z a1 a2 L xw κ x3 g = some 1) : V x Z 1483 67748 1041 [(0, va_rf (some b)), (1, va_rf (some a1)), (2, va_rf (some a2)), (3, .int x3)] [] g := by
  have hC : Cx x code RL 8 := hL.1
  unfold f_law_c33 at h
  refine V_aload_n hC 1 dL_law_1041 rfl rfl ?_
  refine V_aload_n hC 0 dL_law_1042 rfl rfl ?_
  refine V_iload_n hC 3 dL_law_1043 rfl rfl ?_
  refine V_iconst (v := 1) hC dL_law_1044 (by decide) ?_
  refine V_iadd hC dL_law_1045 ?_
  replace h := grd_some h
  obtain ⟨c364, h⟩ := h
  refine V_sld hL c364 dL_law_1046 ?_
  replace h := bnd_some h
  obtain ⟨r365, g366, e367, h⟩ := h
  refine V_callV (As := [.int (xw (x3 + (1 : Int32)).toNatClampNeg)]) (c := 8) (T := TX10) (N := 10) hC hA mq_X10_needed mi_X10_needed tw_1125 (hL.d (by decide)) (hL.r (by decide)) rfl (by omega) (zc_X10_needed e367) (vm_X10_needed e367) rfl (Nat.le_of_ble_eq_true rfl) dL_law_1047 ?_
  refine V_aload_n hC 2 dL_law_1050 rfl rfl ?_
  refine V_aload_n hC 0 dL_law_1051 rfl rfl ?_
  refine V_iload_n hC 3 dL_law_1052 rfl rfl ?_
  refine V_iconst (v := 1) hC dL_law_1053 (by decide) ?_
  refine V_iadd hC dL_law_1054 ?_
  replace h := grd_some h
  obtain ⟨c368, h⟩ := h
  refine V_sld hL c368 dL_law_1055 ?_
  replace h := bnd_some h
  obtain ⟨r369, g370, e371, h⟩ := h
  refine V_callV (As := [.int (xw (x3 + (1 : Int32)).toNatClampNeg)]) (c := 9) (T := TX11) (N := 32) hC hA mq_X11_needed mi_X11_needed tw_1129 (hL.d (by decide)) (hL.r (by decide)) rfl (by omega) (zc_X11_needed e371) (vm_X11_needed e371) rfl (Nat.le_of_ble_eq_true rfl) dL_law_1056 ?_
  refine V_icmp_eq hC 1189 dL_law_1059 (by decide) (fun c372 => ?_) (fun c372 => ?_)
  · replace h := ite_p h c372
    refine V_iinc (v := (x3 + 5)) (L' := [(3, .int (x3 + 5)), (0, va_rf (some b)), (1, va_rf (some a1)), (2, va_rf (some a2))]) hC 3 dL_law_1189 rfl rfl (by decide) rfl ?_
    refine V_goto hC 18 dL_law_1192 (by decide) ?_
    refine V_sub [1, 2, 3, 0] rfl ?_
    exact hκ _ _ h
  · replace h := ite_n h c372
    refine V_iconst (v := 0) hC dL_law_1062 (by decide) ?_
    exact absurd h (by decide)
def f_law_c34 (n : Nat) (Z : Zt) (a1 a2 L : Nat) (xw : Nat → Int32) (κ : Int32 → Mem → Option Int32) (x3 : Int32) (g : Mem) : Option Int32 := grd (inr (x3 + (1 : Int32)) L) (bnd (f_X10_smallestCut n Z a1 (xw (x3 + (1 : Int32)).toNatClampNeg) g) (fun r375 g376 => grd (inr (x3 + (1 : Int32)) L) (bnd (f_X11_smallestCut n Z a2 (xw (x3 + (1 : Int32)).toNatClampNeg) g376) (fun r379 g380 => if r375 = r379 then (κ (x3 + 5) g380) else (some (0 : Int32))))))
set_option maxHeartbeats 4000000 in
set_option maxRecDepth 100000 in
theorem vlaw_c34 {x : Cq} {n : Nat} {Z : Zt} {a1 a2 b L : Nat} {xw : Nat → Int32} {κ : Int32 → Mem → Option Int32} {x3 : Int32} {g : Mem} (hL : Cl x b L xw) (hA : Lv x Z) (hκ : ∀ (y3 : Int32) (y : Mem), κ y3 y = some 1 → V x Z 1483 67748 18 [(0, va_rf (some b)), (1, va_rf (some a1)), (2, va_rf (some a2)), (3, .int y3)] [] y) (h : f_law_c34 n Z a1 a2 L xw κ x3 g = some 1) : V x Z 1483 67748 1064 [(0, va_rf (some b)), (1, va_rf (some a1)), (2, va_rf (some a2)), (3, .int x3)] [] g := by
  have hC : Cx x code RL 8 := hL.1
  unfold f_law_c34 at h
  refine V_aload_n hC 1 dL_law_1064 rfl rfl ?_
  refine V_aload_n hC 0 dL_law_1065 rfl rfl ?_
  refine V_iload_n hC 3 dL_law_1066 rfl rfl ?_
  refine V_iconst (v := 1) hC dL_law_1067 (by decide) ?_
  refine V_iadd hC dL_law_1068 ?_
  replace h := grd_some h
  obtain ⟨c374, h⟩ := h
  refine V_sld hL c374 dL_law_1069 ?_
  replace h := bnd_some h
  obtain ⟨r375, g376, e377, h⟩ := h
  refine V_callV (As := [.int (xw (x3 + (1 : Int32)).toNatClampNeg)]) (c := 8) (T := TX10) (N := 10) hC hA mq_X10_smallestCut mi_X10_smallestCut tw_1134 (hL.d (by decide)) (hL.r (by decide)) rfl (by omega) (zc_X10_smallestCut e377) (vm_X10_smallestCut e377) rfl (Nat.le_of_ble_eq_true rfl) dL_law_1070 ?_
  refine V_aload_n hC 2 dL_law_1073 rfl rfl ?_
  refine V_aload_n hC 0 dL_law_1074 rfl rfl ?_
  refine V_iload_n hC 3 dL_law_1075 rfl rfl ?_
  refine V_iconst (v := 1) hC dL_law_1076 (by decide) ?_
  refine V_iadd hC dL_law_1077 ?_
  replace h := grd_some h
  obtain ⟨c378, h⟩ := h
  refine V_sld hL c378 dL_law_1078 ?_
  replace h := bnd_some h
  obtain ⟨r379, g380, e381, h⟩ := h
  refine V_callV (As := [.int (xw (x3 + (1 : Int32)).toNatClampNeg)]) (c := 9) (T := TX11) (N := 32) hC hA mq_X11_smallestCut mi_X11_smallestCut tw_1165 (hL.d (by decide)) (hL.r (by decide)) rfl (by omega) (zc_X11_smallestCut e381) (vm_X11_smallestCut e381) rfl (Nat.le_of_ble_eq_true rfl) dL_law_1079 ?_
  refine V_icmp_eq hC 1189 dL_law_1082 (by decide) (fun c382 => ?_) (fun c382 => ?_)
  · replace h := ite_p h c382
    refine V_iinc (v := (x3 + 5)) (L' := [(3, .int (x3 + 5)), (0, va_rf (some b)), (1, va_rf (some a1)), (2, va_rf (some a2))]) hC 3 dL_law_1189 rfl rfl (by decide) rfl ?_
    refine V_goto hC 18 dL_law_1192 (by decide) ?_
    refine V_sub [1, 2, 3, 0] rfl ?_
    exact hκ _ _ h
  · replace h := ite_n h c382
    refine V_iconst (v := 0) hC dL_law_1085 (by decide) ?_
    exact absurd h (by decide)
def f_law_c35 (n : Nat) (Z : Zt) (a1 a2 L : Nat) (xw : Nat → Int32) (κ : Int32 → Mem → Option Int32) (x3 : Int32) (g : Mem) : Option Int32 := grd (inr (x3 + (1 : Int32)) L) (bnd (f_X10_worlds n Z a1 (xw (x3 + (1 : Int32)).toNatClampNeg) g) (fun r385 g386 => grd (inr (x3 + (1 : Int32)) L) (bnd (f_X11_worlds n Z a2 (xw (x3 + (1 : Int32)).toNatClampNeg) g386) (fun r389 g390 => if r385 = r389 then (κ (x3 + 5) g390) else (some (0 : Int32))))))
set_option maxHeartbeats 4000000 in
set_option maxRecDepth 100000 in
theorem vlaw_c35 {x : Cq} {n : Nat} {Z : Zt} {a1 a2 b L : Nat} {xw : Nat → Int32} {κ : Int32 → Mem → Option Int32} {x3 : Int32} {g : Mem} (hL : Cl x b L xw) (hA : Lv x Z) (hκ : ∀ (y3 : Int32) (y : Mem), κ y3 y = some 1 → V x Z 1483 67748 18 [(0, va_rf (some b)), (1, va_rf (some a1)), (2, va_rf (some a2)), (3, .int y3)] [] y) (h : f_law_c35 n Z a1 a2 L xw κ x3 g = some 1) : V x Z 1483 67748 1087 [(0, va_rf (some b)), (1, va_rf (some a1)), (2, va_rf (some a2)), (3, .int x3)] [] g := by
  have hC : Cx x code RL 8 := hL.1
  unfold f_law_c35 at h
  refine V_aload_n hC 1 dL_law_1087 rfl rfl ?_
  refine V_aload_n hC 0 dL_law_1088 rfl rfl ?_
  refine V_iload_n hC 3 dL_law_1089 rfl rfl ?_
  refine V_iconst (v := 1) hC dL_law_1090 (by decide) ?_
  refine V_iadd hC dL_law_1091 ?_
  replace h := grd_some h
  obtain ⟨c384, h⟩ := h
  refine V_sld hL c384 dL_law_1092 ?_
  replace h := bnd_some h
  obtain ⟨r385, g386, e387, h⟩ := h
  refine V_callV (As := [.int (xw (x3 + (1 : Int32)).toNatClampNeg)]) (c := 8) (T := TX10) (N := 10) hC hA mq_X10_worlds mi_X10_worlds tw_1179 (hL.d (by decide)) (hL.r (by decide)) rfl (by omega) (zc_X10_worlds e387) (vm_X10_worlds e387) rfl (Nat.le_of_ble_eq_true rfl) dL_law_1093 ?_
  refine V_aload_n hC 2 dL_law_1096 rfl rfl ?_
  refine V_aload_n hC 0 dL_law_1097 rfl rfl ?_
  refine V_iload_n hC 3 dL_law_1098 rfl rfl ?_
  refine V_iconst (v := 1) hC dL_law_1099 (by decide) ?_
  refine V_iadd hC dL_law_1100 ?_
  replace h := grd_some h
  obtain ⟨c388, h⟩ := h
  refine V_sld hL c388 dL_law_1101 ?_
  replace h := bnd_some h
  obtain ⟨r389, g390, e391, h⟩ := h
  refine V_callV (As := [.int (xw (x3 + (1 : Int32)).toNatClampNeg)]) (c := 9) (T := TX11) (N := 32) hC hA mq_X11_worlds mi_X11_worlds tw_1194 (hL.d (by decide)) (hL.r (by decide)) rfl (by omega) (zc_X11_worlds e391) (vm_X11_worlds e391) rfl (Nat.le_of_ble_eq_true rfl) dL_law_1102 ?_
  refine V_icmp_eq hC 1189 dL_law_1105 (by decide) (fun c392 => ?_) (fun c392 => ?_)
  · replace h := ite_p h c392
    refine V_iinc (v := (x3 + 5)) (L' := [(3, .int (x3 + 5)), (0, va_rf (some b)), (1, va_rf (some a1)), (2, va_rf (some a2))]) hC 3 dL_law_1189 rfl rfl (by decide) rfl ?_
    refine V_goto hC 18 dL_law_1192 (by decide) ?_
    refine V_sub [1, 2, 3, 0] rfl ?_
    exact hκ _ _ h
  · replace h := ite_n h c392
    refine V_iconst (v := 0) hC dL_law_1108 (by decide) ?_
    exact absurd h (by decide)
def f_law_c36 (n : Nat) (Z : Zt) (a1 a2 L : Nat) (xw : Nat → Int32) (κ : Int32 → Mem → Option Int32) (x3 : Int32) (g : Mem) : Option Int32 := grd (inr (x3 + (1 : Int32)) L) (bnd (f_X10_lostIf n Z a1 (xw (x3 + (1 : Int32)).toNatClampNeg) g) (fun r395 g396 => grd (inr (x3 + (1 : Int32)) L) (bnd (f_X11_lostIf n Z a2 (xw (x3 + (1 : Int32)).toNatClampNeg) g396) (fun r399 g400 => if r395 = r399 then (κ (x3 + 5) g400) else (some (0 : Int32))))))
set_option maxHeartbeats 4000000 in
set_option maxRecDepth 100000 in
theorem vlaw_c36 {x : Cq} {n : Nat} {Z : Zt} {a1 a2 b L : Nat} {xw : Nat → Int32} {κ : Int32 → Mem → Option Int32} {x3 : Int32} {g : Mem} (hL : Cl x b L xw) (hA : Lv x Z) (hκ : ∀ (y3 : Int32) (y : Mem), κ y3 y = some 1 → V x Z 1483 67748 18 [(0, va_rf (some b)), (1, va_rf (some a1)), (2, va_rf (some a2)), (3, .int y3)] [] y) (h : f_law_c36 n Z a1 a2 L xw κ x3 g = some 1) : V x Z 1483 67748 1110 [(0, va_rf (some b)), (1, va_rf (some a1)), (2, va_rf (some a2)), (3, .int x3)] [] g := by
  have hC : Cx x code RL 8 := hL.1
  unfold f_law_c36 at h
  refine V_aload_n hC 1 dL_law_1110 rfl rfl ?_
  refine V_aload_n hC 0 dL_law_1111 rfl rfl ?_
  refine V_iload_n hC 3 dL_law_1112 rfl rfl ?_
  refine V_iconst (v := 1) hC dL_law_1113 (by decide) ?_
  refine V_iadd hC dL_law_1114 ?_
  replace h := grd_some h
  obtain ⟨c394, h⟩ := h
  refine V_sld hL c394 dL_law_1115 ?_
  replace h := bnd_some h
  obtain ⟨r395, g396, e397, h⟩ := h
  refine V_callV (As := [.int (xw (x3 + (1 : Int32)).toNatClampNeg)]) (c := 8) (T := TX10) (N := 10) hC hA mq_X10_lostIf mi_X10_lostIf tw_1202 (hL.d (by decide)) (hL.r (by decide)) rfl (by omega) (zc_X10_lostIf e397) (vm_X10_lostIf e397) rfl (Nat.le_of_ble_eq_true rfl) dL_law_1116 ?_
  refine V_aload_n hC 2 dL_law_1119 rfl rfl ?_
  refine V_aload_n hC 0 dL_law_1120 rfl rfl ?_
  refine V_iload_n hC 3 dL_law_1121 rfl rfl ?_
  refine V_iconst (v := 1) hC dL_law_1122 (by decide) ?_
  refine V_iadd hC dL_law_1123 ?_
  replace h := grd_some h
  obtain ⟨c398, h⟩ := h
  refine V_sld hL c398 dL_law_1124 ?_
  replace h := bnd_some h
  obtain ⟨r399, g400, e401, h⟩ := h
  refine V_callV (As := [.int (xw (x3 + (1 : Int32)).toNatClampNeg)]) (c := 9) (T := TX11) (N := 32) hC hA mq_X11_lostIf mi_X11_lostIf tw_1206 (hL.d (by decide)) (hL.r (by decide)) rfl (by omega) (zc_X11_lostIf e401) (vm_X11_lostIf e401) rfl (Nat.le_of_ble_eq_true rfl) dL_law_1125 ?_
  refine V_icmp_eq hC 1189 dL_law_1128 (by decide) (fun c402 => ?_) (fun c402 => ?_)
  · replace h := ite_p h c402
    refine V_iinc (v := (x3 + 5)) (L' := [(3, .int (x3 + 5)), (0, va_rf (some b)), (1, va_rf (some a1)), (2, va_rf (some a2))]) hC 3 dL_law_1189 rfl rfl (by decide) rfl ?_
    refine V_goto hC 18 dL_law_1192 (by decide) ?_
    refine V_sub [1, 2, 3, 0] rfl ?_
    exact hκ _ _ h
  · replace h := ite_n h c402
    refine V_iconst (v := 0) hC dL_law_1131 (by decide) ?_
    exact absurd h (by decide)
def f_law_c37 (n : Nat) (Z : Zt) (a1 a2 L : Nat) (xw : Nat → Int32) (κ : Int32 → Mem → Option Int32) (x3 : Int32) (g : Mem) : Option Int32 := grd (inr (x3 + (1 : Int32)) L) (grd (inr (x3 + (2 : Int32)) L) (bnd (f_X10_print n Z a1 (xw (x3 + (1 : Int32)).toNatClampNeg) (xw (x3 + (2 : Int32)).toNatClampNeg) g) (fun r406 g407 => grd (inr (x3 + (1 : Int32)) L) (grd (inr (x3 + (2 : Int32)) L) (bnd (f_X11_print n Z a2 (xw (x3 + (1 : Int32)).toNatClampNeg) (xw (x3 + (2 : Int32)).toNatClampNeg) g407) (fun r411 g412 => if r406 = r411 then (κ (x3 + 5) g412) else (some (0 : Int32))))))))
set_option maxHeartbeats 4000000 in
set_option maxRecDepth 100000 in
theorem vlaw_c37 {x : Cq} {n : Nat} {Z : Zt} {a1 a2 b L : Nat} {xw : Nat → Int32} {κ : Int32 → Mem → Option Int32} {x3 : Int32} {g : Mem} (hL : Cl x b L xw) (hA : Lv x Z) (hκ : ∀ (y3 : Int32) (y : Mem), κ y3 y = some 1 → V x Z 1483 67748 18 [(0, va_rf (some b)), (1, va_rf (some a1)), (2, va_rf (some a2)), (3, .int y3)] [] y) (h : f_law_c37 n Z a1 a2 L xw κ x3 g = some 1) : V x Z 1483 67748 1133 [(0, va_rf (some b)), (1, va_rf (some a1)), (2, va_rf (some a2)), (3, .int x3)] [] g := by
  have hC : Cx x code RL 8 := hL.1
  unfold f_law_c37 at h
  refine V_aload_n hC 1 dL_law_1133 rfl rfl ?_
  refine V_aload_n hC 0 dL_law_1134 rfl rfl ?_
  refine V_iload_n hC 3 dL_law_1135 rfl rfl ?_
  refine V_iconst (v := 1) hC dL_law_1136 (by decide) ?_
  refine V_iadd hC dL_law_1137 ?_
  replace h := grd_some h
  obtain ⟨c404, h⟩ := h
  refine V_sld hL c404 dL_law_1138 ?_
  refine V_aload_n hC 0 dL_law_1139 rfl rfl ?_
  refine V_iload_n hC 3 dL_law_1140 rfl rfl ?_
  refine V_iconst (v := 2) hC dL_law_1141 (by decide) ?_
  refine V_iadd hC dL_law_1142 ?_
  replace h := grd_some h
  obtain ⟨c405, h⟩ := h
  refine V_sld hL c405 dL_law_1143 ?_
  replace h := bnd_some h
  obtain ⟨r406, g407, e408, h⟩ := h
  refine V_callV (As := [.int (xw (x3 + (1 : Int32)).toNatClampNeg), .int (xw (x3 + (2 : Int32)).toNatClampNeg)]) (c := 8) (T := TX10) (N := 10) hC hA mq_X10_print mi_X10_print tw_1210 (hL.d (by decide)) (hL.r (by decide)) rfl (by omega) (zc_X10_print e408) (vm_X10_print e408) rfl (Nat.le_of_ble_eq_true rfl) dL_law_1144 ?_
  refine V_aload_n hC 2 dL_law_1147 rfl rfl ?_
  refine V_aload_n hC 0 dL_law_1148 rfl rfl ?_
  refine V_iload_n hC 3 dL_law_1149 rfl rfl ?_
  refine V_iconst (v := 1) hC dL_law_1150 (by decide) ?_
  refine V_iadd hC dL_law_1151 ?_
  replace h := grd_some h
  obtain ⟨c409, h⟩ := h
  refine V_sld hL c409 dL_law_1152 ?_
  refine V_aload_n hC 0 dL_law_1153 rfl rfl ?_
  refine V_iload_n hC 3 dL_law_1154 rfl rfl ?_
  refine V_iconst (v := 2) hC dL_law_1155 (by decide) ?_
  refine V_iadd hC dL_law_1156 ?_
  replace h := grd_some h
  obtain ⟨c410, h⟩ := h
  refine V_sld hL c410 dL_law_1157 ?_
  replace h := bnd_some h
  obtain ⟨r411, g412, e413, h⟩ := h
  refine V_callV (As := [.int (xw (x3 + (1 : Int32)).toNatClampNeg), .int (xw (x3 + (2 : Int32)).toNatClampNeg)]) (c := 9) (T := TX11) (N := 32) hC hA mq_X11_print mi_X11_print tw_1224 (hL.d (by decide)) (hL.r (by decide)) rfl (by omega) (zc_X11_print e413) (vm_X11_print e413) rfl (Nat.le_of_ble_eq_true rfl) dL_law_1158 ?_
  refine V_icmp_eq hC 1189 dL_law_1161 (by decide) (fun c414 => ?_) (fun c414 => ?_)
  · replace h := ite_p h c414
    refine V_iinc (v := (x3 + 5)) (L' := [(3, .int (x3 + 5)), (0, va_rf (some b)), (1, va_rf (some a1)), (2, va_rf (some a2))]) hC 3 dL_law_1189 rfl rfl (by decide) rfl ?_
    refine V_goto hC 18 dL_law_1192 (by decide) ?_
    refine V_sub [1, 2, 3, 0] rfl ?_
    exact hκ _ _ h
  · replace h := ite_n h c414
    refine V_iconst (v := 0) hC dL_law_1164 (by decide) ?_
    exact absurd h (by decide)
def f_law_c38 (n : Nat) (Z : Zt) (a1 a2 L : Nat) (xw : Nat → Int32) (κ : Int32 → Mem → Option Int32) (x3 : Int32) (g : Mem) : Option Int32 := grd (inr (x3 + (1 : Int32)) L) (bnd (f_X10_printed n Z a1 (xw (x3 + (1 : Int32)).toNatClampNeg) g) (fun r417 g418 => grd (inr (x3 + (1 : Int32)) L) (bnd (f_X11_printed n Z a2 (xw (x3 + (1 : Int32)).toNatClampNeg) g418) (fun r421 g422 => if r417 = r421 then (κ (x3 + 5) g422) else (some (0 : Int32))))))
set_option maxHeartbeats 4000000 in
set_option maxRecDepth 100000 in
theorem vlaw_c38 {x : Cq} {n : Nat} {Z : Zt} {a1 a2 b L : Nat} {xw : Nat → Int32} {κ : Int32 → Mem → Option Int32} {x3 : Int32} {g : Mem} (hL : Cl x b L xw) (hA : Lv x Z) (hκ : ∀ (y3 : Int32) (y : Mem), κ y3 y = some 1 → V x Z 1483 67748 18 [(0, va_rf (some b)), (1, va_rf (some a1)), (2, va_rf (some a2)), (3, .int y3)] [] y) (h : f_law_c38 n Z a1 a2 L xw κ x3 g = some 1) : V x Z 1483 67748 1166 [(0, va_rf (some b)), (1, va_rf (some a1)), (2, va_rf (some a2)), (3, .int x3)] [] g := by
  have hC : Cx x code RL 8 := hL.1
  unfold f_law_c38 at h
  refine V_aload_n hC 1 dL_law_1166 rfl rfl ?_
  refine V_aload_n hC 0 dL_law_1167 rfl rfl ?_
  refine V_iload_n hC 3 dL_law_1168 rfl rfl ?_
  refine V_iconst (v := 1) hC dL_law_1169 (by decide) ?_
  refine V_iadd hC dL_law_1170 ?_
  replace h := grd_some h
  obtain ⟨c416, h⟩ := h
  refine V_sld hL c416 dL_law_1171 ?_
  replace h := bnd_some h
  obtain ⟨r417, g418, e419, h⟩ := h
  refine V_callV (As := [.int (xw (x3 + (1 : Int32)).toNatClampNeg)]) (c := 8) (T := TX10) (N := 10) hC hA mq_X10_printed mi_X10_printed tw_1243 (hL.d (by decide)) (hL.r (by decide)) rfl (by omega) (zc_X10_printed e419) (vm_X10_printed e419) rfl (Nat.le_of_ble_eq_true rfl) dL_law_1172 ?_
  refine V_aload_n hC 2 dL_law_1175 rfl rfl ?_
  refine V_aload_n hC 0 dL_law_1176 rfl rfl ?_
  refine V_iload_n hC 3 dL_law_1177 rfl rfl ?_
  refine V_iconst (v := 1) hC dL_law_1178 (by decide) ?_
  refine V_iadd hC dL_law_1179 ?_
  replace h := grd_some h
  obtain ⟨c420, h⟩ := h
  refine V_sld hL c420 dL_law_1180 ?_
  replace h := bnd_some h
  obtain ⟨r421, g422, e423, h⟩ := h
  refine V_callV (As := [.int (xw (x3 + (1 : Int32)).toNatClampNeg)]) (c := 9) (T := TX11) (N := 32) hC hA mq_X11_printed mi_X11_printed tw_1247 (hL.d (by decide)) (hL.r (by decide)) rfl (by omega) (zc_X11_printed e423) (vm_X11_printed e423) rfl (Nat.le_of_ble_eq_true rfl) dL_law_1181 ?_
  refine V_icmp_eq hC 1189 dL_law_1184 (by decide) (fun c424 => ?_) (fun c424 => ?_)
  · replace h := ite_p h c424
    refine V_iinc (v := (x3 + 5)) (L' := [(3, .int (x3 + 5)), (0, va_rf (some b)), (1, va_rf (some a1)), (2, va_rf (some a2))]) hC 3 dL_law_1189 rfl rfl (by decide) rfl ?_
    refine V_goto hC 18 dL_law_1192 (by decide) ?_
    refine V_sub [1, 2, 3, 0] rfl ?_
    exact hκ _ _ h
  · replace h := ite_n h c424
    refine V_iconst (v := 0) hC dL_law_1187 (by decide) ?_
    exact absurd h (by decide)
def f_law_l18 (n : Nat) (Z : Zt) (a1 a2 L : Nat) (xw : Nat → Int32) : Nat → Int32 → Mem → Option Int32
  | 0, _, _ => none
  | fu + 1, x3, g => if ((Int32.ofNat L) - (5 : Int32)) < x3 then (some (1 : Int32)) else (grd (inr x3 L) (if ((xw x3.toNatClampNeg) &&& (63 : Int32)) = 0 then (f_law_c0 n Z a1 a2 L xw (fun y3 y => f_law_l18 n Z a1 a2 L xw fu y3 y) x3 g) else (if ((xw x3.toNatClampNeg) &&& (63 : Int32)) = 1 then (f_law_c1 n Z a1 a2 L xw (fun y3 y => f_law_l18 n Z a1 a2 L xw fu y3 y) x3 g) else (if ((xw x3.toNatClampNeg) &&& (63 : Int32)) = 2 then (f_law_c2 n Z a1 a2 L xw (fun y3 y => f_law_l18 n Z a1 a2 L xw fu y3 y) x3 g) else (if ((xw x3.toNatClampNeg) &&& (63 : Int32)) = 3 then (f_law_c3 n Z a1 a2 L xw (fun y3 y => f_law_l18 n Z a1 a2 L xw fu y3 y) x3 g) else (if ((xw x3.toNatClampNeg) &&& (63 : Int32)) = 4 then (f_law_c4 n Z a1 a2 L xw (fun y3 y => f_law_l18 n Z a1 a2 L xw fu y3 y) x3 g) else (if ((xw x3.toNatClampNeg) &&& (63 : Int32)) = 5 then (f_law_c5 n Z a1 a2 L xw (fun y3 y => f_law_l18 n Z a1 a2 L xw fu y3 y) x3 g) else (if ((xw x3.toNatClampNeg) &&& (63 : Int32)) = 6 then (f_law_c6 n Z a1 a2 L xw (fun y3 y => f_law_l18 n Z a1 a2 L xw fu y3 y) x3 g) else (if ((xw x3.toNatClampNeg) &&& (63 : Int32)) = 7 then (f_law_c7 n Z a1 a2 L xw (fun y3 y => f_law_l18 n Z a1 a2 L xw fu y3 y) x3 g) else (if ((xw x3.toNatClampNeg) &&& (63 : Int32)) = 8 then (f_law_c8 n Z a1 a2 L xw (fun y3 y => f_law_l18 n Z a1 a2 L xw fu y3 y) x3 g) else (if ((xw x3.toNatClampNeg) &&& (63 : Int32)) = 9 then (f_law_c9 n Z a1 a2 L xw (fun y3 y => f_law_l18 n Z a1 a2 L xw fu y3 y) x3 g) else (if ((xw x3.toNatClampNeg) &&& (63 : Int32)) = 10 then (f_law_c10 n Z a1 a2 L xw (fun y3 y => f_law_l18 n Z a1 a2 L xw fu y3 y) x3 g) else (if ((xw x3.toNatClampNeg) &&& (63 : Int32)) = 11 then (f_law_c11 n Z a1 a2 L xw (fun y3 y => f_law_l18 n Z a1 a2 L xw fu y3 y) x3 g) else (if ((xw x3.toNatClampNeg) &&& (63 : Int32)) = 12 then (f_law_c12 n Z a1 a2 L xw (fun y3 y => f_law_l18 n Z a1 a2 L xw fu y3 y) x3 g) else (if ((xw x3.toNatClampNeg) &&& (63 : Int32)) = 13 then (f_law_c13 n Z a1 a2 L xw (fun y3 y => f_law_l18 n Z a1 a2 L xw fu y3 y) x3 g) else (if ((xw x3.toNatClampNeg) &&& (63 : Int32)) = 14 then (f_law_c14 n Z a1 a2 L xw (fun y3 y => f_law_l18 n Z a1 a2 L xw fu y3 y) x3 g) else (if ((xw x3.toNatClampNeg) &&& (63 : Int32)) = 15 then (f_law_c15 n Z a1 a2 L xw (fun y3 y => f_law_l18 n Z a1 a2 L xw fu y3 y) x3 g) else (if ((xw x3.toNatClampNeg) &&& (63 : Int32)) = 16 then (f_law_c16 n Z a1 a2 L xw (fun y3 y => f_law_l18 n Z a1 a2 L xw fu y3 y) x3 g) else (if ((xw x3.toNatClampNeg) &&& (63 : Int32)) = 17 then (f_law_c17 n Z a1 a2 L xw (fun y3 y => f_law_l18 n Z a1 a2 L xw fu y3 y) x3 g) else (if ((xw x3.toNatClampNeg) &&& (63 : Int32)) = 18 then (f_law_c18 n Z a1 a2 L xw (fun y3 y => f_law_l18 n Z a1 a2 L xw fu y3 y) x3 g) else (if ((xw x3.toNatClampNeg) &&& (63 : Int32)) = 19 then (f_law_c19 n Z a1 a2 L xw (fun y3 y => f_law_l18 n Z a1 a2 L xw fu y3 y) x3 g) else (if ((xw x3.toNatClampNeg) &&& (63 : Int32)) = 20 then (f_law_c20 n Z a1 a2 L xw (fun y3 y => f_law_l18 n Z a1 a2 L xw fu y3 y) x3 g) else (if ((xw x3.toNatClampNeg) &&& (63 : Int32)) = 21 then (f_law_c21 n Z a1 a2 L xw (fun y3 y => f_law_l18 n Z a1 a2 L xw fu y3 y) x3 g) else (if ((xw x3.toNatClampNeg) &&& (63 : Int32)) = 22 then (f_law_c22 n Z a1 a2 L xw (fun y3 y => f_law_l18 n Z a1 a2 L xw fu y3 y) x3 g) else (if ((xw x3.toNatClampNeg) &&& (63 : Int32)) = 23 then (f_law_c23 n Z a1 a2 L xw (fun y3 y => f_law_l18 n Z a1 a2 L xw fu y3 y) x3 g) else (if ((xw x3.toNatClampNeg) &&& (63 : Int32)) = 24 then (f_law_c24 n Z a1 a2 L xw (fun y3 y => f_law_l18 n Z a1 a2 L xw fu y3 y) x3 g) else (if ((xw x3.toNatClampNeg) &&& (63 : Int32)) = 25 then (f_law_c25 n Z a1 a2 L xw (fun y3 y => f_law_l18 n Z a1 a2 L xw fu y3 y) x3 g) else (if ((xw x3.toNatClampNeg) &&& (63 : Int32)) = 26 then (f_law_c26 n Z a1 a2 L xw (fun y3 y => f_law_l18 n Z a1 a2 L xw fu y3 y) x3 g) else (if ((xw x3.toNatClampNeg) &&& (63 : Int32)) = 27 then (f_law_c27 n Z a1 a2 L xw (fun y3 y => f_law_l18 n Z a1 a2 L xw fu y3 y) x3 g) else (if ((xw x3.toNatClampNeg) &&& (63 : Int32)) = 28 then (f_law_c28 n Z a1 a2 L xw (fun y3 y => f_law_l18 n Z a1 a2 L xw fu y3 y) x3 g) else (if ((xw x3.toNatClampNeg) &&& (63 : Int32)) = 29 then (f_law_c29 n Z a1 a2 L xw (fun y3 y => f_law_l18 n Z a1 a2 L xw fu y3 y) x3 g) else (if ((xw x3.toNatClampNeg) &&& (63 : Int32)) = 30 then (f_law_c30 n Z a1 a2 L xw (fun y3 y => f_law_l18 n Z a1 a2 L xw fu y3 y) x3 g) else (if ((xw x3.toNatClampNeg) &&& (63 : Int32)) = 31 then (f_law_c31 n Z a1 a2 L xw (fun y3 y => f_law_l18 n Z a1 a2 L xw fu y3 y) x3 g) else (if ((xw x3.toNatClampNeg) &&& (63 : Int32)) = 32 then (f_law_c32 n Z a1 a2 L xw (fun y3 y => f_law_l18 n Z a1 a2 L xw fu y3 y) x3 g) else (if ((xw x3.toNatClampNeg) &&& (63 : Int32)) = 33 then (f_law_c33 n Z a1 a2 L xw (fun y3 y => f_law_l18 n Z a1 a2 L xw fu y3 y) x3 g) else (if ((xw x3.toNatClampNeg) &&& (63 : Int32)) = 34 then (f_law_c34 n Z a1 a2 L xw (fun y3 y => f_law_l18 n Z a1 a2 L xw fu y3 y) x3 g) else (if ((xw x3.toNatClampNeg) &&& (63 : Int32)) = 35 then (f_law_c35 n Z a1 a2 L xw (fun y3 y => f_law_l18 n Z a1 a2 L xw fu y3 y) x3 g) else (if ((xw x3.toNatClampNeg) &&& (63 : Int32)) = 36 then (f_law_c36 n Z a1 a2 L xw (fun y3 y => f_law_l18 n Z a1 a2 L xw fu y3 y) x3 g) else (if ((xw x3.toNatClampNeg) &&& (63 : Int32)) = 37 then (f_law_c37 n Z a1 a2 L xw (fun y3 y => f_law_l18 n Z a1 a2 L xw fu y3 y) x3 g) else (if ((xw x3.toNatClampNeg) &&& (63 : Int32)) = 38 then (f_law_c38 n Z a1 a2 L xw (fun y3 y => f_law_l18 n Z a1 a2 L xw fu y3 y) x3 g) else (f_law_l18 n Z a1 a2 L xw fu (x3 + 5) g)))))))))))))))))))))))))))))))))))))))))
set_option maxHeartbeats 4000000 in
set_option maxRecDepth 100000 in
theorem vlaw_l18 {x : Cq} {n : Nat} {Z : Zt} {a1 a2 b L : Nat} {xw : Nat → Int32} (hL : Cl x b L xw) (hA : Lv x Z) : ∀ (fu : Nat) (x3 : Int32) (g : Mem), f_law_l18 n Z a1 a2 L xw fu x3 g = some 1 → V x Z 1483 67748 18 [(0, va_rf (some b)), (1, va_rf (some a1)), (2, va_rf (some a2)), (3, .int x3)] [] g := by
  have hC : Cx x code RL 8 := hL.1
  intro fu
  induction fu with
  | zero => intro x3 g h; cases h
  | succ fu ih =>
    intro x3 g h
    unfold f_law_l18 at h
    refine V_iload_n hC 3 dL_law_18 rfl rfl ?_
    refine V_aload_n hC 0 dL_law_19 rfl rfl ?_
    refine V_slen hL dL_law_20 ?_
    refine V_iconst (v := 5) hC dL_law_21 (by decide) ?_
    refine V_isub hC dL_law_22 ?_
    refine V_icmp_gt hC 1195 dL_law_23 (by decide) (fun c1 => ?_) (fun c1 => ?_)
    · replace h := ite_p h c1
      refine V_iconst (v := 1) hC dL_law_1195 (by decide) ?_
      exact V_lend hL (by decide) dL_law_1196
    · replace h := ite_n h c1
      refine V_aload_n hC 0 dL_law_26 rfl rfl ?_
      refine V_iload_n hC 3 dL_law_27 rfl rfl ?_
      replace h := grd_some h
      obtain ⟨c2, h⟩ := h
      refine V_sld hL c2 dL_law_28 ?_
      refine V_bipush (v := 63) hC dL_law_29 (by decide) ?_
      refine V_iand hC dL_law_31 ?_
      by_cases c3 : ((xw x3.toNatClampNeg) &&& (63 : Int32)) = 0
      · replace h := ite_p h c3
        refine V_tblK (off := 172) hC 204 c3 dL_law_32 (by decide) (by decide) (by decide) (by decide) ?_
        refine V_sub [0, 1, 2, 3] rfl ?_
        exact vlaw_c0 hL hA ih h
      replace h := ite_n h c3
      by_cases c15 : ((xw x3.toNatClampNeg) &&& (63 : Int32)) = 1
      · replace h := ite_p h c15
        refine V_tblK (off := 205) hC 237 c15 dL_law_32 (by decide) (by decide) (by decide) (by decide) ?_
        refine V_sub [0, 1, 2, 3] rfl ?_
        exact vlaw_c1 hL hA ih h
      replace h := ite_n h c15
      by_cases c27 : ((xw x3.toNatClampNeg) &&& (63 : Int32)) = 2
      · replace h := ite_p h c27
        refine V_tblK (off := 238) hC 270 c27 dL_law_32 (by decide) (by decide) (by decide) (by decide) ?_
        refine V_sub [0, 1, 2, 3] rfl ?_
        exact vlaw_c2 hL hA ih h
      replace h := ite_n h c27
      by_cases c37 : ((xw x3.toNatClampNeg) &&& (63 : Int32)) = 3
      · replace h := ite_p h c37
        refine V_tblK (off := 261) hC 293 c37 dL_law_32 (by decide) (by decide) (by decide) (by decide) ?_
        refine V_sub [0, 1, 2, 3] rfl ?_
        exact vlaw_c3 hL hA ih h
      replace h := ite_n h c37
      by_cases c49 : ((xw x3.toNatClampNeg) &&& (63 : Int32)) = 4
      · replace h := ite_p h c49
        refine V_tblK (off := 294) hC 326 c49 dL_law_32 (by decide) (by decide) (by decide) (by decide) ?_
        refine V_sub [0, 1, 2, 3] rfl ?_
        exact vlaw_c4 hL hA ih h
      replace h := ite_n h c49
      by_cases c61 : ((xw x3.toNatClampNeg) &&& (63 : Int32)) = 5
      · replace h := ite_p h c61
        refine V_tblK (off := 327) hC 359 c61 dL_law_32 (by decide) (by decide) (by decide) (by decide) ?_
        refine V_sub [0, 1, 2, 3] rfl ?_
        exact vlaw_c5 hL hA ih h
      replace h := ite_n h c61
      by_cases c93 : ((xw x3.toNatClampNeg) &&& (63 : Int32)) = 6
      · replace h := ite_p h c93
        refine V_tblK (off := 376) hC 408 c93 dL_law_32 (by decide) (by decide) (by decide) (by decide) ?_
        refine V_sub [0, 1, 2, 3] rfl ?_
        exact vlaw_c6 hL hA ih h
      replace h := ite_n h c93
      by_cases c101 : ((xw x3.toNatClampNeg) &&& (63 : Int32)) = 7
      · replace h := ite_p h c101
        refine V_tblK (off := 389) hC 421 c101 dL_law_32 (by decide) (by decide) (by decide) (by decide) ?_
        refine V_sub [0, 1, 2, 3] rfl ?_
        exact vlaw_c7 hL hA ih h
      replace h := ite_n h c101
      by_cases c109 : ((xw x3.toNatClampNeg) &&& (63 : Int32)) = 8
      · replace h := ite_p h c109
        refine V_tblK (off := 402) hC 434 c109 dL_law_32 (by decide) (by decide) (by decide) (by decide) ?_
        refine V_sub [0, 1, 2, 3] rfl ?_
        exact vlaw_c8 hL hA ih h
      replace h := ite_n h c109
      by_cases c119 : ((xw x3.toNatClampNeg) &&& (63 : Int32)) = 9
      · replace h := ite_p h c119
        refine V_tblK (off := 425) hC 457 c119 dL_law_32 (by decide) (by decide) (by decide) (by decide) ?_
        refine V_sub [0, 1, 2, 3] rfl ?_
        exact vlaw_c9 hL hA ih h
      replace h := ite_n h c119
      by_cases c127 : ((xw x3.toNatClampNeg) &&& (63 : Int32)) = 10
      · replace h := ite_p h c127
        refine V_tblK (off := 438) hC 470 c127 dL_law_32 (by decide) (by decide) (by decide) (by decide) ?_
        refine V_sub [0, 1, 2, 3] rfl ?_
        exact vlaw_c10 hL hA ih h
      replace h := ite_n h c127
      by_cases c135 : ((xw x3.toNatClampNeg) &&& (63 : Int32)) = 11
      · replace h := ite_p h c135
        refine V_tblK (off := 451) hC 483 c135 dL_law_32 (by decide) (by decide) (by decide) (by decide) ?_
        refine V_sub [0, 1, 2, 3] rfl ?_
        exact vlaw_c11 hL hA ih h
      replace h := ite_n h c135
      by_cases c143 : ((xw x3.toNatClampNeg) &&& (63 : Int32)) = 12
      · replace h := ite_p h c143
        refine V_tblK (off := 464) hC 496 c143 dL_law_32 (by decide) (by decide) (by decide) (by decide) ?_
        refine V_sub [0, 1, 2, 3] rfl ?_
        exact vlaw_c12 hL hA ih h
      replace h := ite_n h c143
      by_cases c153 : ((xw x3.toNatClampNeg) &&& (63 : Int32)) = 13
      · replace h := ite_p h c153
        refine V_tblK (off := 487) hC 519 c153 dL_law_32 (by decide) (by decide) (by decide) (by decide) ?_
        refine V_sub [0, 1, 2, 3] rfl ?_
        exact vlaw_c13 hL hA ih h
      replace h := ite_n h c153
      by_cases c161 : ((xw x3.toNatClampNeg) &&& (63 : Int32)) = 14
      · replace h := ite_p h c161
        refine V_tblK (off := 500) hC 532 c161 dL_law_32 (by decide) (by decide) (by decide) (by decide) ?_
        refine V_sub [0, 1, 2, 3] rfl ?_
        exact vlaw_c14 hL hA ih h
      replace h := ite_n h c161
      by_cases c169 : ((xw x3.toNatClampNeg) &&& (63 : Int32)) = 15
      · replace h := ite_p h c169
        refine V_tblK (off := 513) hC 545 c169 dL_law_32 (by decide) (by decide) (by decide) (by decide) ?_
        refine V_sub [0, 1, 2, 3] rfl ?_
        exact vlaw_c15 hL hA ih h
      replace h := ite_n h c169
      by_cases c179 : ((xw x3.toNatClampNeg) &&& (63 : Int32)) = 16
      · replace h := ite_p h c179
        refine V_tblK (off := 536) hC 568 c179 dL_law_32 (by decide) (by decide) (by decide) (by decide) ?_
        refine V_sub [0, 1, 2, 3] rfl ?_
        exact vlaw_c16 hL hA ih h
      replace h := ite_n h c179
      by_cases c191 : ((xw x3.toNatClampNeg) &&& (63 : Int32)) = 17
      · replace h := ite_p h c191
        refine V_tblK (off := 569) hC 601 c191 dL_law_32 (by decide) (by decide) (by decide) (by decide) ?_
        refine V_sub [0, 1, 2, 3] rfl ?_
        exact vlaw_c17 hL hA ih h
      replace h := ite_n h c191
      by_cases c201 : ((xw x3.toNatClampNeg) &&& (63 : Int32)) = 18
      · replace h := ite_p h c201
        refine V_tblK (off := 592) hC 624 c201 dL_law_32 (by decide) (by decide) (by decide) (by decide) ?_
        refine V_sub [0, 1, 2, 3] rfl ?_
        exact vlaw_c18 hL hA ih h
      replace h := ite_n h c201
      by_cases c211 : ((xw x3.toNatClampNeg) &&& (63 : Int32)) = 19
      · replace h := ite_p h c211
        refine V_tblK (off := 615) hC 647 c211 dL_law_32 (by decide) (by decide) (by decide) (by decide) ?_
        refine V_sub [0, 1, 2, 3] rfl ?_
        exact vlaw_c19 hL hA ih h
      replace h := ite_n h c211
      by_cases c219 : ((xw x3.toNatClampNeg) &&& (63 : Int32)) = 20
      · replace h := ite_p h c219
        refine V_tblK (off := 628) hC 660 c219 dL_law_32 (by decide) (by decide) (by decide) (by decide) ?_
        refine V_sub [0, 1, 2, 3] rfl ?_
        exact vlaw_c20 hL hA ih h
      replace h := ite_n h c219
      by_cases c229 : ((xw x3.toNatClampNeg) &&& (63 : Int32)) = 21
      · replace h := ite_p h c229
        refine V_tblK (off := 651) hC 683 c229 dL_law_32 (by decide) (by decide) (by decide) (by decide) ?_
        refine V_sub [0, 1, 2, 3] rfl ?_
        exact vlaw_c21 hL hA ih h
      replace h := ite_n h c229
      by_cases c237 : ((xw x3.toNatClampNeg) &&& (63 : Int32)) = 22
      · replace h := ite_p h c237
        refine V_tblK (off := 664) hC 696 c237 dL_law_32 (by decide) (by decide) (by decide) (by decide) ?_
        refine V_sub [0, 1, 2, 3] rfl ?_
        exact vlaw_c22 hL hA ih h
      replace h := ite_n h c237
      by_cases c245 : ((xw x3.toNatClampNeg) &&& (63 : Int32)) = 23
      · replace h := ite_p h c245
        refine V_tblK (off := 677) hC 709 c245 dL_law_32 (by decide) (by decide) (by decide) (by decide) ?_
        refine V_sub [0, 1, 2, 3] rfl ?_
        exact vlaw_c23 hL hA ih h
      replace h := ite_n h c245
      by_cases c257 : ((xw x3.toNatClampNeg) &&& (63 : Int32)) = 24
      · replace h := ite_p h c257
        refine V_tblK (off := 710) hC 742 c257 dL_law_32 (by decide) (by decide) (by decide) (by decide) ?_
        refine V_sub [0, 1, 2, 3] rfl ?_
        exact vlaw_c24 hL hA ih h
      replace h := ite_n h c257
      by_cases c269 : ((xw x3.toNatClampNeg) &&& (63 : Int32)) = 25
      · replace h := ite_p h c269
        refine V_tblK (off := 743) hC 775 c269 dL_law_32 (by decide) (by decide) (by decide) (by decide) ?_
        refine V_sub [0, 1, 2, 3] rfl ?_
        exact vlaw_c25 hL hA ih h
      replace h := ite_n h c269
      by_cases c283 : ((xw x3.toNatClampNeg) &&& (63 : Int32)) = 26
      · replace h := ite_p h c283
        refine V_tblK (off := 787) hC 819 c283 dL_law_32 (by decide) (by decide) (by decide) (by decide) ?_
        refine V_sub [0, 1, 2, 3] rfl ?_
        exact vlaw_c26 hL hA ih h
      replace h := ite_n h c283
      by_cases c299 : ((xw x3.toNatClampNeg) &&& (63 : Int32)) = 27
      · replace h := ite_p h c299
        refine V_tblK (off := 840) hC 872 c299 dL_law_32 (by decide) (by decide) (by decide) (by decide) ?_
        refine V_sub [0, 1, 2, 3] rfl ?_
        exact vlaw_c27 hL hA ih h
      replace h := ite_n h c299
      by_cases c309 : ((xw x3.toNatClampNeg) &&& (63 : Int32)) = 28
      · replace h := ite_p h c309
        refine V_tblK (off := 863) hC 895 c309 dL_law_32 (by decide) (by decide) (by decide) (by decide) ?_
        refine V_sub [0, 1, 2, 3] rfl ?_
        exact vlaw_c28 hL hA ih h
      replace h := ite_n h c309
      by_cases c319 : ((xw x3.toNatClampNeg) &&& (63 : Int32)) = 29
      · replace h := ite_p h c319
        refine V_tblK (off := 887) hC 919 c319 dL_law_32 (by decide) (by decide) (by decide) (by decide) ?_
        refine V_sub [0, 1, 2, 3] rfl ?_
        exact vlaw_c29 hL hA ih h
      replace h := ite_n h c319
      by_cases c329 : ((xw x3.toNatClampNeg) &&& (63 : Int32)) = 30
      · replace h := ite_p h c329
        refine V_tblK (off := 910) hC 942 c329 dL_law_32 (by decide) (by decide) (by decide) (by decide) ?_
        refine V_sub [0, 1, 2, 3] rfl ?_
        exact vlaw_c30 hL hA ih h
      replace h := ite_n h c329
      by_cases c339 : ((xw x3.toNatClampNeg) &&& (63 : Int32)) = 31
      · replace h := ite_p h c339
        refine V_tblK (off := 933) hC 965 c339 dL_law_32 (by decide) (by decide) (by decide) (by decide) ?_
        refine V_sub [0, 1, 2, 3] rfl ?_
        exact vlaw_c31 hL hA ih h
      replace h := ite_n h c339
      by_cases c349 : ((xw x3.toNatClampNeg) &&& (63 : Int32)) = 32
      · replace h := ite_p h c349
        refine V_tblK (off := 956) hC 988 c349 dL_law_32 (by decide) (by decide) (by decide) (by decide) ?_
        refine V_sub [0, 1, 2, 3] rfl ?_
        exact vlaw_c32 hL hA ih h
      replace h := ite_n h c349
      by_cases c363 : ((xw x3.toNatClampNeg) &&& (63 : Int32)) = 33
      · replace h := ite_p h c363
        refine V_tblK (off := 1009) hC 1041 c363 dL_law_32 (by decide) (by decide) (by decide) (by decide) ?_
        refine V_sub [0, 1, 2, 3] rfl ?_
        exact vlaw_c33 hL hA ih h
      replace h := ite_n h c363
      by_cases c373 : ((xw x3.toNatClampNeg) &&& (63 : Int32)) = 34
      · replace h := ite_p h c373
        refine V_tblK (off := 1032) hC 1064 c373 dL_law_32 (by decide) (by decide) (by decide) (by decide) ?_
        refine V_sub [0, 1, 2, 3] rfl ?_
        exact vlaw_c34 hL hA ih h
      replace h := ite_n h c373
      by_cases c383 : ((xw x3.toNatClampNeg) &&& (63 : Int32)) = 35
      · replace h := ite_p h c383
        refine V_tblK (off := 1055) hC 1087 c383 dL_law_32 (by decide) (by decide) (by decide) (by decide) ?_
        refine V_sub [0, 1, 2, 3] rfl ?_
        exact vlaw_c35 hL hA ih h
      replace h := ite_n h c383
      by_cases c393 : ((xw x3.toNatClampNeg) &&& (63 : Int32)) = 36
      · replace h := ite_p h c393
        refine V_tblK (off := 1078) hC 1110 c393 dL_law_32 (by decide) (by decide) (by decide) (by decide) ?_
        refine V_sub [0, 1, 2, 3] rfl ?_
        exact vlaw_c36 hL hA ih h
      replace h := ite_n h c393
      by_cases c403 : ((xw x3.toNatClampNeg) &&& (63 : Int32)) = 37
      · replace h := ite_p h c403
        refine V_tblK (off := 1101) hC 1133 c403 dL_law_32 (by decide) (by decide) (by decide) (by decide) ?_
        refine V_sub [0, 1, 2, 3] rfl ?_
        exact vlaw_c37 hL hA ih h
      replace h := ite_n h c403
      by_cases c415 : ((xw x3.toNatClampNeg) &&& (63 : Int32)) = 38
      · replace h := ite_p h c415
        refine V_tblK (off := 1134) hC 1166 c415 dL_law_32 (by decide) (by decide) (by decide) (by decide) ?_
        refine V_sub [0, 1, 2, 3] rfl ?_
        exact vlaw_c38 hL hA ih h
      replace h := ite_n h c415
      refine V_tblD hC 1189 dL_law_32 (by have q0 := lv_neT (a := 0) c3 (by decide); have q1 := lv_neT (a := 1) c15 (by decide); have q2 := lv_neT (a := 2) c27 (by decide); have q3 := lv_neT (a := 3) c37 (by decide); have q4 := lv_neT (a := 4) c49 (by decide); have q5 := lv_neT (a := 5) c61 (by decide); have q6 := lv_neT (a := 6) c93 (by decide); have q7 := lv_neT (a := 7) c101 (by decide); have q8 := lv_neT (a := 8) c109 (by decide); have q9 := lv_neT (a := 9) c119 (by decide); have q10 := lv_neT (a := 10) c127 (by decide); have q11 := lv_neT (a := 11) c135 (by decide); have q12 := lv_neT (a := 12) c143 (by decide); have q13 := lv_neT (a := 13) c153 (by decide); have q14 := lv_neT (a := 14) c161 (by decide); have q15 := lv_neT (a := 15) c169 (by decide); have q16 := lv_neT (a := 16) c179 (by decide); have q17 := lv_neT (a := 17) c191 (by decide); have q18 := lv_neT (a := 18) c201 (by decide); have q19 := lv_neT (a := 19) c211 (by decide); have q20 := lv_neT (a := 20) c219 (by decide); have q21 := lv_neT (a := 21) c229 (by decide); have q22 := lv_neT (a := 22) c237 (by decide); have q23 := lv_neT (a := 23) c245 (by decide); have q24 := lv_neT (a := 24) c257 (by decide); have q25 := lv_neT (a := 25) c269 (by decide); have q26 := lv_neT (a := 26) c283 (by decide); have q27 := lv_neT (a := 27) c299 (by decide); have q28 := lv_neT (a := 28) c309 (by decide); have q29 := lv_neT (a := 29) c319 (by decide); have q30 := lv_neT (a := 30) c329 (by decide); have q31 := lv_neT (a := 31) c339 (by decide); have q32 := lv_neT (a := 32) c349 (by decide); have q33 := lv_neT (a := 33) c363 (by decide); have q34 := lv_neT (a := 34) c373 (by decide); have q35 := lv_neT (a := 35) c383 (by decide); have q36 := lv_neT (a := 36) c393 (by decide); have q37 := lv_neT (a := 37) c403 (by decide); have q38 := lv_neT (a := 38) c415 (by decide); omega) (by decide) ?_
      refine V_iinc (v := (x3 + 5)) (L' := [(3, .int (x3 + 5)), (0, va_rf (some b)), (1, va_rf (some a1)), (2, va_rf (some a2))]) hC 3 dL_law_1189 rfl rfl (by decide) rfl ?_
      refine V_goto hC 18 dL_law_1192 (by decide) ?_
      refine V_sub [1, 2, 3, 0] rfl ?_
      exact ih _ _ h
def Ze : Zt := (fun _ => 0, fun _ => 0, fun _ _ => none)
def ge : Mem := (fun _ _ => 0, fun _ _ => 0, fun _ _ => none)
/-- the law, as a function of the script and of the first free address -/
def f_law (n hs L : Nat) (xw : Nat → Int32) : Option Int32 :=
  bnd (fi_X10 n (hs + 1) (nO Ze hs 8) hs (zr ge hs)) (fun Z1 g1 => bnd (fi_X11 n (hs + 1463) (nO Z1 (hs + 1462) 9) (hs + 1462) (zr g1 (hs + 1462))) (fun Z2 g2 => f_law_l18 n Z2 hs (hs + 1462) L xw n 0 g2))
set_option maxHeartbeats 4000000 in
set_option maxRecDepth 100000 in
theorem vlaw {x : Cq} {n hs b L : Nat} {xw : Nat → Int32} (hL : Cl x b L xw) (hhs : (xs x).heap.size = hs) (h : f_law n hs L xw = some 1) : V x Ze 0 0 0 [(0, va_rf (some b))] [] ge := by
  have hC : Cx x code RL 8 := hL.1
  have hz : (xH x).size = hs := by rw [hL.2.2.2.2.1]; exact hhs
  have hA : Lv x Ze := fun q hq => absurd rfl hq
  unfold f_law at h
  replace h := bnd_some h
  obtain ⟨Z1, g1, e1, h⟩ := h
  replace h := bnd_some h
  obtain ⟨Z2, g2, e2, h⟩ := h
  refine N8 (q := hs) hC tw_0 (by rw [hz]; rfl) (hL.r (by decide)) dL_law_0 ?_
  have hA1 := hA.nO (q := hs) (c := 8) hL.lh (by rw [hz]; exact Nat.le_refl _)
  refine V_dup hC dL_law_3 rfl ?_
  refine V_callI (As := []) hC hA1 hL.lh (hs := hs + 1) (by rw [hz]) mq_X10_init rfl tw_7 tw_6 (hL.d (by decide)) (hL.r (by decide)) (vm_X10_init e1) rfl (Nat.le_of_ble_eq_true rfl) dL_law_4 (fun hA2 => ?_)
  refine V_astore_n (i := 1) (L' := [(1, va_rf (some hs)), (0, va_rf (some b))]) hC dL_law_7 rfl (by decide) rfl ?_
  refine N9 (q := hs + 1462) hC tw_3 (by rw [hz]) (hL.r (by decide)) dL_law_8 ?_
  have hA3 := hA2.nO (q := hs + 1462) (c := 9) hL.lh (by rw [hz]; exact Nat.le_add_right _ _)
  refine V_dup hC dL_law_11 rfl ?_
  refine V_callI (As := []) hC hA3 hL.lh (hs := hs + 1463) (by rw [hz]) mq_X11_init rfl tw_111 tw_110 (hL.d (by decide)) (hL.r (by decide)) (vm_X11_init e2) rfl (Nat.le_of_ble_eq_true rfl) dL_law_12 (fun hA4 => ?_)
  refine V_astore_n (i := 2) (L' := [(2, va_rf (some (hs + 1462))), (1, va_rf (some hs)), (0, va_rf (some b))]) hC dL_law_15 rfl (by decide) rfl ?_
  refine V_iconst (v := 0) hC dL_law_16 (by decide) ?_
  refine V_istore_n (i := 3) (L' := [(3, .int (0 : Int32)), (2, va_rf (some (hs + 1462))), (1, va_rf (some hs)), (0, va_rf (some b))]) hC dL_law_17 rfl (by decide) rfl ?_
  refine V_sub [3, 2, 1, 0] rfl ?_
  exact vlaw_l18 hL hA4 _ _ _ h

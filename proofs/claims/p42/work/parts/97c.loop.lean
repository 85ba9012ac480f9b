/-! THE LAW'S LOOP -/
section LOOP
variable {n : Nat} {Z : Zt} {c w a L : Nat}
theorem rec4_len {hb : List (Nat → Nat)} {b : Nat → Nat} (h : hb.length ≤ 4) : (rec4 hb b).length = if hb.length = 4 then 4 else hb.length + 1 := by
  unfold rec4
  rw [List.length_append]
  split
  · rename_i q
    rw [List.length_drop, q]; rfl
  · rfl
theorem getD_last {α : Type} {l : List α} {x d : α} : (l ++ [x]).getD ((l ++ [x]).length - 1) d = x := by
  unfold List.getD
  rw [List.length_append, show l.length + [x].length - 1 = l.length by simp]
  simp
theorem rec4_last {hb : List (Nat → Nat)} {b : Nat → Nat} : (rec4 hb b).getD ((rec4 hb b).length - 1) b0 = b := getD_last
theorem SI.h4 {g : Mem} {b : Nat → Nat} {hb : List (Nat → Nat)} {len : Nat} {T : Nat → Nat} {v : Vl} (h : SI g c b hb len T v) : hb.length ≤ 4 := by
  obtain ⟨P, hP, hc⟩ := h
  obtain ⟨σ, y⟩ := hc.2.1
  exact y.2.1
theorem lot_ok {k : Nat} (hzl : zl Z a = L) (hL : L ≤ 260) (hk : k < 1000) : ∃ r, ∀ g, f_L_lot n Z a (nI k) g = some (r, g) := by
  by_cases q : L ≤ k
  · exact ⟨_, fun g => by unfold f_L_lot; rw [hzl, if_pos (show Int32.ofNat L ≤ nI k from (nle (by omega) (by omega)).mpr q)]⟩
  · exact ⟨_, fun g => by
      unfold f_L_lot
      rw [hzl, if_neg (show ¬ Int32.ofNat L ≤ nI k from fun z => q ((nle (a := L) (by omega) (by omega)).mp z)), grd_t (by rw [inr_eq (by omega)]; omega)]⟩
/-- what is held between two acts -/
def LSt (g : Mem) (c : Nat) (b : Nat → Nat) (hb : List (Nat → Nat)) (v : Vl) : Prop := ∃ len T, SI g c b hb len T v
variable {κ : Nat → Nat → Int32 → Int32 → Int32 → Mem → Option (Int32 × Mem)} {j : Nat}
/-- the loop goes on -/
def Kp (c w j : Nat) (κ : Nat → Nat → Int32 → Int32 → Int32 → Mem → Option (Int32 × Mem)) : Prop := ∀ (g : Mem) (b : Nat → Nat) (hb : List (Nat → Nat)) (v : Vl), LSt g c b hb v → ∃ g', κ c w 1 (nI hb.length) (nI j + 1) g = some (1, g')
theorem lw_243 (hn : 500 ≤ n) (hC : CZ Z c) (hκ : Kp c w j κ) {g : Mem} {b : Nat → Nat} {hb : List (Nat → Nat)} {v : Vl} (h : LSt g c b hb v) : ∃ g', f_L_law_l243 n Z κ a c w 1 (nI hb.length) (nI j) g = some (1, g') := by
  obtain ⟨len, T, hS⟩ := id h
  have h4 := hS.h4
  rw [f_L_law_l243, if_neg i1z]
  by_cases q : (nI j - nI j / (9 : Int32) * (9 : Int32)) = (8 : Int32)
  · rw [if_pos q]
    by_cases q0 : hb.length = 0
    · have hnil : hb = [] := List.eq_nil_of_length_eq_zero q0
      subst hnil
      rw [un_none hC hS, bnd_s, if_pos (show nI ([] : List (Nat → Nat)).length = (0 : Int32) from rfl), f_L_law_l275, if_pos rfl, f_L_law_l283, if_pos (show nI ([] : List (Nat → Nat)).length = (0 : Int32) from rfl)]
      exact hκ g b [] v h
    · obtain ⟨g1, v', a1, a2, a3⟩ := un_some (n := n) hn hC hS (by omega)
      have hne : ¬ nI hb.length = (0 : Int32) := neI (b := 0) (by omega) (by omega) q0
      have e : nI hb.length - (1 : Int32) = nI (hb.length - 1) := subN (b := 1) (by omega)
      have htl : (hb.take (hb.length - 1)).length = hb.length - 1 := by rw [List.length_take]; omega
      rw [a1, bnd_s, if_neg hne, e, f_L_law_l275, if_pos rfl, f_L_law_l283, if_neg hne, e, ← htl]
      exact hκ g1 _ _ v' ⟨len, T, a2⟩
  · rw [if_neg q]
    exact hκ g b hb v h
theorem lw_191 (hn : 500 ≤ n) (hC : CZ Z c) (hκ : Kp c w j κ) {g : Mem} {b b' : Nat → Nat} {hb : List (Nat → Nat)} {v v' : Vl} {y : Int32} {h0 : Int64} {s0 s1 : Int32} (hA : Ans b v) (hl : Rd c b v (f_L_look n Z c) h0) (h : LSt g c b' (rec4 hb b) v') (hs : s1 + s0 = nI (rec4 hb b).length) : ∃ g', f_L_law_l191 n Z κ a c w 1 (nI j) y h0 1 s0 s1 g = some (1, g') := by
  obtain ⟨len, T, hS⟩ := id h
  have h4 := hS.h4
  have hlen : 0 < (rec4 hb b).length := by unfold rec4; rw [List.length_append]; simp
  have hlow : f_L_low n Z (y >>> ((8 : Int32) &&& 31)) (3 : Int32) g = some (nI (lowN (y >>> ((8 : Int32) &&& 31)) 3), g) := low_ok (m := 3) (by omega) (by omega) g
  rw [f_L_law_l191, if_neg i1z, if_neg i1z, hlow, bnd_s, hs]
  by_cases q : nI (lowN (y >>> ((8 : Int32) &&& 31)) 3) = 0
  · obtain ⟨g1, v1, a1, a2, a3⟩ := un_some (n := n) hn hC hS hlen
    rw [rec4_last] at a2
    have e : nI (rec4 hb b).length + (-1 : Int32) = nI ((rec4 hb b).length - 1) := m1N hlen
    have htl : ((rec4 hb b).take ((rec4 hb b).length - 1)).length = (rec4 hb b).length - 1 := by rw [List.length_take]; omega
    have hv : v1 = v := a2.sok.2.uniq hA
    subst hv
    obtain ⟨g2, c1, c2, c3⟩ := hl g1 _ len T a2
    rw [if_pos q, a1, bnd_s, if_pos e.symm, c1, bnd_s, if_pos ((lg_cmp_eq _ _).mpr rfl), e, ← htl, f_L_law_l242]
    exact lw_243 hn hC hκ ⟨len, T, c2⟩
  · rw [if_neg q]
    exact lw_243 hn hC hκ h
theorem lw_134 (hn : 500 ≤ n) (hC : CZ Z c) (hk : zk Z w = 12) (hl1 : zl Z w = 1) (hκ : Kp c w j κ) {g : Mem} {b : Nat → Nat} {hb : List (Nat → Nat)} {v : Vl} {y : Int32} {h0 : Int64} (hA : Ans b v) (hl : Rd c b v (f_L_look n Z c) h0) (h4 : hb.length ≤ 4) (h : Out g c w b hb v) : ∃ g', f_L_law_l134 n Z κ a c w (nI hb.length) (nI j) y h0 1 g = some (1, g') := by
  rw [f_L_law_l134, grd_t hk, hl1, grd_t inr01, c0z]
  rcases h with ⟨h1, len, T, hS⟩ | ⟨h1, b', v', len, T, hS⟩
  · obtain ⟨g1, a1, a2, a3⟩ := hl g hb len T hS
    rw [if_pos h1, f_L_law_l146, if_neg i1z, if_pos rfl, a1, bnd_s, if_pos ((lg_cmp_eq _ _).mpr rfl), f_L_law_l172, if_pos rfl, f_L_law_l190, f_L_law_l191, if_neg i1z, if_pos rfl, show nI hb.length + (0 : Int32) = nI hb.length from nI_add _ 0]
    exact lw_243 hn hC hκ ⟨len, T, a2⟩
  · rw [if_neg h1, f_L_law_l146, if_neg i1z, if_neg i1z, f_L_law_l172, if_neg i1z]
    have hr := rec4_len (hb := hb) (b := b) h4
    by_cases q : hb.length = 4
    · rw [if_pos (show (4 : Int32) ≤ nI hb.length by rw [q]; decide), f_L_law_l190]
      rw [if_pos q] at hr
      exact lw_191 hn hC hκ hA hl ⟨len, T, hS⟩ (by rw [hr, q]; rfl)
    · rw [if_neg (show ¬ (4 : Int32) ≤ nI hb.length from ge_n (N := 4) (by omega) (by omega))]
      rw [if_neg q] at hr
      exact lw_191 hn hC hκ hA hl ⟨len, T, hS⟩ (by rw [hr]; exact nI_1 _)
theorem lw_81 (hn : 500 ≤ n) (hC : CZ Z c) (hw : c + 1462 ≤ w) (hk : zk Z w = 12) (hl1 : zl Z w = 1) (hzl : zl Z a = L) (hL : L ≤ 260) (hj : j < 44) (hκ : Kp c w j κ) {g : Mem} {b : Nat → Nat} {hb : List (Nat → Nat)} {v : Vl} {s0 : Int32} (h : LSt g c b hb v) : ∃ g', f_L_law_l81 n Z κ a c w (nI hb.length) (nI j) s0 g = some (1, g') := by
  obtain ⟨len, T, hS⟩ := id h
  have h4 := hS.h4
  obtain ⟨hS0, hA⟩ := hS.sok
  obtain ⟨y, hy⟩ := lot_ok (n := n) (k := 2 * j + 1) hzl hL (by omega)
  have e1 : ((2 : Int32) * nI j) + (1 : Int32) = nI (2 * j + 1) := by
    rw [show (2 : Int32) * nI j = nI (2 * j) from pk_mul 2 j, nI_1]
  obtain ⟨h0, hl⟩ := rd_look (n := n) hn hC hS0.1 hA
  obtain ⟨g1, a1, a2, a3⟩ := hl g hb len T hS
  obtain ⟨g2, b1, b2⟩ := ro_acts (n := n) hn hC hw hk hl1 hS0 hA s0 y g1 len T a2
  rw [f_L_law_l81, e1, hy, bnd_s, a1, bnd_s, b1, bnd_s, if_neg i1z]
  by_cases q : 0 < (nI j - nI j / (3 : Int32) * (3 : Int32))
  · rw [if_pos q]
    exact lw_134 hn hC hk hl1 hκ hA hl h4 b2
  · rw [if_neg q]
    rcases b2 with ⟨o1, len2, T2, o2⟩ | ⟨o1, b', v', len2, T2, o2⟩
    · obtain ⟨p1, p2⟩ := o2.sok
      obtain ⟨g3, c1, c2, c3⟩ := rd_holds (n := n) hn hC p1.1 p2 y g2 _ len2 T2 o2
      rw [c1, bnd_s, if_neg i1z]
      exact lw_134 hn hC hk hl1 hκ hA hl h4 (Or.inl ⟨by rw [c3.i (by omega)]; exact o1, len2, T2, c2⟩)
    · obtain ⟨p1, p2⟩ := o2.sok
      obtain ⟨g3, c1, c2, c3⟩ := rd_holds (n := n) hn hC p1.1 p2 y g2 _ len2 T2 o2
      rw [c1, bnd_s, if_neg i1z]
      exact lw_134 hn hC hk hl1 hκ hA hl h4 (Or.inr ⟨by rw [c3.i (by omega)]; exact o1, b', v', len2, T2, c2⟩)
theorem lw_305 (hn : 500 ≤ n) (hC : CZ Z c) {g : Mem} {b : Nat → Nat} {hb : List (Nat → Nat)} {v : Vl} (h : LSt g c b hb v) : ∃ g', f_L_law_l305 n Z a c 1 g = some (1, g') := by
  obtain ⟨len, T, hS⟩ := h
  obtain ⟨hS0, hA⟩ := hS.sok
  obtain ⟨g3, c1, c2, c3⟩ := rd_holds (n := n) hn hC hS0.1 hA 7 g _ len T hS
  exact ⟨g3, by rw [f_L_law_l305, if_neg i1z, c1, bnd_s, if_neg i1z]⟩
theorem lw_41 (hn : 500 ≤ n) (hC : CZ Z c) (hw : c + 1462 ≤ w) (hk : zk Z w = 12) (hl1 : zl Z w = 1) (hzl : zl Z a = L) (hL : L ≤ 260) : ∀ (d j fu : Nat), d = 44 - j → j ≤ 44 → d < fu → ∀ (g : Mem) (b : Nat → Nat) (hb : List (Nat → Nat)) (v : Vl), LSt g c b hb v → ∃ g', f_L_law_l41 n Z a fu c w 1 (nI hb.length) (nI j) g = some (1, g') := by
  intro d
  induction d with
  | zero =>
    intro j fu hd hj hfu g b hb v h
    obtain ⟨fu, rfl⟩ : ∃ q, fu = q + 1 := ⟨fu - 1, by omega⟩
    have : j = 44 := by omega
    subst this
    rw [f_L_law_l41, if_pos (show (44 : Int32) ≤ nI 44 by decide)]
    exact lw_305 hn hC h
  | succ d ih =>
    intro j fu hd hj hfu g b hb v h
    obtain ⟨fu, rfl⟩ : ∃ q, fu = q + 1 := ⟨fu - 1, by omega⟩
    have hj' : j < 44 := by omega
    have hκ : Kp c w j (fun y0 y1 y2 y3 y4 y => f_L_law_l41 n Z a fu y0 y1 y2 y3 y4 y) := fun g b hb v h => by
      show ∃ g', f_L_law_l41 n Z a fu c w 1 (nI hb.length) (nI j + 1) g = some (1, g')
      rw [nI_1]
      exact ih (j + 1) fu (by omega) (by omega) (by omega) g b hb v h
    rw [f_L_law_l41, if_neg (show ¬ (44 : Int32) ≤ nI j from ge_n (N := 44) (by omega) hj'), if_neg i1z]
    by_cases q5 : 5 ≤ j
    · rw [if_pos (show (5 : Int32) ≤ nI j from (nle (a := 5) (by omega) (by omega)).mpr q5)]
      by_cases e5 : j = 5
      · rw [if_pos (show nI j = (5 : Int32) by rw [e5]; rfl)]
        exact lw_81 hn hC hw hk hl1 hzl hL hj' hκ h
      · obtain ⟨x, hx⟩ := lot_ok (n := n) (k := 2 * j) hzl hL (by omega)
        rw [if_neg (show ¬ nI j = (5 : Int32) from neI (b := 5) (by omega) (by omega) e5), show (2 : Int32) * nI j = nI (2 * j) from pk_mul 2 j, hx, bnd_s]
        exact lw_81 hn hC hw hk hl1 hzl hL hj' hκ h
    · rw [if_neg (show ¬ (5 : Int32) ≤ nI j from ge_n (N := 5) (by omega) (by omega))]
      exact lw_81 hn hC hw hk hl1 hzl hL hj' hκ h
theorem lw_law (hn : 500 ≤ n) (hC : CZ Z c) (hw : c + 1462 ≤ w) (hk : zk Z w = 12) (hl1 : zl Z w = 1) (hza : zk Z a = 0) (hzl : zl Z a = L) (hL : L ≤ 260) {g : Mem} {b : Nat → Nat} {v : Vl} (h : LSt g c b [] v) : ∃ g', f_L_law n Z a c w g = some (1, g') := by
  obtain ⟨len, T, hS⟩ := h
  obtain ⟨hS0, hA⟩ := hS.sok
  obtain ⟨g3, c1, c2, c3⟩ := rd_holds (n := n) hn hC hS0.1 hA 0 g _ len T hS
  rw [f_L_law, grd_t hza, c1, bnd_s, if_neg i1z, un_none hC c2, bnd_s, if_pos rfl, f_L_law_l34]
  exact lw_41 hn hC hw hk hl1 hzl hL 44 0 n rfl (by omega) (by omega) g3 b [] v ⟨len, T, c2⟩
end LOOP
theorem CZ.mbs {c : Nat} {Z Z' : Zt} (h : CZ Z c) (hB : ZB (c + 1462) Z Z') : CZ Z' c := by
  obtain ⟨h0, h1, h2, h3, h4, h5, h6, h7, h8, h9, h10⟩ := h
  have hR : ZR c 10 (c + 1462) Z Z' := hB.r
  refine ⟨?_, h1.mv hR (by omega) (by omega), h2.mv hR (by omega) (by omega), h3.mv hR (by omega) (by omega), h4.mv hR (by omega) (by omega), h5.mv hR (by omega) (by omega), h6.mv hR (by omega) (by omega), h7.mv hR (by omega) (by omega), h8.mv hR (by omega) (by omega), h9.mv hR (by omega) (by omega), h10.mv hR (by omega) (by omega)⟩
  rw [hB.k (by omega), hB.f (by omega), hB.f (by omega), hB.f (by omega), hB.f (by omega), hB.f (by omega), hB.f (by omega), hB.f (by omega), hB.f (by omega), hB.f (by omega), hB.f (by omega)]
  exact h0
/-- the law's function answers 1, whatever the script (pure: no machine in it) -/
theorem law_pure (hs b L : Nat) (xw : Nat → Int32) (hb : b < hs) (hL : L ≤ 260) : ∃ n, (∃ gg, f_law n hs b L xw = some (1, gg)) ∧ ∀ Z1 g1, fi_X10 n (hs + 1) (nO (Zs b L xw) hs 8) hs (zr ge hs) = some (Z1, g1) → zl Z1 b = L ∧ ∀ j, scr Z1 b j = xw j := by
  obtain ⟨n, hn⟩ : ∃ n, 500 ≤ n := ⟨500, Nat.le_refl _⟩
  refine ⟨n, ?_⟩
  obtain ⟨Z1, g1, a1, a2, a3, a4, a5⟩ := i_X10 (n := n) (c := hs) (Z := nO (Zs b L xw) hs 8) (g := zr ge hs) (by omega) (by rw [zk_nO, if_pos rfl])
  have hbh : ¬ b = hs := by omega
  obtain ⟨z1, z2, z3⟩ := a4 b hb
  have k1 : zk Z1 b = 0 := by rw [z1, zk_nO, if_neg hbh]; rfl
  have k2 : zl Z1 b = L := by rw [z2, zl_nO]; unfold Zs zl; simp
  have k3 : ∀ j, scr Z1 b j = xw j := fun j => by
    have e : zf Z1 b j = zf (Zs b L xw) b j := by rw [z3 j, zf_nO, if_neg hbh]
    rw [← scr_Zs b L xw j]
    unfold scr
    rw [e]
  refine ⟨?_, fun Z2 g2 e => ?_⟩
  · have hC := a2.mbs (Z' := nA Z1 (hs + 1462) 12 1) (fun q hq => ⟨by rw [zk_nA, if_neg (by omega)], by rw [zl_nA, if_neg (by omega)], fun j => zf_nA _ _ _ _ _ _⟩)
    have hS : SI (zr g1 (hs + 1462)) hs bI [] 0 T0 dV := ⟨[], pinv0, a3.fr (Fr.rfl.zr (lo := hs + 1462) (hi := hs + 1463) (Nat.le_refl _) (by omega)) (by omega)⟩
    obtain ⟨gg, h⟩ := lw_law (n := n) (Z := nA Z1 (hs + 1462) 12 1) (c := hs) (w := hs + 1462) (a := b) (L := L) (by omega) hC (Nat.le_refl _) (by rw [zk_nA, if_pos rfl]) (by rw [zl_nA, if_pos rfl]) (by rw [zk_nA, if_neg (by omega)]; exact k1) (by rw [zl_nA, if_neg (by omega)]; exact k2) hL ⟨0, T0, hS⟩
    exact ⟨gg, by unfold f_law; rw [a1, bnd_s]; exact h⟩
  · rw [a1] at e
    obtain ⟨e1, e2⟩ := Prod.mk.inj (Option.some.inj e)
    rw [← e1]
    exact ⟨k2, k3⟩

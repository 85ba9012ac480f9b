/-! acts: one act of the law -/
section ACTS
variable {n : Nat} {Z : Zt} {c w : Nat} {b : Nat → Nat} {hb : List (Nat → Nat)} {v : Vl}
theorem ro_wrap {f : Mem → Option (Int32 × Mem)} (h : Ro c w b hb v f) : Ro c w b hb v (fun g => bnd (f g) (fun r g => grd (isz r) (some (r, g)))) := fun g len T hS => by
  obtain ⟨g1, a1, a2⟩ := h g len T hS
  exact ⟨g1, by dsimp only; rw [a1, bnd_s, grd_t (Or.inr rfl)], a2⟩
/-! dropQuery -/
theorem rd_395 (hC : CZ Z c) {s : Int32} (h1 : b 84 = 0) (h2 : v.1 = 0) : Rd c b v (fun g => f_L_acts_l395 n Z c s s g) 1 := by
  refine Rd.eq (fun g => by rw [f_L_acts_l395]) ?_
  exact Rd.pos rfl ((rd_queryLength hC).bnd (Rd.pos (by rw [h1]; rfl) ((rd_answerColumns hC).bnd (Rd.pos (by rw [h2]; rfl) Rd.pure))))
theorem ro_351 (hn : 500 ≤ n) (hC : CZ Z c) (hw : c + 1462 ≤ w) (hk : zk Z w = 12) (hl : zl Z w = 1) (hB : BOk b) (hA : Ans b v) {y s0 : Int32} (hs : s0 = 0 ∧ b 84 = 0 ∨ ¬ s0 = 0 ∧ b 84 ≠ 0) : Ro c w b hb v (fun g => f_L_acts_l351 n Z c w y (nI v.2.length) s0 g) := fun g len T hS => by
  have h3 := lowN_lt (x := y) (m := 3) (by omega)
  have h32 := (hA.good hB).2.2.2.2.1
  have hlow : ∀ g, f_L_low n Z y (3 : Int32) g = some (nI (lowN y 3), g) := fun g => low_ok (m := 3) (by omega) (by omega) g
  have H : ∀ (r : Int32) (g1 : Mem), f_L_acts_l371 n Z c w y (nI v.2.length) s0 r (0 : Int32) w g1 = (if 0 < nI (lowN y 3) then (some ((1 : Int32), sI g1 w 0 r)) else (if s0 = 0 then (f_L_acts_l395 n Z c (-5 : Int32) r (sI g1 w 0 r)) else (f_L_acts_l395 n Z c (nI v.2.length) r (sI g1 w 0 r)))) := fun r g1 => by
    rw [f_L_acts_l371, grd_t hk, hl, grd_t inr01, hlow, bnd_s, grd_t hk, grd_t inr01, c0z, wz]
  dsimp only
  rw [f_L_acts_l351, hlow, bnd_s]
  by_cases q : lowN y 3 = 0
  · have hz : ¬ 0 < nI (lowN y 3) := by rw [q]; decide
    rw [if_pos (show nI (lowN y 3) ≤ 0 by rw [q]; decide)]
    rcases hs with ⟨rfl, h84⟩ | ⟨hs, h84⟩
    · obtain ⟨g1, a1, a2, a3⟩ := rd_dropQueryN (n := n) (v := v) hC h84 g hb len T hS
      obtain ⟨g5, h5⟩ : ∃ g5, g5 = sI g1 w 0 (-5) := ⟨_, rfl⟩
      have s5 : SI g5 c b hb len T v := by rw [h5]; exact a2.w hw
      have w5 : gI g5 w 0 = -5 := by rw [h5, wz]
      have hv0 : v.1 = 0 := by
        rcases hA.rough hB with ⟨_, z⟩ | ⟨z, _⟩
        · rw [z]; rfl
        · exact absurd h84 z
      rw [a1, bnd_s, H, ← h5, if_neg hz, if_pos rfl]
      exact out_no s5 hw (by rw [w5]; decide) (rd_395 hC h84 hv0)
    · obtain ⟨g1, a1, a2, a3⟩ := ac_dropQuery (n := n) (v := v) hn hC h84 g hb len T hS
      obtain ⟨g5, h5⟩ : ∃ g5, g5 = sI g1 w 0 (nI v.2.length) := ⟨_, rfl⟩
      have s5 : SI g5 c (setQ b 0 fun _ => 0) (rec4 hb b) len T dV := by rw [h5]; exact a2.w hw
      have w5 : gI g5 w 0 = nI v.2.length := by rw [h5, wz]
      rw [a1, bnd_s, H, ← h5, if_neg hz, if_neg hs]
      exact out_yes s5 hw (by rw [w5, not_neg (by omega)]; exact fun z => z) (rd_395 hC setQ_84 rfl)
  · have hz : 0 < nI (lowN y 3) := (nlt (a := 0) (by omega) (by omega)).mpr (by omega)
    rw [if_neg (fun z => by
      have := (nle (b := 0) (by omega) (by omega)).mp z
      omega)]
    obtain ⟨g5, h5⟩ : ∃ g5, g5 = sI g w 0 (-1) := ⟨_, rfl⟩
    have s5 : SI g5 c b hb len T v := by rw [h5]; exact hS.w hw
    have w5 : gI g5 w 0 = -1 := by rw [h5, wz]
    rw [H, ← h5, if_pos hz]
    exact ⟨g5, rfl, Or.inl ⟨by rw [w5]; decide, len, T, s5⟩⟩
theorem ro_dropq (hn : 500 ≤ n) (hC : CZ Z c) (hw : c + 1462 ≤ w) (hk : zk Z w = 12) (hl : zl Z w = 1) (hB : BOk b) (hA : Ans b v) {y : Int32} : Ro c w b hb v (fun g => bnd (f_X10_answerRows n Z c g) (fun r16 g17 => bnd (f_X10_queryLength n Z c g17) (fun r19 g20 => if r19 ≤ 0 then (f_L_acts_l351 n Z c w y r16 (0 : Int32) g20) else (f_L_acts_l351 n Z c w y r16 (1 : Int32) g20)))) := by
  have h60 := hB.2.2.1
  refine Ro.rd (rd_answerRows hC) (Ro.rd (rd_queryLength hC) ?_)
  by_cases q : b 84 = 0
  · exact Ro.pos (by rw [q]; decide) (ro_351 hn hC hw hk hl hB hA (Or.inl ⟨rfl, q⟩))
  · exact Ro.neg (fun z => by
      have := (nle (b := 0) (by omega) (by omega)).mp z
      omega) (ro_351 hn hC hw hk hl hB hA (Or.inr ⟨i1z, q⟩))
/-! setColumns -/
theorem rd_628 {s : Int32} : Rd c b v (fun g => f_L_acts_l628 n Z s s g) 1 := by
  refine Rd.eq (fun g => by rw [f_L_acts_l628]) ?_
  exact Rd.pos rfl Rd.pure
/-- the table has a row, or occurs in the query -/
def busy (b : Nat → Nat) (tb : Nat) : Prop := (∃ s, s < 16 ∧ b (4 + 5 * s) = tb + 1) ∨ ∃ j, j < b 84 ∧ b (85 + j) = 65 + tb
theorem ro_536 (hn : 500 ≤ n) (hC : CZ Z c) (hw : c + 1462 ≤ w) (hk : zk Z w = 12) (hl : zl Z w = 1) (hB : BOk b) {tb wd : Nat} {x7 s0 : Int32} (htb : tb ≤ 4) (hwd : wd ≤ 4) (h7 : tb < 4 → x7 = 1 ∧ ¬ busy b tb ∨ x7 = 0 ∧ busy b tb) (hs : s0 = 1 ∧ (wd = 0 ∨ wd = 4) ∨ s0 = 0 ∧ 1 ≤ wd ∧ wd ≤ 3) : Ro c w b hb v (fun g => f_L_acts_l536 n Z c w (nI tb) (nI wd) x7 s0 g) := fun g len T hS => by
  have H : ∀ (g0 g1 : Mem) (r0 r : Int32), f_X10_columns n Z c (nI tb) g = some (r0, g0) → f_X10_setColumns n Z c (nI tb) (nI wd) g0 = some (r, g1) → f_L_acts_l536 n Z c w (nI tb) (nI wd) x7 s0 g = (if nI tb = (4 : Int32) then (f_L_acts_l592 n Z c (nI tb) (nI wd) x7 s0 r0 (-1 : Int32) r (sI g1 w 0 r)) else (if s0 = 0 then (if x7 = 0 then (f_L_acts_l592 n Z c (nI tb) (nI wd) x7 s0 r0 (-5 : Int32) r (sI g1 w 0 r)) else (f_L_acts_l592 n Z c (nI tb) (nI wd) x7 s0 r0 r0 r (sI g1 w 0 r))) else (f_L_acts_l592 n Z c (nI tb) (nI wd) x7 s0 r0 (-2 : Int32) r (sI g1 w 0 r)))) := fun g0 g1 r0 r e1 e2 => by
    rw [f_L_acts_l536, e1, bnd_s, e2, bnd_s, grd_t hk, hl, grd_t inr01, grd_t hk, grd_t inr01, c0z, wz]
  by_cases q4 : tb = 4
  · subst q4
    have h44 : nI 4 < 0 ∨ nI 4 ≤ nI 4 := Or.inr ((nle (by omega) (by omega)).mpr (Nat.le_refl _))
    obtain ⟨g0, z1, z2, z3⟩ := rd_columnsO (n := n) (b := b) (v := v) hC h44 g hb len T hS
    obtain ⟨g1, a1, a2, a3⟩ := rd_setColumnsT (n := n) (b := b) (v := v) (y := nI wd) hC h44 g0 hb len T z2
    obtain ⟨g5, h5⟩ : ∃ g5, g5 = sI g1 w 0 (-1) := ⟨_, rfl⟩
    have s5 : SI g5 c b hb len T v := by rw [h5]; exact a2.w hw
    have w5 : gI g5 w 0 = -1 := by rw [h5, wz]
    dsimp only
    rw [H g0 g1 _ _ z1 a1, ← h5, if_pos (show nI 4 = (4 : Int32) from rfl)]
    refine out_no s5 hw (by rw [w5]; decide) ?_
    refine Rd.eq (fun g => by rw [f_L_acts_l592]) ?_
    exact Rd.pos rfl ((rd_columnsO hC h44).bnd (Rd.pos rfl rd_628))
  have htb4 : tb < 4 := by omega
  have n4 : ¬ nI tb = (4 : Int32) := neI (b := 4) (by omega) (by omega) q4
  obtain ⟨g0, z1, z2, z3⟩ := rd_columns (n := n) (b := b) (v := v) hC htb4 g hb len T hS
  have hbt := hB.1 tb htb4
  rcases hs with ⟨rfl, hwd2⟩ | ⟨rfl, hw1, hw3⟩
  · obtain ⟨g1, a1, a2, a3⟩ := rd_setColumnsW (n := n) (b := b) (v := v) hC htb4 hwd2 g0 hb len T z2
    obtain ⟨g5, h5⟩ : ∃ g5, g5 = sI g1 w 0 (-2) := ⟨_, rfl⟩
    have s5 : SI g5 c b hb len T v := by rw [h5]; exact a2.w hw
    have w5 : gI g5 w 0 = -2 := by rw [h5, wz]
    dsimp only
    rw [H g0 g1 _ _ z1 a1, ← h5, if_neg n4, if_neg i1z]
    refine out_no s5 hw (by rw [w5]; decide) ?_
    refine Rd.eq (fun g => by rw [f_L_acts_l592]) ?_
    exact Rd.pos rfl ((rd_columns hC htb4).bnd (Rd.neg n4 (Rd.neg i1z rd_628)))
  rcases h7 htb4 with ⟨rfl, hno⟩ | ⟨rfl, hyes⟩
  · have hr : hasR b tb = false := by
      cases hq : hasR b tb with
      | false => rfl
      | true => exact absurd (Or.inl (hasR_iff.mp hq)) hno
    have ho : occ b tb = false := by
      cases hq : occ b tb with
      | false => rfl
      | true => exact absurd (Or.inr (hasC_iff.mp hq)) hno
    obtain ⟨g1, a1, a2, a3⟩ := ac_setColumns (n := n) (v := v) hn hC htb4 hw1 hw3 hr ho g0 hb len T z2
    obtain ⟨g5, h5⟩ : ∃ g5, g5 = sI g1 w 0 (nI (b tb)) := ⟨_, rfl⟩
    have s5 : SI g5 c (up b tb wd) (rec4 hb b) len T v := by rw [h5]; exact a2.w hw
    have w5 : gI g5 w 0 = nI (b tb) := by rw [h5, wz]
    have k1 := rd_columns (n := n) (b := up b tb wd) (v := v) hC htb4
    rw [up_eq] at k1
    dsimp only
    rw [H g0 g1 _ _ z1 a1, ← h5, if_neg n4, if_pos rfl, if_neg i1z]
    refine out_yes s5 hw (by rw [w5, not_neg (by omega)]; exact fun z => z) ?_
    refine Rd.eq (fun g => by rw [f_L_acts_l592]) ?_
    exact Rd.pos rfl (k1.bnd (Rd.neg n4 (Rd.pos rfl (Rd.neg i1z rd_628))))
  · have hro : hasR b tb = true ∨ occ b tb = true := by
      rcases hyes with z | z
      · exact Or.inl (hasR_iff.mpr z)
      · exact Or.inr (hasC_iff.mpr z)
    obtain ⟨g1, a1, a2, a3⟩ := rd_setColumnsN (n := n) (v := v) hn hC htb4 hw1 hw3 hro g0 hb len T z2
    obtain ⟨g5, h5⟩ : ∃ g5, g5 = sI g1 w 0 (-5) := ⟨_, rfl⟩
    have s5 : SI g5 c b hb len T v := by rw [h5]; exact a2.w hw
    have w5 : gI g5 w 0 = -5 := by rw [h5, wz]
    dsimp only
    rw [H g0 g1 _ _ z1 a1, ← h5, if_neg n4, if_pos rfl, if_pos rfl]
    refine out_no s5 hw (by rw [w5]; decide) ?_
    refine Rd.eq (fun g => by rw [f_L_acts_l592]) ?_
    exact Rd.pos rfl ((rd_columns hC htb4).bnd (Rd.neg n4 (Rd.pos rfl (Rd.pos rfl rd_628))))
theorem ro_479 (hn : 500 ≤ n) (hC : CZ Z c) (hw : c + 1462 ≤ w) (hk : zk Z w = 12) (hl : zl Z w = 1) (hB : BOk b) {tb wd : Nat} (htb : tb ≤ 4) (hwd : wd ≤ 4) : ∀ (d k fu : Nat) (x7 : Int32), d = b 84 - k → k ≤ b 84 → d < fu → (x7 = 1 ∧ (∀ s, s < 16 → b (4 + 5 * s) ≠ tb + 1) ∧ (∀ j, j < k → b (85 + j) ≠ 65 + tb) ∨ x7 = 0 ∧ (tb < 4 → busy b tb)) → Ro c w b hb v (fun g => f_L_acts_l479 n Z fu c w (nI tb) (nI wd) x7 (nI k) g) := by
  have h60 := hB.2.2.1
  intro d
  induction d with
  | zero =>
    intro k fu x7 hd hk' hfu h7
    obtain ⟨fu, rfl⟩ : ∃ q, fu = q + 1 := ⟨fu - 1, by omega⟩
    have hkb : k = b 84 := by omega
    subst hkb
    have h7' : tb < 4 → x7 = 1 ∧ ¬ busy b tb ∨ x7 = 0 ∧ busy b tb := fun z => by
      rcases h7 with ⟨e, y1, y2⟩ | ⟨e, y⟩
      · refine Or.inl ⟨e, fun q => ?_⟩
        rcases q with ⟨s, s1, s2⟩ | ⟨j, j1, j2⟩
        · exact y1 s s1 s2
        · exact y2 j j1 j2
      · exact Or.inr ⟨e, y z⟩
    refine Ro.eq (fun g => by rw [f_L_acts_l479]) ?_
    refine Ro.rd (rd_queryLength hC) (Ro.pos ((nle (by omega) (by omega)).mpr (Nat.le_refl _)) ?_)
    by_cases w0 : wd = 0
    · exact Ro.pos (by rw [w0]; rfl) (ro_536 hn hC hw hk hl hB htb hwd h7' (Or.inl ⟨rfl, Or.inl w0⟩))
    refine Ro.neg (show ¬ nI wd = (0 : Int32) from neI (b := 0) (by omega) (by omega) w0) ?_
    by_cases w4 : wd = 4
    · exact Ro.pos (by rw [w4]; rfl) (ro_536 hn hC hw hk hl hB htb hwd h7' (Or.inl ⟨rfl, Or.inr w4⟩))
    exact Ro.neg (show ¬ nI wd = (4 : Int32) from neI (b := 4) (by omega) (by omega) w4) (ro_536 hn hC hw hk hl hB htb hwd h7' (Or.inr ⟨rfl, by omega, by omega⟩))
  | succ d ih =>
    intro k fu x7 hd hk' hfu h7
    obtain ⟨fu, rfl⟩ : ∃ q, fu = q + 1 := ⟨fu - 1, by omega⟩
    have hkb : k < b 84 := by omega
    have hch := hB.2.2.2 k hkb
    refine Ro.eq (fun g => by rw [f_L_acts_l479]) ?_
    refine Ro.rd (rd_queryLength hC) (Ro.neg (ge_n (by omega) hkb) ?_)
    rcases h7 with ⟨rfl, y1, y2⟩ | ⟨rfl, y⟩
    · refine Ro.neg i1z (Ro.rd (rd_queryAt hC hB hkb) ?_)
      have e65 : (65 : Int32) + nI tb = nI (65 + tb) := nI_add 65 tb
      by_cases q : b (85 + k) = 65 + tb
      · refine Ro.pos (by rw [e65, q]) ?_
        rw [nI_1]
        exact ih (k + 1) fu 0 (by omega) (by omega) (by omega) (Or.inr ⟨rfl, fun _ => Or.inr ⟨k, hkb, q⟩⟩)
      · refine Ro.neg (fun z => q ?_) ?_
        · rw [e65] at z
          exact (neq (by omega) (by omega)).mp z
        rw [nI_1]
        refine ih (k + 1) fu 1 (by omega) (by omega) (by omega) (Or.inl ⟨rfl, y1, fun j hj => ?_⟩)
        by_cases z : j = k
        · rw [z]; exact q
        · exact y2 j (by omega)
    · refine Ro.pos rfl ?_
      rw [nI_1]
      exact ih (k + 1) fu 0 (by omega) (by omega) (by omega) (Or.inr ⟨rfl, y⟩)
theorem ro_440 (hn : 500 ≤ n) (hC : CZ Z c) (hw : c + 1462 ≤ w) (hk : zk Z w = 12) (hl : zl Z w = 1) (hB : BOk b) {tb wd : Nat} (htb : tb ≤ 4) (hwd : wd ≤ 4) : ∀ (d k fu : Nat) (x7 : Int32), d = 16 - k → k ≤ 16 → d < fu → (x7 = 1 ∧ (∀ s, s < k → b (4 + 5 * s) ≠ tb + 1) ∨ x7 = 0 ∧ ∃ s, s < 16 ∧ b (4 + 5 * s) = tb + 1) → Ro c w b hb v (fun g => f_L_acts_l440 n Z fu c w (nI tb) (nI wd) x7 (nI k) g) := by
  have h60 := hB.2.2.1
  intro d
  induction d with
  | zero =>
    intro k fu x7 hd hk' hfu h7
    obtain ⟨fu, rfl⟩ : ∃ q, fu = q + 1 := ⟨fu - 1, by omega⟩
    have hkb : k = 16 := by omega
    subst hkb
    refine Ro.eq (fun g => by rw [f_L_acts_l440]) ?_
    refine Ro.pos (show (16 : Int32) ≤ nI 16 by decide) ?_
    refine ro_479 hn hC hw hk hl hB htb hwd (b 84) 0 n x7 (by omega) (by omega) (by omega) ?_
    rcases h7 with ⟨e, y⟩ | ⟨e, y⟩
    · exact Or.inl ⟨e, y, fun j hj => absurd hj (Nat.not_lt_zero _)⟩
    · exact Or.inr ⟨e, fun _ => Or.inl y⟩
  | succ d ih =>
    intro k fu x7 hd hk' hfu h7
    obtain ⟨fu, rfl⟩ : ∃ q, fu = q + 1 := ⟨fu - 1, by omega⟩
    have hk16 : k < 16 := by omega
    refine Ro.eq (fun g => by rw [f_L_acts_l440]) ?_
    refine Ro.neg (show ¬ (16 : Int32) ≤ nI k from ge_n (N := 16) (by omega) hk16) ?_
    rcases h7 with ⟨rfl, y1⟩ | ⟨rfl, y⟩
    · refine Ro.neg i1z ?_
      have hb4 := (hB.2.1 k hk16).1
      by_cases q0 : b (4 + 5 * k) = 0
      · have hno : ¬ tagI b (nI k) := fun ⟨s, s1, s2, s3⟩ => by
          have := (neq (by omega) (by omega)).mp s2
          subst this
          exact s3 q0
        refine Ro.rd (rd_tableOfO hC hno) (Ro.neg (fun z => by
          have : nI tb < 0 := by rw [← z]; decide
          rw [not_neg (by omega)] at this; exact this) ?_)
        rw [nI_1]
        refine ih (k + 1) fu 1 (by omega) (by omega) (by omega) (Or.inl ⟨rfl, fun s hs => ?_⟩)
        by_cases z : s = k
        · rw [z, q0]; omega
        · exact y1 s (by omega)
      · refine Ro.rd (rd_tableOf hC hk16 q0) ?_
        by_cases q : b (4 + 5 * k) = tb + 1
        · refine Ro.pos (by rw [q]; rfl) ?_
          rw [nI_1]
          exact ih (k + 1) fu 0 (by omega) (by omega) (by omega) (Or.inr ⟨rfl, k, hk16, q⟩)
        · refine Ro.neg (fun z => q ?_) ?_
          · have := (neq (by omega) (by omega)).mp z
            omega
          rw [nI_1]
          refine ih (k + 1) fu 1 (by omega) (by omega) (by omega) (Or.inl ⟨rfl, fun s hs => ?_⟩)
          by_cases z : s = k
          · rw [z]; exact q
          · exact y1 s (by omega)
    · refine Ro.pos rfl ?_
      rw [nI_1]
      exact ih (k + 1) fu 0 (by omega) (by omega) (by omega) (Or.inr ⟨rfl, y⟩)
/-! setWithdrawn -/
theorem avl_mono {p q : Nat → Bool} {x : Int64} (h : ∀ s, p s = true → q s = true) (hq : avl q x = true) : avl p x = true := avl_iff.mpr fun t ht hp => avl_iff.mp hq t ht (h t hp)
theorem prs_mono {p q : Nat → Bool} {xs : Pol} (h : ∀ s, p s = true → q s = true) (hq : prs q xs = true) : prs p xs = true := by
  unfold prs at hq ⊢
  obtain ⟨a, a1, a2⟩ := List.any_eq_true.mp hq
  exact List.any_eq_true.mpr ⟨a, a1, avl_mono h a2⟩
theorem cnt_mono {p q : Nat → Bool} {rows : Rws} (h : ∀ s, p s = true → q s = true) : cntP q rows ≤ cntP p rows := by
  unfold cntP
  exact List.countP_mono_left fun x _ hx => prs_mono h hx
theorem cnt_le {p : Nat → Bool} {rows : Rws} : cntP p rows ≤ rows.length := List.countP_le_length
theorem cnt_take {p : Nat → Bool} {rows : Rws} {k : Nat} (hk : k < rows.length) : cntP p (rows.take (k + 1)) = cntP p (rows.take k) + (if prs p (rows.getD k (0, [])).2 = true then 1 else 0) := by
  unfold cntP
  rw [List.take_succ, List.countP_append, List.getElem?_eq_getElem hk, getD_el hk]
  congr 1
  show List.countP _ [rows[k]] = _
  rw [List.countP_singleton]
theorem gone_up (t u s : Nat) (hu : u ≤ 1) : goneB (up b (8 + 5 * t) u) s = if s = t then decide (u = 1) else goneB b s := by
  unfold goneB
  by_cases q : s = t
  · subst q; rw [up_eq, if_pos rfl]
  · rw [up_ne (by omega), if_neg q]
/-- a withdrawn row, now or not -/
def NowI (b : Nat → Nat) (t : Nat) (x8 : Int32) : Prop := x8 = 1 ∧ goneB b t = true ∨ x8 = 0
theorem rd_286 {x6 x8 x9 x11 s : Int32} (h : ¬ x8 = 0 → ¬ x6 = 0 → x11 = x9) : Rd c b v (fun g => f_L_acts_l286 n Z x6 x8 x9 x11 s s g) 1 := by
  refine Rd.eq (fun g => by rw [f_L_acts_l286]) ?_
  refine Rd.pos rfl ?_
  by_cases q8 : x8 = 0
  · exact Rd.pos q8 Rd.pure
  refine Rd.neg q8 ?_
  by_cases q6 : x6 = 0
  · exact Rd.pos q6 Rd.pure
  exact Rd.neg q6 (Rd.pos (h q8 q6) Rd.pure)
theorem ro_206 (hn : 500 ≤ n) (hC : CZ Z c) (hw : c + 1462 ≤ w) (hk : zk Z w = 12) (hl : zl Z w = 1) (hB : BOk b) (hA : Ans b v) {t u : Nat} {x7 x8 s0 : Int32} (hu : u ≤ 1) (hT : TI b t x7) (h8 : NowI b t x8) (hs : x7 = 1 → s0 = nI (cntP (goneB b) v.2) - nI (cntP (fun s => goneB b s || (2 ^ t).testBit s) v.2)) : Ro c w b hb v (fun g => f_L_acts_l206 n Z c w (nI t) (nI u) x7 x8 (nI (cntP (goneB b) v.2)) s0 g) := fun g len T hS => by
  have h32 := (hA.good hB).2.2.2.2.1
  have hA32 := cnt_le (p := goneB b) (rows := v.2)
  obtain ⟨h17, ⟨rfl, ht, q0⟩ | ⟨rfl, hno⟩⟩ := hT
  · have hs := hs rfl
    obtain ⟨g1, a1, a2, a3⟩ := ac_setWithdrawn (n := n) (v := v) hn hC ht q0 hu g hb len T hS
    obtain ⟨R, hR⟩ : ∃ R, R = cntP (goneB (up b (8 + 5 * t) u)) v.2 := ⟨_, rfl⟩
    have hR32 := cnt_le (p := goneB (up b (8 + 5 * t) u)) (rows := v.2)
    rw [← hR] at hR32 a1
    obtain ⟨g5, h5⟩ : ∃ g5, g5 = sI g1 w 0 (nI R) := ⟨_, rfl⟩
    have s5 : SI g5 c (up b (8 + 5 * t) u) (rec4 hb b) len T v := by rw [h5]; exact a2.w hw
    have w5 : gI g5 w 0 = nI R := by rw [h5, wz]
    have hgt : goneB (up b (8 + 5 * t) u) t = decide (u = 1) := by rw [gone_up t u t hu, if_pos rfl]
    -- now and gone: nothing changes
    have hsame : ¬ x8 = 0 → u = 1 → R = cntP (goneB b) v.2 := fun q8 q1 => by
      rcases h8 with ⟨_, z⟩ | z
      · rw [hR]
        congr 1
        funext s
        rw [gone_up t u s hu]
        by_cases q : s = t
        · rw [if_pos q, q, z, q1]; rfl
        · rw [if_neg q]
      · exact absurd z q8
    have h267 : Rd c (up b (8 + 5 * t) u) v (fun g => f_L_acts_l267 n Z c (nI t) (nI u) x8 (nI (cntP (goneB b) v.2)) (nI R) g) 1 := by
      refine Rd.eq (fun g => by rw [f_L_acts_l267]) ?_
      refine (rd_withdrawn hC).bnd ?_
      rw [bitv (bm_mk _) ht, hgt]
      by_cases q1 : u = 1
      · refine Rd.neg (by rw [q1]; exact i1z) ?_
        rw [if_pos (decide_eq_true q1)]
        exact rd_286 fun q8 _ => by rw [hsame q8 q1]
      · have q0 : u = 0 := by omega
        refine Rd.pos (by rw [q0]; rfl) ?_
        rw [if_neg (by rw [decide_eq_false q1]; decide)]
        exact rd_286 fun q8 q6 => absurd (by rw [q0]; rfl) q6
    dsimp only
    rw [f_L_acts_l206, a1, bnd_s, grd_t hk, hl, grd_t inr01, c0z, ← h5, if_neg i1z]
    have hpos : ¬ gI g5 w 0 < 0 := by rw [w5, not_neg (by omega)]; exact fun z => z
    by_cases q1 : u = 1
    · rw [if_neg (show ¬ nI u = 0 by rw [q1]; exact i1z)]
      have hRB : R = cntP (fun s => goneB b s || (2 ^ t).testBit s) v.2 := by
        rw [hR]
        congr 1
        funext s
        rw [gone_up t u s hu, Nat.testBit_two_pow]
        by_cases q : s = t
        · rw [if_pos q, decide_eq_true q1, decide_eq_true q.symm]; simp
        · rw [if_neg q, decide_eq_false (fun z => q z.symm)]; simp
      have hle : R ≤ cntP (goneB b) v.2 := by
        rw [hRB]
        exact cnt_mono fun s hs => by rw [hs]; rfl
      rw [hs, ← hRB, if_pos (by rw [subN hle, subN (by omega)]; congr 1; omega)]
      exact out_yes s5 hw hpos h267
    · have q0' : u = 0 := by omega
      rw [if_pos (show nI u = 0 by rw [q0']; rfl)]
      have hle : cntP (goneB b) v.2 ≤ R := by
        rw [hR]
        refine cnt_mono fun s hs => ?_
        rw [gone_up t u s hu] at hs
        by_cases q : s = t
        · rw [if_pos q, decide_eq_false q1] at hs; cases hs
        · rw [if_neg q] at hs; exact hs
      rw [if_neg (fun z => by
        have := (nlt (by omega) (by omega)).mp z
        omega)]
      exact out_yes s5 hw hpos h267
  · obtain ⟨g1, a1, a2, a3⟩ := rd_setWithdrawnT (n := n) (v := v) (y := nI u) hC hno g hb len T hS
    obtain ⟨g5, h5⟩ : ∃ g5, g5 = sI g1 w 0 (-1) := ⟨_, rfl⟩
    have s5 : SI g5 c b hb len T v := by rw [h5]; exact a2.w hw
    have w5 : gI g5 w 0 = -1 := by rw [h5, wz]
    dsimp only
    rw [f_L_acts_l206, a1, bnd_s, grd_t hk, hl, grd_t inr01, c0z, ← h5, if_pos rfl, if_pos rfl]
    exact ⟨g5, rfl, Or.inl ⟨by rw [w5]; decide, len, T, s5⟩⟩
theorem ro_153 (hn : 500 ≤ n) (hC : CZ Z c) (hw : c + 1462 ≤ w) (hk : zk Z w = 12) (hl : zl Z w = 1) (hB : BOk b) (hA : Ans b v) {t u : Nat} {x7 x8 : Int32} (hu : u ≤ 1) (hT : TI b t x7) (h8 : NowI b t x8) : ∀ (d k fu : Nat), d = v.2.length - k → k ≤ v.2.length → d < fu → Ro c w b hb v (fun g => f_L_acts_l153 n Z fu c w (nI t) (nI u) x7 x8 (nI (cntP (goneB b) (v.2.take k))) (nI k) g) := by
  have hg := hA.good hB
  have h32 := hg.2.2.2.2.1
  intro d
  induction d with
  | zero =>
    intro k fu hd hk' hfu
    obtain ⟨fu, rfl⟩ : ∃ q, fu = q + 1 := ⟨fu - 1, by omega⟩
    have hkl : k = v.2.length := by omega
    subst hkl
    refine Ro.eq (fun g => by rw [f_L_acts_l153]) ?_
    refine Ro.rd (rd_answerRows hC) (Ro.pos ((nle (by omega) (by omega)).mpr (Nat.le_refl _)) ?_)
    rw [List.take_length]
    rcases id hT with ⟨h17, ⟨rfl, ht, q0⟩ | ⟨rfl, hno⟩⟩
    · refine Ro.neg i1z ?_
      rw [one_shl ht]
      exact Ro.rd (rd_lostIf hn hC ht q0) (ro_206 hn hC hw hk hl hB hA hu hT h8 fun _ => rfl)
    · exact Ro.pos rfl (ro_206 hn hC hw hk hl hB hA hu hT h8 fun z => absurd z (by decide))
  | succ d ih =>
    intro k fu hd hk' hfu
    obtain ⟨fu, rfl⟩ : ∃ q, fu = q + 1 := ⟨fu - 1, by omega⟩
    have hkl : k < v.2.length := by omega
    have hmem := getD_mem (d := (0, [])) hkl
    have hwp : wP (rowP v k) ≤ 16 ^ 12 := Nat.le_trans (wL_mem hmem) hg.2.1
    have hp : (16 : Nat) ^ 12 < 2 ^ 63 := by decide
    have hwf : wP (fav (goneB b) (rowP v k)) ≤ wP (rowP v k) := wP_sub _ _
    have hc1 : CP1 (fav (goneB b) (rowP v k)) := fun a ha => hg.2.2.1 _ hmem a (List.mem_filter.mp ha).1
    have hs := sumF_w (ys := fav (goneB b) (rowP v k)) (s := 0) (by rw [uN_0]; omega)
    rw [uN_0] at hs
    have hti := toInt_u (x := (fav (goneB b) (rowP v k)).foldl sumF 0) (by omega)
    have htk := cnt_take (p := goneB b) hkl
    have htk' : (v.2.getD k (0, [])).2 = rowP v k := rfl
    rw [htk'] at htk
    refine Ro.eq (fun g => by rw [f_L_acts_l153]) ?_
    refine Ro.rd (rd_answerRows hC) (Ro.neg (ge_n (by omega) hkl) ?_)
    intro g len T hS
    obtain ⟨g1, a1, a2, a3⟩ := rd_derivations (n := n) (b := b) hn hC hkl g hb len T hS
    dsimp only
    rw [a1, bnd_s]
    by_cases q : fav (goneB b) (rowP v k) = []
    · rw [if_pos (by rw [q]; decide)]
      have hpr : ¬ prs (goneB b) (rowP v k) = true := fun z => fav_prs.mp z q
      rw [if_neg hpr] at htk
      have e : nI (cntP (goneB b) (v.2.take k)) + (0 : Int32) = nI (cntP (goneB b) (v.2.take (k + 1))) := by rw [htk]; exact nI_add _ 0
      rw [e, nI_1]
      exact ih (k + 1) fu (by omega) (by omega) (by omega) g1 len T a2
    · have := wP_pos hc1 q
      rw [if_neg (fun z => by
        have z := (lg_cmp_le _ _).mp z
        rw [Int64.le_iff_toInt_le, hti, show (0 : Int64).toInt = 0 by decide] at z
        omega)]
      rw [if_pos (fav_prs.mpr q)] at htk
      rw [nI_1, ← htk, nI_1]
      exact ih (k + 1) fu (by omega) (by omega) (by omega) g1 len T a2
theorem ro_93 (hn : 500 ≤ n) (hC : CZ Z c) (hw : c + 1462 ≤ w) (hk : zk Z w = 12) (hl : zl Z w = 1) (hB : BOk b) (hA : Ans b v) {t u : Nat} (hu : u ≤ 1) (h17 : t < 17) : Ro c w b hb v (fun g => f_L_acts_l93 n Z c w (nI t) (nI u) g) := by
  have h32 := (hA.good hB).2.2.2.2.1
  have h145 : ∀ x7 x8, TI b t x7 → NowI b t x8 → Ro c w b hb v (fun g => f_L_acts_l145 n Z c w (nI t) (nI u) x7 x8 g) := fun x7 x8 hT h8 => by
    refine Ro.eq (fun g => by rw [f_L_acts_l145]) ?_
    exact ro_153 hn hC hw hk hl hB hA hu hT h8 v.2.length 0 n (by omega) (by omega) (by omega)
  have h144 : ∀ x7, TI b t x7 → Ro c w b hb v (fun g => f_L_acts_l144 n Z c w (nI t) (nI u) x7 g) := fun x7 hT => by
    refine Ro.eq (fun g => by rw [f_L_acts_l144]) ?_
    exact h145 x7 0 hT (Or.inr rfl)
  have h119 : ¬ tagI b (nI t) → Ro c w b hb v (fun g => f_L_acts_l119 n Z c w (nI t) (nI u) g) := fun hno => by
    refine Ro.eq (fun g => by rw [f_L_acts_l119]) ?_
    refine Ro.eq (fun g => by rw [f_L_acts_l120]) ?_
    exact Ro.pos rfl (h144 0 ⟨h17, Or.inr ⟨rfl, hno⟩⟩)
  refine Ro.eq (fun g => by rw [f_L_acts_l93]) ?_
  by_cases q : t < 16
  · refine Ro.neg (show ¬ (16 : Int32) ≤ nI t from ge_n (N := 16) (by omega) q) (Ro.rd (rd_tags hC) ?_)
    by_cases q0 : b (4 + 5 * t) = 0
    · refine Ro.neg (fun z => (tag_bit hB q).mp z q0) (h119 fun ⟨s, s1, s2, s3⟩ => ?_)
      have := (neq (by omega) (by omega)).mp s2
      rw [← this] at s3
      exact s3 q0
    · refine Ro.pos ((tag_bit hB q).mpr q0) ?_
      have hT : TI b t 1 := ⟨h17, Or.inl ⟨rfl, q, q0⟩⟩
      refine Ro.eq (fun g => by rw [f_L_acts_l120]) ?_
      refine Ro.neg i1z (Ro.rd (rd_withdrawn hC) ?_)
      rw [bitv (bm_mk (goneB b)) q]
      by_cases qg : goneB b t = true
      · rw [if_pos qg]
        exact Ro.pos rfl (h145 1 1 hT (Or.inl ⟨rfl, qg⟩))
      · rw [if_neg qg]
        exact Ro.neg (show ¬ nI 0 = (1 : Int32) by decide) (h144 1 hT)
  · refine Ro.pos ((nle (a := 16) (by omega) (by omega)).mpr (by omega)) (h119 fun ⟨s, s1, s2, s3⟩ => ?_)
    have := (neq (by omega) (by omega)).mp s2
    omega
/-! acts -/
theorem ro_acts (hn : 500 ≤ n) (hC : CZ Z c) (hw : c + 1462 ≤ w) (hk : zk Z w = 12) (hl : zl Z w = 1) (hS0 : SOk b) (hA : Ans b v) (x y : Int32) : Ro c w b hb v (f_L_acts n Z c w x y) := fun g len T hS => by
  have hB := hS0.1
  have h18 := lowN_lt (x := x) (m := 18) (by omega)
  have h17 := lowN_lt (x := y) (m := 17) (by omega)
  have h5 := lowN_lt (x := y) (m := 5) (by omega)
  have h5' := lowN_lt (x := y >>> ((3 : Int32) &&& 31)) (m := 5) (by omega)
  obtain ⟨a, ha⟩ : ∃ a, a = lowN x 18 := ⟨_, rfl⟩
  obtain ⟨g5, hg5⟩ : ∃ g5, g5 = sI g w 0 (-1) := ⟨_, rfl⟩
  have s5 : SI g5 c b hb len T v := by rw [hg5]; exact hS.w hw
  have hlow : f_L_low n Z x (18 : Int32) g = some (nI a, g) := by rw [ha]; exact low_ok (m := 18) (by omega) (by omega) g
  rw [← ha] at h18
  rw [f_L_acts, hlow, bnd_s, grd_t hk, hl, grd_t inr01, c0z, ← hg5]
  by_cases q10 : 10 ≤ a
  · rw [if_pos (show (10 : Int32) ≤ nI a from (nle (a := 10) (by omega) (by omega)).mpr q10)]
    by_cases q12 : 12 ≤ a
    · rw [if_pos (show (12 : Int32) ≤ nI a from (nle (a := 12) (by omega) (by omega)).mpr q12)]
      by_cases q16 : 16 ≤ a
      · rw [if_pos (show (16 : Int32) ≤ nI a from (nle (a := 16) (by omega) (by omega)).mpr q16)]
        by_cases e16 : a = 16
        · rw [if_pos (by rw [e16]; rfl)]
          exact ro_dropq hn hC hw hk hl hB hA g5 len T s5
        · rw [if_neg (show ¬ nI a = (16 : Int32) from neI (b := 16) (by omega) (by omega) e16)]
          have l1 : f_L_low n Z y (5 : Int32) g5 = some (nI (lowN y 5), g5) := low_ok (m := 5) (by omega) (by omega) g5
          have l2 : f_L_low n Z (y >>> ((3 : Int32) &&& 31)) (5 : Int32) g5 = some (nI (lowN (y >>> ((3 : Int32) &&& 31)) 5), g5) := low_ok (m := 5) (by omega) (by omega) g5
          rw [l1, bnd_s, l2, bnd_s]
          exact ro_440 hn hC hw hk hl hB (by omega) (by omega) 16 0 n 1 rfl (by omega) (by omega) (Or.inl ⟨rfl, fun s hs => absurd hs (Nat.not_lt_zero _)⟩) g5 len T s5
      · rw [if_neg (show ¬ (16 : Int32) ≤ nI a from ge_n (N := 16) (by omega) (by omega))]
        exact ro_wrap (f := f_L_asks n Z c w y) (fun g len T hS => ok_asks hn hC hw hk hl hS) g5 len T s5
    · rw [if_neg (show ¬ (12 : Int32) ≤ nI a from ge_n (N := 12) (by omega) (by omega))]
      have l1 : f_L_low n Z y (17 : Int32) g5 = some (nI (lowN y 17), g5) := low_ok (m := 17) (by omega) (by omega) g5
      have l2 : f_L_low n Z (y >>> ((5 : Int32) &&& 31)) (3 : Int32) g5 = some (nI (lowN (y >>> ((5 : Int32) &&& 31)) 3), g5) := low_ok (m := 3) (by omega) (by omega) g5
      rw [l1, bnd_s, l2, bnd_s]
      by_cases q0 : nI (lowN (y >>> ((5 : Int32) &&& 31)) 3) ≤ 0
      · rw [if_pos q0]
        exact ro_93 (u := 0) hn hC hw hk hl hB hA (by omega) h17 g5 len T s5
      · rw [if_neg q0]
        exact ro_93 (u := 1) hn hC hw hk hl hB hA (by omega) h17 g5 len T s5
  · rw [if_neg (show ¬ (10 : Int32) ≤ nI a from ge_n (N := 10) (by omega) (by omega))]
    have hr : ∀ x2 : Int32, (x2 = 0 ∨ x2 = 6 ∨ x2 = 7 ∨ x2 = 8) → ∃ g', bnd (f_L_rows n Z c w x2 y g5) (fun r g => grd (isz r) (some (r, g))) = some (1, g') ∧ Out g' c w b hb v := fun x2 h2 => ro_wrap (ro_rows hn hC hw hk hl hS0 hA h2) g5 len T s5
    by_cases q6 : 6 ≤ a
    · rw [if_pos (show (6 : Int32) ≤ nI a from (nle (a := 6) (by omega) (by omega)).mpr q6)]
      by_cases e6 : a = 6
      · rw [if_pos (by rw [e6]; rfl)]
        exact hr 6 (by simp)
      · rw [if_neg (show ¬ nI a = (6 : Int32) from neI (b := 6) (by omega) (by omega) e6)]
        by_cases q9 : 9 ≤ a
        · rw [if_pos (show (9 : Int32) ≤ nI a from (nle (a := 9) (by omega) (by omega)).mpr q9)]
          exact hr 8 (by simp)
        · rw [if_neg (show ¬ (9 : Int32) ≤ nI a from ge_n (N := 9) (by omega) (by omega))]
          exact hr 7 (by simp)
    · rw [if_neg (show ¬ (6 : Int32) ≤ nI a from ge_n (N := 6) (by omega) (by omega))]
      exact hr 0 (by simp)
end ACTS

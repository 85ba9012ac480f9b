/-! rows: base rows come, go and change -/
def Ro (c w : Nat) (b : Nat → Nat) (hb : List (Nat → Nat)) (v : Vl) (f : Mem → Option (Int32 × Mem)) : Prop := ∀ (g : Mem) (len : Nat) (T : Nat → Nat), SI g c b hb len T v → ∃ g', f g = some (1, g') ∧ Out g' c w b hb v
section RO
variable {n : Nat} {Z : Zt} {c w : Nat} {b : Nat → Nat} {hb : List (Nat → Nat)} {v : Vl}
theorem Ro.eq {f f' : Mem → Option (Int32 × Mem)} (e : ∀ g, f g = f' g) (h : Ro c w b hb v f') : Ro c w b hb v f := fun g len T hS => by
  rw [e g]; exact h g len T hS
theorem Ro.pos {p : Prop} [Decidable p] {f h : Mem → Option (Int32 × Mem)} (hp : p) (hf : Ro c w b hb v f) : Ro c w b hb v (fun g => if p then f g else h g) := fun g len T hS => by
  dsimp only
  rw [if_pos hp]; exact hf g len T hS
theorem Ro.neg {p : Prop} [Decidable p] {f h : Mem → Option (Int32 × Mem)} (hp : ¬ p) (hf : Ro c w b hb v h) : Ro c w b hb v (fun g => if p then f g else h g) := fun g len T hS => by
  dsimp only
  rw [if_neg hp]; exact hf g len T hS
theorem Ro.low {x y : Int32} {m : Nat} {k : Int32 → Mem → Option (Int32 × Mem)} (hy : y = nI m) (h0 : 0 < m) (hm : m < 2147483648) (h : Ro c w b hb v (k (nI (lowN x m)))) : Ro c w b hb v (fun g => bnd (f_L_low n Z x y g) k) := fun g len T hS => by
  dsimp only
  rw [hy, low_ok h0 hm, bnd_s]; exact h g len T hS
theorem Ro.rd {f : Mem → Option (Int32 × Mem)} {r : Int32} {k : Int32 → Mem → Option (Int32 × Mem)} (hf : Rd c b v f r) (h : Ro c w b hb v (k r)) : Ro c w b hb v (fun g => bnd (f g) k) := fun g len T hS => by
  obtain ⟨g1, a1, a2, a3⟩ := hf g hb len T hS
  dsimp only
  rw [a1, bnd_s]; exact h g1 len T a2
theorem out_no {g5 : Mem} {len : Nat} {T : Nat → Nat} {f : Mem → Option (Int32 × Mem)} (hS : SI g5 c b hb len T v) (hw : c + 1462 ≤ w) (h5 : gI g5 w 0 < 0) (h : Rd c b v f 1) : ∃ g', f g5 = some (1, g') ∧ Out g' c w b hb v := by
  obtain ⟨g1, a1, a2, a3⟩ := h g5 hb len T hS
  exact ⟨g1, a1, Or.inl ⟨by rw [a3.i (by omega)]; exact h5, len, T, a2⟩⟩
theorem out_yes {g5 : Mem} {len : Nat} {T : Nat → Nat} {b' : Nat → Nat} {v' : Vl} {f : Mem → Option (Int32 × Mem)} (hS : SI g5 c b' (rec4 hb b) len T v') (hw : c + 1462 ≤ w) (h5 : ¬ gI g5 w 0 < 0) (h : Rd c b' v' f 1) : ∃ g', f g5 = some (1, g') ∧ Out g' c w b hb v := by
  obtain ⟨g1, a1, a2, a3⟩ := h g5 (rec4 hb b) len T hS
  exact ⟨g1, a1, Or.inr ⟨by rw [a3.i (by omega)]; exact h5, b', v', len, T, a2⟩⟩
theorem SI.w' {g : Mem} {k : Nat} {x : Int32} {len : Nat} {T : Nat → Nat} (h : SI g c b hb len T v) (hw : c + 1462 ≤ w) : SI (sI g w k x) c b hb len T v := SI.w h hw
theorem SI.sok {g : Mem} {len : Nat} {T : Nat → Nat} (h : SI g c b hb len T v) : SOk b ∧ Ans b v := by
  obtain ⟨P, hP, hc⟩ := h
  exact ⟨hP.1, hP.2.2.2.1⟩
/-! bits of masks, how many there are -/
theorem bitv {M t : Nat} {p : Nat → Bool} (h : BM M p) (ht : t < 16) : (nI M >>> (nI t &&& 31)) &&& 1 = nI (if p t = true then 1 else 0) := by
  have h1 := h.1
  rw [bit_n (by omega) (by omega)]
  have e := h.2 t ht
  rw [Nat.testBit_eq_decide_div_mod_eq] at e
  by_cases q : p t = true
  · rw [q] at e
    rw [if_pos q, of_decide_eq_true e]
  · have q' : p t = false := by simpa using q
    rw [q'] at e
    have := of_decide_eq_false e
    rw [if_neg q, show M / 2 ^ t % 2 = 0 by omega]
def sumB (p : Nat → Bool) : Nat → Nat
  | 0 => 0
  | k + 1 => sumB p k + if p k = true then 1 else 0
theorem sumB_le (p : Nat → Bool) : ∀ k, sumB p k ≤ k
  | 0 => Nat.le_refl _
  | k + 1 => by
    have := sumB_le p k
    unfold sumB
    split <;> omega
theorem sumB_cong {p q : Nat → Bool} : ∀ k, (∀ t, t < k → p t = q t) → sumB p k = sumB q k
  | 0, _ => rfl
  | k + 1, h => by
    unfold sumB
    rw [sumB_cong k fun t ht => h t (by omega), h k (by omega)]
theorem sumB_shift (p : Nat → Bool) : ∀ k, sumB p (k + 1) = (if p 0 = true then 1 else 0) + sumB (fun t => p (t + 1)) k
  | 0 => by simp [sumB]
  | k + 1 => by
    rw [sumB, sumB_shift p k, sumB]; omega
theorem pc_sum : ∀ d M, pc d M = sumB (fun t => M.testBit t) d
  | 0, _ => rfl
  | d + 1, M => by
    rw [pc, pc_sum d (M / 2), sumB_shift]
    congr 1
    · have e : M.testBit 0 = decide (M % 2 = 1) := by rw [Nat.testBit_zero]
      rw [e]
      by_cases q : M % 2 = 1
      · rw [q]; simp
      · rw [show M % 2 = 0 by omega]; simp
    · refine sumB_cong d fun t _ => ?_
      rw [Nat.testBit_succ]
/-- one tag goes: there is one less -/
theorem sumB_drop {p q : Nat → Bool} {t : Nat} (h1 : p t = true) (h2 : q t = false) (h : ∀ s, s ≠ t → q s = p s) : ∀ k, sumB q k + (if t < k then 1 else 0) = sumB p k
  | 0 => by simp [sumB]
  | k + 1 => by
    have ih := sumB_drop h1 h2 h k
    unfold sumB
    by_cases e : k = t
    · subst e
      rw [h1, h2, if_neg (Nat.lt_irrefl _)] at *
      simp only [if_true, if_pos (Nat.lt_succ_self _)]
      simp
      omega
    · rw [h k e]
      by_cases z : t < k
      · rw [if_pos z] at ih; rw [if_pos (show t < k + 1 by omega)]; omega
      · rw [if_neg z] at ih; rw [if_neg (show ¬ t < k + 1 by omega)]; omega
theorem pc_mk (p : Nat → Bool) : pc 16 (mk p 16) = sumB p 16 := by
  rw [pc_sum]
  exact sumB_cong 16 fun t ht => (bm_mk p).2 t ht
/-! more base rows: no fewer rows of the answer -/
theorem sub_len {L M : Rws} (hL : RSo L) (h : Sub L M) : L.length ≤ M.length := by
  have hn : (L.map Prod.fst).Nodup := by
    unfold List.Nodup
    rw [List.pairwise_map]
    exact hL.1.imp fun h => Nat.ne_of_lt h
  have := nodup_le hn (M := M.map Prod.fst) fun x hx => by
    obtain ⟨a, a1, a2⟩ := List.mem_map.mp hx
    obtain ⟨y, y1, y2, y3⟩ := h a a1
    exact List.mem_map.mpr ⟨y, y1, by rw [y2, a2]⟩
  rwa [List.length_map, List.length_map] at this
theorem ans_more {b' : Nat → Nat} {v' : Vl} (hB : BOk b) (hA : Ans b v) (hA' : Ans b' v') (h : ∀ t u, u < 16 → b (4 + 5 * u) = t + 1 → b' (4 + 5 * u) = t + 1 ∧ b' (5 + 5 * u) = b (5 + 5 * u)) (hw : ∀ t, t < 4 → b t = b' t) (e : ∀ k, 84 ≤ k → b' k = b k) : v.2.length ≤ v'.2.length := by
  rcases id hA with ⟨z, y⟩ | ⟨z1, pre, wd, z2, z3, z4⟩
  · rw [y]; exact Nat.zero_le _
  · rcases hA' with ⟨y, _⟩ | ⟨y1, pre', wd', y2, y3, y4⟩
    · exact absurd ((e 84 (by omega)).symm.trans y) z1
    have hp : Prs b' pre := z2.cong e
    have := hp.uniq y2
    subst this
    have hok := z2.ok hB
    obtain ⟨u, u1, u2⟩ := qv_mono h hok.2.1 (fun x hx h0 => hw _ (by have := hok.2.1 x hx; unfold NOk at this; omega)) y4
    have : u = v := by rw [z4] at u1; exact (Option.some.inj u1).symm
    subst this
    exact sub_len (hA.good hB).2.2.2.1 u2.2
/-! addRow -/
theorem rd_260 {s : Int32} : Rd c b v (fun g => f_L_rows_l260 n Z s s g) 1 := by
  refine Rd.eq (fun g => by rw [f_L_rows_l260]) ?_
  exact Rd.pos rfl Rd.pure
theorem rd_234a {x9 x10 : Int32} : Rd c b v (fun g => f_L_rows_l234 n Z (4 : Int32) x9 x10 (-1) g) 1 := by
  refine Rd.eq (fun g => by rw [f_L_rows_l234]) ?_
  exact Rd.pos rfl rd_260
theorem rd_234b {x7 x9 x10 : Int32} (h7 : ¬ x7 = 4) (h : x10 = x9) : Rd c b v (fun g => f_L_rows_l234 n Z x7 x9 x10 (-2) g) 1 := by
  refine Rd.eq (fun g => by rw [f_L_rows_l234]) ?_
  exact Rd.neg h7 (Rd.pos h rd_260)
theorem rd_234c {x7 x9 x10 : Int32} (h7 : ¬ x7 = 4) (h : ¬ x10 = x9) : Rd c b v (fun g => f_L_rows_l234 n Z x7 x9 x10 (-4) g) 1 := by
  refine Rd.eq (fun g => by rw [f_L_rows_l234]) ?_
  exact Rd.neg h7 (Rd.neg h rd_260)
/-- what is free, as the loop finds it -/
def FreeI (b : Nat → Nat) (x : Int32) : Prop := (x = 16 ∧ FT b none) ∨ ∃ t, x = nI t ∧ FT b (some t)
theorem ro_193 (hn : 500 ≤ n) (hC : CZ Z c) (hw : c + 1462 ≤ w) (hk : zk Z w = 12) (hl : zl Z w = 1) (hB : BOk b) (hA : Ans b v) {tb most val : Nat} {x11 : Int32} (htb : tb ≤ 4) (hm : tb < 4 → most = 10 ^ b tb) (hm2 : most ≤ 1000) (hv : val ≤ most) (hf : FreeI b x11) : Ro c w b hb v (fun g => f_L_rows_l193 n Z c w (nI tb) (nI most) (nI val) x11 g) := fun g len T hS => by
  have h32 := (hA.good hB).2.2.2.2.1
  obtain ⟨g0, z1, z2, z3⟩ := rd_answerRows (n := n) (v := v) hC g hb len T hS
  by_cases q4 : tb = 4
  · subst q4
    obtain ⟨g1, a1, a2, a3⟩ := rd_addRowT (n := n) (b := b) (v := v) (x := nI 4) (y := nI val) hC (Or.inr ((nle (by omega) (by omega)).mpr (Nat.le_refl _))) g0 hb len T z2
    obtain ⟨g5, h5⟩ : ∃ g5, g5 = sI g1 w 0 (-1) := ⟨_, rfl⟩
    have s5 : SI g5 c b hb len T v := by rw [h5]; exact a2.w hw
    have w5 : gI g5 w 0 = -1 := by rw [h5, wz]
    dsimp only
    unfold f_L_rows_l193
    rw [z1, bnd_s, a1, bnd_s, grd_t hk, hl, grd_t inr01, c0z, ← h5, if_pos (show nI 4 = (4 : Int32) from rfl)]
    exact out_no s5 hw (by rw [w5]; decide) (rd_234a (n := n) (Z := Z))
  have htb4 : tb < 4 := by omega
  have n4 : ¬ nI tb = (4 : Int32) := neI (b := 4) (by omega) (by omega) q4
  have hm := hm htb4
  by_cases qv : val = most
  · obtain ⟨g1, a1, a2, a3⟩ := rd_addRowV (n := n) (b := b) (v := v) (tab := tb) (w := val) hn hC htb4 (by omega) (by omega) g0 hb len T z2
    obtain ⟨g5, h5⟩ : ∃ g5, g5 = sI g1 w 0 (-2) := ⟨_, rfl⟩
    have s5 : SI g5 c b hb len T v := by rw [h5]; exact a2.w hw
    have w5 : gI g5 w 0 = -2 := by rw [h5, wz]
    dsimp only
    unfold f_L_rows_l193
    rw [z1, bnd_s, a1, bnd_s, grd_t hk, hl, grd_t inr01, c0z, ← h5, if_neg n4, if_pos (by rw [qv])]
    exact out_no s5 hw (by rw [w5]; decide) (rd_234b (n := n) (Z := Z) n4 (by rw [qv]))
  have nv : ¬ nI val = nI most := fun z => qv ((neq (by omega) (by omega)).mp z)
  rcases hf with ⟨rfl, hf⟩ | ⟨t, rfl, hf⟩
  · obtain ⟨g1, a1, a2, a3⟩ := rd_addRowF (n := n) (b := b) (v := v) (tab := tb) (w := val) hn hC htb4 (by omega) hf g0 hb len T z2
    obtain ⟨g5, h5⟩ : ∃ g5, g5 = sI g1 w 0 (-4) := ⟨_, rfl⟩
    have s5 : SI g5 c b hb len T v := by rw [h5]; exact a2.w hw
    have w5 : gI g5 w 0 = -4 := by rw [h5, wz]
    dsimp only
    unfold f_L_rows_l193
    rw [z1, bnd_s, a1, bnd_s, grd_t hk, hl, grd_t inr01, c0z, ← h5, if_neg n4, if_neg nv, if_pos rfl]
    exact out_no s5 hw (by rw [w5]; decide) (rd_234c (n := n) (Z := Z) n4 nv)
  obtain ⟨ht, ht0, -⟩ := id hf
  have n16 : ¬ nI t = (16 : Int32) := neI (b := 16) (by omega) (by omega) (by omega)
  rcases ac_addRow (n := n) (v := v) hn hC hB (tab := tb) (vv := val) htb4 (by omega) hf with ⟨q84, hR⟩ | ⟨v', hv', hR⟩
  · obtain ⟨g1, a1, a2, a3⟩ := hR g0 hb len T z2
    obtain ⟨g5, h5⟩ : ∃ g5, g5 = sI g1 w 0 (-4) := ⟨_, rfl⟩
    have s5 : SI g5 c b hb len T v := by rw [h5]; exact a2.w hw
    have w5 : gI g5 w 0 = -4 := by rw [h5, wz]
    have h60 := hB.2.2.1
    dsimp only
    unfold f_L_rows_l193
    rw [z1, bnd_s, a1, bnd_s, grd_t hk, hl, grd_t inr01, c0z, ← h5, if_neg n4, if_neg nv, if_neg n16, if_pos rfl]
    refine out_no s5 hw (by rw [w5]; decide) ((rd_queryLength hC).bnd (Rd.neg (fun z => by
      have := (nle (b := 0) (by omega) (by omega)).mp z
      omega) ?_))
    exact (rd_answerRows hC).bnd (Rd.pos rfl Rd.pure)
  · obtain ⟨g1, a1, a2, a3⟩ := hR g0 hb len T z2
    obtain ⟨g5, h5⟩ : ∃ g5, g5 = sI g1 w 0 (nI t) := ⟨_, rfl⟩
    have s5 : SI g5 c (setRow b t (tb + 1) val 1 100 0) (rec4 hb b) len T v' := by rw [h5]; exact a2.w hw
    have w5 : gI g5 w 0 = nI t := by rw [h5, wz]
    have nt : ¬ nI t = (-4 : Int32) := fun z => by
      have : nI t < 0 := by rw [z]; decide
      rw [not_neg (by omega)] at this; exact this
    have hB' := hB.place ht htb4 (show val < 10 ^ b tb by omega)
    have h32' := (hv'.good hB').2.2.2.2.1
    have b4 : setRow b t (tb + 1) val 1 100 0 (4 + 5 * t) = tb + 1 := by rw [setRow_4, if_pos rfl]
    have b6 : setRow b t (tb + 1) val 1 100 0 (6 + 5 * t) = 1 := by rw [setRow_6, if_pos rfl]
    have b7 : setRow b t (tb + 1) val 1 100 0 (7 + 5 * t) = 100 := by rw [setRow_7, if_pos rfl]
    have b8 : setRow b t (tb + 1) val 1 100 0 (8 + 5 * t) = 0 := by rw [setRow_8, if_pos rfl]
    have nz : setRow b t (tb + 1) val 1 100 0 (4 + 5 * t) ≠ 0 := by rw [b4]; omega
    have k1 := rd_tableOf (n := n) (v := v') hC ht nz
    have k2 := rd_cost (n := n) (v := v') hC ht nz
    have k3 := rd_trust (n := n) (v := v') hC ht nz
    have k4 := rd_withdrawn (n := n) (b := setRow b t (tb + 1) val 1 100 0) (v := v') hC
    have k5 := rd_answerRows (n := n) (b := setRow b t (tb + 1) val 1 100 0) (v := v') hC
    rw [b4] at k1
    rw [b6] at k2
    rw [b7] at k3
    have hg : goneB (setRow b t (tb + 1) val 1 100 0) t = false := by unfold goneB; rw [b8]; rfl
    have hlen := ans_more (b' := setRow b t (tb + 1) val 1 100 0) hB hA hv' (fun s u hu e => by
      have : u ≠ t := fun z => by rw [z, ht0] at e; omega
      rw [setRow_4, if_neg this, setRow_5, if_neg this]
      exact ⟨e, rfl⟩) (fun s hs => (setRow_lo hs).symm) (fun k hk => setRow_hi ht hk)
    dsimp only
    unfold f_L_rows_l193
    rw [z1, bnd_s, a1, bnd_s, grd_t hk, hl, grd_t inr01, c0z, ← h5, if_neg n4, if_neg nv, if_neg n16, if_neg nt, if_pos rfl]
    refine out_yes s5 hw (by rw [w5, not_neg (by omega)]; exact fun z => z) (k1.bnd (Rd.pos rfl ?_))
    refine k2.bnd (Rd.pos rfl (k3.bnd (Rd.pos rfl (k4.bnd (Rd.pos ?_ (k5.bnd (Rd.neg (fun z => ?_) Rd.pure)))))))
    · rw [bitv (bm_mk _) ht, hg]; rfl
    · have := (nlt (by omega) (by omega)).mp z
      omega
theorem tag_bit (hB : BOk b) {t : Nat} (ht : t < 16) : ((nI (mk (tagB b) 16) >>> (nI t &&& 31)) &&& (1 : Int32) = 1 ↔ b (4 + 5 * t) ≠ 0) := by
  rw [bitv (bm_mk (tagB b)) ht]
  unfold tagB
  by_cases q : b (4 + 5 * t) = 0
  · rw [if_neg (by simp [q])]
    exact ⟨fun z => absurd z (by decide), fun z => absurd q z⟩
  · rw [if_pos (by simp [q])]
    exact ⟨fun _ => q, fun _ => rfl⟩
theorem ro_167 (hn : 500 ≤ n) (hC : CZ Z c) (hw : c + 1462 ≤ w) (hk : zk Z w = 12) (hl : zl Z w = 1) (hB : BOk b) (hA : Ans b v) {tb most val : Nat} (htb : tb ≤ 4) (hm : tb < 4 → most = 10 ^ b tb) (hm2 : most ≤ 1000) (hv : val ≤ most) : ∀ (d k fu : Nat), d = 16 - k → k ≤ 16 → d < fu → (∀ s, s < k → b (4 + 5 * s) ≠ 0) → Ro c w b hb v (fun g => f_L_rows_l167 n Z fu c w (nI tb) (nI most) (nI val) (nI k) g) := by
  intro d
  induction d with
  | zero =>
    intro k fu hd hk' hfu hs
    obtain ⟨fu, rfl⟩ : ∃ q, fu = q + 1 := ⟨fu - 1, by omega⟩
    have : k = 16 := by omega
    subst this
    refine Ro.eq (fun g => by rw [f_L_rows_l167]) ?_
    exact Ro.pos (show (16 : Int32) ≤ nI 16 by decide) (ro_193 hn hC hw hk hl hB hA htb hm hm2 hv (Or.inl ⟨rfl, hs⟩))
  | succ d ih =>
    intro k fu hd hk' hfu hs
    obtain ⟨fu, rfl⟩ : ∃ q, fu = q + 1 := ⟨fu - 1, by omega⟩
    have hk16 : k < 16 := by omega
    refine Ro.eq (fun g => by rw [f_L_rows_l167]) ?_
    refine Ro.neg (show ¬ (16 : Int32) ≤ nI k from ge_n (N := 16) (by omega) hk16) (Ro.rd (rd_tags hC) ?_)
    by_cases q : b (4 + 5 * k) = 0
    · refine Ro.neg (fun z => (tag_bit hB hk16).mp z q) ?_
      exact ro_193 hn hC hw hk hl hB hA htb hm hm2 hv (Or.inr ⟨k, rfl, hk16, q, hs⟩)
    · refine Ro.pos ((tag_bit hB hk16).mpr q) ?_
      rw [nI_1]
      exact ih (k + 1) fu (by omega) (by omega) (by omega) fun s hs' => by
        by_cases z : s = k
        · rw [z]; exact q
        · exact hs s (by omega)
theorem ro_124 (hn : 500 ≤ n) (hC : CZ Z c) (hw : c + 1462 ≤ w) (hk : zk Z w = 12) (hl : zl Z w = 1) (hB : BOk b) (hA : Ans b v) {tb wd most : Nat} {y s0 : Int32} (hs0 : s0 = nI most) (htb : tb ≤ 4) (hwd : 1 ≤ wd ∧ wd ≤ 3) (hmw : most = 10 ^ wd) (hm : tb < 4 → wd = b tb) : Ro c w b hb v (fun g => f_L_rows_l124 n Z c w y (nI tb) (nI wd) s0 g) := by
  have h1 : most ≤ 1000 := by rw [hmw]; exact Nat.pow_le_pow_right (n := 10) (j := 3) (by omega) hwd.2
  have h10 : 10 ≤ most := by rw [hmw]; exact Nat.pow_le_pow_right (n := 10) (i := 1) (by omega) hwd.1
  have hm' : tb < 4 → most = 10 ^ b tb := fun z => by rw [hmw, hm z]
  have hgo : ∀ val, val ≤ most → Ro c w b hb v (fun g => f_L_rows_l167 n Z n c w (nI tb) s0 (nI val) (0 : Int32) g) := fun val hv => by
    rw [hs0]
    exact ro_167 hn hC hw hk hl hB hA htb hm' h1 hv 16 0 n rfl (by omega) (by omega) fun s hs => absurd hs (Nat.not_lt_zero _)
  refine Ro.eq (fun g => by rw [f_L_rows_l124]) ?_
  refine Ro.low (m := 5) rfl (by omega) (by omega) ?_
  by_cases q : nI (lowN (y >>> ((18 : Int32) &&& 31)) 5) = 0
  · refine Ro.pos q (Ro.low (m := most + 1) (by rw [hs0, nI_1]) (by omega) (by omega) ?_)
    exact hgo _ (by have := lowN_lt (x := y >>> ((3 : Int32) &&& 31)) (m := most + 1) (by omega); omega)
  · refine Ro.neg q ?_
    by_cases q1 : nI wd = (1 : Int32)
    · refine Ro.pos q1 (Ro.low (m := 3) rfl (by omega) (by omega) ?_)
      exact hgo _ (by have := lowN_lt (x := y >>> ((3 : Int32) &&& 31)) (m := 3) (by omega); omega)
    · refine Ro.neg q1 (Ro.low (m := 30) rfl (by omega) (by omega) ?_)
      have : wd ≠ 1 := fun z => q1 (by rw [z]; rfl)
      have h100 : 100 ≤ most := by rw [hmw]; exact Nat.pow_le_pow_right (n := 10) (i := 2) (by omega) (by omega)
      exact hgo _ (by have := lowN_lt (x := y >>> ((3 : Int32) &&& 31)) (m := 30) (by omega); omega)
theorem ro_97 (hn : 500 ≤ n) (hC : CZ Z c) (hw : c + 1462 ≤ w) (hk : zk Z w = 12) (hl : zl Z w = 1) (hB : BOk b) (hA : Ans b v) {tb wd : Nat} {y : Int32} (htb : tb ≤ 4) (hwd : 1 ≤ wd ∧ wd ≤ 3) (hm : tb < 4 → wd = b tb) : Ro c w b hb v (fun g => f_L_rows_l97 n Z c w y (nI tb) (nI wd) g) := by
  refine Ro.eq (fun g => by rw [f_L_rows_l97]) ?_
  by_cases q1 : wd = 1
  · subst q1
    exact Ro.pos rfl (ro_124 (most := 10) hn hC hw hk hl hB hA rfl htb hwd rfl hm)
  · refine Ro.neg (show ¬ nI wd = (1 : Int32) from neI (b := 1) (by omega) (by omega) q1) ?_
    by_cases q2 : wd = 2
    · subst q2
      exact Ro.pos rfl (ro_124 (most := 100) hn hC hw hk hl hB hA rfl htb hwd rfl hm)
    · refine Ro.neg (show ¬ nI wd = (2 : Int32) from neI (b := 2) (by omega) (by omega) q2) ?_
      have q3 : wd = 3 := by omega
      subst q3
      exact ro_124 (most := 1000) hn hC hw hk hl hB hA rfl htb hwd rfl hm
/-! dropRow, setCost, setTrust -/
/-- a tag below 17, and whether a row has it -/
def TI (b : Nat → Nat) (t : Nat) (x5 : Int32) : Prop := t < 17 ∧ (x5 = 1 ∧ t < 16 ∧ b (4 + 5 * t) ≠ 0 ∨ x5 = 0 ∧ ¬ tagI b (nI t))
theorem ro_drop (hn : 500 ≤ n) (hC : CZ Z c) (hw : c + 1462 ≤ w) (hk : zk Z w = 12) (hl : zl Z w = 1) (hS0 : SOk b) (hA : Ans b v) {t : Nat} {y x5 : Int32} (hT : TI b t x5) : ∀ fu, Ro c w b hb v (fun g => f_L_rows_l41 n Z (fu + 1) c w (6 : Int32) y (nI t) x5 (nI (sumB (tagB b) 16)) (nI 16) g) := fun fu g len T hS => by
  have hB := hS0.1
  have h32 := (hA.good hB).2.2.2.2.1
  obtain ⟨g0, z1, z2, z3⟩ := rd_answerRows (n := n) (v := v) hC g hb len T hS
  have H : ∀ (g1 : Mem) (r : Int32), f_X10_dropRow n Z c (nI t) g0 = some (r, g1) → f_L_rows_l41 n Z (fu + 1) c w (6 : Int32) y (nI t) x5 (nI (sumB (tagB b) 16)) (nI 16) g = (if x5 = 0 then (f_L_rows_l403 n Z c (nI t) (nI v.2.length) (-1 : Int32) r (sI g1 w 0 r)) else (f_L_rows_l403 n Z c (nI t) (nI v.2.length) (nI (sumB (tagB b) 16) - (1 : Int32)) r (sI g1 w 0 r))) := fun g1 r e => by
    rw [f_L_rows_l41, if_pos (show (16 : Int32) ≤ nI 16 by decide), if_pos (show (6 : Int32) ≤ (6 : Int32) by decide), if_pos rfl, z1, bnd_s, e, bnd_s, grd_t hk, hl, grd_t inr01, grd_t hk, grd_t inr01, c0z, wz]
  obtain ⟨h17, ⟨rfl, ht, q0⟩ | ⟨rfl, hno⟩⟩ := hT
  · obtain ⟨v', hv', hR⟩ := ac_dropRow (n := n) (v := v) hn hC hS0 hA ht q0
    obtain ⟨g1, a1, a2, a3⟩ := hR g0 hb len T z2
    have hB' := hB.drop ht
    have h32' := (hv'.good hB').2.2.2.2.1
    have b4 : setRow b t 0 0 0 0 0 (4 + 5 * t) = 0 := by rw [setRow_4, if_pos rfl]
    have htt : tagB b t = true := by unfold tagB; exact decide_eq_true q0
    have hcnt : pc 16 (mk (tagB (setRow b t 0 0 0 0 0)) 16) + 1 = sumB (tagB b) 16 := by
      rw [pc_mk]
      have := sumB_drop (p := tagB b) (q := tagB (setRow b t 0 0 0 0 0)) (t := t) htt (by unfold tagB; rw [b4]; rfl) (fun s hs => by unfold tagB; rw [setRow_4, if_neg hs]) 16
      rw [if_pos ht] at this
      exact this
    have hsl := sumB_le (tagB b) 16
    obtain ⟨g5, h5⟩ : ∃ g5, g5 = sI g1 w 0 (nI (pc 16 (mk (tagB (setRow b t 0 0 0 0 0)) 16))) := ⟨_, rfl⟩
    have s5 : SI g5 c (setRow b t 0 0 0 0 0) (rec4 hb b) len T v' := by rw [h5]; exact a2.w hw
    have w5 : gI g5 w 0 = nI (pc 16 (mk (tagB (setRow b t 0 0 0 0 0)) 16)) := by rw [h5, wz]
    have hlen := ans_more (b := setRow b t 0 0 0 0 0) (b' := b) hB' hv' hA (fun s u hu e => by
      have : u ≠ t := fun z => by rw [z, b4] at e; omega
      rw [setRow_4, if_neg this] at e
      rw [setRow_5, if_neg this]
      exact ⟨e, rfl⟩) (fun s hs => setRow_lo hs) (fun k hk => (setRow_hi ht hk).symm)
    have hno : ¬ tagI (setRow b t 0 0 0 0 0) (nI t) := fun ⟨s, s1, s2, s3⟩ => by
      have := (neq (by omega) (by omega)).mp s2
      subst this
      exact s3 b4
    dsimp only
    rw [H g1 _ a1, ← h5, if_neg i1z, show nI (sumB (tagB b) 16) - (1 : Int32) = nI (pc 16 (mk (tagB (setRow b t 0 0 0 0 0)) 16)) by rw [← hcnt]; exact nI_pred _]
    refine out_yes s5 hw (by rw [w5, not_neg (by omega)]; exact fun z => z) ?_
    refine Rd.eq (fun g => by rw [f_L_rows_l403]) ?_
    refine Rd.pos rfl ((rd_tableOfO hC hno).bnd (Rd.pos rfl ((rd_answerRows hC).bnd (Rd.neg (fun z => ?_) Rd.pure))))
    have := (nlt (by omega) (by omega)).mp z
    omega
  · obtain ⟨g1, a1, a2, a3⟩ := rd_dropRowT (n := n) (v := v) hC hno g0 hb len T z2
    obtain ⟨g5, h5⟩ : ∃ g5, g5 = sI g1 w 0 (-1) := ⟨_, rfl⟩
    have s5 : SI g5 c b hb len T v := by rw [h5]; exact a2.w hw
    have w5 : gI g5 w 0 = -1 := by rw [h5, wz]
    dsimp only
    rw [H g1 _ a1, ← h5, if_pos rfl]
    refine out_no s5 hw (by rw [w5]; decide) ?_
    refine Rd.eq (fun g => by rw [f_L_rows_l403]) ?_
    refine Rd.pos rfl ((rd_tableOfO hC hno).bnd (Rd.pos rfl ((rd_answerRows hC).bnd (Rd.neg (fun z => ?_) Rd.pure))))
    have := (nlt (by omega) (by omega)).mp z
    omega
theorem rd_566z {x2 x4 x7 x9 s : Int32} : Rd c b v (fun g => f_L_rows_l566 n Z c x2 x4 (0 : Int32) x7 x9 s s g) 1 := by
  refine Rd.eq (fun g => by rw [f_L_rows_l566]) ?_
  exact Rd.pos rfl (Rd.pos rfl Rd.pure)
theorem rd_566n {x2 x4 x7 s : Int32} : Rd c b v (fun g => f_L_rows_l566 n Z c x2 x4 (1 : Int32) x7 (1 : Int32) s s g) 1 := by
  refine Rd.eq (fun g => by rw [f_L_rows_l566]) ?_
  exact Rd.pos rfl (Rd.neg i1z (Rd.neg i1z Rd.pure))
theorem rd_600 {s : Int32} : Rd c b v (fun g => f_L_rows_l600 n Z s s g) 1 := by
  refine Rd.eq (fun g => by rw [f_L_rows_l600]) ?_
  exact Rd.pos rfl Rd.pure
theorem ro_cost (hn : 500 ≤ n) (hC : CZ Z c) (hw : c + 1462 ≤ w) (hk : zk Z w = 12) (hl : zl Z w = 1) (hB : BOk b) {t : Nat} {x5 y : Int32} (hT : TI b t x5) : Ro c w b hb v (fun g => f_L_rows_l448 n Z c w (7 : Int32) (nI t) x5 (1001 : Int32) y g) := by
  have hlt := lowN_lt (x := y) (m := 1001) (by omega)
  obtain ⟨val, hval⟩ : ∃ val, val = lowN y 1001 := ⟨_, rfl⟩
  refine Ro.eq (fun g => by rw [f_L_rows_l448]) ?_
  refine Ro.low (m := 1001) rfl (by omega) (by omega) ?_
  rw [← hval] at hlt ⊢
  obtain ⟨h17, ⟨rfl, ht, q0⟩ | ⟨rfl, hno⟩⟩ := hT
  · refine Ro.neg i1z (Ro.pos rfl (Ro.rd (rd_cost hC ht q0) ?_))
    refine Ro.eq (fun g => by rw [f_L_rows_l483]) (Ro.pos rfl ?_)
    by_cases qv : val = 1000
    · refine Ro.eq (fun g => by rw [f_L_rows_l501]) (Ro.pos (by rw [qv]; rfl) ?_)
      refine Ro.eq (fun g => by rw [f_L_rows_l509]) (Ro.pos rfl ?_)
      intro g len T hS
      obtain ⟨g1, a1, a2, a3⟩ := rd_setCostV (n := n) (v := v) (w := val) hC ht q0 (by omega) (by omega) g hb len T hS
      obtain ⟨g5, h5⟩ : ∃ g5, g5 = sI g1 w 0 (-2) := ⟨_, rfl⟩
      have s5 : SI g5 c b hb len T v := by rw [h5]; exact a2.w hw
      have w5 : gI g5 w 0 = -2 := by rw [h5, wz]
      dsimp only
      rw [a1, bnd_s, f_L_rows_l536, grd_t hk, hl, grd_t inr01, c0z, ← h5, if_neg i1z, if_neg i1z]
      exact out_no s5 hw (by rw [w5]; decide) rd_566n
    · refine Ro.eq (fun g => by rw [f_L_rows_l501]) (Ro.neg (show ¬ nI val = (1000 : Int32) from neI (b := 1000) (by omega) (by omega) qv) ?_)
      refine Ro.eq (fun g => by rw [f_L_rows_l509]) (Ro.pos rfl ?_)
      intro g len T hS
      have h999 := (hB.2.1 t ht).2.2.1
      obtain ⟨g1, a1, a2, a3⟩ := ac_setCost (n := n) (v := v) (w := val) hn hC ht q0 (by omega) g hb len T hS
      obtain ⟨g5, h5⟩ : ∃ g5, g5 = sI g1 w 0 (nI (b (6 + 5 * t))) := ⟨_, rfl⟩
      have s5 : SI g5 c (up b (6 + 5 * t) val) (rec4 hb b) len T v := by rw [h5]; exact a2.w hw
      have w5 : gI g5 w 0 = nI (b (6 + 5 * t)) := by rw [h5, wz]
      have k1 := rd_cost (n := n) (b := up b (6 + 5 * t) val) (v := v) hC ht (by rw [up_ne (by omega)]; exact q0)
      rw [up_eq] at k1
      dsimp only
      rw [a1, bnd_s, f_L_rows_l536, grd_t hk, hl, grd_t inr01, c0z, ← h5, if_neg i1z, if_pos rfl]
      refine out_yes s5 hw (by rw [w5, not_neg (by omega)]; exact fun z => z) ?_
      refine Rd.eq (fun g => by rw [f_L_rows_l566]) ?_
      exact Rd.pos rfl (Rd.neg i1z (Rd.pos rfl (Rd.pos rfl (k1.bnd rd_600))))
  · refine Ro.pos rfl ?_
    refine Ro.eq (fun g => by rw [f_L_rows_l483]) (Ro.pos rfl ?_)
    have hend : ∀ x9 : Int32, Ro c w b hb v (fun g => f_L_rows_l509 n Z c w (7 : Int32) (nI t) (0 : Int32) (nI val) (0 : Int32) x9 g) := fun x9 => by
      refine Ro.eq (fun g => by rw [f_L_rows_l509]) (Ro.pos rfl ?_)
      intro g len T hS
      obtain ⟨g1, a1, a2, a3⟩ := rd_setCostT (n := n) (v := v) (y := nI val) hC hno g hb len T hS
      obtain ⟨g5, h5⟩ : ∃ g5, g5 = sI g1 w 0 (-1) := ⟨_, rfl⟩
      have s5 : SI g5 c b hb len T v := by rw [h5]; exact a2.w hw
      have w5 : gI g5 w 0 = -1 := by rw [h5, wz]
      dsimp only
      rw [a1, bnd_s, f_L_rows_l536, grd_t hk, hl, grd_t inr01, c0z, ← h5, if_pos rfl]
      exact out_no s5 hw (by rw [w5]; decide) rd_566z
    refine Ro.eq (fun g => by rw [f_L_rows_l501]) ?_
    by_cases qv : nI val = (1000 : Int32)
    · exact Ro.pos qv (hend _)
    · exact Ro.neg qv (hend _)
theorem i87 : ¬ (8 : Int32) = 7 := by decide
theorem ro_trust (hn : 500 ≤ n) (hC : CZ Z c) (hw : c + 1462 ≤ w) (hk : zk Z w = 12) (hl : zl Z w = 1) (hB : BOk b) {t : Nat} {x5 y : Int32} (hT : TI b t x5) : Ro c w b hb v (fun g => f_L_rows_l448 n Z c w (8 : Int32) (nI t) x5 (102 : Int32) y g) := by
  have hlt := lowN_lt (x := y) (m := 102) (by omega)
  obtain ⟨val, hval⟩ : ∃ val, val = lowN y 102 := ⟨_, rfl⟩
  refine Ro.eq (fun g => by rw [f_L_rows_l448]) ?_
  refine Ro.low (m := 102) rfl (by omega) (by omega) ?_
  rw [← hval] at hlt ⊢
  obtain ⟨h17, ⟨rfl, ht, q0⟩ | ⟨rfl, hno⟩⟩ := hT
  · refine Ro.neg i1z (Ro.neg i87 (Ro.rd (rd_trust hC ht q0) ?_))
    refine Ro.eq (fun g => by rw [f_L_rows_l483]) (Ro.neg i87 ?_)
    by_cases qv : val = 101
    · refine Ro.eq (fun g => by rw [f_L_rows_l501]) (Ro.pos (by rw [qv]; rfl) ?_)
      refine Ro.eq (fun g => by rw [f_L_rows_l509]) (Ro.neg i87 ?_)
      intro g len T hS
      obtain ⟨g1, a1, a2, a3⟩ := rd_setTrustV (n := n) (v := v) (w := val) hC ht q0 (by omega) (by omega) g hb len T hS
      obtain ⟨g5, h5⟩ : ∃ g5, g5 = sI g1 w 0 (-2) := ⟨_, rfl⟩
      have s5 : SI g5 c b hb len T v := by rw [h5]; exact a2.w hw
      have w5 : gI g5 w 0 = -2 := by rw [h5, wz]
      dsimp only
      rw [a1, bnd_s, f_L_rows_l536, grd_t hk, hl, grd_t inr01, c0z, ← h5, if_neg i1z, if_neg i1z]
      exact out_no s5 hw (by rw [w5]; decide) rd_566n
    · refine Ro.eq (fun g => by rw [f_L_rows_l501]) (Ro.neg (show ¬ nI val = (101 : Int32) from neI (b := 101) (by omega) (by omega) qv) ?_)
      refine Ro.eq (fun g => by rw [f_L_rows_l509]) (Ro.neg i87 ?_)
      intro g len T hS
      have h100 := (hB.2.1 t ht).2.2.2.1
      obtain ⟨g1, a1, a2, a3⟩ := ac_setTrust (n := n) (v := v) (w := val) hn hC ht q0 (by omega) g hb len T hS
      obtain ⟨g5, h5⟩ : ∃ g5, g5 = sI g1 w 0 (nI (b (7 + 5 * t))) := ⟨_, rfl⟩
      have s5 : SI g5 c (up b (7 + 5 * t) val) (rec4 hb b) len T v := by rw [h5]; exact a2.w hw
      have w5 : gI g5 w 0 = nI (b (7 + 5 * t)) := by rw [h5, wz]
      have k1 := rd_trust (n := n) (b := up b (7 + 5 * t) val) (v := v) hC ht (by rw [up_ne (by omega)]; exact q0)
      rw [up_eq] at k1
      dsimp only
      rw [a1, bnd_s, f_L_rows_l536, grd_t hk, hl, grd_t inr01, c0z, ← h5, if_neg i1z, if_pos rfl]
      refine out_yes s5 hw (by rw [w5, not_neg (by omega)]; exact fun z => z) ?_
      refine Rd.eq (fun g => by rw [f_L_rows_l566]) ?_
      exact Rd.pos rfl (Rd.neg i1z (Rd.pos rfl (Rd.neg i87 (k1.bnd rd_600))))
  · refine Ro.pos rfl ?_
    refine Ro.eq (fun g => by rw [f_L_rows_l483]) (Ro.neg i87 ?_)
    have hend : ∀ x9 : Int32, Ro c w b hb v (fun g => f_L_rows_l509 n Z c w (8 : Int32) (nI t) (0 : Int32) (nI val) (0 : Int32) x9 g) := fun x9 => by
      refine Ro.eq (fun g => by rw [f_L_rows_l509]) (Ro.neg i87 ?_)
      intro g len T hS
      obtain ⟨g1, a1, a2, a3⟩ := rd_setTrustT (n := n) (v := v) (y := nI val) hC hno g hb len T hS
      obtain ⟨g5, h5⟩ : ∃ g5, g5 = sI g1 w 0 (-1) := ⟨_, rfl⟩
      have s5 : SI g5 c b hb len T v := by rw [h5]; exact a2.w hw
      have w5 : gI g5 w 0 = -1 := by rw [h5, wz]
      dsimp only
      rw [a1, bnd_s, f_L_rows_l536, grd_t hk, hl, grd_t inr01, c0z, ← h5, if_pos rfl]
      exact out_no s5 hw (by rw [w5]; decide) rd_566z
    refine Ro.eq (fun g => by rw [f_L_rows_l501]) ?_
    by_cases qv : nI val = (101 : Int32)
    · exact Ro.pos qv (hend _)
    · exact Ro.neg qv (hend _)
/-! rows, as a whole -/
theorem ro_41 (hC : CZ Z c) {x2 y x4 x5 : Int32} (h16 : ∀ fu, Ro c w b hb v (fun g => f_L_rows_l41 n Z (fu + 1) c w x2 y x4 x5 (nI (sumB (tagB b) 16)) (nI 16) g)) : ∀ (d k fu : Nat), d = 16 - k → k ≤ 16 → d < fu → Ro c w b hb v (fun g => f_L_rows_l41 n Z fu c w x2 y x4 x5 (nI (sumB (tagB b) k)) (nI k) g) := by
  intro d
  induction d with
  | zero =>
    intro k fu hd hk hfu
    obtain ⟨fu, rfl⟩ : ∃ q, fu = q + 1 := ⟨fu - 1, by omega⟩
    have : k = 16 := by omega
    subst this
    exact h16 fu
  | succ d ih =>
    intro k fu hd hk hfu
    obtain ⟨fu, rfl⟩ : ∃ q, fu = q + 1 := ⟨fu - 1, by omega⟩
    refine Ro.eq (fun g => by rw [f_L_rows_l41]) ?_
    refine Ro.neg (show ¬ (16 : Int32) ≤ nI k from ge_n (N := 16) (by omega) (by omega)) (Ro.rd (rd_tags hC) ?_)
    rw [bitv (bm_mk (tagB b)) (by omega), nI_add, nI_1]
    exact ih (k + 1) fu (by omega) (by omega) (by omega)
theorem ro_rows (hn : 500 ≤ n) (hC : CZ Z c) (hw : c + 1462 ≤ w) (hk : zk Z w = 12) (hl : zl Z w = 1) (hS0 : SOk b) (hA : Ans b v) {x2 y : Int32} (h2 : x2 = 0 ∨ x2 = 6 ∨ x2 = 7 ∨ x2 = 8) : Ro c w b hb v (f_L_rows n Z c w x2 y) := by
  have hB := hS0.1
  have h17 := lowN_lt (x := y) (m := 17) (by omega)
  have h33 : ∀ x5, TI b (lowN y 17) x5 → Ro c w b hb v (fun g => f_L_rows_l33 n Z c w x2 y (nI (lowN y 17)) x5 g) := fun x5 hT => by
    refine Ro.eq (fun g => by rw [f_L_rows_l33]) ?_
    refine ro_41 hC ?_ 16 0 n rfl (by omega) (by omega)
    rcases h2 with rfl | rfl | rfl | rfl
    · intro fu
      refine Ro.eq (fun g => by rw [f_L_rows_l41]) ?_
      refine Ro.pos (show (16 : Int32) ≤ nI 16 by decide) (Ro.neg (show ¬ (6 : Int32) ≤ (0 : Int32) by decide) (Ro.low (m := 5) rfl (by omega) (by omega) ?_))
      have h5 := lowN_lt (x := y) (m := 5) (by omega)
      by_cases q4 : lowN y 5 = 4
      · rw [q4]
        exact Ro.pos rfl (ro_97 (tb := 4) (wd := 1) hn hC hw hk hl hB hA (by omega) (by omega) fun z => absurd z (by omega))
      · refine Ro.neg (show ¬ nI (lowN y 5) = (4 : Int32) from neI (b := 4) (by omega) (by omega) q4) (Ro.rd (rd_columns hC (show lowN y 5 < 4 by omega)) ?_)
        exact ro_97 hn hC hw hk hl hB hA (by omega) (hB.1 _ (by omega)) fun _ => rfl
    · exact ro_drop hn hC hw hk hl hS0 hA hT
    · intro fu
      refine Ro.eq (fun g => by rw [f_L_rows_l41]) ?_
      exact Ro.pos (show (16 : Int32) ≤ nI 16 by decide) (Ro.pos (show (6 : Int32) ≤ (7 : Int32) by decide) (Ro.neg (show ¬ (7 : Int32) = 6 by decide) (Ro.pos rfl (ro_cost hn hC hw hk hl hB hT))))
    · intro fu
      refine Ro.eq (fun g => by rw [f_L_rows_l41]) ?_
      exact Ro.pos (show (16 : Int32) ≤ nI 16 by decide) (Ro.pos (show (6 : Int32) ≤ (8 : Int32) by decide) (Ro.neg (show ¬ (8 : Int32) = 6 by decide) (Ro.neg i87 (ro_trust hn hC hw hk hl hB hT))))
  have h32 : ¬ tagI b (nI (lowN y 17)) → Ro c w b hb v (fun g => f_L_rows_l32 n Z c w x2 y (nI (lowN y 17)) g) := fun hno => by
    refine Ro.eq (fun g => by rw [f_L_rows_l32]) ?_
    exact h33 0 ⟨h17, Or.inr ⟨rfl, hno⟩⟩
  refine Ro.eq (fun g => by rw [f_L_rows]) ?_
  refine Ro.low (m := 17) rfl (by omega) (by omega) ?_
  by_cases q : lowN y 17 < 16
  · refine Ro.neg (show ¬ (16 : Int32) ≤ nI (lowN y 17) from ge_n (N := 16) (by omega) q) (Ro.rd (rd_tags hC) ?_)
    by_cases q0 : b (4 + 5 * lowN y 17) = 0
    · refine Ro.neg (fun z => (tag_bit hB q).mp z q0) (h32 fun ⟨s, s1, s2, s3⟩ => ?_)
      have := (neq (by omega) (by omega)).mp s2
      rw [← this] at s3
      exact s3 q0
    · exact Ro.pos ((tag_bit hB q).mpr q0) (h33 1 ⟨h17, Or.inl ⟨rfl, q, q0⟩⟩)
  · refine Ro.pos ((nle (a := 16) (by omega) (by omega)).mpr (by omega)) (h32 fun ⟨s, s1, s2, s3⟩ => ?_)
    have := (neq (by omega) (by omega)).mp s2
    omega
end RO

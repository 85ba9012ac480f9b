/-! FACTS: numbers, digits, floats -/
def lowN (x : Int32) (m : Nat) : Nat := (x.toBitVec.toNat % 2147483648) % m
theorem lowN_lt {x : Int32} {m : Nat} (h : 0 < m) : lowN x m < m := Nat.mod_lt _ h
theorem low_ok {n : Nat} {Z : Zt} {x : Int32} {m : Nat} (h0 : 0 < m) (hm : m < 2147483648) (g : Mem) : f_L_low n Z x (nI m) g = some (nI (lowN x m), g) := by
  unfold f_L_low
  have e : x &&& (2147483647 : Int32) = nI (x.toBitVec.toNat % 2147483648) := pk_and x (m := 2147483647) 31 (by decide)
  rw [grd_t (show ¬ nI m = 0 from neI (b := 0) hm (by omega) (by omega)), e, pk_rem (Nat.mod_lt _ (by omega)) h0 hm]
  rfl
theorem rd_low {n : Nat} {Z : Zt} {c : Nat} {b : Nat → Nat} {v : Vl} {x : Int32} {m : Nat} (h0 : 0 < m) (hm : m < 2147483648) : Rd c b v (fun g => f_L_low n Z x (nI m) g) (nI (lowN x m)) := fun g hb len T h => ⟨g, low_ok h0 hm g, h, Fr.rfl⟩
/-- the first digit that differs -/
theorem fst_dig {B w j K L : Nat} (hB : 0 < B) (hj : j < w) (h : K / B ^ (w - j) = L / B ^ (w - j)) (hKL : K < L) : (K / B ^ (w - 1 - j) % B = L / B ^ (w - 1 - j) % B → K / B ^ (w - (j + 1)) = L / B ^ (w - (j + 1))) ∧ (¬ K / B ^ (w - 1 - j) % B = L / B ^ (w - 1 - j) % B → K / B ^ (w - 1 - j) % B < L / B ^ (w - 1 - j) % B) := by
  have e1 : w - j = (w - 1 - j) + 1 := by omega
  have e2 : w - (j + 1) = w - 1 - j := by omega
  rw [e1, Nat.pow_succ, ← Nat.div_div_eq_div_mul, ← Nat.div_div_eq_div_mul] at h
  rw [e2]
  obtain ⟨k, hk⟩ : ∃ k, k = K / B ^ (w - 1 - j) := ⟨_, rfl⟩
  obtain ⟨l, hl⟩ : ∃ l, l = L / B ^ (w - 1 - j) := ⟨_, rfl⟩
  have hle : k ≤ l := by rw [hk, hl]; exact Nat.div_le_div_right (by omega)
  rw [← hk, ← hl] at h ⊢
  have d1 := Nat.div_add_mod k B
  have d2 := Nat.div_add_mod l B
  rw [h] at d1
  constructor
  · intro q; omega
  · intro q; omega
/-! floats -/
theorem F1.lo {a : UInt32} (h : F1 a) : ¬ Op.cmpValue (FP.fcmp a FP.fconst0) .l < 0 := by
  obtain ⟨c, t, e1, e2⟩ := dec1 h
  have e : FP.fcmp a FP.fconst0 = some (compare (FP.Core.inUnits c (-(t : Int)) (min (-(t : Int)) (-149)) : Int) (0 : Int)) := by
    show FP.Core.order (FP.Core.decode FP.Core.b32 a.toNat) (FP.Core.decode FP.Core.b32 FP.fconst0.toNat) = _
    rw [e1, show FP.Core.decode FP.Core.b32 FP.fconst0.toNat = .fin false 0 (-149) by decide]
    show some (compare _ (FP.Core.signed false (FP.Core.inUnits 0 _ _))) = _
    rw [show FP.Core.signed false (FP.Core.inUnits 0 (-149) (min (-(t : Int)) (-149))) = 0 by unfold FP.Core.signed FP.Core.inUnits; rw [Nat.zero_mul]; rfl]
    rfl
  rw [e]
  generalize FP.Core.inUnits c (-(t : Int)) (min (-(t : Int)) (-149)) = w
  cases w with
  | zero => decide
  | succ w =>
    rw [show compare ((w + 1 : Nat) : Int) (0 : Int) = .gt from Int.compare_eq_gt.mpr (by omega)]
    decide
theorem F1.hi {a : UInt32} (h : F1 a) : ¬ 0 < Op.cmpValue (FP.fcmp a FP.fconst1) .g := by
  obtain ⟨c, t, e1, e2⟩ := dec1 h
  have e : FP.fcmp a FP.fconst1 = some (compare ((FP.Core.inUnits c (-(t : Int)) (min (-(t : Int)) (-23)) : Nat) : Int) ((FP.Core.inUnits 8388608 (-23) (min (-(t : Int)) (-23)) : Nat) : Int)) := by
    show FP.Core.order (FP.Core.decode FP.Core.b32 a.toNat) (FP.Core.decode FP.Core.b32 FP.fconst1.toNat) = _
    rw [e1, show FP.Core.decode FP.Core.b32 FP.fconst1.toNat = .fin false 8388608 (-23) by decide]
    rfl
  rw [e]
  have hle : FP.Core.inUnits c (-(t : Int)) (min (-(t : Int)) (-23)) ≤ FP.Core.inUnits 8388608 (-23) (min (-(t : Int)) (-23)) := by
    unfold FP.Core.inUnits
    by_cases q : t ≤ 23
    · rw [show min (-(t : Int)) (-23) = -23 by omega, show (-(t : Int) - -23).toNat = 23 - t by omega, show ((-23 : Int) - -23).toNat = 0 by omega]
      calc c * 2 ^ (23 - t) ≤ 2 ^ t * 2 ^ (23 - t) := Nat.mul_le_mul_right _ e2
        _ = 2 ^ 23 := by rw [← Nat.pow_add]; congr 1; omega
        _ = 8388608 * 2 ^ 0 := by decide
    · rw [show min (-(t : Int)) (-23) = -(t : Int) by omega, show (-(t : Int) - -(t : Int)).toNat = 0 by omega, show ((-23 : Int) - -(t : Int)).toNat = t - 23 by omega]
      calc c * 2 ^ 0 = c := by simp
        _ ≤ 2 ^ t := e2
        _ = 2 ^ 23 * 2 ^ (t - 23) := by rw [← Nat.pow_add]; congr 1; omega
        _ = 8388608 * 2 ^ (t - 23) := by rw [show (2 : Nat) ^ 23 = 8388608 by decide]
  generalize FP.Core.inUnits c (-(t : Int)) (min (-(t : Int)) (-23)) = u at hle
  generalize FP.Core.inUnits 8388608 (-23) (min (-(t : Int)) (-23)) = w at hle
  rcases Nat.lt_or_eq_of_le hle with q | q
  · rw [show compare (u : Int) (w : Int) = .lt from Int.compare_eq_lt.mpr (by omega)]
    decide
  · rw [show compare (u : Int) (w : Int) = .eq from Int.compare_eq_eq.mpr (by omega)]
    decide
/-! sums of coefficients -/
theorem sumF_w : ∀ {ys : Pol} {s : Int64}, uN s + wP ys < 2 ^ 64 → uN (ys.foldl sumF s) = uN s + wP ys
  | [], s, _ => by simp [wP]
  | a :: ys, s, h => by
    have h : uN s + (uN a.2 + wP ys) < 2 ^ 64 := h
    have e : uN (sumF s a) = uN s + uN a.2 := uN_add (by omega)
    show uN (ys.foldl sumF (sumF s a)) = uN s + (uN a.2 + wP ys)
    rw [sumF_w (by rw [e]; omega), e]; omega
theorem uN_0 : uN 0 = 0 := rfl
theorem toInt_u {x : Int64} (h : uN x < 2 ^ 63) : x.toInt = (uN x : Int) := by
  show x.toBitVec.toInt = _
  rw [BitVec.toInt_eq_toNat_of_lt (by unfold uN at h; omega)]
  rfl
theorem wP_sub (p : Int64 × Int64 → Bool) : ∀ ys : Pol, wP (ys.filter p) ≤ wP ys
  | [] => Nat.le_refl _
  | a :: ys => by
    have ih := wP_sub p ys
    rw [List.filter_cons]
    split
    · show uN a.2 + wP (ys.filter p) ≤ uN a.2 + wP ys; omega
    · show wP (ys.filter p) ≤ uN a.2 + wP ys; omega
theorem wP_pos {ys : Pol} (h : CP1 ys) (h0 : ys ≠ []) : 1 ≤ wP ys := by
  cases ys with
  | nil => exact absurd rfl h0
  | cons a ys =>
    have := h a (List.mem_cons_self ..)
    show 1 ≤ uN a.2 + wP ys; omega

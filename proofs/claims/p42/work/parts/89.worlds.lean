/-! worlds -/
/-! counting numbers -/
def cntN : Nat → (Nat → Bool) → Nat
  | 0, _ => 0
  | k + 1, f => cntN k f + (if f k = true then 1 else 0)
theorem cntN_cong {f h : Nat → Bool} : ∀ {N : Nat}, (∀ s, s < N → f s = h s) → cntN N f = cntN N h
  | 0, _ => rfl
  | N + 1, e => by rw [cntN, cntN, cntN_cong fun s hs => e s (by omega), e N (by omega)]
theorem cntN_no {f : Nat → Bool} : ∀ {N : Nat}, (∀ s, s < N → f s = false) → cntN N f = 0
  | 0, _ => rfl
  | N + 1, e => by rw [cntN, cntN_no fun s hs => e s (by omega), e N (by omega)]; rfl
theorem cntN_le {f : Nat → Bool} : ∀ N, cntN N f ≤ N
  | 0 => Nat.le_refl _
  | N + 1 => by
    have := cntN_le (f := f) N
    rw [cntN]; split <;> omega
theorem cntN_half {f : Nat → Bool} : ∀ N, cntN (2 * N) f = cntN N (fun s => f (2 * s)) + cntN N (fun s => f (2 * s + 1))
  | 0 => rfl
  | N + 1 => by
    rw [show 2 * (N + 1) = 2 * N + 1 + 1 by omega, cntN, cntN, cntN_half N, cntN, cntN]
    omega
def sbB (x y : Nat) : Bool := decide (x &&& y = x)
theorem sub_two {x y : Nat} : x &&& y = x ↔ x % 2 ≤ y % 2 ∧ x / 2 &&& y / 2 = x / 2 := by
  refine ⟨sub_mod, fun h => ?_⟩
  have h1 : (x &&& y) / 2 = x / 2 &&& y / 2 := Nat.and_div_two
  have h2 : (x &&& y) % 2 = 1 ↔ x % 2 = 1 ∧ y % 2 = 1 := Nat.and_mod_two_eq_one
  rw [h.2] at h1
  by_cases q : x % 2 = 1
  · have := h2.mpr ⟨q, by omega⟩; omega
  · have : ¬ (x &&& y) % 2 = 1 := fun z => q (h2.mp z).1
    omega
theorem sbB_two {x y : Nat} : sbB x y = (decide (x % 2 ≤ y % 2) && sbB (x / 2) (y / 2)) := by
  unfold sbB
  have h := sub_two (x := x) (y := y)
  by_cases q : x &&& y = x
  · rw [decide_eq_true q, decide_eq_true (h.mp q).1, decide_eq_true (h.mp q).2]; rfl
  · rw [decide_eq_false q]
    by_cases w : x % 2 ≤ y % 2
    · by_cases u : x / 2 &&& y / 2 = x / 2
      · exact absurd (h.mpr ⟨w, u⟩) q
      · rw [decide_eq_false u, Bool.and_false]
    · rw [decide_eq_false w, Bool.false_and]
theorem pc_ext (e : Nat) : ∀ (d a : Nat), a < 2 ^ d → pc (d + e) a = pc d a
  | 0, a, h => by
    have h0 : a = 0 := by have h : a < 1 := h; omega
    rw [h0, pc_0, pc_0]
  | d + 1, a, h => by
    rw [Nat.pow_succ] at h
    rw [show d + 1 + e = d + e + 1 by omega, pc, pc, pc_ext e d (a / 2) (by omega)]
theorem cnt_sub : ∀ (d a : Nat), a < 2 ^ d → cntN (2 ^ d) (fun s => sbB s a) = 2 ^ pc d a
  | 0, a, h => by
    have h0 : a = 0 := by have h : a < 1 := h; omega
    subst h0; rfl
  | d + 1, a, h => by
    have hp : 2 ^ (d + 1) = 2 * 2 ^ d := by rw [Nat.pow_succ]; omega
    have e1 : ∀ s, sbB (2 * s) a = sbB s (a / 2) := fun s => by
      rw [sbB_two, show 2 * s % 2 = 0 by omega, show 2 * s / 2 = s by omega, decide_eq_true (Nat.zero_le _), Bool.true_and]
    have e2 : ∀ s, sbB (2 * s + 1) a = (decide (1 ≤ a % 2) && sbB s (a / 2)) := fun s => by
      rw [sbB_two, show (2 * s + 1) % 2 = 1 by omega, show (2 * s + 1) / 2 = s by omega]
    have ih := cnt_sub d (a / 2) (by omega)
    rw [hp, cntN_half, cntN_cong fun s _ => e1 s, cntN_cong fun s _ => e2 s, ih, pc]
    by_cases q : 1 ≤ a % 2
    · rw [decide_eq_true q, show a % 2 = 1 by omega, cntN_cong (h := fun s => sbB s (a / 2)) fun s _ => Bool.true_and _, ih, Nat.pow_add]; omega
    · rw [decide_eq_false q, show a % 2 = 0 by omega, cntN_no fun s _ => Bool.false_and _, Nat.zero_add]; rfl
/-! the worlds from a tag on -/
def anyT (ys : Pol) (t A s : Nat) : Bool := (List.range ys.length).any fun j => A.testBit j && sbB (tsA ys j / 2 ^ t) s
theorem anyT_iff {ys : Pol} {t A s : Nat} : anyT ys t A s = true ↔ ∃ j, j < ys.length ∧ A.testBit j = true ∧ tsA ys j / 2 ^ t &&& s = tsA ys j / 2 ^ t := by
  unfold anyT sbB
  rw [List.any_eq_true]
  constructor
  · rintro ⟨j, h1, h2⟩
    rw [Bool.and_eq_true, decide_eq_true_eq] at h2
    exact ⟨j, List.mem_range.mp h1, h2.1, h2.2⟩
  · rintro ⟨j, h1, h2, h3⟩
    exact ⟨j, List.mem_range.mpr h1, by rw [Bool.and_eq_true, decide_eq_true_eq]; exact ⟨h2, h3⟩⟩
def cW (ys : Pol) (V t A : Nat) : Nat := cntN (2 ^ (16 - t)) fun s => sbB s (V / 2 ^ t) && anyT ys t A s
theorem bool_iff {a b : Bool} (h : a = true ↔ b = true) : a = b := by
  cases a <;> cases b <;> simp_all
theorem div2 (x t : Nat) : x / 2 ^ t / 2 = x / 2 ^ (t + 1) := by rw [Nat.div_div_eq_div_mul, ← Nat.pow_succ]
theorem bit_mod {x t : Nat} : x.testBit t = true ↔ x / 2 ^ t % 2 = 1 := by
  rw [Nat.testBit_eq_decide_div_mod_eq, decide_eq_true_eq]
/-- by the lowest tag -/
theorem cW_step {ys : Pol} {V t A : Nat} (ht : t < 16) : cW ys V t A = cntN (2 ^ (16 - (t + 1))) (fun s => sbB s (V / 2 ^ (t + 1)) && anyT ys t A (2 * s)) + cntN (2 ^ (16 - (t + 1))) (fun s => decide (V / 2 ^ t % 2 = 1) && (sbB s (V / 2 ^ (t + 1)) && anyT ys t A (2 * s + 1))) := by
  unfold cW
  rw [show 2 ^ (16 - t) = 2 * 2 ^ (16 - (t + 1)) by rw [show 16 - t = 16 - (t + 1) + 1 by omega, Nat.pow_succ]; omega, cntN_half]
  congr 1
  · exact cntN_cong fun s _ => by rw [sbB_two, show 2 * s % 2 = 0 by omega, show 2 * s / 2 = s by omega, decide_eq_true (Nat.zero_le _), Bool.true_and, div2]
  · exact cntN_cong fun s _ => by
      rw [sbB_two, show (2 * s + 1) % 2 = 1 by omega, show (2 * s + 1) / 2 = s by omega, div2, Bool.and_assoc]
      have : decide (1 ≤ V / 2 ^ t % 2) = decide (V / 2 ^ t % 2 = 1) := by
        have h := Nat.mod_lt (V / 2 ^ t) (show 0 < 2 by omega)
        by_cases q : V / 2 ^ t % 2 = 1
        · rw [decide_eq_true q, decide_eq_true (by omega)]
        · rw [decide_eq_false q, decide_eq_false (by omega)]
      rw [this]
theorem any_even {ys : Pol} {t A B s : Nat} (h : ∀ j, j < ys.length → (B.testBit j = true ↔ A.testBit j = true ∧ (tsA ys j).testBit t = false)) : anyT ys t A (2 * s) = anyT ys (t + 1) B s := by
  apply bool_iff
  rw [anyT_iff, anyT_iff]
  constructor
  · rintro ⟨j, h1, h2, h3⟩
    obtain ⟨a1, a2⟩ := sub_two.mp h3
    rw [div2, show 2 * s / 2 = s by omega] at a2
    have hb : (tsA ys j).testBit t = false := by
      cases hq : (tsA ys j).testBit t with
      | false => rfl
      | true => have := bit_mod.mp hq; omega
    exact ⟨j, h1, (h j h1).mpr ⟨h2, hb⟩, a2⟩
  · rintro ⟨j, h1, h2, h3⟩
    obtain ⟨b1, b2⟩ := (h j h1).mp h2
    refine ⟨j, h1, b1, sub_two.mpr ⟨?_, by rw [div2, show 2 * s / 2 = s by omega]; exact h3⟩⟩
    have : ¬ tsA ys j / 2 ^ t % 2 = 1 := fun z => by rw [bit_mod.mpr z] at b2; cases b2
    omega
theorem any_odd {ys : Pol} {t A s : Nat} : anyT ys t A (2 * s + 1) = anyT ys (t + 1) A s := by
  apply bool_iff
  rw [anyT_iff, anyT_iff]
  constructor
  · rintro ⟨j, h1, h2, h3⟩
    obtain ⟨a1, a2⟩ := sub_two.mp h3
    rw [div2, show (2 * s + 1) / 2 = s by omega] at a2
    exact ⟨j, h1, h2, a2⟩
  · rintro ⟨j, h1, h2, h3⟩
    refine ⟨j, h1, h2, sub_two.mpr ⟨by have := Nat.mod_lt (tsA ys j / 2 ^ t) (show 0 < 2 by omega); omega, by rw [div2, show (2 * s + 1) / 2 = s by omega]; exact h3⟩⟩
def us (ys : Pol) (t : Nat) : Nat := mk (fun j => (tsA ys j).testBit t) ys.length
def en (ys : Pol) (t : Nat) : Nat := mk (fun j => decide (tsA ys j / 2 ^ t = 1)) ys.length
theorem us_bit {ys : Pol} {t j : Nat} (h : j < ys.length) : (us ys t).testBit j = (tsA ys j).testBit t := by unfold us; rw [mk_bit]; simp [h]
theorem en_bit {ys : Pol} {t j : Nat} (h : j < ys.length) : (en ys t).testBit j = decide (tsA ys j / 2 ^ t = 1) := by unfold en; rw [mk_bit]; simp [h]
/-- terms that may still be completed -/
def Alv (ys : Pol) (t A : Nat) : Prop := A < 4294967296 ∧ ∀ j, A.testBit j = true → j < ys.length ∧ tsA ys j / 2 ^ t ≠ 0
theorem ni0 {A : Nat} (hA : A < 4294967296) (h : nI A = 0) : A = 0 := by
  have e : (nI A).toBitVec.toNat = 0 := by rw [h]; rfl
  rw [pk_tn hA] at e
  exact e
section WORLDS
variable {n : Nat} {Z : Zt} {g : Mem}
def WIs (g : Mem) (a : Nat) (ys : Pol) : Prop := ∀ t, t < 16 → gI g (a + 2) t = nI (us ys t) ∧ gI g (a + 3) t = nI (en ys t)
theorem c_cntF {a V : Nat} {ys : Pol} (hl : ys.length ≤ 32) (hZ : TZ Z a) (hW : WIs g a ys) (hV : V < 65536) (hS : ∀ i, i < ys.length → tsA ys i &&& V = tsA ys i) : ∀ (dp t A : Nat), t ≤ 16 → 17 ≤ dp + t → Alv ys t A → f_X9_countFrom n Z dp (a + 2) (a + 3) (nI V) (nI t) (nI A) g = some (nI (cW ys V t A), g)
  | 0, t, A, h1, h2, _ => by omega
  | dp + 1, t, A, h1, h2, hA => by
    rw [f_X9_countFrom]
    by_cases q0 : A = 0
    · subst q0
      have : cW ys V t 0 = 0 := cntN_no fun s _ => by
        have : anyT ys t 0 s = false := by
          cases hq : anyT ys t 0 s with
          | false => rfl
          | true => obtain ⟨j, _, j2, _⟩ := anyT_iff.mp hq; rw [Nat.zero_testBit] at j2; cases j2
        rw [this, Bool.and_false]
      rw [if_pos (show nI 0 = (0 : Int32) from rfl), this]; rfl
    · have ht : t < 16 := by
        by_cases w : t < 16
        · exact w
        · obtain ⟨j, hj⟩ := Nat.exists_testBit_of_ne_zero q0
          have h3 := (hA.2 j hj).2
          have h4 := tsA_lt ys j
          have : t = 16 := by omega
          subst this
          exact absurd (Nat.div_eq_of_lt (show tsA ys j < 2 ^ 16 from h4)) h3
      have hI : inr (nI t) 16 := by rw [inr_eq (by omega)]; omega
      have hN : ¬ Int32.ofNat 16 ≤ nI t := ge_n (N := 16) (by omega) ht
      have hN' : ¬ (16 : Int32) ≤ nI t := hN
      have hL : nI t < Int32.ofNat 16 := (nlt (b := 16) (by omega) (by omega)).mpr ht
      have hUl : us ys t < 4294967296 := mk32 hl
      have hEl : en ys t < 4294967296 := mk32 hl
      have hlt := hA.1
      simp only [if_neg (fun z => q0 (ni0 hlt z)), if_neg hN', grd_t hZ.k1, hZ.l1, if_neg hN, grd_t hZ.k2, hZ.l2, if_pos hL, grd_t hI, clamp (show t < 2147483648 by omega), (hW t ht).1, (hW t ht).2, nI_1, BM.bit (p := V.testBit) ⟨hV, fun _ _ => rfl⟩ ht]
      by_cases w : V.testBit t = true
      · have hB : ∀ j, (A &&& (us ys t ^^^ 4294967295)).testBit j = true ↔ A.testBit j = true ∧ (tsA ys j).testBit t = false := fun j => by
          rw [Nat.testBit_and, Bool.and_eq_true]
          constructor
          · rintro ⟨z1, z2⟩
            have hj := (hA.2 j z1).1
            rw [Nat.testBit_xor, us_bit hj, show (4294967295 : Nat) = 2 ^ 32 - 1 from rfl, Nat.testBit_two_pow_sub_one, decide_eq_true (show j < 32 by omega)] at z2
            exact ⟨z1, by simpa using z2⟩
          · rintro ⟨z1, z2⟩
            have hj := (hA.2 j z1).1
            refine ⟨z1, ?_⟩
            rw [Nat.testBit_xor, us_bit hj, show (4294967295 : Nat) = 2 ^ 32 - 1 from rfl, Nat.testBit_two_pow_sub_one, decide_eq_true (show j < 32 by omega), z2]; rfl
        have hx : us ys t ^^^ 4294967295 < 2 ^ 32 := Nat.xor_lt_two_pow (by omega) (by omega)
        have hBl : A &&& (us ys t ^^^ 4294967295) < 4294967296 := Nat.lt_of_le_of_lt Nat.and_le_left hlt
        have eB : nI A &&& (nI (us ys t) ^^^ (-1)) = nI (A &&& (us ys t ^^^ 4294967295)) := by
          rw [show (-1 : Int32) = nI 4294967295 from rfl, xor_n hUl (by omega), and_n hlt (by omega)]
        have hAB : Alv ys (t + 1) (A &&& (us ys t ^^^ 4294967295)) := ⟨hBl, fun j hj => by
          obtain ⟨z1, z2⟩ := (hB j).mp hj
          obtain ⟨z3, z4⟩ := hA.2 j z1
          refine ⟨z3, fun z => ?_⟩
          have : ¬ tsA ys j / 2 ^ t % 2 = 1 := fun y => by rw [bit_mod.mpr y] at z2; cases z2
          have := div2 (tsA ys j) t
          omega⟩
        have R1 := c_cntF hl hZ hW hV hS dp (t + 1) _ (by omega) (by omega) hAB
        have hA0 : cntN (2 ^ (16 - (t + 1))) (fun s => sbB s (V / 2 ^ (t + 1)) && anyT ys t A (2 * s)) = cW ys V (t + 1) (A &&& (us ys t ^^^ 4294967295)) := cntN_cong fun s _ => by rw [any_even fun j _ => hB j]
        have hV1 : V / 2 ^ t % 2 = 1 := bit_mod.mp w
        rw [if_pos w, if_neg i10, eB, R1, bnd_s, (hW t ht).2, (hW t ht).1, and_n hlt hEl]
        by_cases u : A &&& en ys t = 0
        · rw [u, if_pos (show nI 0 = (0 : Int32) from rfl), and_n hlt hUl]
          have hAA : Alv ys (t + 1) A := ⟨hlt, fun j hj => by
            obtain ⟨z3, z4⟩ := hA.2 j hj
            refine ⟨z3, fun z => ?_⟩
            have h5 := and_bit u (i := j)
            have h6 : (A &&& en ys t).testBit j = false := by rw [u, Nat.zero_testBit]
            rw [Nat.testBit_and, hj, Bool.true_and, en_bit z3] at h6
            have h7 := of_decide_eq_false h6
            have := div2 (tsA ys j) t
            omega⟩
          have hS2 : cW ys V t A = cW ys V (t + 1) (A &&& (us ys t ^^^ 4294967295)) + cW ys V (t + 1) A := by
            rw [cW_step ht, hA0]
            congr 1
            exact cntN_cong fun s _ => by rw [decide_eq_true hV1, Bool.true_and, any_odd]
          by_cases u2 : A &&& us ys t = 0
          · have hE : A &&& (us ys t ^^^ 4294967295) = A := by
              apply Nat.eq_of_testBit_eq
              intro j
              apply bool_iff
              rw [hB j]
              refine ⟨fun z => z.1, fun z => ⟨z, ?_⟩⟩
              have h6 : (A &&& us ys t).testBit j = false := by rw [u2, Nat.zero_testBit]
              rw [Nat.testBit_and, z, Bool.true_and, us_bit (hA.2 j z).1] at h6
              exact h6
            rw [u2, if_pos (show nI 0 = (0 : Int32) from rfl), hS2, hE, show (2 : Int32) = nI 2 from rfl, mIJ, show 2 * cW ys V (t + 1) A = cW ys V (t + 1) A + cW ys V (t + 1) A by omega]
          · have hUA : A &&& us ys t < 4294967296 := Nat.lt_of_le_of_lt Nat.and_le_left hlt
            rw [if_neg (fun z => u2 (ni0 hUA z)), c_cntF hl hZ hW hV hS dp (t + 1) _ (by omega) (by omega) hAA, bnd_s, nI_add, hS2]
        · have hEA : A &&& en ys t < 4294967296 := Nat.lt_of_le_of_lt Nat.and_le_left hlt
          have hVt : V / 2 ^ (t + 1) < 2 ^ (16 - (t + 1)) := by
            rw [Nat.div_lt_iff_lt_mul (Nat.two_pow_pos _), ← Nat.pow_add, show 16 - (t + 1) + (t + 1) = 16 by omega]; exact hV
          have hVt' : V / 2 ^ (t + 1) < 65536 := Nat.lt_of_le_of_lt (Nat.div_le_self _ _) hV
          have hpe := pc_ext (t + 1) (16 - (t + 1)) (V / 2 ^ (t + 1)) hVt
          rw [show 16 - (t + 1) + (t + 1) = 16 by omega] at hpe
          have hpl := pc_le 16 (V / 2 ^ (t + 1))
          have hS2 : cW ys V t A = cW ys V (t + 1) (A &&& (us ys t ^^^ 4294967295)) + 2 ^ pc 16 (V / 2 ^ (t + 1)) := by
            rw [cW_step ht, hA0, hpe, ← cnt_sub _ _ hVt]
            congr 1
            obtain ⟨j, hj⟩ := Nat.exists_testBit_of_ne_zero u
            rw [Nat.testBit_and, Bool.and_eq_true] at hj
            have hjl := (hA.2 j hj.1).1
            have hj2 := hj.2
            rw [en_bit hjl, decide_eq_true_eq] at hj2
            refine cntN_cong fun s _ => ?_
            have : anyT ys t A (2 * s + 1) = true := by
              rw [any_odd, anyT_iff]
              refine ⟨j, hjl, hj.1, ?_⟩
              rw [← div2, hj2]
              exact Nat.zero_and _
            rw [this, decide_eq_true hV1, Bool.true_and, Bool.and_true]
          rw [if_neg (fun z => u (ni0 hEA z)), shr_n (by omega) (show t + 1 < 32 by omega), c_bits hVt', bnd_s, shl32 (by omega), nI_add, hS2]
      · have hw : ∀ j, j < ys.length → (tsA ys j).testBit t = false := fun j hj => by
          cases hq : (tsA ys j).testBit t with
          | false => rfl
          | true =>
            have h5 : (tsA ys j &&& V).testBit t = (tsA ys j).testBit t := by rw [hS j hj]
            rw [Nat.testBit_and, hq, Bool.true_and] at h5
            exact absurd h5 w
        have hAA : Alv ys (t + 1) A := ⟨hlt, fun j hj => by
          obtain ⟨z3, z4⟩ := hA.2 j hj
          refine ⟨z3, fun z => ?_⟩
          have : ¬ tsA ys j / 2 ^ t % 2 = 1 := fun y => by have := hw j z3; rw [bit_mod.mpr y] at this; cases this
          have := div2 (tsA ys j) t
          omega⟩
        have hV1 : ¬ V / 2 ^ t % 2 = 1 := fun z => w (bit_mod.mpr z)
        have hS2 : cW ys V t A = cW ys V (t + 1) A := by
          rw [cW_step ht, cntN_no (f := fun s => decide (V / 2 ^ t % 2 = 1) && (sbB s (V / 2 ^ (t + 1)) && anyT ys t A (2 * s + 1))) fun s _ => by rw [decide_eq_false hV1, Bool.false_and], Nat.add_zero]
          exact cntN_cong fun s _ => by rw [any_even (B := A) fun j hj => ⟨fun z => ⟨z, hw j hj⟩, fun z => z.1⟩]
        rw [if_neg w, if_pos rfl, c_cntF hl hZ hW hV hS dp (t + 1) _ (by omega) (by omega) hAA, bnd_s, hS2]
end WORLDS
section WORLDS2
variable {n : Nat} {Z : Zt} {c m : Nat} {g : Mem}
theorem or_bit {p : Nat → Bool} {k : Nat} (hk : k < 32) (h : p k = true) : nI (mk p k) ||| ((1 : Int32) <<< (nI k &&& 31)) = nI (mk p (k + 1)) := by
  have h1 : mk p k < 4294967296 := mk32 (by omega)
  have h2 := two32 hk
  rw [shl32 hk, or_n h1 h2, mk, if_pos h]
theorem mk_no {p : Nat → Bool} {k : Nat} (h : ¬ p k = true) : mk p (k + 1) = mk p k := by rw [mk, if_neg h, Nat.or_zero]
theorem termsU {a t : Nat} {ys : Pol} (hZ : TZ Z a) (h : TsIs g a ys) (ht : t < 16) : ∀ (d j fu : Nat), d = ys.length - j → j ≤ ys.length → d < fu → f_X9_termsWith_l5 n Z a fu (nI t) 0 (nI (mk (fun j => (tsA ys j).testBit t) j)) (nI j) g = some (nI (us ys t), g) := by
  have h32 := h.2.1
  intro d
  induction d with
  | zero =>
    intro j fu h1 h2 h3
    obtain ⟨fu, rfl⟩ : ∃ q, fu = q + 1 := ⟨fu - 1, by omega⟩
    have hj : j = ys.length := by omega
    subst hj
    unfold f_X9_termsWith_l5
    rw [h.1, if_pos ((nle (by omega) (by omega)).mpr (Nat.le_refl _))]; rfl
  | succ d ih =>
    intro j fu h1 h2 h3
    obtain ⟨fu, rfl⟩ : ∃ q, fu = q + 1 := ⟨fu - 1, by omega⟩
    have hj : j < ys.length := by omega
    have IH := ih (j + 1) fu (by omega) (by omega) (by omega)
    unfold f_X9_termsWith_l5
    rw [h.1, if_neg (ge_n (by omega) hj), if_neg (show ¬ (32 : Int32) ≤ nI j from ge_n (N := 32) (by omega) (by omega)), hZ.f0, drf_s, grd_t hZ.k0, hZ.l0, grd_t (show inr (nI j) 32 by rw [inr_eq (by omega)]; omega), clamp (by omega), h.2.2 j hj, if_pos rfl, BM.bit (p := (tsA ys j).testBit) ⟨tsA_lt ys j, fun _ _ => rfl⟩ ht]
    by_cases q : (tsA ys j).testBit t = true
    · rw [if_pos q, if_neg i10]
      unfold f_X9_termsWith_l52
      rw [or_bit (p := fun j => (tsA ys j).testBit t) (by omega) q, nI_1]; exact IH
    · rw [if_neg q, if_pos rfl, nI_1, ← mk_no (p := fun j => (tsA ys j).testBit t) q]; exact IH
theorem termsE {a t : Nat} {ys : Pol} (hZ : TZ Z a) (h : TsIs g a ys) (ht : t < 16) : ∀ (d j fu : Nat), d = ys.length - j → j ≤ ys.length → d < fu → f_X9_termsWith_l5 n Z a fu (nI t) 1 (nI (mk (fun j => decide (tsA ys j / 2 ^ t = 1)) j)) (nI j) g = some (nI (en ys t), g) := by
  have h32 := h.2.1
  intro d
  induction d with
  | zero =>
    intro j fu h1 h2 h3
    obtain ⟨fu, rfl⟩ : ∃ q, fu = q + 1 := ⟨fu - 1, by omega⟩
    have hj : j = ys.length := by omega
    subst hj
    unfold f_X9_termsWith_l5
    rw [h.1, if_pos ((nle (by omega) (by omega)).mpr (Nat.le_refl _))]; rfl
  | succ d ih =>
    intro j fu h1 h2 h3
    obtain ⟨fu, rfl⟩ : ∃ q, fu = q + 1 := ⟨fu - 1, by omega⟩
    have hj : j < ys.length := by omega
    have IH := ih (j + 1) fu (by omega) (by omega) (by omega)
    have hlt := tsA_lt ys j
    have hdl : tsA ys j / 2 ^ t ≤ tsA ys j := Nat.div_le_self _ _
    unfold f_X9_termsWith_l5
    rw [h.1, if_neg (ge_n (by omega) hj), if_neg (show ¬ (32 : Int32) ≤ nI j from ge_n (N := 32) (by omega) (by omega)), hZ.f0, drf_s, grd_t hZ.k0, hZ.l0, grd_t (show inr (nI j) 32 by rw [inr_eq (by omega)]; omega), clamp (by omega), h.2.2 j hj, if_neg i10, shr_n (by omega) (by omega)]
    by_cases q : tsA ys j / 2 ^ t = 1
    · rw [q, if_pos (show nI 1 = (1 : Int32) from rfl)]
      unfold f_X9_termsWith_l52
      rw [or_bit (p := fun j => decide (tsA ys j / 2 ^ t = 1)) (by omega) (decide_eq_true q), nI_1]; exact IH
    · rw [if_neg (show ¬ nI _ = (1 : Int32) from neI (b := 1) (by omega) (by omega) q), nI_1, ← mk_no (p := fun j => decide (tsA ys j / 2 ^ t = 1)) (by simp [q])]; exact IH
theorem c_terms2 {a t : Nat} {ys : Pol} (hn : 40 ≤ n) (hZ : TZ Z a) (h : TsIs g a ys) (ht : t < 16) : f_X9_termsWith n Z a (nI t) 0 g = some (nI (us ys t), g) ∧ f_X9_termsWith n Z a (nI t) 1 g = some (nI (en ys t), g) := by
  have h32 := h.2.1
  unfold f_X9_termsWith
  rw [grd_t hZ.k, grd_t hZ.k]
  exact ⟨termsU hZ h ht ys.length 0 n (by omega) (Nat.zero_le _) (by omega), termsE hZ h ht ys.length 0 n (by omega) (Nat.zero_le _) (by omega)⟩
theorem TsIs.ch {P : Nat → Nat → Prop} {g g' : Mem} {a : Nat} {ys : Pol} (h : TsIs g a ys) (hF : Ch P g g') (h1 : ¬ P a 3) (h2 : ∀ j, ¬ P (a + 1) j) : TsIs g' a ys := ⟨(hF.i h1).trans h.1, h.2.1, fun j hj => (hF.i (h2 j)).trans (h.2.2 j hj)⟩
theorem c_w26 {a A : Nat} {ys : Pol} (hn : 40 ≤ n) (hZ : TZ Z a) (hA : Alv ys 0 A) : ∀ (d t fu : Nat) (g : Mem), d = 16 - t → t ≤ 16 → d < fu → TsIs g a ys → (∀ i, i < t → gI g (a + 2) i = nI (us ys i) ∧ gI g (a + 3) i = nI (en ys i)) → ∃ V g', V < 65536 ∧ (∀ i, i < ys.length → tsA ys i &&& V = tsA ys i) ∧ (∀ W, (∀ i, i < ys.length → tsA ys i &&& W = tsA ys i) → V &&& W = V) ∧ f_X9_countWorlds_l26 n Z a fu (nI A) (nI t) g = some (nI (cW ys V 0 A), g') ∧ Fr a (a + 4) g g' := by
  intro d
  induction d with
  | zero =>
    intro t fu g h1 h2 h3 h4 h5
    obtain ⟨fu, rfl⟩ : ∃ q, fu = q + 1 := ⟨fu - 1, by omega⟩
    have ht : t = 16 := by omega
    subst ht
    obtain ⟨V, v1, v2, v3, v4⟩ := c_union (n := n) hn hZ h4
    refine ⟨V, g, v1, v3, v4, ?_, Fr.rfl⟩
    unfold f_X9_countWorlds_l26
    rw [if_pos (show (16 : Int32) ≤ nI 16 by decide), hZ.f1, drf_s, hZ.f2, drf_s, v2, bnd_s, show (0 : Int32) = nI 0 from rfl, c_cntF h4.2.1 hZ h5 v1 v3 40 0 A (by omega) (by omega) hA, bnd_s]
  | succ d ih =>
    intro t fu g h1 h2 h3 h4 h5
    obtain ⟨fu, rfl⟩ : ∃ q, fu = q + 1 := ⟨fu - 1, by omega⟩
    have ht : t < 16 := by omega
    have hI : inr (nI t) 16 := by rw [inr_eq (by omega)]; omega
    obtain ⟨u1, -⟩ := c_terms2 (n := n) hn hZ h4 ht
    have hF1 : Ch (fun b _ => b = a + 2) g (sI g (a + 2) t (nI (us ys t))) := Ch.sI Ch.rfl rfl
    have h41 := h4.ch hF1 (by omega) (fun j => by omega)
    obtain ⟨-, u2⟩ := c_terms2 (n := n) hn hZ h41 ht
    have hF2 : Ch (fun b _ => b = a + 3) (sI g (a + 2) t (nI (us ys t))) (sI (sI g (a + 2) t (nI (us ys t))) (a + 3) t (nI (en ys t))) := Ch.sI Ch.rfl rfl
    have h42 := h41.ch hF2 (by omega) (fun j => by omega)
    obtain ⟨V, g', v1, v2, v3, v4, v5⟩ := ih (t + 1) fu (sI (sI g (a + 2) t (nI (us ys t))) (a + 3) t (nI (en ys t))) (by omega) (by omega) (by omega) h42 (fun i hi => by
      rw [gI_sI, gI_sI, gI_sI, gI_sI]
      by_cases q : i = t
      · subst q
        rw [if_neg (by omega), if_pos ⟨rfl, rfl⟩, if_pos ⟨rfl, rfl⟩]
        exact ⟨rfl, rfl⟩
      · rw [if_neg (by omega), if_neg (by omega), if_neg (by omega), if_neg (by omega)]
        exact h5 i (by omega))
    refine ⟨V, g', v1, v2, v3, ?_, (Fr.sI (Fr.sI Fr.rfl (by omega) (by omega)) (by omega) (by omega) : Fr a (a + 4) g _).trans v5⟩
    unfold f_X9_countWorlds_l26
    rw [if_neg (show ¬ (16 : Int32) ≤ nI t from ge_n (N := 16) (by omega) ht), hZ.f1, drf_s, u1, bnd_s, grd_t hZ.k1, hZ.l1, grd_t hI, hZ.f2, drf_s]
    simp only [clamp (show t < 2147483648 by omega), u2, bnd_s, grd_t hZ.k2, hZ.l2, grd_t hI, nI_1]
    exact v4
def ally (k : Nat) : Nat := mk (fun _ => true) k
theorem c_w4 {a : Nat} {ys : Pol} (hn : 40 ≤ n) (hZ : TZ Z a) (h : TsIs g a ys) : ∀ (d j fu : Nat), d = ys.length - j → j ≤ ys.length → d < fu → f_X9_countWorlds_l4 n Z a fu (nI (ally j)) (nI j) g = f_X9_countWorlds_l26 n Z a n (nI (ally ys.length)) 0 g := by
  have h32 := h.2.1
  intro d
  induction d with
  | zero =>
    intro j fu h1 h2 h3
    obtain ⟨fu, rfl⟩ : ∃ q, fu = q + 1 := ⟨fu - 1, by omega⟩
    have hj : j = ys.length := by omega
    subst hj
    unfold f_X9_countWorlds_l4
    rw [h.1, if_pos ((nle (by omega) (by omega)).mpr (Nat.le_refl _))]
  | succ d ih =>
    intro j fu h1 h2 h3
    obtain ⟨fu, rfl⟩ : ∃ q, fu = q + 1 := ⟨fu - 1, by omega⟩
    have hj : j < ys.length := by omega
    unfold f_X9_countWorlds_l4
    rw [h.1, if_neg (ge_n (by omega) hj), show nI (ally j) = nI (mk (fun _ => true) j) from rfl, or_bit (p := fun _ => true) (by omega) rfl, nI_1]
    exact ih (j + 1) fu (by omega) (by omega) (by omega)
theorem ally_bit {k j : Nat} : (ally k).testBit j = decide (j < k) := by unfold ally; rw [mk_bit, Bool.and_true]
theorem c_worlds {a : Nat} {ys : Pol} (hn : 40 ≤ n) (hZ : TZ Z a) (h : TsIs g a ys) (h0 : ∀ j, j < ys.length → tsA ys j ≠ 0) : ∃ V g', V < 65536 ∧ (∀ i, i < ys.length → tsA ys i &&& V = tsA ys i) ∧ (∀ W, (∀ i, i < ys.length → tsA ys i &&& W = tsA ys i) → V &&& W = V) ∧ f_X9_countWorlds n Z a g = some (nI (cW ys V 0 (ally ys.length)), g') ∧ Fr a (a + 4) g g' := by
  have h32 := h.2.1
  obtain ⟨V, g', v1, v2, v3, v4, v5⟩ := c_w26 (n := n) (A := ally ys.length) hn hZ ⟨mk32 h32, fun j hj => by
    rw [ally_bit] at hj
    have hj := of_decide_eq_true hj
    exact ⟨hj, by rw [Nat.pow_zero, Nat.div_one]; exact h0 j hj⟩⟩ 16 0 n g (by omega) (by omega) (by omega) h (fun i hi => absurd hi (Nat.not_lt_zero _))
  refine ⟨V, g', v1, v2, v3, ?_, v5⟩
  unfold f_X9_countWorlds
  rw [grd_t hZ.k]
  have := c_w4 (n := n) hn hZ h ys.length 0 n (by omega) (Nat.zero_le _) (by omega)
  rw [show (0 : Int32) = nI (ally 0) from rfl]
  exact this.trans v4
/-! the reference -/
def hsB (ys : Pol) (M : Nat) : Bool := (List.range ys.length).any fun j => sbB (tsA ys j) M
theorem hsB_iff {ys : Pol} {M : Nat} : hsB ys M = true ↔ ∃ j, j < ys.length ∧ tsA ys j &&& M = tsA ys j := by
  unfold hsB sbB
  rw [List.any_eq_true]
  constructor
  · rintro ⟨j, h1, h2⟩
    exact ⟨j, List.mem_range.mp h1, of_decide_eq_true h2⟩
  · rintro ⟨j, h1, h2⟩
    exact ⟨j, List.mem_range.mpr h1, decide_eq_true h2⟩
def wB (ys : Pol) (V s : Nat) : Bool := sbB s V && hsB ys s
theorem or_sub {A B W : Nat} : (A ||| B) &&& W = A ||| B ↔ A &&& W = A ∧ B &&& W = B := by
  constructor
  · intro z
    constructor
    · apply Nat.eq_of_testBit_eq; intro k
      have hk : ((A ||| B) &&& W).testBit k = (A ||| B).testBit k := by rw [z]
      rw [Nat.testBit_and, Nat.testBit_or] at hk
      rw [Nat.testBit_and]
      revert hk
      cases A.testBit k <;> cases B.testBit k <;> cases W.testBit k <;> simp
    · apply Nat.eq_of_testBit_eq; intro k
      have hk : ((A ||| B) &&& W).testBit k = (A ||| B).testBit k := by rw [z]
      rw [Nat.testBit_and, Nat.testBit_or] at hk
      rw [Nat.testBit_and]
      revert hk
      cases A.testBit k <;> cases B.testBit k <;> cases W.testBit k <;> simp
  · rintro ⟨z1, z2⟩
    rw [Nat.and_or_distrib_right, z1, z2]
theorem orK_sub {W : Nat} : ∀ {xs : Pol} {s : Int64}, tsN (orK xs s) &&& W = tsN (orK xs s) ↔ tsN s &&& W = tsN s ∧ ∀ i, i < xs.length → tsA xs i &&& W = tsA xs i
  | [], s => ⟨fun z => ⟨z, fun i hi => absurd hi (Nat.not_lt_zero _)⟩, fun z => z.1⟩
  | x :: xs, s => by
    have ih := orK_sub (W := W) (xs := xs) (s := s ||| x.1)
    rw [tsN_or, or_sub] at ih
    show tsN (orK xs (s ||| x.1)) &&& W = tsN (orK xs (s ||| x.1)) ↔ _
    rw [ih]
    constructor
    · rintro ⟨⟨z1, z2⟩, z3⟩
      refine ⟨z1, fun i hi => ?_⟩
      cases i with
      | zero => exact z2
      | succ i => exact z3 i (by simpa using hi)
    · rintro ⟨z1, z2⟩
      exact ⟨⟨z1, z2 0 (Nat.succ_pos _)⟩, fun i hi => z2 (i + 1) (Nat.succ_lt_succ hi)⟩
theorem cW_all {ys : Pol} {V : Nat} : cW ys V 0 (ally ys.length) = cntN 65536 (wB ys V) := by
  unfold cW
  refine cntN_cong fun s _ => ?_
  unfold wB
  rw [Nat.pow_zero, Nat.div_one]
  congr 1
  apply bool_iff
  rw [anyT_iff, hsB_iff]
  constructor
  · rintro ⟨j, j1, _, j2⟩
    rw [Nat.pow_zero, Nat.div_one] at j2
    exact ⟨j, j1, j2⟩
  · rintro ⟨j, j1, j2⟩
    exact ⟨j, j1, by rw [ally_bit]; exact decide_eq_true j1, by rw [Nat.pow_zero, Nat.div_one]; exact j2⟩
theorem fav_no {xs : Pol} : fav (fun _ => false) xs = xs := by
  unfold fav
  rw [List.filter_eq_self]
  intro a _
  exact avl_iff.mpr fun t _ z => by cases z
end WORLDS2

/-! confidence -/
/-! floats from 0 to 1 -/
theorem near_le (a d : Nat) : FP.Core.nearest a d ≤ a / d + 1 := by
  unfold FP.Core.nearest
  have := Nat.mod_lt (a / d) (show 0 < 2 by omega)
  split
  · omega
  · split <;> omega
theorem near_ex {a d : Nat} (hd : 0 < d) (h : a % d = 0) : FP.Core.nearest a d = a / d := by
  unfold FP.Core.nearest
  rw [h, if_pos (by omega)]
theorem rr_le {f : FP.Core.Fmt} {C t : Nat} (hp : 1 ≤ f.p) (h1 : f.qmin ≤ -(f.p : Int)) (h2 : 1 - (f.p : Int) ≤ f.qmax) (hC : C ≤ 2 ^ t) : ∃ c q, FP.Core.roundRatio f false C 1 (-(t : Int)) = .fin false c q ∧ f.qmin ≤ q ∧ q ≤ 1 - (f.p : Int) ∧ c < 2 ^ f.p ∧ (q = 1 - (f.p : Int) → c = 2 ^ (f.p - 1)) := by
  have hpp : 0 < 2 ^ f.p := Nat.two_pow_pos _
  have hps : 2 ^ (f.p - 1) < 2 ^ f.p := Nat.pow_lt_pow_right (by omega) (by omega)
  by_cases h0 : C = 0
  · refine ⟨0, f.qmin, ?_, Int.le_refl _, by omega, hpp, fun z => by omega⟩
    unfold FP.Core.roundRatio; rw [if_pos h0]
  · have l1 : 2 ^ C.log2 ≤ C := Nat.log2_self_le h0
    have l2 : C < 2 ^ (C.log2 + 1) := Nat.lt_log2_self
    have l3 : C.log2 ≤ t := (Nat.pow_le_pow_iff_right (by omega)).mp (Nat.le_trans l1 hC)
    have hlead : FP.Core.leading C 1 = (C.log2 : Int) := by
      unfold FP.Core.leading
      have e : (C.log2 : Int) - ((1 : Nat).log2 : Int) = (C.log2 : Int) := by
        rw [show (1 : Nat).log2 = 0 by decide]; omega
      simp only [e]
      rw [if_pos]
      rw [show (-(C.log2 : Int)).toNat = 0 by omega, Int.toNat_natCast]
      omega
    generalize hq : FP.Core.quantum f C 1 (-(t : Int)) = q
    have hq' : q = max f.qmin ((C.log2 : Int) + -(t : Int) - ((f.p : Int) - 1)) := by
      rw [← hq, ← hlead]; rfl
    have q1 : f.qmin ≤ q := by omega
    have q2 : q ≤ 1 - (f.p : Int) := by omega
    have q3 : (C.log2 : Int) + -(t : Int) - ((f.p : Int) - 1) ≤ q := by omega
    have q4 : q = 1 - (f.p : Int) → C.log2 = t := fun z => by omega
    have q5 : q = 1 - (f.p : Int) → C = 2 ^ t := fun z => by
      have := q4 z
      rw [this] at l1; omega
    have key : FP.Core.nearest (FP.Core.unitsNum C (-(t : Int)) q) (FP.Core.unitsDen 1 (-(t : Int)) q) ≤ 2 ^ f.p ∧ (q = 1 - (f.p : Int) → FP.Core.nearest (FP.Core.unitsNum C (-(t : Int)) q) (FP.Core.unitsDen 1 (-(t : Int)) q) = 2 ^ (f.p - 1)) := by
      unfold FP.Core.unitsNum FP.Core.unitsDen
      rcases Int.le_total q (-(t : Int)) with w | w
      · rw [show (q - -(t : Int)).toNat = 0 by omega, Nat.pow_zero, Nat.mul_one, near_ex (by omega) (Nat.mod_one _), Nat.div_one]
        constructor
        · have e : C * 2 ^ (-(t : Int) - q).toNat ≤ 2 ^ (C.log2 + 1) * 2 ^ (-(t : Int) - q).toNat := Nat.mul_le_mul_right _ (Nat.le_of_lt l2)
          rw [← Nat.pow_add] at e
          exact Nat.le_trans e (Nat.pow_le_pow_right (by omega) (by omega))
        · intro z
          rw [q5 z, ← Nat.pow_add]
          congr 1; omega
      · rw [show (-(t : Int) - q).toNat = 0 by omega, Nat.pow_zero, Nat.mul_one, Nat.one_mul]
        have hD : 0 < 2 ^ (q - -(t : Int)).toNat := Nat.two_pow_pos _
        constructor
        · have e : C < 2 ^ f.p * 2 ^ (q - -(t : Int)).toNat := by
            rw [← Nat.pow_add]
            exact Nat.lt_of_lt_of_le l2 (Nat.pow_le_pow_right (by omega) (by omega))
          have e2 := (Nat.div_lt_iff_lt_mul hD).mpr e
          have e3 := near_le C (2 ^ (q - -(t : Int)).toNat)
          omega
        · intro z
          have e : C = 2 ^ (f.p - 1) * 2 ^ (q - -(t : Int)).toNat := by
            rw [q5 z, ← Nat.pow_add]
            congr 1; omega
          have e2 := near_ex (a := C) hD (by rw [e]; exact Nat.mul_mod_left _ _)
          rw [e2, e, Nat.mul_div_cancel _ hD]
    unfold FP.Core.roundRatio
    rw [if_neg h0, hq]
    unfold FP.Core.roundAt FP.Core.settle
    generalize FP.Core.nearest (FP.Core.unitsNum C (-(t : Int)) q) (FP.Core.unitsDen 1 (-(t : Int)) q) = N at key
    by_cases w : N < 2 ^ f.p
    · refine ⟨N, q, ?_, q1, q2, w, key.2⟩
      rw [if_pos w]; unfold FP.Core.bound; rw [if_pos (by omega)]
    · have hne : q ≠ 1 - (f.p : Int) := fun z => by have := key.2 z; omega
      refine ⟨2 ^ (f.p - 1), q + 1, ?_, by omega, by omega, hps, fun _ => rfl⟩
      rw [if_neg w]; unfold FP.Core.bound; rw [if_pos (by omega)]; rfl
/-- a float from 0 to 1 -/
def F1 (x : UInt32) : Prop := x.toNat ≤ 1065353216
theorem dec1 {v : Nat} (h : v ≤ 1065353216) : ∃ c t : Nat, FP.Core.decode FP.Core.b32 v = .fin false c (-(t : Int)) ∧ c ≤ 2 ^ t := by
  have eT : FP.Core.fieldT FP.Core.b32 v = v % 8388608 := rfl
  have eE : FP.Core.fieldE FP.Core.b32 v = v / 8388608 % 256 := rfl
  have eS : FP.Core.fieldS FP.Core.b32 v = false := by
    show (v / 8388608 / 256 % 2 == 1) = false
    rw [show v / 8388608 / 256 % 2 = 0 by omega]; rfl
  have eX : FP.Core.b32.exps = 256 := by decide
  have eA : FP.Core.b32.tails = 8388608 := by decide
  have eQ : FP.Core.b32.qmin = -149 := by decide
  unfold FP.Core.decode
  rw [eS, eE, eT, eX, eA, eQ, if_neg (by omega)]
  by_cases q : v / 8388608 % 256 = 0
  · refine ⟨v % 8388608, 149, ?_, ?_⟩
    · rw [if_pos q]; rfl
    · have := Nat.pow_le_pow_right (show 0 < 2 by omega) (show 23 ≤ 149 by omega)
      have e : (2 : Nat) ^ 23 = 8388608 := by decide
      omega
  · refine ⟨8388608 + v % 8388608, 150 - v / 8388608 % 256, ?_, ?_⟩
    · rw [if_neg q]; congr 1; omega
    · by_cases w : v / 8388608 = 127
      · rw [show 150 - v / 8388608 % 256 = 23 by omega]
        have e : (2 : Nat) ^ 23 = 8388608 := by decide
        omega
      · have := Nat.pow_le_pow_right (show 0 < 2 by omega) (show 24 ≤ 150 - v / 8388608 % 256 by omega)
        have e : (2 : Nat) ^ 24 = 16777216 := by decide
        omega
theorem enc32 {c : Nat} {q : Int} (h1 : -149 ≤ q) (h2 : q ≤ -23) (h3 : c < 16777216) (h4 : q = -23 → c = 8388608) : FP.Core.encode FP.Core.b32 (.fin false c q) ≤ 1065353216 := by
  have eA : FP.Core.b32.tails = 8388608 := by decide
  have eX : FP.Core.b32.exps = 256 := by decide
  have eQ : FP.Core.b32.qmin = -149 := by decide
  show (if c < FP.Core.b32.tails then FP.Core.assemble FP.Core.b32 false 0 c else FP.Core.assemble FP.Core.b32 false ((q - FP.Core.b32.qmin).toNat + 1) (c - FP.Core.b32.tails)) ≤ _
  unfold FP.Core.assemble
  rw [eA, eX, eQ, show false.toNat = 0 from rfl]
  split
  · omega
  · by_cases w : q = -23
    · have := h4 w; omega
    · omega
theorem enc64 {c : Nat} {q : Int} (h1 : -1074 ≤ q) (h2 : q ≤ -52) (h3 : c < 9007199254740992) (h4 : q = -52 → c = 4503599627370496) : FP.Core.encode FP.Core.b64 (.fin false c q) ≤ 4607182418800017408 := by
  have eA : FP.Core.b64.tails = 4503599627370496 := by decide
  have eX : FP.Core.b64.exps = 2048 := by decide
  have eQ : FP.Core.b64.qmin = -1074 := by decide
  show (if c < FP.Core.b64.tails then FP.Core.assemble FP.Core.b64 false 0 c else FP.Core.assemble FP.Core.b64 false ((q - FP.Core.b64.qmin).toNat + 1) (c - FP.Core.b64.tails)) ≤ _
  unfold FP.Core.assemble
  rw [eA, eX, eQ, show false.toNat = 0 from rfl]
  split
  · omega
  · by_cases w : q = -52
    · have := h4 w; omega
    · omega
theorem F1.mul {a b : UInt32} (ha : F1 a) (hb : F1 b) : F1 (FP.fmul a b) := by
  obtain ⟨c, t, e1, e2⟩ := dec1 ha
  obtain ⟨d, u, e3, e4⟩ := dec1 hb
  have hcd : c * d ≤ 2 ^ (t + u) := by rw [Nat.pow_add]; exact Nat.mul_le_mul e2 e4
  obtain ⟨r, q, f1, f2, f3, f4, f5⟩ := rr_le (f := FP.Core.b32) (by decide) (by decide) (by decide) hcd
  have e : FP.Core.mul FP.Core.b32 a.toNat b.toNat = FP.Core.encode FP.Core.b32 (.fin false r q) := by
    unfold FP.Core.mul
    rw [e1, e3, ← f1, show -((t + u : Nat) : Int) = -(t : Int) + -(u : Int) by omega]; rfl
  have hle := enc32 (c := r) (q := q) f2 f3 f4 f5
  show (UInt32.ofNat (FP.Core.mul FP.Core.b32 a.toNat b.toNat)).toNat ≤ _
  rw [e, UInt32.toNat_ofNat_of_lt' (Nat.lt_of_le_of_lt hle (by decide))]; exact hle
theorem F1.nn {a : UInt32} (h : F1 a) : nn32 a := by
  show a &&& 0x7fffffff ≤ 0x7f800000
  rw [UInt32.le_iff_toNat_le, UInt32.toNat_and]
  exact Nat.le_trans Nat.and_le_left (Nat.le_trans h (by decide))
theorem F1.d {a : UInt32} (h : F1 a) : nn64 (FP.f2d a) := by
  obtain ⟨c, t, e1, e2⟩ := dec1 h
  obtain ⟨r, q, f1, f2, f3, f4, f5⟩ := rr_le (f := FP.Core.b64) (by decide) (by decide) (by decide) e2
  have hN : FP.Core.fIsNaN a = false := by
    show decide (FP.Core.decode FP.Core.b32 a.toNat = .nan) = false
    rw [e1]; exact decide_eq_false (fun z => by cases z)
  have hle := enc64 (c := r) (q := q) f2 f3 f4 f5
  have e : FP.f2d a = UInt64.ofNat (FP.Core.encode FP.Core.b64 (.fin false r q)) := by
    unfold FP.f2d
    rw [hN, if_neg (by decide)]
    show UInt64.ofNat (FP.Core.encode FP.Core.b64 (FP.Core.round FP.Core.b64 (FP.Core.decode FP.Core.b32 a.toNat))) = _
    rw [e1, ← f1]; rfl
  show FP.f2d a &&& 0x7fffffffffffffff ≤ 0x7ff0000000000000
  rw [e, UInt64.le_iff_toNat_le, UInt64.toNat_and, UInt64.toNat_ofNat_of_lt' (Nat.lt_of_le_of_lt hle (by decide))]
  exact Nat.le_trans Nat.and_le_left (Nat.le_trans hle (by decide))
theorem F1.zero : F1 FP.fconst0 := by show (0 : Nat) ≤ _; omega
theorem F1.one : F1 FP.fconst1 := by show (1065353216 : Nat) ≤ _; omega
theorem F1.pos {a : UInt32} (h : F1 a) : Op.cmpValue (FP.fcmp FP.fconst0 a) .l ≤ 0 := by
  obtain ⟨c, t, e1, e2⟩ := dec1 h
  have e : FP.fcmp FP.fconst0 a = some (compare (0 : Int) (FP.Core.inUnits c (-(t : Int)) (min (-149) (-(t : Int))) : Int)) := by
    show FP.Core.order (FP.Core.decode FP.Core.b32 FP.fconst0.toNat) (FP.Core.decode FP.Core.b32 a.toNat) = _
    rw [e1, show FP.Core.decode FP.Core.b32 FP.fconst0.toNat = .fin false 0 (-149) by decide]
    show some (compare (FP.Core.signed false (FP.Core.inUnits 0 _ _)) _) = _
    rw [show FP.Core.signed false (FP.Core.inUnits 0 (-149) (min (-149) (-(t : Int)))) = 0 by unfold FP.Core.signed FP.Core.inUnits; rw [Nat.zero_mul]; rfl]
    rfl
  rw [e]
  generalize FP.Core.inUnits c (-(t : Int)) (min (-149) (-(t : Int))) = w
  cases w with
  | zero => decide
  | succ w =>
    rw [show compare (0 : Int) ((w + 1 : Nat) : Int) = .lt from Int.compare_eq_lt.mpr (by omega)]
    decide
theorem ft_ok {t : Nat} (h : t ≤ 100) : F1 (FP.fdiv (FP.i2f (nI t)) (1120403456 : UInt32)) := by
  have H : ∀ q : Fin 101, (FP.fdiv (FP.i2f (nI q.1)) (1120403456 : UInt32)).toNat ≤ 1065353216 := by decide +kernel
  exact H ⟨t, by omega⟩

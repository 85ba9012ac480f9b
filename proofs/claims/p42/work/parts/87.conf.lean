/-! confidence -/
/-! floats from 0 to 1 -/
theorem near_le (a d : Nat) : FP.Core.nearest a d ≤ a / d + 1 := by
  unfold FP.Core.nearest
  have := Nat.mod_lt (a / d) (show 0 < 2 by omega)
  split
  · omega
  · split <;> omega
theorem near_ex {a d : Nat} (hd : 0 < d) (h : a % d = 0) : FP.Core.nearest a d = a / d := by
  unfold FP.Core.nearest
  rw [h, if_pos (by omega)]
theorem rr_le {f : FP.Core.Fmt} {C t : Nat} (hp : 1 ≤ f.p) (h1 : f.qmin ≤ -(f.p : Int)) (h2 : 1 - (f.p : Int) ≤ f.qmax) (hC : C ≤ 2 ^ t) : ∃ c q, FP.Core.roundRatio f false C 1 (-(t : Int)) = .fin false c q ∧ f.qmin ≤ q ∧ q ≤ 1 - (f.p : Int) ∧ c < 2 ^ f.p ∧ (q = 1 - (f.p : Int) → c = 2 ^ (f.p - 1)) := by
  have hpp : 0 < 2 ^ f.p := Nat.two_pow_pos _
  have hps : 2 ^ (f.p - 1) < 2 ^ f.p := Nat.pow_lt_pow_right (by omega) (by omega)
  by_cases h0 : C = 0
  · refine ⟨0, f.qmin, ?_, Int.le_refl _, by omega, hpp, fun z => by omega⟩
    unfold FP.Core.roundRatio; rw [if_pos h0]
  · have l1 : 2 ^ C.log2 ≤ C := Nat.log2_self_le h0
    have l2 : C < 2 ^ (C.log2 + 1) := Nat.lt_log2_self
    have l3 : C.log2 ≤ t := (Nat.pow_le_pow_iff_right (by omega)).mp (Nat.le_trans l1 hC)
    have hlead : FP.Core.leading C 1 = (C.log2 : Int) := by
      unfold FP.Core.leading
      have e : (C.log2 : Int) - ((1 : Nat).log2 : Int) = (C.log2 : Int) := by
        rw [show (1 : Nat).log2 = 0 by decide]; omega
      simp only [e]
      rw [if_pos]
      rw [show (-(C.log2 : Int)).toNat = 0 by omega, Int.toNat_natCast]
      omega
    generalize hq : FP.Core.quantum f C 1 (-(t : Int)) = q
    have hq' : q = max f.qmin ((C.log2 : Int) + -(t : Int) - ((f.p : Int) - 1)) := by
      rw [← hq, ← hlead]; rfl
    have q1 : f.qmin ≤ q := by omega
    have q2 : q ≤ 1 - (f.p : Int) := by omega
    have q3 : (C.log2 : Int) + -(t : Int) - ((f.p : Int) - 1) ≤ q := by omega
    have q4 : q = 1 - (f.p : Int) → C.log2 = t := fun z => by omega
    have q5 : q = 1 - (f.p : Int) → C = 2 ^ t := fun z => by
      have := q4 z
      rw [this] at l1; omega
    have key : FP.Core.nearest (FP.Core.unitsNum C (-(t : Int)) q) (FP.Core.unitsDen 1 (-(t : Int)) q) ≤ 2 ^ f.p ∧ (q = 1 - (f.p : Int) → FP.Core.nearest (FP.Core.unitsNum C (-(t : Int)) q) (FP.Core.unitsDen 1 (-(t : Int)) q) = 2 ^ (f.p - 1)) := by
      unfold FP.Core.unitsNum FP.Core.unitsDen
      rcases Int.le_total q (-(t : Int)) with w | w
      · rw [show (q - -(t : Int)).toNat = 0 by omega, Nat.pow_zero, Nat.mul_one, near_ex (by omega) (Nat.mod_one _), Nat.div_one]
        constructor
        · have e : C * 2 ^ (-(t : Int) - q).toNat ≤ 2 ^ (C.log2 + 1) * 2 ^ (-(t : Int) - q).toNat := Nat.mul_le_mul_right _ (Nat.le_of_lt l2)
          rw [← Nat.pow_add] at e
          exact Nat.le_trans e (Nat.pow_le_pow_right (by omega) (by omega))
        · intro z
          rw [q5 z, ← Nat.pow_add]
          congr 1; omega
      · rw [show (-(t : Int) - q).toNat = 0 by omega, Nat.pow_zero, Nat.mul_one, Nat.one_mul]
        have hD : 0 < 2 ^ (q - -(t : Int)).toNat := Nat.two_pow_pos _
        constructor
        · have e : C < 2 ^ f.p * 2 ^ (q - -(t : Int)).toNat := by
            rw [← Nat.pow_add]
            exact Nat.lt_of_lt_of_le l2 (Nat.pow_le_pow_right (by omega) (by omega))
          have e2 := (Nat.div_lt_iff_lt_mul hD).mpr e
          have e3 := near_le C (2 ^ (q - -(t : Int)).toNat)
          omega
        · intro z
          have e : C = 2 ^ (f.p - 1) * 2 ^ (q - -(t : Int)).toNat := by
            rw [q5 z, ← Nat.pow_add]
            congr 1; omega
          have e2 := near_ex (a := C) hD (by rw [e]; exact Nat.mul_mod_left _ _)
          rw [e2, e, Nat.mul_div_cancel _ hD]
    unfold FP.Core.roundRatio
    rw [if_neg h0, hq]
    unfold FP.Core.roundAt FP.Core.settle
    generalize FP.Core.nearest (FP.Core.unitsNum C (-(t : Int)) q) (FP.Core.unitsDen 1 (-(t : Int)) q) = N at key
    by_cases w : N < 2 ^ f.p
    · refine ⟨N, q, ?_, q1, q2, w, key.2⟩
      rw [if_pos w]; unfold FP.Core.bound; rw [if_pos (by omega)]
    · have hne : q ≠ 1 - (f.p : Int) := fun z => by have := key.2 z; omega
      refine ⟨2 ^ (f.p - 1), q + 1, ?_, by omega, by omega, hps, fun _ => rfl⟩
      rw [if_neg w]; unfold FP.Core.bound; rw [if_pos (by omega)]; rfl
/-- a float from 0 to 1 -/
def F1 (x : UInt32) : Prop := x.toNat ≤ 1065353216
theorem dec1 {v : Nat} (h : v ≤ 1065353216) : ∃ c t : Nat, FP.Core.decode FP.Core.b32 v = .fin false c (-(t : Int)) ∧ c ≤ 2 ^ t := by
  have eT : FP.Core.fieldT FP.Core.b32 v = v % 8388608 := rfl
  have eE : FP.Core.fieldE FP.Core.b32 v = v / 8388608 % 256 := rfl
  have eS : FP.Core.fieldS FP.Core.b32 v = false := by
    show (v / 8388608 / 256 % 2 == 1) = false
    rw [show v / 8388608 / 256 % 2 = 0 by omega]; rfl
  have eX : FP.Core.b32.exps = 256 := by decide
  have eA : FP.Core.b32.tails = 8388608 := by decide
  have eQ : FP.Core.b32.qmin = -149 := by decide
  unfold FP.Core.decode
  rw [eS, eE, eT, eX, eA, eQ, if_neg (by omega)]
  by_cases q : v / 8388608 % 256 = 0
  · refine ⟨v % 8388608, 149, ?_, ?_⟩
    · rw [if_pos q]; rfl
    · have := Nat.pow_le_pow_right (show 0 < 2 by omega) (show 23 ≤ 149 by omega)
      have e : (2 : Nat) ^ 23 = 8388608 := by decide
      omega
  · refine ⟨8388608 + v % 8388608, 150 - v / 8388608 % 256, ?_, ?_⟩
    · rw [if_neg q]; congr 1; omega
    · by_cases w : v / 8388608 = 127
      · rw [show 150 - v / 8388608 % 256 = 23 by omega]
        have e : (2 : Nat) ^ 23 = 8388608 := by decide
        omega
      · have := Nat.pow_le_pow_right (show 0 < 2 by omega) (show 24 ≤ 150 - v / 8388608 % 256 by omega)
        have e : (2 : Nat) ^ 24 = 16777216 := by decide
        omega
theorem enc32 {c : Nat} {q : Int} (h1 : -149 ≤ q) (h2 : q ≤ -23) (h3 : c < 16777216) (h4 : q = -23 → c = 8388608) : FP.Core.encode FP.Core.b32 (.fin false c q) ≤ 1065353216 := by
  have eA : FP.Core.b32.tails = 8388608 := by decide
  have eX : FP.Core.b32.exps = 256 := by decide
  have eQ : FP.Core.b32.qmin = -149 := by decide
  show (if c < FP.Core.b32.tails then FP.Core.assemble FP.Core.b32 false 0 c else FP.Core.assemble FP.Core.b32 false ((q - FP.Core.b32.qmin).toNat + 1) (c - FP.Core.b32.tails)) ≤ _
  unfold FP.Core.assemble
  rw [eA, eX, eQ, show false.toNat = 0 from rfl]
  split
  · omega
  · by_cases w : q = -23
    · have := h4 w; omega
    · omega
theorem enc64 {c : Nat} {q : Int} (h1 : -1074 ≤ q) (h2 : q ≤ -52) (h3 : c < 9007199254740992) (h4 : q = -52 → c = 4503599627370496) : FP.Core.encode FP.Core.b64 (.fin false c q) ≤ 4607182418800017408 := by
  have eA : FP.Core.b64.tails = 4503599627370496 := by decide
  have eX : FP.Core.b64.exps = 2048 := by decide
  have eQ : FP.Core.b64.qmin = -1074 := by decide
  show (if c < FP.Core.b64.tails then FP.Core.assemble FP.Core.b64 false 0 c else FP.Core.assemble FP.Core.b64 false ((q - FP.Core.b64.qmin).toNat + 1) (c - FP.Core.b64.tails)) ≤ _
  unfold FP.Core.assemble
  rw [eA, eX, eQ, show false.toNat = 0 from rfl]
  split
  · omega
  · by_cases w : q = -52
    · have := h4 w; omega
    · omega
theorem F1.mul {a b : UInt32} (ha : F1 a) (hb : F1 b) : F1 (FP.fmul a b) := by
  obtain ⟨c, t, e1, e2⟩ := dec1 ha
  obtain ⟨d, u, e3, e4⟩ := dec1 hb
  have hcd : c * d ≤ 2 ^ (t + u) := by rw [Nat.pow_add]; exact Nat.mul_le_mul e2 e4
  obtain ⟨r, q, f1, f2, f3, f4, f5⟩ := rr_le (f := FP.Core.b32) (by decide) (by decide) (by decide) hcd
  have e : FP.Core.mul FP.Core.b32 a.toNat b.toNat = FP.Core.encode FP.Core.b32 (.fin false r q) := by
    unfold FP.Core.mul
    rw [e1, e3, ← f1, show -((t + u : Nat) : Int) = -(t : Int) + -(u : Int) by omega]; rfl
  have hle := enc32 (c := r) (q := q) f2 f3 f4 f5
  show (UInt32.ofNat (FP.Core.mul FP.Core.b32 a.toNat b.toNat)).toNat ≤ _
  rw [e, UInt32.toNat_ofNat_of_lt' (Nat.lt_of_le_of_lt hle (by decide))]; exact hle
theorem F1.nn {a : UInt32} (h : F1 a) : nn32 a := by
  show a &&& 0x7fffffff ≤ 0x7f800000
  rw [UInt32.le_iff_toNat_le, UInt32.toNat_and]
  exact Nat.le_trans Nat.and_le_left (Nat.le_trans h (by decide))
theorem F1.d {a : UInt32} (h : F1 a) : nn64 (FP.f2d a) := by
  obtain ⟨c, t, e1, e2⟩ := dec1 h
  obtain ⟨r, q, f1, f2, f3, f4, f5⟩ := rr_le (f := FP.Core.b64) (by decide) (by decide) (by decide) e2
  have hN : FP.Core.fIsNaN a = false := by
    show decide (FP.Core.decode FP.Core.b32 a.toNat = .nan) = false
    rw [e1]; exact decide_eq_false (fun z => by cases z)
  have hle := enc64 (c := r) (q := q) f2 f3 f4 f5
  have e : FP.f2d a = UInt64.ofNat (FP.Core.encode FP.Core.b64 (.fin false r q)) := by
    unfold FP.f2d
    rw [hN, if_neg (by decide)]
    show UInt64.ofNat (FP.Core.encode FP.Core.b64 (FP.Core.round FP.Core.b64 (FP.Core.decode FP.Core.b32 a.toNat))) = _
    rw [e1, ← f1]; rfl
  show FP.f2d a &&& 0x7fffffffffffffff ≤ 0x7ff0000000000000
  rw [e, UInt64.le_iff_toNat_le, UInt64.toNat_and, UInt64.toNat_ofNat_of_lt' (Nat.lt_of_le_of_lt hle (by decide))]
  exact Nat.le_trans Nat.and_le_left (Nat.le_trans hle (by decide))
theorem F1.zero : F1 FP.fconst0 := by show (0 : Nat) ≤ _; omega
theorem F1.one : F1 FP.fconst1 := by show (1065353216 : Nat) ≤ _; omega
theorem F1.pos {a : UInt32} (h : F1 a) : Op.cmpValue (FP.fcmp FP.fconst0 a) .l ≤ 0 := by
  obtain ⟨c, t, e1, e2⟩ := dec1 h
  have e : FP.fcmp FP.fconst0 a = some (compare (0 : Int) (FP.Core.inUnits c (-(t : Int)) (min (-149) (-(t : Int))) : Int)) := by
    show FP.Core.order (FP.Core.decode FP.Core.b32 FP.fconst0.toNat) (FP.Core.decode FP.Core.b32 a.toNat) = _
    rw [e1, show FP.Core.decode FP.Core.b32 FP.fconst0.toNat = .fin false 0 (-149) by decide]
    show some (compare (FP.Core.signed false (FP.Core.inUnits 0 _ _)) _) = _
    rw [show FP.Core.signed false (FP.Core.inUnits 0 (-149) (min (-149) (-(t : Int)))) = 0 by unfold FP.Core.signed FP.Core.inUnits; rw [Nat.zero_mul]; rfl]
    rfl
  rw [e]
  generalize FP.Core.inUnits c (-(t : Int)) (min (-149) (-(t : Int))) = w
  cases w with
  | zero => decide
  | succ w =>
    rw [show compare (0 : Int) ((w + 1 : Nat) : Int) = .lt from Int.compare_eq_lt.mpr (by omega)]
    decide
theorem ft_ok {t : Nat} (h : t ≤ 100) : F1 (FP.fdiv (FP.i2f (nI t)) (1120403456 : UInt32)) := by
  have H : ∀ q : Fin 101, (FP.fdiv (FP.i2f (nI q.1)) (1120403456 : UInt32)).toNat ≤ 1065353216 := by decide +kernel
  exact H ⟨t, by omega⟩
def mulN (t : UInt32) : UInt32 → Nat → UInt32
  | s, 0 => s
  | s, e + 1 => mulN t (FP.fmul s t) e
theorem mulN_ok {t : UInt32} (ht : F1 t) : ∀ {e : Nat} {s : UInt32}, F1 s → F1 (mulN t s e)
  | 0, _, h => h
  | e + 1, s, h => mulN_ok ht (e := e) (s := FP.fmul s t) (F1.mul h ht)
def ftN (t : Nat) : UInt32 := FP.fdiv (FP.i2f (nI t)) (1120403456 : UInt32)
def cfS (b : Nat → Nat) (x : Int64) : Nat → UInt32
  | 0 => FP.fconst1
  | k + 1 => mulN (ftN (b (7 + 5 * k))) (cfS b x k) (ex x k)
def cf (b : Nat → Nat) (x : Int64) : UInt32 := cfS b x 16
theorem cfS_ok {b : Nat → Nat} (hB : BOk b) (x : Int64) : ∀ {k : Nat}, k ≤ 16 → F1 (cfS b x k)
  | 0, _ => F1.one
  | k + 1, hk => by
    have h7 := (hB.2.1 k (by omega)).2.2.2.1
    exact mulN_ok (ft_ok h7) (cfS_ok hB x (by omega))
theorem cf_ok {b : Nat → Nat} (hB : BOk b) (x : Int64) : F1 (cf b x) := cfS_ok hB x (Nat.le_refl _)
theorem c_cf32 {n : Nat} {Z : Zt} {a : Nat} {κ : Int64 → UInt32 → Int32 → Mem → Option (UInt32 × Mem)} {x : Int64} {k : Int32} {t : UInt32} {g : Mem} (ht : F1 t) : ∀ (e fu : Nat) (s : UInt32), e < 16 → e < fu → F1 s → f_X8_confidenceOfTerm_l32 n Z κ a fu x s k t (nI e) g = κ x (mulN t s e) (k + 1) g := by
  intro e
  induction e with
  | zero =>
    intro fu s h1 h2 hs
    obtain ⟨fu, rfl⟩ : ∃ q, fu = q + 1 := ⟨fu - 1, by omega⟩
    unfold f_X8_confidenceOfTerm_l32
    rw [if_pos (show nI 0 ≤ (0 : Int32) by decide)]; rfl
  | succ e ih =>
    intro fu s h1 h2 hs
    obtain ⟨fu, rfl⟩ : ∃ q, fu = q + 1 := ⟨fu - 1, by omega⟩
    have e1 : nI (e + 1) + (-1 : Int32) = nI e := by
      have H : ∀ q : Fin 16, nI (q.1 + 1) + (-1 : Int32) = nI q.1 := by decide +kernel
      exact H ⟨e, by omega⟩
    unfold f_X8_confidenceOfTerm_l32
    rw [if_neg (nI_nle (by omega) (by omega)), grd_t (F1.mul hs ht).nn, e1]
    exact ih fu _ (by omega) (by omega) (F1.mul hs ht)
theorem c_cf5 {n : Nat} {Z : Zt} {a : Nat} {b : Nat → Nat} {x : Int64} {g : Mem} (hn : 40 ≤ n) (hB : BOk b) (hZ : SZ Z a) (hS : StIs g a b) : ∀ (d k fu : Nat), d = 16 - k → k ≤ 16 → d < fu → f_X8_confidenceOfTerm_l5 n Z a fu x (cfS b x k) (nI k) g = some (cf b x, g) := by
  intro d
  induction d with
  | zero =>
    intro k fu h1 h2 h3
    obtain ⟨fu, rfl⟩ : ∃ q, fu = q + 1 := ⟨fu - 1, by omega⟩
    have hk : k = 16 := by omega
    subst hk
    unfold f_X8_confidenceOfTerm_l5
    rw [if_pos (show (16 : Int32) ≤ nI 16 by decide)]; rfl
  | succ d ih =>
    intro k fu h1 h2 h3
    obtain ⟨fu, rfl⟩ : ∃ q, fu = q + 1 := ⟨fu - 1, by omega⟩
    have hk : k < 16 := by omega
    have he := ex_lt x k
    have h7 := (hB.2.1 k hk).2.2.2.1
    have hf := ft_ok h7
    have e7 : (if b (4 + 5 * k) = 0 then (0 : Int32) else nI (b (7 + 5 * k))) = nI (b (7 + 5 * k)) := by
      by_cases q : b (4 + 5 * k) = 0
      · rw [if_pos q, ((hB.2.1 k hk).2.2.2.2.2 q).2.2.1]; rfl
      · rw [if_neg q]
    unfold f_X8_confidenceOfTerm_l5
    rw [if_neg (show ¬ (16 : Int32) ≤ nI k from ge_n (N := 16) (by omega) hk), s_trust hZ hS hk, bnd_s, e7, grd_t hf.nn, c_power hk, bnd_s, c_cf32 hf _ _ _ he (by omega) (cfS_ok hB x (by omega)), nI_1]
    exact ih (k + 1) fu (by omega) (by omega) (by omega)
theorem c_cfT {n : Nat} {Z : Zt} {a : Nat} {b : Nat → Nat} {x : Int64} {g : Mem} (hn : 40 ≤ n) (hB : BOk b) (hZ : SZ Z a) (hS : StIs g a b) : f_X8_confidenceOfTerm n Z a x g = some (cf b x, g) := by
  unfold f_X8_confidenceOfTerm
  rw [grd_t hZ.1.k]
  exact c_cf5 hn hB hZ hS 16 0 n (by omega) (by omega) (by omega)
def bcF (b : Nat → Nat) (s : UInt32) (a : Int64 × Int64) : UInt32 := if Op.cmpValue (FP.fcmp (cf b a.1) s) .l ≤ 0 then s else cf b a.1
theorem bcF_ok {b : Nat → Nat} (hB : BOk b) {s : UInt32} {a : Int64 × Int64} (h : F1 s) : F1 (bcF b s a) := by
  unfold bcF
  split
  · exact h
  · exact cf_ok hB _
theorem bcF_all {b : Nat → Nat} (hB : BOk b) : ∀ {ys : Pol} {s : UInt32}, F1 s → F1 (ys.foldl (bcF b) s)
  | [], _, h => h
  | _ :: ys, _, h => bcF_all hB (ys := ys) (bcF_ok hB h)
section CONF
variable {n : Nat} {Z : Zt} {c m : Nat} {g : Mem}
theorem c_conf16 {b : Nat → Nat} {ys : Pol} (hn : 40 ≤ n) (hB : BOk b) (hC : CZ Z c) (hS : StIs g (c + 1) b) (h : PIs g (c + 1455) ys) : ∀ (d j fu : Nat) (s : UInt32), d = ys.length - j → j ≤ ys.length → d < fu → f_X10_confidence_l16 n Z c fu s (nI j) g = some ((ys.drop j).foldl (bcF b) s, g) := by
  have h32 := h.2.1
  intro d
  induction d with
  | zero =>
    intro j fu s h1 h2 h3
    obtain ⟨fu, rfl⟩ : ∃ q, fu = q + 1 := ⟨fu - 1, by omega⟩
    have hj : j = ys.length := by omega
    subst hj
    unfold f_X10_confidence_l16
    rw [hC.f8, drf_s, p_size hC.sh h, bnd_s, if_pos ((nle (by omega) (by omega)).mpr (Nat.le_refl _)), fold_end]
  | succ d ih =>
    intro j fu s h1 h2 h3
    obtain ⟨fu, rfl⟩ : ∃ q, fu = q + 1 := ⟨fu - 1, by omega⟩
    have hj : j < ys.length := by omega
    have e : bcF b s (ys.getD j (0, 0)) = if Op.cmpValue (FP.fcmp (cf b (ys.getD j (0, 0)).1) s) .l ≤ 0 then s else cf b (ys.getD j (0, 0)).1 := rfl
    have IH := ih (j + 1) fu (bcF b s (ys.getD j (0, 0))) (by omega) (by omega) (by omega)
    unfold f_X10_confidence_l16
    rw [hC.f8, drf_s, p_size hC.sh h, bnd_s, if_neg (ge_n (by omega) hj), hC.f0, drf_s, drf_s, p_mono hC.sh h hj, bnd_s, c_cfT hn hB hC.st hS, bnd_s, nI_1, fold_drop hj, ← IH, e]
    split
    · rfl
    · rfl
theorem neg1_d : nn64 (FP.f2d 3212836864) := by decide +kernel
end CONF

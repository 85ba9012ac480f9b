/-! answerTrust, needed -/
def mxF (b : Nat → Nat) (s : Nat) (a : Int64 × Int64) : Nat := if s < tr b a.1 then tr b a.1 else s
def moF (b : Nat → Nat) (s : Option Nat) (a : Int64 × Int64) : Option Nat := match s with
  | none => some (tr b a.1)
  | some m => some (if m < tr b a.1 then tr b a.1 else m)
theorem mo_mx {b : Nat → Nat} : ∀ {ys : Pol} {s : Nat}, ys.foldl (moF b) (some s) = some (ys.foldl (mxF b) s)
  | [], _ => rfl
  | a :: ys, s => mo_mx (ys := ys) (s := mxF b s a)
theorem mo_mx0 {b : Nat → Nat} {ys : Pol} (h : ys ≠ []) : ys.foldl (moF b) none = some (ys.foldl (mxF b) 0) := by
  cases ys with
  | nil => exact absurd rfl h
  | cons a ys =>
    have e : mxF b 0 a = tr b a.1 := by
      unfold mxF
      by_cases q : 0 < tr b a.1
      · rw [if_pos q]
      · rw [if_neg q]; omega
    show ys.foldl (moF b) (some (tr b a.1)) = some (ys.foldl (mxF b) (mxF b 0 a))
    rw [mo_mx, e]
theorem mxF_le {b : Nat → Nat} {s : Nat} {a : Int64 × Int64} (h : s ≤ 100) : mxF b s a ≤ 100 := by
  have := trS_le (b := b) a.1 16
  unfold mxF tr
  split <;> omega
def meF (s : Nat) (a : Int64 × Int64) : Nat := s &&& tsN a.1
section TRUST
variable {n : Nat} {Z : Zt} {c m : Nat} {g : Mem}
theorem c_tr27 {b : Nat → Nat} {ys : Pol} (hn : 40 ≤ n) (hB : BOk b) (hC : CZ Z c) (hS : StIs g (c + 1) b) (h : PIs g (c + 1455) ys) : ∀ (d j fu s : Nat), d = ys.length - j → j ≤ ys.length → d < fu → s ≤ 100 → f_X10_answerTrust_l27 n Z c fu (nI s) (nI j) g = some (nI ((ys.drop j).foldl (mxF b) s), g) := by
  have h32 := h.2.1
  intro d
  induction d with
  | zero =>
    intro j fu s h1 h2 h3 h4
    obtain ⟨fu, rfl⟩ : ∃ q, fu = q + 1 := ⟨fu - 1, by omega⟩
    have hj : j = ys.length := by omega
    subst hj
    unfold f_X10_answerTrust_l27
    rw [hC.f8, drf_s, p_size hC.sh h, bnd_s, if_pos ((nle (by omega) (by omega)).mpr (Nat.le_refl _)), fold_end]
  | succ d ih =>
    intro j fu s h1 h2 h3 h4
    obtain ⟨fu, rfl⟩ : ∃ q, fu = q + 1 := ⟨fu - 1, by omega⟩
    have hj : j < ys.length := by omega
    have hle : tr b (ys.getD j (0, 0)).1 ≤ 100 := trS_le _ 16
    unfold f_X10_answerTrust_l27
    rw [hC.f8, drf_s, p_size hC.sh h, bnd_s, if_neg (ge_n (by omega) hj), hC.f0, drf_s, drf_s, p_mono hC.sh h hj, bnd_s, c_trT hn hB hC.st hS, bnd_s, nI_1, fold_drop hj]
    have e : (if nI s < nI (tr b (ys.getD j (0, 0)).1) then nI (tr b (ys.getD j (0, 0)).1) else nI s) = nI (mxF b s (ys.getD j (0, 0))) := by
      unfold mxF
      by_cases q : s < tr b (ys.getD j (0, 0)).1
      · rw [if_pos ((nlt (by omega) (by omega)).mpr q), if_pos q]
      · rw [if_neg (fun z => q ((nlt (by omega) (by omega)).mp z)), if_neg q]
    rw [e]
    exact ih (j + 1) fu _ (by omega) (by omega) (by omega) (mxF_le h4)
theorem neg6 {s : Nat} (hs : s ≤ 100) : ¬ nI s ≤ (-6 : Int32) := by
  have H : ∀ q : Fin 101, ¬ nI q.1 ≤ (-6 : Int32) := by decide +kernel
  exact H ⟨s, by omega⟩
/-! needed -/
theorem me_le {s : Nat} {a : Int64 × Int64} (h : s < 65536) : meF s a < 65536 := Nat.lt_of_le_of_lt Nat.and_le_left h
theorem c_ne33 {ys : Pol} (hn : 40 ≤ n) (hC : CZ Z c) (h : PIs g (c + 1455) ys) : ∀ (d j fu s : Nat), d = ys.length - j → j ≤ ys.length → d < fu → s < 65536 → f_X10_needed_l33 n Z c fu (nI s) (nI j) g = some (nI ((ys.drop j).foldl meF s), g) := by
  have h32 := h.2.1
  intro d
  induction d with
  | zero =>
    intro j fu s h1 h2 h3 h4
    obtain ⟨fu, rfl⟩ : ∃ q, fu = q + 1 := ⟨fu - 1, by omega⟩
    have hj : j = ys.length := by omega
    subst hj
    unfold f_X10_needed_l33
    rw [hC.f8, drf_s, p_size hC.sh h, bnd_s, if_pos ((nle (by omega) (by omega)).mpr (Nat.le_refl _)), fold_end]
  | succ d ih =>
    intro j fu s h1 h2 h3 h4
    obtain ⟨fu, rfl⟩ : ∃ q, fu = q + 1 := ⟨fu - 1, by omega⟩
    have hj : j < ys.length := by omega
    have hlt := tsN_lt (ys.getD j (0, 0)).1
    unfold f_X10_needed_l33
    rw [hC.f8, drf_s, p_size hC.sh h, bnd_s, if_neg (ge_n (by omega) hj), drf_s, p_mono hC.sh h hj, bnd_s, c_tagSet hn, bnd_s, nI_1, fold_drop hj, and_n (by omega) (by omega)]
    exact ih (j + 1) fu _ (by omega) (by omega) (by omega) (me_le h4)
theorem and65 {s : Nat} (h : s < 65536) : s &&& 65535 = s := by
  rw [show (65535 : Nat) = 2 ^ 16 - 1 from rfl, Nat.and_two_pow_sub_one_eq_mod, Nat.mod_eq_of_lt h]
/-- a monomial has tags of rows alone -/
theorem ts_sub {b : Nat → Nat} {D : Nat} {x : Int64} (h : TG b D x) : mk (tagB b) 16 &&& tsN x = tsN x := by
  have hT := bm_mk (tagB b)
  apply Nat.eq_of_testBit_eq
  intro i
  rw [Nat.testBit_and]
  by_cases hi : i < 16
  · rw [hT.2 i hi, tsN_bit hi]
    by_cases q : ex x i = 0
    · simp [sB, q]
    · simp [sB, tagB, h.2.1 i hi q]
  · have h1 : tsN x < 2 ^ i := Nat.lt_of_lt_of_le (tsN_lt x) (Nat.pow_le_pow_right (n := 2) (i := 16) (by omega) (by omega))
    rw [Nat.testBit_lt_two_pow h1]; simp
end TRUST

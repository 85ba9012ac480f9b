/-! answerTrust, needed -/
def mxF (b : Nat → Nat) (s : Nat) (a : Int64 × Int64) : Nat := if s < tr b a.1 then tr b a.1 else s
def moF (b : Nat → Nat) (s : Option Nat) (a : Int64 × Int64) : Option Nat := match s with
  | none => some (tr b a.1)
  | some m => some (if m < tr b a.1 then tr b a.1 else m)
theorem mo_mx {b : Nat → Nat} : ∀ {ys : Pol} {s : Nat}, ys.foldl (moF b) (some s) = some (ys.foldl (mxF b) s)
  | [], _ => rfl
  | a :: ys, s => mo_mx (ys := ys) (s := mxF b s a)
theorem mo_mx0 {b : Nat → Nat} {ys : Pol} (h : ys ≠ []) : ys.foldl (moF b) none = some (ys.foldl (mxF b) 0) := by
  cases ys with
  | nil => exact absurd rfl h
  | cons a ys =>
    have e : mxF b 0 a = tr b a.1 := by
      unfold mxF
      by_cases q : 0 < tr b a.1
      · rw [if_pos q]
      · rw [if_neg q]; omega
    show ys.foldl (moF b) (some (tr b a.1)) = some (ys.foldl (mxF b) (mxF b 0 a))
    rw [mo_mx, e]
theorem mxF_le {b : Nat → Nat} {s : Nat} {a : Int64 × Int64} (h : s ≤ 100) : mxF b s a ≤ 100 := by
  have := trS_le (b := b) a.1 16
  unfold mxF tr
  split <;> omega
def meF (s : Nat) (a : Int64 × Int64) : Nat := s &&& tsN a.1
section TRUST
variable {n : Nat} {Z : Zt} {c m : Nat} {g : Mem}
theorem c_tr27 {b : Nat → Nat} {ys : Pol} (hn : 40 ≤ n) (hB : BOk b) (hC : CZ Z c) (hS : StIs g (c + 1) b) (h : PIs g (c + 1455) ys) : ∀ (d j fu s : Nat), d = ys.length - j → j ≤ ys.length → d < fu → s ≤ 100 → f_X10_answerTrust_l27 n Z c fu (nI s) (nI j) g = some (nI ((ys.drop j).foldl (mxF b) s), g) := by
  have h32 := h.2.1
  intro d
  induction d with
  | zero =>
    intro j fu s h1 h2 h3 h4
    obtain ⟨fu, rfl⟩ : ∃ q, fu = q + 1 := ⟨fu - 1, by omega⟩
    have hj : j = ys.length := by omega
    subst hj
    unfold f_X10_answerTrust_l27
    rw [hC.f8, drf_s, p_size hC.sh h, bnd_s, if_pos ((nle (by omega) (by omega)).mpr (Nat.le_refl _)), fold_end]
  | succ d ih =>
    intro j fu s h1 h2 h3 h4
    obtain ⟨fu, rfl⟩ : ∃ q, fu = q + 1 := ⟨fu - 1, by omega⟩
    have hj : j < ys.length := by omega
    have hle : tr b (ys.getD j (0, 0)).1 ≤ 100 := trS_le _ 16
    unfold f_X10_answerTrust_l27
    rw [hC.f8, drf_s, p_size hC.sh h, bnd_s, if_neg (ge_n (by omega) hj), hC.f0, drf_s, drf_s, p_mono hC.sh h hj, bnd_s, c_trT hn hB hC.st hS, bnd_s, nI_1, fold_drop hj]
    have e : (if nI s < nI (tr b (ys.getD j (0, 0)).1) then nI (tr b (ys.getD j (0, 0)).1) else nI s) = nI (mxF b s (ys.getD j (0, 0))) := by
      unfold mxF
      by_cases q : s < tr b (ys.getD j (0, 0)).1
      · rw [if_pos ((nlt (by omega) (by omega)).mpr q), if_pos q]
      · rw [if_neg (fun z => q ((nlt (by omega) (by omega)).mp z)), if_neg q]
    rw [e]
    exact ih (j + 1) fu _ (by omega) (by omega) (by omega) (mxF_le h4)
theorem neg6 {s : Nat} (hs : s ≤ 100) : ¬ nI s ≤ (-6 : Int32) := by
  have H : ∀ q : Fin 101, ¬ nI q.1 ≤ (-6 : Int32) := by decide +kernel
  exact H ⟨s, by omega⟩
theorem m_tr15 {k : Nat} {b : Nat → Nat} {xs : Pol} (hn : 40 ≤ n) (hB : BOk b) (hM : MZ Z m) (hS : BIs g m b) (hk : k < 32) (h : MIs g m k xs) : ∀ (d j fu : Nat) (o : Option Nat), d = xs.length - j → j ≤ xs.length → d < fu → (∀ i, o = some i → i ≤ 100) → f_X11_answerTrust_l15 n Z m fu (nI k) (ftI o) (nI j) g = some (ftI ((xs.drop j).foldl (fun s a => if avl (goneB b) a.1 = true then moF b s a else s) o), g) := by
  have h32 := h.2.1
  intro d
  induction d with
  | zero =>
    intro j fu o h1 h2 h3 ho
    obtain ⟨fu, rfl⟩ : ∃ q, fu = q + 1 := ⟨fu - 1, by omega⟩
    have hj : j = xs.length := by omega
    subst hj
    unfold f_X11_answerTrust_l15
    rw [hM.f21, drf_s, grd_t hM.k21, hM.l21, grd_t (by rw [inr_eq (by omega)]; omega), clamp (by omega), h.1, if_pos ((nle (by omega) (by omega)).mpr (Nat.le_refl _)), fold_end]
  | succ d ih =>
    intro j fu o h1 h2 h3 ho
    obtain ⟨fu, rfl⟩ : ∃ q, fu = q + 1 := ⟨fu - 1, by omega⟩
    have hj : j < xs.length := by omega
    have hle : tr b (xs.getD j (0, 0)).1 ≤ 100 := trS_le _ 16
    unfold f_X11_answerTrust_l15
    rw [hM.f21, drf_s, grd_t hM.k21, hM.l21, grd_t (by rw [inr_eq (by omega)]; omega), clamp (by omega), h.1, if_neg (ge_n (by omega) hj), m_mask1 hn hB hM hS, bnd_s, m_avail hn hM hk h hj (bm_mk _), bnd_s, fold_drop hj]
    by_cases q : avl (goneB b) (xs.getD j (0, 0)).1 = true
    · rw [if_pos q, if_neg i10, hM.f22, drf_s, grd_t hM.k22, hM.l22, ix32, grd_t (by rw [inr_eq (by omega)]; omega), clamp (by omega), (m_mon h hj).1, m_trT hn hB hM hS, bnd_s, if_pos q]
      unfold f_X11_answerTrust_l59
      cases o with
      | none =>
        rw [if_neg (show ¬ nI _ ≤ ftI none from neg6 hle), nI_1]
        exact ih (j + 1) fu (some _) (by omega) (by omega) (by omega) fun i hi => by cases hi; exact hle
      | some s =>
        have hs := ho s rfl
        have e : moF b (some s) (xs.getD j (0, 0)) = some (if s < tr b (xs.getD j (0, 0)).1 then tr b (xs.getD j (0, 0)).1 else s) := rfl
        rw [e]
        by_cases w : s < tr b (xs.getD j (0, 0)).1
        · rw [if_neg (show ¬ nI _ ≤ ftI (some s) from ge_n (by omega) w), if_pos w, nI_1]
          exact ih (j + 1) fu (some _) (by omega) (by omega) (by omega) fun i hi => by cases hi; exact hle
        · rw [if_pos (show nI _ ≤ ftI (some s) from (nle (by omega) (by omega)).mpr (by omega)), if_neg w, nI_1]
          exact ih (j + 1) fu (some _) (by omega) (by omega) (by omega) ho
    · rw [if_neg q, if_pos rfl, if_neg q]
      unfold f_X11_answerTrust_l59
      have e : (-6 : Int32) ≤ ftI o := by
        cases o with
        | none => decide
        | some s =>
          have hs := ho s rfl
          have H : ∀ q : Fin 101, (-6 : Int32) ≤ nI q.1 := by decide +kernel
          exact H ⟨s, by omega⟩
      rw [if_pos e, nI_1]
      exact ih (j + 1) fu o (by omega) (by omega) (by omega) ho
theorem a_answerTrust (hn : 500 ≤ n) (hC : CZ Z c) (hM : MZ Z m) (hd : c + 1462 ≤ m) (x1 : Int32) (h : LInv c m g) : Agree c m (f_X10_answerTrust n Z c x1) (f_X11_answerTrust n Z m x1) g := by
  refine row_call (r0 := (-1 : Int32)) (x := x1) hn hC hM hd h ⟨fun q h1 h2 => ?_, fun g g' h1 => ?_⟩ fun b hb len T P v k q a hP hc hk h32 hx h1 h2 hZ hI ha1 ha2 => ?_
  · unfold f_X10_answerTrust; rw [grd_t hC.k, c_show_no hC h1 h2, bnd_s, if_pos rfl]
  · unfold f_X11_answerTrust; rw [grd_t hM.k, h1, bnd_s, if_pos rfl]
  · obtain ⟨g1, e1, e2, e3⟩ := c_show (n := n) (by omega) hC hP hc hk h1 h2 hZ hI ha1 ha2
    have hl := e2.2.1
    have hS1 := hc.1.fr e3 (by omega)
    have hMM : ∀ g2 g3, f_X11_isRow n Z m x1 g2 = some (1, g3) → MInv g3 m b hb len T P v → MIs g3 m k (rowP v k) → f_X11_answerTrust n Z m x1 g2 = some (ftI ((fav (goneB b) (rowP v k)).foldl (moF b) none), g3) := fun g2 g3 h3 h4 h6 => by
      have h62 := h6.2.1
      unfold f_X11_answerTrust
      rw [grd_t hM.k, h3, bnd_s, if_neg i10, fold_fav, hx]
      exact m_tr15 (by omega) hP.1.1 hM h4.1 (by omega) h6 _ 0 n none rfl (Nat.zero_le _) (by omega) (fun i hi => by cases hi)
    by_cases h0 : (fav (goneB b) (rowP v k)).length = 0
    · refine ⟨-6, g1, ?_, e3.mono (by omega) (by omega), fun g2 g3 h3 h4 h5 h26 h6 => ⟨g3, ?_, h4, Fr.rfl⟩⟩
      · unfold f_X10_answerTrust
        rw [grd_t hC.k, e1, bnd_s, if_neg i10, hC.f8, drf_s, p_size hC.sh e2, bnd_s, h0, if_pos (show nI 0 = (0 : Int32) from rfl)]
      · rw [hMM g2 g3 h3 h4 h6, List.eq_nil_of_length_eq_zero h0]; rfl
    · refine ⟨nI ((fav (goneB b) (rowP v k)).foldl (mxF b) 0), g1, ?_, e3.mono (by omega) (by omega), fun g2 g3 h3 h4 h5 h26 h6 => ⟨g3, ?_, h4, Fr.rfl⟩⟩
      · unfold f_X10_answerTrust
        rw [grd_t hC.k, e1, bnd_s, if_neg i10, hC.f8, drf_s, p_size hC.sh e2, bnd_s, if_neg (show ¬ nI _ = (0 : Int32) from neI (b := 0) (by omega) (by omega) h0)]
        exact c_tr27 (by omega) hP.1.1 hC hS1 e2 _ 0 n 0 rfl (Nat.zero_le _) (by omega) (by omega)
      · rw [hMM g2 g3 h3 h4 h6, mo_mx0 (fun z => h0 (by rw [z]; rfl))]; rfl
/-! needed -/
theorem me_le {s : Nat} {a : Int64 × Int64} (h : s < 65536) : meF s a < 65536 := Nat.lt_of_le_of_lt Nat.and_le_left h
theorem c_ne33 {ys : Pol} (hn : 40 ≤ n) (hC : CZ Z c) (h : PIs g (c + 1455) ys) : ∀ (d j fu s : Nat), d = ys.length - j → j ≤ ys.length → d < fu → s < 65536 → f_X10_needed_l33 n Z c fu (nI s) (nI j) g = some (nI ((ys.drop j).foldl meF s), g) := by
  have h32 := h.2.1
  intro d
  induction d with
  | zero =>
    intro j fu s h1 h2 h3 h4
    obtain ⟨fu, rfl⟩ : ∃ q, fu = q + 1 := ⟨fu - 1, by omega⟩
    have hj : j = ys.length := by omega
    subst hj
    unfold f_X10_needed_l33
    rw [hC.f8, drf_s, p_size hC.sh h, bnd_s, if_pos ((nle (by omega) (by omega)).mpr (Nat.le_refl _)), fold_end]
  | succ d ih =>
    intro j fu s h1 h2 h3 h4
    obtain ⟨fu, rfl⟩ : ∃ q, fu = q + 1 := ⟨fu - 1, by omega⟩
    have hj : j < ys.length := by omega
    have hlt := tsN_lt (ys.getD j (0, 0)).1
    unfold f_X10_needed_l33
    rw [hC.f8, drf_s, p_size hC.sh h, bnd_s, if_neg (ge_n (by omega) hj), drf_s, p_mono hC.sh h hj, bnd_s, c_tagSet hn, bnd_s, nI_1, fold_drop hj, and_n (by omega) (by omega)]
    exact ih (j + 1) fu _ (by omega) (by omega) (by omega) (me_le h4)
theorem and65 {s : Nat} (h : s < 65536) : s &&& 65535 = s := by
  rw [show (65535 : Nat) = 2 ^ 16 - 1 from rfl, Nat.and_two_pow_sub_one_eq_mod, Nat.mod_eq_of_lt h]
theorem m_ne23 {k : Nat} {b : Nat → Nat} {xs : Pol} (hn : 40 ≤ n) (hM : MZ Z m) (hk : k < 32) (h : MIs g m k xs) : ∀ (d j fu s : Nat), d = xs.length - j → j ≤ xs.length → d < fu → s < 65536 → f_X11_needed_l23 n Z m fu (nI k) (nI (mk (goneB b) 16)) (nI s) (nI j) g = some (if prs (goneB b) xs = true then nI ((xs.drop j).foldl (fun s a => if avl (goneB b) a.1 = true then meF s a else s) s) else -6, g) := by
  have h32 := h.2.1
  intro d
  induction d with
  | zero =>
    intro j fu s h1 h2 h3 h4
    obtain ⟨fu, rfl⟩ : ∃ q, fu = q + 1 := ⟨fu - 1, by omega⟩
    have hj : j = xs.length := by omega
    subst hj
    unfold f_X11_needed_l23
    rw [hM.f21, drf_s, grd_t hM.k21, hM.l21, grd_t (by rw [inr_eq (by omega)]; omega), clamp (by omega), h.1, if_pos ((nle (by omega) (by omega)).mpr (Nat.le_refl _)), fold_end, m_pres hn hM hk h (bm_mk _), bnd_s]
    by_cases q : prs (goneB b) xs = true
    · rw [if_pos q, if_neg i10, if_pos q]
    · rw [if_neg q, if_pos rfl, if_neg q]
  | succ d ih =>
    intro j fu s h1 h2 h3 h4
    obtain ⟨fu, rfl⟩ : ∃ q, fu = q + 1 := ⟨fu - 1, by omega⟩
    have hj : j < xs.length := by omega
    have hlt := tsN_lt (xs.getD j (0, 0)).1
    unfold f_X11_needed_l23
    rw [hM.f21, drf_s, grd_t hM.k21, hM.l21, grd_t (by rw [inr_eq (by omega)]; omega), clamp (by omega), h.1, if_neg (ge_n (by omega) hj), m_avail hn hM hk h hj (bm_mk _), bnd_s, fold_drop hj]
    by_cases q : avl (goneB b) (xs.getD j (0, 0)).1 = true
    · rw [if_pos q, if_neg i10, hM.f22, drf_s, grd_t hM.k22, hM.l22, ix32, grd_t (by rw [inr_eq (by omega)]; omega), clamp (by omega), (m_mon h hj).1, m_setOf hn, bnd_s, if_pos q, nI_1, and_n (by omega) (by omega)]
      exact ih (j + 1) fu _ (by omega) (by omega) (by omega) (me_le h4)
    · rw [if_neg q, if_pos rfl, if_neg q, show nI s &&& (65535 : Int32) = nI s by rw [show (65535 : Int32) = nI 65535 from rfl, and_n (by omega) (by omega), and65 h4], nI_1]
      exact ih (j + 1) fu _ (by omega) (by omega) (by omega) h4
/-- a monomial has tags of rows alone -/
theorem ts_sub {b : Nat → Nat} {D : Nat} {x : Int64} (h : TG b D x) : mk (tagB b) 16 &&& tsN x = tsN x := by
  have hT := bm_mk (tagB b)
  apply Nat.eq_of_testBit_eq
  intro i
  rw [Nat.testBit_and]
  by_cases hi : i < 16
  · rw [hT.2 i hi, tsN_bit hi]
    by_cases q : ex x i = 0
    · simp [sB, q]
    · simp [sB, tagB, h.2.1 i hi q]
  · have h1 : tsN x < 2 ^ i := Nat.lt_of_lt_of_le (tsN_lt x) (Nat.pow_le_pow_right (n := 2) (i := 16) (by omega) (by omega))
    rw [Nat.testBit_lt_two_pow h1]; simp
theorem a_needed (hn : 500 ≤ n) (hC : CZ Z c) (hM : MZ Z m) (hd : c + 1462 ≤ m) (x1 : Int32) (h : LInv c m g) : Agree c m (f_X10_needed n Z c x1) (f_X11_needed n Z m x1) g := by
  refine row_call (r0 := (-1 : Int32)) (x := x1) hn hC hM hd h ⟨fun q h1 h2 => ?_, fun g g' h1 => ?_⟩ fun b hb len T P v k q a hP hc hk h32 hx h1 h2 hZ hI ha1 ha2 => ?_
  · unfold f_X10_needed; rw [grd_t hC.k, c_show_no hC h1 h2, bnd_s, if_pos rfl]
  · unfold f_X11_needed; rw [grd_t hM.k, h1, bnd_s, if_pos rfl]
  · obtain ⟨g1, e1, e2, e3⟩ := c_show (n := n) (by omega) hC hP hc hk h1 h2 hZ hI ha1 ha2
    have hl := e2.2.1
    have hS1 := hc.1.fr e3 (by omega)
    have hMM : ∀ g2 g3, f_X11_isRow n Z m x1 g2 = some (1, g3) → MInv g3 m b hb len T P v → MIs g3 m k (rowP v k) → f_X11_needed n Z m x1 g2 = some (if prs (goneB b) (rowP v k) = true then nI ((fav (goneB b) (rowP v k)).foldl meF 65535) else -6, g3) := fun g2 g3 h3 h4 h6 => by
      have h62 := h6.2.1
      unfold f_X11_needed
      rw [grd_t hM.k, h3, bnd_s, if_neg i10, fold_fav, hx, m_mask1 (by omega) hP.1.1 hM h4.1, bnd_s]
      exact m_ne23 (by omega) hM (by omega) h6 _ 0 n 65535 rfl (Nat.zero_le _) (by omega) (by omega)
    have hpr := fav_prs (p := goneB b) (xs := rowP v k)
    by_cases h0 : (fav (goneB b) (rowP v k)).length = 0
    · refine ⟨-6, g1, ?_, e3.mono (by omega) (by omega), fun g2 g3 h3 h4 h5 h26 h6 => ⟨g3, ?_, h4, Fr.rfl⟩⟩
      · unfold f_X10_needed
        rw [grd_t hC.k, e1, bnd_s, if_neg i10, hC.f8, drf_s, p_size hC.sh e2, bnd_s, h0, if_pos (show nI 0 = (0 : Int32) from rfl)]
      · rw [hMM g2 g3 h3 h4 h6, if_neg (fun z => hpr.mp z (List.eq_nil_of_length_eq_zero h0))]
    · refine ⟨nI ((fav (goneB b) (rowP v k)).foldl meF (mk (tagB b) 16)), g1, ?_, e3.mono (by omega) (by omega), fun g2 g3 h3 h4 h5 h26 h6 => ⟨g3, ?_, h4, Fr.rfl⟩⟩
      · unfold f_X10_needed
        rw [grd_t hC.k, e1, bnd_s, if_neg i10, hC.f8, drf_s, p_size hC.sh e2, bnd_s, if_neg (show ¬ nI _ = (0 : Int32) from neI (b := 0) (by omega) (by omega) h0), hC.f0, drf_s, s_mask hC.st, bnd_s, hS1.m6]
        exact c_ne33 (by omega) hC e2 _ 0 n _ rfl (Nat.zero_le _) (by omega) (bm_mk _).1
      · rw [hMM g2 g3 h3 h4 h6, if_pos (hpr.mpr fun z => h0 (by rw [z]; rfl))]
        cases hf : fav (goneB b) (rowP v k) with
        | nil => rw [hf] at h0; exact absurd rfl h0
        | cons y ys =>
          have hy : y ∈ rowP v k := by
            have : y ∈ fav (goneB b) (rowP v k) := by rw [hf]; exact List.mem_cons_self ..
            exact (List.mem_filter.mp this).1
          have hg := (hP.2.2.2.1.good hP.1.1).1 _ (getD_mem (d := (0, [])) hk) y.1 (List.mem_map_of_mem hy)
          show some (nI (ys.foldl meF (meF 65535 y)), g3) = some (nI (ys.foldl meF (meF (mk (tagB b) 16) y)), g3)
          have e : meF 65535 y = meF (mk (tagB b) 16) y := by
            unfold meF
            rw [ts_sub hg, Nat.and_comm, and65 (tsN_lt _)]
          rw [e]
end TRUST

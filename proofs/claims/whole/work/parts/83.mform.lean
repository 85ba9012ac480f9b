/-! THE REFERENCE's FORMS: in the row 416 -/
def pFm (m b j : Nat) : Prop := (b = m ∧ j = 25) ∨ (b = m + 13 ∧ j = 13) ∨ (b = m + 15 ∧ j = 416) ∨ ((b = m + 16 ∨ b = m + 17) ∧ 13312 ≤ j ∧ j < 13344) ∨ b = m + 18
theorem pT_Fm {m b j : Nat} (h : pT m 416 b j) : pFm m b j := by unfold pT at h; unfold pFm; omega
theorem pFm_L {m b j : Nat} (h : pFm m b j) : pL m b j := by unfold pFm at h; unfold pL; omega
theorem ix416 (j : Nat) : (13312 : Int32) + nI j = nI (13312 + j) := nI_add 13312 j
section MFORM
variable {n : Nat} {Z : Zt} {m : Nat}
theorem MIs.chR {P : Nat → Nat → Prop} {g g' : Mem} {k : Nat} {xs : Pol} (h : MIs g m k xs) (hk : k < 32) (hF : Ch P g g') (hP : ∀ b j, P b j → pFm m b j) : MIs g' m k xs :=
  h.ch hF fun b j q z => by have := hP b j z; unfold pT at q; unfold pFm at this; omega
theorem m_wid19 {g : Mem} {i : Nat} {zs : Pol} (hn : 40 ≤ n) (hM : MZ Z m) (h : MIs g m 416 zs) (hi : i < zs.length) : ∀ (d j fu : Nat) (w : Bool), d = zs.length - j → j ≤ zs.length → d < fu → (w = true ↔ ∃ q, q < j ∧ q ≠ i ∧ inc (zs.getD i (0, 0)).1 (zs.getD q (0, 0)).1 = true) → f_X11_isWider_l19 n Z m fu (nI i) (nI (tsN (zs.getD i (0, 0)).1)) (if w then 1 else 0) (nI j) g = some (if cont zs i = true then 1 else 0, g) := by
  have h32 := h.2.1
  have c416 : (416 : Int32).toNatClampNeg = 416 := by decide
  intro d
  induction d with
  | zero =>
    intro j fu w h1 h2 h3 h4
    obtain ⟨fu, rfl⟩ : ∃ q, fu = q + 1 := ⟨fu - 1, Nat.sub_add_cancel (Nat.lt_of_le_of_lt (Nat.zero_le _) h3) |>.symm⟩
    have hj : j = zs.length := Nat.le_antisymm h2 (Nat.le_of_sub_eq_zero h1.symm)
    subst hj
    have e : w = cont zs i := Bool.eq_iff_iff.mpr (h4.trans cont_iff.symm)
    unfold f_X11_isWider_l19
    rw [hM.f21, drf_s, grd_t hM.k21, hM.l21, grd_t (show inr (416 : Int32) 448 by decide), c416, h.1, if_pos ((nle (by clear h4; omega) (by clear h4; omega)).mpr (Nat.le_refl _)), grd_t (isz_01 w), e]
  | succ d ih =>
    intro j fu w h1 h2 h3
    obtain ⟨fu, rfl⟩ : ∃ q, fu = q + 1 := ⟨fu - 1, by omega⟩
    have hj : j < zs.length := by omega
    have o1 : d = zs.length - (j + 1) := by omega
    have o2 : j + 1 ≤ zs.length := by omega
    have o3 : d < fu := by omega
    have n1 : ¬ nI zs.length ≤ nI j := ge_n (by omega) hj
    have n2 : inr (nI (13312 + j)) 14336 := by rw [inr_eq (by omega)]; omega
    have n3 : (nI (13312 + j)).toNatClampNeg = 13312 + j := clamp (by omega)
    have l1 := tsN_lt (zs.getD i (0, 0)).1
    have l2 := tsN_lt (zs.getD j (0, 0)).1
    have hm1 := (m_mon h hj).1
    rw [show 32 * 416 = 13312 from rfl] at hm1
    have n4 : nI (tsN (zs.getD i (0, 0)).1) &&& nI (tsN (zs.getD j (0, 0)).1) = nI (tsN (zs.getD i (0, 0)).1 &&& tsN (zs.getD j (0, 0)).1) := and_n (by omega) (by omega)
    have l3 : tsN (zs.getD i (0, 0)).1 &&& tsN (zs.getD j (0, 0)).1 ≤ tsN (zs.getD i (0, 0)).1 := Nat.and_le_left
    have n5 : (nI (tsN (zs.getD i (0, 0)).1 &&& tsN (zs.getD j (0, 0)).1) = nI (tsN (zs.getD j (0, 0)).1)) ↔ inc (zs.getD i (0, 0)).1 (zs.getD j (0, 0)).1 = true := by
      rw [neq (by omega) (by omega)]; unfold inc; rw [beq_iff_eq]
    have n6 : j ≠ i → ¬ nI j = nI i := neI (by omega) (by omega)
    have oj : j < j + 1 := Nat.lt_succ_self j
    intro h4
    have up : (∃ q, q < j ∧ q ≠ i ∧ inc (zs.getD i (0, 0)).1 (zs.getD q (0, 0)).1 = true) → ∃ q, q < j + 1 ∧ q ≠ i ∧ inc (zs.getD i (0, 0)).1 (zs.getD q (0, 0)).1 = true := fun ⟨q, q1, q2⟩ => ⟨q, Nat.lt_succ_of_lt q1, q2⟩
    unfold f_X11_isWider_l19
    rw [hM.f21, drf_s, grd_t hM.k21, hM.l21, grd_t (show inr (416 : Int32) 448 by decide), c416, h.1, if_neg n1, hM.f22, drf_s, grd_t hM.k22, hM.l22, ix416, grd_t n2, n3, hm1, m_setOf hn, bnd_s, nI_1, n4]
    cases w with
    | true =>
      rw [if_pos rfl, if_neg i10]
      have := ih (j + 1) fu true o1 o2 o3 ⟨fun _ => up (h4.mp rfl), fun _ => rfl⟩
      rw [if_pos rfl] at this
      exact this
    | false =>
      have no : ¬ ∃ q, q < j ∧ q ≠ i ∧ inc (zs.getD i (0, 0)).1 (zs.getD q (0, 0)).1 = true := fun z => absurd (h4.mpr z) ff
      rw [if_neg ff, if_pos rfl]
      by_cases hji : j = i
      · rw [if_pos (by rw [hji])]
        have := ih (j + 1) fu false o1 o2 o3 ⟨fun z => absurd z ff, fun ⟨q, q1, q2, q3⟩ => by
          by_cases y : q = j
          · exact absurd (y.trans hji) q2
          · exact absurd ⟨q, Nat.lt_of_le_of_ne (Nat.le_of_lt_succ q1) y, q2, q3⟩ no⟩
        rw [if_neg ff] at this
        exact this
      · rw [if_neg (n6 hji)]
        by_cases q : inc (zs.getD i (0, 0)).1 (zs.getD j (0, 0)).1 = true
        · rw [if_pos (n5.mpr q)]
          have := ih (j + 1) fu true o1 o2 o3 ⟨fun _ => ⟨j, oj, hji, q⟩, fun _ => rfl⟩
          rw [if_pos rfl] at this
          exact this
        · rw [if_neg (fun z => q (n5.mp z))]
          have := ih (j + 1) fu false o1 o2 o3 ⟨fun z => absurd z ff, fun ⟨q', q1, q2, q3⟩ => by
            by_cases y : q' = j
            · rw [y] at q3; exact absurd q3 q
            · exact absurd ⟨q', Nat.lt_of_le_of_ne (Nat.le_of_lt_succ q1) y, q2, q3⟩ no⟩
          rw [if_neg ff] at this
          exact this
theorem m_wid {g : Mem} {i : Nat} {zs : Pol} (hn : 40 ≤ n) (hM : MZ Z m) (h : MIs g m 416 zs) (hi : i < zs.length) : f_X11_isWider n Z m (nI i) g = some (if cont zs i = true then 1 else 0, g) := by
  have h32 := h.2.1
  have hm1 := (m_mon h hi).1
  rw [show 32 * 416 = 13312 from rfl] at hm1
  unfold f_X11_isWider
  rw [grd_t hM.k, hM.f22, drf_s, grd_t hM.k22, hM.l22, ix416, grd_t (by rw [inr_eq (by omega)]; omega), clamp (by omega), hm1, m_setOf hn, bnd_s]
  have := m_wid19 (n := n) hn hM h hi zs.length 0 n false (by omega) (by omega) (by omega) ⟨fun z => absurd z ff, fun ⟨q, q1, _⟩ => absurd q1 (Nat.not_lt_zero _)⟩
  rw [if_neg ff] at this
  exact this
/-- compaction of the reference under way -/
def Kpm (g : Mem) (m : Nat) (zs : Pol) (j : Nat) : Prop := gI g (m + 15) 416 = nI zs.length ∧ (∀ i, i < zs.length → gI g (m + 18) i = if cont zs i = true then 1 else 0) ∧ (∀ i, i < (kpL zs j).length → gJ g (m + 16) (13312 + i) = ((kpL zs j).getD i (0, 0)).1) ∧ (∀ i, j ≤ i → i < zs.length → gJ g (m + 16) (13312 + i) = (zs.getD i (0, 0)).1) ∧ ∀ i, i < zs.length → gJ g (m + 17) (13312 + i) = 1
theorem kp_one2 {zs : Pol} (h : ∀ a ∈ zs, a.2 = 1) : ∀ j, j ≤ zs.length → ∀ a ∈ kpL zs j, a.2 = 1
  | 0, _, a, ha => absurd ha List.not_mem_nil
  | j + 1, hj, a, ha => by
    have ih := kp_one2 h j (by omega)
    unfold kpL at ha
    split at ha
    · exact ih a ha
    · rcases List.mem_append.mp ha with q | q
      · exact ih a q
      · rw [List.mem_singleton.mp q]; exact h _ (getD_mem (by omega))
theorem m_drop35 {zs : Pol} (hM : MZ Z m) (hl : zs.length ≤ 32) (h1s : ∀ a ∈ zs, a.2 = 1) : ∀ (d j fu : Nat) (g : Mem), d = zs.length - j → j ≤ zs.length → d < fu → Kpm g m zs j → ∃ g', f_X11_dropsWider_l35 n Z m fu (nI (kpL zs j).length) (nI j) g = some ((), g') ∧ MIs g' m 416 (kpL zs zs.length) ∧ Ch (pFm m) g g' := by
  have c416 : (416 : Int32).toNatClampNeg = 416 := by decide
  intro d
  induction d with
  | zero =>
    intro j fu g h1 h2 h3 h4
    obtain ⟨fu, rfl⟩ : ∃ q, fu = q + 1 := ⟨fu - 1, by omega⟩
    have hj : j = zs.length := by omega
    subst hj
    have hkl := kpL_len zs zs.length
    have hF : Ch (pFm m) g (sI g (m + 15) 416 (nI (kpL zs zs.length).length)) := Ch.rfl.sI (by unfold pFm; omega)
    refine ⟨sI g (m + 15) 416 (nI (kpL zs zs.length).length), ?_, ⟨by rw [gI_sI, if_pos ⟨rfl, rfl⟩], by omega, fun i hi => ?_⟩, hF⟩
    · unfold f_X11_dropsWider_l35
      rw [hM.f21, drf_s, grd_t hM.k21, hM.l21, grd_t (show inr (416 : Int32) 448 by decide)]
      simp only [c416]
      rw [h4.1, if_pos ((nle (by omega) (by omega)).mpr (Nat.le_refl _)), drf_s, grd_t hM.k21, hM.l21, grd_t (show inr (416 : Int32) 448 by decide)]
    · rw [show 32 * 416 = 13312 from rfl]
      refine ⟨h4.2.2.1 i hi, ?_⟩
      rw [kp_one2 h1s zs.length (Nat.le_refl _) _ (getD_mem hi)]
      exact h4.2.2.2.2 i (by omega)
  | succ d ih =>
    intro j fu g h1 h2 h3 h4
    obtain ⟨fu, rfl⟩ : ∃ q, fu = q + 1 := ⟨fu - 1, by omega⟩
    have hj : j < zs.length := by omega
    have hkl := kpL_len zs j
    unfold f_X11_dropsWider_l35
    rw [hM.f21, drf_s, grd_t hM.k21, hM.l21, grd_t (show inr (416 : Int32) 448 by decide)]
    simp only [c416]
    rw [h4.1, if_neg (ge_n (by omega) hj), hM.f27, drf_s, grd_t hM.k27, hM.l27, grd_t (by rw [inr_eq (by omega)]; omega), clamp (by omega), h4.2.1 j hj]
    by_cases q : cont zs j = true
    · have e : kpL zs (j + 1) = kpL zs j := by rw [kpL, if_pos q]
      rw [if_pos q, if_neg i10, nI_1, ← e]
      exact ih (j + 1) fu g (by omega) (by omega) (by omega) ⟨h4.1, h4.2.1, by rw [e]; exact h4.2.2.1, fun i i1 i2 => h4.2.2.2.1 i (by omega) i2, h4.2.2.2.2⟩
    · have e : kpL zs (j + 1) = kpL zs j ++ [zs.getD j (0, 0)] := by rw [kpL, if_neg q]
      have el : (kpL zs (j + 1)).length = (kpL zs j).length + 1 := by rw [e, List.length_append]; rfl
      have c1 := h4.2.2.2.1 j (Nat.le_refl _) hj
      rw [if_neg q, if_pos rfl, hM.f22, drf_s, drf_s, ix416, ix416, grd_t hM.k22, hM.l22, grd_t (by rw [inr_eq (by omega)]; omega), grd_t hM.k22, grd_t (by rw [inr_eq (by omega)]; omega), clamp (by omega), clamp (by omega), c1, nI_1, nI_1, ← el]
      have hF : Ch (pFm m) g (sJ g (m + 16) (13312 + (kpL zs j).length) (zs.getD j (0, 0)).1) := Ch.rfl.sJ (by unfold pFm; omega)
      have hK : Kpm (sJ g (m + 16) (13312 + (kpL zs j).length) (zs.getD j (0, 0)).1) m zs (j + 1) := by
        refine ⟨h4.1, h4.2.1, fun i hi => ?_, fun i i1 i2 => ?_, fun i hi => ?_⟩
        · rw [el] at hi
          by_cases w : i = (kpL zs j).length
          · have eg : (kpL zs (j + 1)).getD i (0, 0) = zs.getD j (0, 0) := by rw [e, w]; exact getD_append_right'
            rw [eg, gJ_sJ, if_pos ⟨rfl, by omega⟩]
          · have eg : (kpL zs (j + 1)).getD i (0, 0) = (kpL zs j).getD i (0, 0) := by rw [e]; exact getD_append_left' (by omega)
            rw [eg, gJ_sJ, if_neg (by omega)]
            exact h4.2.2.1 i (by omega)
        · rw [gJ_sJ, if_neg (by omega)]
          exact h4.2.2.2.1 i (by omega) i2
        · rw [gJ_sJ, if_neg (by omega)]
          exact h4.2.2.2.2 i hi
      obtain ⟨g', f1, f2, f3⟩ := ih (j + 1) fu _ (by omega) (by omega) (by omega) hK
      exact ⟨g', f1, f2, hF.trans f3⟩
theorem m_drop2 {zs : Pol} (hn : 40 ≤ n) (hM : MZ Z m) (hl : zs.length ≤ 32) : ∀ (d j fu : Nat) (g : Mem), d = zs.length - j → j ≤ zs.length → d < fu → MIs g m 416 zs → (∀ i, i < j → gI g (m + 18) i = if cont zs i = true then 1 else 0) → ∃ g', f_X11_dropsWider_l2 n Z m fu (nI j) g = f_X11_dropsWider_l35 n Z m n 0 0 g' ∧ MIs g' m 416 zs ∧ (∀ i, i < zs.length → gI g' (m + 18) i = if cont zs i = true then 1 else 0) ∧ Ch (pFm m) g g' := by
  have c416 : (416 : Int32).toNatClampNeg = 416 := by decide
  intro d
  induction d with
  | zero =>
    intro j fu g h1 h2 h3 h4 h5
    obtain ⟨fu, rfl⟩ : ∃ q, fu = q + 1 := ⟨fu - 1, by omega⟩
    have hj : j = zs.length := by omega
    subst hj
    refine ⟨g, ?_, h4, h5, Ch.rfl⟩
    rw [f_X11_dropsWider_l2, hM.f21, drf_s, grd_t hM.k21, hM.l21, grd_t (show inr (416 : Int32) 448 by decide), c416, h4.1, if_pos ((nle (by omega) (by omega)).mpr (Nat.le_refl _))]
  | succ d ih =>
    intro j fu g h1 h2 h3 h4 h5
    obtain ⟨fu, rfl⟩ : ∃ q, fu = q + 1 := ⟨fu - 1, by omega⟩
    have hj : j < zs.length := by omega
    have e0 : vp_nar .boolean (if cont zs j = true then (1 : Int32) else 0) = if cont zs j = true then 1 else 0 := by split <;> rfl
    rw [f_X11_dropsWider_l2, hM.f21, drf_s, grd_t hM.k21, hM.l21, grd_t (show inr (416 : Int32) 448 by decide), c416, h4.1, if_neg (ge_n (by omega) hj), hM.f27, drf_s, m_wid hn hM h4 hj, bnd_s, grd_t hM.k27, hM.l27, grd_t (by rw [inr_eq (by omega)]; omega), clamp (by omega), e0, nI_1]
    have hF : Ch (pFm m) g (sI g (m + 18) j (if cont zs j = true then 1 else 0)) := Ch.rfl.sI (by unfold pFm; omega)
    have h4' : MIs (sI g (m + 18) j (if cont zs j = true then 1 else 0)) m 416 zs := ⟨by rw [gI_sI, if_neg (by omega)]; exact h4.1, h4.2.1, h4.2.2⟩
    obtain ⟨g', f1, f2, f3, f4⟩ := ih (j + 1) fu _ (by omega) (by omega) (by omega) h4' fun i hi => by
      rw [gI_sI]
      by_cases w : i = j
      · rw [if_pos ⟨rfl, w⟩, w]
      · rw [if_neg (fun z => w z.2)]; exact h5 i (by omega)
    exact ⟨g', f1, f2, f3, hF.trans f4⟩
theorem m_drops {g : Mem} {zs : Pol} (hn : 40 ≤ n) (hM : MZ Z m) (h : MIs g m 416 zs) (h1s : ∀ a ∈ zs, a.2 = 1) : ∃ g', f_X11_dropsWider n Z m g = some ((), g') ∧ MIs g' m 416 (kpL zs zs.length) ∧ Ch (pFm m) g g' := by
  have h32 := h.2.1
  obtain ⟨g1, a1, a2, a3, a4⟩ := m_drop2 (n := n) hn hM h32 zs.length 0 n g (by omega) (by omega) (by omega) h (fun i hi => absurd hi (Nat.not_lt_zero _))
  have hK : Kpm g1 m zs 0 := ⟨a2.1, a3, fun i hi => absurd hi (Nat.not_lt_zero _), fun i _ hi => (a2.2.2 i hi).1, fun i hi => by rw [← h1s _ (getD_mem (d := (0, 0)) hi)]; exact (a2.2.2 i hi).2⟩
  obtain ⟨g2, b1, b2, b3⟩ := m_drop35 (n := n) hM h32 h1s zs.length 0 n g1 (by omega) (by omega) (by omega) hK
  refine ⟨g2, ?_, b2, a4.trans b3⟩
  unfold f_X11_dropsWider
  rw [grd_t hM.k]
  exact a1.trans b1
/-- the end of laysForm -/
theorem m_form88 {f : Nat} {zs : Pol} (hn : 40 ≤ n) (hM : MZ Z m) (hf : f < 5) (hl : zs.length ≤ 32) : ∀ (d j fu : Nat) (g : Mem), d = zs.length - j → j ≤ zs.length → d < fu → gI g (m + 15) 416 = nI zs.length → (∀ i, i < zs.length → gJ g (m + 16) (13312 + i) = (zs.getD i (0, 0)).1 ∧ gJ g (m + 17) (13312 + i) = if ¬ (f = 0 ∨ f = 2) ∧ i < j then 1 else (zs.getD i (0, 0)).2) → ∃ g', f_X11_laysForm_l88 n Z m fu (nI f) (nI j) g = some ((), g') ∧ MIs g' m 416 (if f = 4 then kpL (oneL zs) zs.length else if f = 0 ∨ f = 2 then zs else oneL zs) ∧ Ch (pFm m) g g' := by
  have c416 : (416 : Int32).toNatClampNeg = 416 := by decide
  intro d
  induction d with
  | zero =>
    intro j fu g h1 h2 h3 h4 h5
    obtain ⟨fu, rfl⟩ : ∃ q, fu = q + 1 := ⟨fu - 1, by omega⟩
    have hj : j = zs.length := by omega
    subst hj
    rw [f_X11_laysForm_l88, hM.f21, drf_s, grd_t hM.k21, hM.l21, grd_t (show inr (416 : Int32) 448 by decide), c416, h4, if_pos ((nle (by omega) (by omega)).mpr (Nat.le_refl _))]
    have hone : ¬ (f = 0 ∨ f = 2) → MIs g m 416 (oneL zs) := fun q => ⟨by rw [oneL_len]; exact h4, by rw [oneL_len]; exact hl, fun i hi => by
      rw [oneL_len] at hi
      obtain ⟨c1, c2⟩ := h5 i hi
      rw [if_pos ⟨q, hi⟩] at c2
      rw [show 32 * 416 = 13312 from rfl, oneL_get hi]; exact ⟨c1, c2⟩⟩
    by_cases q4 : f = 4
    · subst q4
      obtain ⟨g', b1, b2, b3⟩ := m_drops (n := n) hn hM (hone (by omega)) (fun a ha => by
        obtain ⟨x, x1, x2⟩ := List.mem_map.mp ha
        rw [← x2])
      rw [if_pos (show nI 4 = (4 : Int32) from rfl), b1, bnd_s, if_pos rfl]
      rw [oneL_len] at b2
      exact ⟨g', rfl, b2, b3⟩
    · rw [if_neg (show ¬ nI f = (4 : Int32) from neI (b := 4) (by omega) (by omega) q4), if_neg q4]
      refine ⟨g, rfl, ?_, Ch.rfl⟩
      by_cases q02 : f = 0 ∨ f = 2
      · rw [if_pos q02]
        exact ⟨h4, hl, fun i hi => by
          obtain ⟨c1, c2⟩ := h5 i hi
          rw [if_neg (fun z => z.1 q02)] at c2
          exact ⟨c1, c2⟩⟩
      · rw [if_neg q02]; exact hone q02
  | succ d ih =>
    intro j fu g h1 h2 h3 h4 h5
    obtain ⟨fu, rfl⟩ : ∃ q, fu = q + 1 := ⟨fu - 1, by omega⟩
    have hj : j < zs.length := by omega
    rw [f_X11_laysForm_l88, hM.f21, drf_s, grd_t hM.k21, hM.l21, grd_t (show inr (416 : Int32) 448 by decide), c416, h4, if_neg (ge_n (by omega) hj), hM.f23, drf_s, ix416]
    have hin : inr (nI (13312 + j)) 14336 := by rw [inr_eq (by omega)]; omega
    have step : ∀ x : Int64, x = (if ¬ (f = 0 ∨ f = 2) then 1 else (zs.getD j (0, 0)).2) → ∃ g', f_X11_laysForm_l88 n Z m fu (nI f) (nI (j + 1)) (sJ g (m + 17) (13312 + j) x) = some ((), g') ∧ MIs g' m 416 (if f = 4 then kpL (oneL zs) zs.length else if f = 0 ∨ f = 2 then zs else oneL zs) ∧ Ch (pFm m) g g' := fun x hx => by
      have hF : Ch (pFm m) g (sJ g (m + 17) (13312 + j) x) := Ch.rfl.sJ (by unfold pFm; omega)
      obtain ⟨g', f1, f2, f3⟩ := ih (j + 1) fu (sJ g (m + 17) (13312 + j) x) (by omega) (by omega) (by omega) h4 fun i hi => by
        obtain ⟨c1, c2⟩ := h5 i hi
        rw [gJ_sJ, gJ_sJ, if_neg (by omega)]
        refine ⟨c1, ?_⟩
        by_cases w : i = j
        · subst w
          rw [if_pos ⟨rfl, rfl⟩, hx]
          by_cases q02 : f = 0 ∨ f = 2
          · rw [if_neg (fun z => z q02), if_neg (fun z => z.1 q02)]
          · rw [if_pos q02, if_pos ⟨q02, by omega⟩]
        · rw [if_neg (by omega), c2]
          by_cases q02 : f = 0 ∨ f = 2
          · rw [if_neg (fun z => z.1 q02), if_neg (fun z => z.1 q02)]
          · by_cases y : i < j
            · rw [if_pos ⟨q02, y⟩, if_pos ⟨q02, by omega⟩]
            · rw [if_neg (fun z => y z.2), if_neg (fun z => by have := z.2; omega)]
      exact ⟨g', f1, f2, hF.trans f3⟩
    have same : (f = 0 ∨ f = 2) → ∃ g', f_X11_laysForm_l118 n Z (fun y0 y1 y => f_X11_laysForm_l88 n Z m fu y0 y1 y) m (nI f) (nI j) (nI (13312 + j)) (m + 17) g = some ((), g') ∧ MIs g' m 416 (if f = 4 then kpL (oneL zs) zs.length else if f = 0 ∨ f = 2 then zs else oneL zs) ∧ Ch (pFm m) g g' := fun q => by
      have c2 := (h5 j hj).2
      rw [if_neg (fun z => z.1 q)] at c2
      unfold f_X11_laysForm_l118
      rw [hM.f23, drf_s, grd_t hM.k23, hM.l23, ix416, grd_t hin, grd_t hM.k23, grd_t hin, clamp (by omega), c2, nI_1]
      exact step _ (by rw [if_neg (fun z => z q)])
    by_cases q0 : f = 0
    · rw [if_pos (show nI f = (0 : Int32) by rw [q0]; rfl)]
      exact same (Or.inl q0)
    · rw [if_neg (show ¬ nI f = (0 : Int32) from neI (b := 0) (by omega) (by omega) q0)]
      by_cases q2 : f = 2
      · rw [if_pos (show nI f = (2 : Int32) by rw [q2]; rfl)]
        exact same (Or.inr q2)
      · rw [if_neg (show ¬ nI f = (2 : Int32) from neI (b := 2) (by omega) (by omega) q2), grd_t hM.k23, hM.l23, grd_t hin, clamp (by omega), nI_1]
        exact step 1 (by rw [if_pos (by omega)])
theorem m_form24 {k f : Nat} {xs : Pol} (hn : 40 ≤ n) (hM : MZ Z m) (hk : k < 32) (hf : f < 5) : ∀ (d j fu : Nat) (g : Mem) (ys : Pol), d = xs.length - j → j ≤ xs.length → d < fu → MIs g m k xs → MIs g m 416 ys → ys.length ≤ j → ∃ g', f_X11_laysForm_l24 n Z m fu (nI k) (nI f) (nI j) g = f_X11_laysForm_l88 n Z m n (nI f) 0 g' ∧ MIs g' m 416 ((xs.drop j).foldl (addF f) ys) ∧ Ch (pFm m) g g' := by
  intro d
  induction d with
  | zero =>
    intro j fu g ys h1 h2 h3 h4 h5 h6
    obtain ⟨fu, rfl⟩ : ∃ q, fu = q + 1 := ⟨fu - 1, by omega⟩
    have h32 := h4.2.1
    have hj : j = xs.length := by omega
    subst hj
    refine ⟨g, ?_, by rw [fold_end]; exact h5, Ch.rfl⟩
    rw [f_X11_laysForm_l24, hM.f21, drf_s, grd_t hM.k21, hM.l21, grd_t (by rw [inr_eq (by omega)]; omega), clamp (by omega), h4.1, if_pos ((nle (by omega) (by omega)).mpr (Nat.le_refl _))]
  | succ d ih =>
    intro j fu g ys h1 h2 h3 h4 h5 h6
    obtain ⟨fu, rfl⟩ : ∃ q, fu = q + 1 := ⟨fu - 1, by omega⟩
    have h32 := h4.2.1
    have hj : j < xs.length := by omega
    have hin : inr (nI (32 * k + j)) 14336 := by rw [inr_eq (by omega)]; omega
    have step : ∀ x : Int64, x = mF f (xs.getD j (0, 0)).1 → ∃ g', f_X11_laysForm_l66 n Z (fun y0 y1 y2 y => f_X11_laysForm_l24 n Z m fu y0 y1 y2 y) m (nI k) (nI f) (nI j) x (0 : Int32) (13 : Int32) m g = f_X11_laysForm_l88 n Z m n (nI f) 0 g' ∧ MIs g' m 416 ((xs.drop j).foldl (addF f) ys) ∧ Ch (pFm m) g g' := fun x hx => by
      have hadd := madd_term (n := n) (ρ := 13) (r := 0) (mo := x) (f := (xs.getD j (0, 0)).2) hn hM (by omega) (by omega) h5
      have hE : pAdd ys x (xs.getD j (0, 0)).2 = some (addF f ys (xs.getD j (0, 0))) := by
        rw [pAdd_eq, if_pos (Or.inr (by omega)), hx]; rfl
      rw [hE] at hadd
      obtain ⟨g1, e1, e2, e3⟩ := hadd
      have e3 : Ch (pFm m) g g1 := e3.mono fun b j q => pT_Fm q
      have hle : (addF f ys (xs.getD j (0, 0))).length ≤ ys.length + 1 := pIns_le
      obtain ⟨g2, f1, f2, f3⟩ := ih (j + 1) fu g1 _ (by omega) (by omega) (by omega) (h4.chR hk e3 fun b j q => q) e2 (by omega)
      refine ⟨g2, ?_, by rw [fold_drop hj]; exact f2, e3.trans f3⟩
      unfold f_X11_laysForm_l66
      rw [hM.f23, drf_s, grd_t hM.k23, hM.l23, ix32, grd_t hin, clamp (by omega), (m_mon h4 hj).2, show f_X11_addsTerm n Z m (13 : Int32) (0 : Int32) x (xs.getD j (0, 0)).2 g = some ((), g1) from e1, bnd_s, nI_1]
      exact f1
    rw [f_X11_laysForm_l24, hM.f21, drf_s, grd_t hM.k21, hM.l21, grd_t (by rw [inr_eq (by omega)]; omega), clamp (by omega), h4.1, if_neg (ge_n (by omega) hj), hM.f22, drf_s, grd_t hM.k22, hM.l22, ix32, grd_t hin, clamp (by omega), (m_mon h4 hj).1]
    by_cases q : f < 2
    · rw [if_pos (show nI f ≤ (1 : Int32) from (nle (b := 1) (by omega) (by omega)).mpr (by omega))]
      exact step _ (by unfold mF; rw [if_pos q])
    · rw [if_neg (show ¬ nI f ≤ (1 : Int32) from fun z => by have := (nle (b := 1) (by omega) (by omega)).mp z; omega), m_flat hn, bnd_s]
      exact step _ (by unfold mF; rw [if_neg q])
theorem m_form {g : Mem} {k f : Nat} {xs : Pol} (hn : 40 ≤ n) (hM : MZ Z m) (hk : k < 32) (hf : f < 5) (h : MIs g m k xs) : ∃ g', f_X11_laysForm n Z m (nI k) (nI f) g = some ((), g') ∧ MIs g' m 416 (fin f xs) ∧ Ch (pFm m) g g' := by
  have h32 := h.2.1
  obtain ⟨g0, e0⟩ : ∃ g0, g0 = sI (sI (sI g (m + 13) 13 (1 : Int32)) (m + 15) 416 (0 : Int32)) m 25 (0 : Int32) := ⟨_, rfl⟩
  have F0 : Ch (pFm m) g g0 := by
    rw [e0]
    exact ((Ch.rfl.sI (by unfold pFm; omega)).sI (by unfold pFm; omega)).sI (by unfold pFm; omega)
  have k0 : MIs g0 m 416 [] := ⟨by rw [e0, gI_sI, if_neg (by omega), gI_sI, if_pos ⟨rfl, rfl⟩]; rfl, by decide, fun i hi => absurd hi (Nat.not_lt_zero _)⟩
  obtain ⟨g1, a1, a2, a3⟩ := m_form24 (n := n) hn hM hk hf xs.length 0 n g0 [] (by omega) (by omega) (by omega) (h.chR hk F0 fun b j q => q) k0 (Nat.le_refl _)
  have a2 : MIs g1 m 416 (frm f xs) := a2
  have hfl := a2.2.1
  obtain ⟨g2, b1, b2, b3⟩ := m_form88 (n := n) (f := f) hn hM hf hfl (frm f xs).length 0 n g1 (by omega) (by omega) (by omega) a2.1 (fun i hi => by
    rw [if_neg (fun z => by have := z.2; omega)]
    exact a2.2.2 i hi)
  refine ⟨g2, ?_, ?_, F0.trans (a3.trans b3)⟩
  · unfold f_X11_laysForm
    rw [grd_t hM.k, hM.f19, drf_s, grd_t hM.k19, hM.l19, grd_t (show inr (13 : Int32) 14 by decide), hM.f21, drf_s, grd_t hM.k21, hM.l21, grd_t (show inr (416 : Int32) 448 by decide), show (13 : Int32).toNatClampNeg = 13 by decide, show (416 : Int32).toNatClampNeg = 416 by decide, ← e0]
    exact a1.trans b1
  · unfold fin; exact b2
end MFORM

/-- how reading ends (the reference) -/
def MRd (f : Option (Int32 × Mem)) (g : Mem) (m len : Nat) (r : Nat × Option (List Nd × List Nd)) : Prop := ∃ g', Ch (pP m) g g' ∧ gI g' m 7 = nI r.1 ∧ match r.2 with
  | some x => SIs g' m x.2 ∧ f = some (if r.1 = len then 1 else 0, g')
  | none => f = some (0, g')
theorem MRd.pre {f : Option (Int32 × Mem)} {g g1 : Mem} {m len : Nat} {r : Nat × Option (List Nd × List Nd)} (h : MRd f g1 m len r) (hF : Ch (pP m) g g1) : MRd f g m len r := by
  obtain ⟨g', a, b⟩ := h
  exact ⟨g', hF.trans a, b⟩
theorem MRd.cong {f f' : Option (Int32 × Mem)} {g : Mem} {m len : Nat} {r : Nat × Option (List Nd × List Nd)} (h : MRd f g m len r) (e : f' = f) : MRd f' g m len r := e ▸ h
theorem mrd_fail {n : Nat} {Z : Zt} {m len p fu : Nat} {x1 : Int32} {g : Mem} (h : MFail g m p) : MRd (f_X11_reads_l22 n Z m (fu + 1) x1 g) g m len (p, none) := by
  refine ⟨g, Ch.rfl, h.1, ?_⟩
  show f_X11_reads_l22 n Z m (fu + 1) x1 g = some (0, g)
  rw [f_X11_reads_l22, if_pos h.2]
  unfold f_X11_reads_l59
  rw [if_pos h.2]
def OOk (O : List (Nd × Nat)) : Prop := ∀ e ∈ O, NOk e.1 ∧ e.2 < ar e.1.1
theorem mrd_l22 {n : Nat} {Z : Zt} {m len : Nat} {T : Nat → Nat} (hn : 100 ≤ n) (hZ : MZ Z m) (hT : TOk T len) : ∀ (f p fu : Nat) (w : Bool) (O : List (Nd × Nat)) (pre S : List Nd) (g : Mem), 62 ≤ f + p → f < fu → p ≤ len → MP g m len T p 1 O S → OOk O → S.length + O.length = pre.length → pre.length ≤ p → (w = false → pre.length < 60) → MRd (f_X11_reads_l22 n Z m fu (if w then 1 else 0) g) g m len (prun T f p w O pre S) := by
  have hl60 := hT.1
  intro f
  induction f with
  | zero => intro p fu w O pre S g hf hfu hp; omega
  | succ f ih =>
    intro p fu w O pre S g hf hfu hp h hO hso hpre hp6
    obtain ⟨fu, rfl⟩ : ∃ q, fu = q + 1 := ⟨fu - 1, by omega⟩
    obtain ⟨fu, rfl⟩ : ∃ q, fu = q + 1 := ⟨fu - 1, by omega⟩
    have h8 : ¬ gI g m 8 = 0 := by rw [h.2.2.2.1]; decide
    have h17 := h.2.2.2.2.2.2.2.1
    cases w with
    | false =>
      have hp6 := hp6 rfl
      have e0 : f_X11_reads_l22 n Z m (fu + 1 + 1) (if false = true then 1 else 0) g = bnd (f_X11_takesBegin n Z m g) fun r7 g8 => f_X11_reads_l22 n Z m (fu + 1) r7 g8 := by
        rw [f_X11_reads_l22, if_neg h8]
        rw [if_pos (show (if false = true then (1 : Int32) else 0) = 0 from rfl)]
        unfold f_X11_reads_l40
        rw [if_pos (show (if false = true then (1 : Int32) else 0) = 0 from rfl)]
      rw [e0]
      obtain ⟨r, g1, a1, a2, a3⟩ := mp_begin (n := n) (by omega) hZ hT h (by omega) (by omega) (by omega)
      rw [a1, bnd_s]
      refine MRd.pre ?_ a2
      show MRd _ _ _ _ (match phead T p with
        | (none, p') => (p', none)
        | (some nd, p') => if ar nd.1 = 0 then prun T f p' true O (pre ++ [nd]) (S ++ [nd]) else prun T f p' false ((nd, 0) :: O) (pre ++ [nd]) S)
      cases hph : phead T p with
      | mk r0 p' =>
        rw [hph] at a3
        cases r0 with
        | none => exact mrd_fail a3
        | some nd =>
          obtain ⟨k1, k2, k3, k4, k5⟩ := phead_len hT hph
          have hpl : (pre ++ [nd]).length = pre.length + 1 := by rw [List.length_append]; rfl
          have hsl : (S ++ [nd]).length = S.length + 1 := by rw [List.length_append]; rfl
          dsimp only at a3 ⊢
          by_cases ha : ar nd.1 = 0
          · rw [if_pos ha] at a3 ⊢
            rw [a3.1]
            exact ih p' (fu + 1) true O _ _ g1 (by omega) (by omega) k3 a3.2 hO (by rw [hsl, hpl]; omega) (by rw [hpl]; omega) (fun z => by cases z)
          · rw [if_neg ha] at a3 ⊢
            rw [if_neg ha] at k4
            rw [a3.1]
            have hown : 2 ≤ p' - p := by
              rcases ar_cases nd with e | e | e
              · omega
              · have : nd.1 ≠ 0 ∧ nd.1 ≠ 4 ∧ nd.1 ≠ 5 := ar1 e
                have : 4 ≤ own nd := by
                  unfold own
                  rw [if_neg this.1]
                  by_cases h3 : nd.1 = 3
                  · rw [if_pos h3]
                    rcases k1 with z | z | z | z | z | z <;> omega
                  · rw [if_neg h3, if_neg this.2.2]; omega
                omega
              · omega
            exact ih p' (fu + 1) false ((nd, 0) :: O) _ _ g1 (by omega) (by omega) k3 a3.2 (fun e he => by
              rcases List.mem_cons.mp he with z | z
              · subst z; exact ⟨k1, by show 0 < ar nd.1; omega⟩
              · exact hO e z) (by rw [hpl, List.length_cons]; omega) (by rw [hpl]; omega) (fun _ => by rw [hpl]; omega)
    | true =>
      cases O with
      | nil =>
        have h17 : gI g m 17 = 0 := h17
        show MRd _ _ _ _ (p, some (pre, S))
        refine ⟨g, Ch.rfl, h.2.1, ⟨h.2.2.2.2.2.1, h.2.2.2.2.2.2.1⟩, ?_⟩
        show f_X11_reads_l22 n Z m (fu + 1 + 1) 1 g = _
        rw [f_X11_reads_l22, if_neg h8, if_neg i10, if_pos h17]
        unfold f_X11_reads_l59
        rw [if_neg h8, h.2.1, h.1.1]
        by_cases hpl : p = len
        · rw [if_pos (by rw [hpl]), if_pos hpl]
        · rw [if_neg (fun z => hpl ((neq (by omega) (by omega)).mp z)), if_neg hpl]
      | cons e O =>
        obtain ⟨nd, k⟩ := e
        have h17 : gI g m 17 = nI (O.length + 1) := h17
        have hso : S.length + (O.length + 1) = pre.length := hso
        obtain ⟨hNk, hka⟩ := hO (nd, k) (List.mem_cons_self ..)
        have e0 : f_X11_reads_l22 n Z m (fu + 1 + 1) (if true = true then 1 else 0) g = bnd (f_X11_closes n Z m g) fun r7 g8 => f_X11_reads_l22 n Z m (fu + 1) r7 g8 := by
          show f_X11_reads_l22 n Z m (fu + 1 + 1) 1 g = _
          rw [f_X11_reads_l22, if_neg h8, if_neg i10, h17, if_neg (show ¬ nI (O.length + 1) = 0 from fun z => by have := (neq (b := 0) (by omega) (by omega)).mp z; omega)]
          unfold f_X11_reads_l40
          rw [if_neg i10]
        rw [e0]
        obtain ⟨r, g1, a1, a2, a3⟩ := mp_close (n := n) hZ hT h hNk (by omega) (by omega) (by omega) hka
        rw [a1, bnd_s]
        refine MRd.pre ?_ a2
        have hOr : OOk O := fun e he => hO e (List.mem_cons_of_mem _ he)
        show MRd _ _ _ _ (if ar nd.1 = 2 ∧ k = 0 then (if T p = 44 then prun T f (p + 1) false ((nd, 1) :: O) pre S else (p, none)) else (if T p = 41 then prun T f (p + 1) true O pre (S ++ [nd]) else (p, none)))
        by_cases hc : ar nd.1 = 2 ∧ k = 0
        · rw [if_pos hc] at a3 ⊢
          by_cases ht : T p = 44
          · rw [if_pos ht] at a3 ⊢
            have hpl := hT.in_ (k := p) (by omega)
            rw [a3.1]
            exact ih (p + 1) (fu + 1) false ((nd, 1) :: O) pre S g1 (by omega) (by omega) (by omega) a3.2 (fun e he => by
              rcases List.mem_cons.mp he with z | z
              · subst z; exact ⟨hNk, by show 1 < ar nd.1; omega⟩
              · exact hOr e z) (by rw [List.length_cons]; omega) (by omega) (fun _ => by omega)
          · rw [if_neg ht] at a3 ⊢
            exact mrd_fail a3
        · rw [if_neg hc] at a3 ⊢
          by_cases ht : T p = 41
          · rw [if_pos ht] at a3 ⊢
            have hpl := hT.in_ (k := p) (by omega)
            rw [a3.1]
            exact ih (p + 1) (fu + 1) true O pre (S ++ [nd]) g1 (by omega) (by omega) (by omega) a3.2 hOr (by rw [List.length_append]; simp only [List.length_singleton]; omega) (by omega) (fun z => by cases z)
          · rw [if_neg ht] at a3 ⊢
            exact mrd_fail a3
/-- reads -/
theorem m_reads {n : Nat} {Z : Zt} {m len : Nat} {T : Nat → Nat} {g : Mem} (hn : 100 ≤ n) (hZ : MZ Z m) (hT : TOk T len) (h : SrcIs g m len T) : MRd (f_X11_reads n Z m g) g m len (prunT T) := by
  obtain ⟨g0, hg0⟩ : ∃ g0, g0 = sI (sI (sI (sI g m 7 (0 : Int32)) m 8 (1 : Int32)) m 12 (0 : Int32)) m 17 (0 : Int32) := ⟨_, rfl⟩
  have hF : Ch (fun b j => b = m ∧ (j = 7 ∨ j = 8 ∨ j = 12 ∨ j = 17)) g g0 := by
    rw [hg0]
    exact (((Ch.rfl.sI ⟨rfl, by omega⟩).sI ⟨rfl, by omega⟩).sI ⟨rfl, by omega⟩).sI ⟨rfl, by omega⟩
  have hM : MP g0 m len T 0 1 [] [] := by
    refine ⟨h.ch hF ⟨by omega, fun j => by omega⟩, ?_, by omega, ?_, by omega, ?_, fun k hk => absurd hk (Nat.not_lt_zero _), ?_, trivial⟩
    · rw [hg0]; simp (disch := omega) only [gI_sI, if_pos, if_neg, true_and, and_true, and_self, ↓reduceIte]; rfl
    · rw [hg0]; simp (disch := omega) only [gI_sI, if_pos, if_neg, true_and, and_true, and_self, ↓reduceIte]; rfl
    · rw [hg0]; simp (disch := omega) only [gI_sI, if_pos, if_neg, true_and, and_true, and_self, ↓reduceIte]; rfl
    · rw [hg0]; simp (disch := omega) only [gI_sI, if_pos, if_neg, true_and, and_true, and_self, ↓reduceIte]; rfl
  refine MRd.pre ?_ (hF.mono fun b j q => by unfold pP; omega)
  refine (mrd_l22 (n := n) hn hZ hT 62 0 n false [] [] [] g0 (by omega) (by omega) (Nat.zero_le _) hM (fun e he => by cases he) rfl (Nat.le_refl _) (fun _ => by decide)).cong ?_
  unfold f_X11_reads
  rw [grd_t hZ.k, ← hg0]
  rfl
/-! the source is laid -/
theorem tt_l2 {n : Nat} {Z : Zt} {m len : Nat} {T : Nat → Nat} (hZ : MZ Z m) (hl : len ≤ 60) : ∀ (d k fu : Nat) (g : Mem), d = len - k → k ≤ len → d < fu → gI g m 4 = nI len → (∀ j, j < len → gI g (m + 3) j = nI (T j)) → (∀ j, j < k → gI g (m + 4) j = nI (T j)) → ∃ g', f_X11_takesText_l2 n Z m fu (nI k) g = some ((), g') ∧ SrcIs g' m len T ∧ Ch (fun b j => (b = m ∧ j = 6) ∨ b = m + 4) g g' := by
  intro d
  induction d with
  | zero =>
    intro k fu g hd hk hfu h1 h2 h3
    obtain ⟨fu, rfl⟩ : ∃ q, fu = q + 1 := ⟨fu - 1, by omega⟩
    have hke : k = len := by omega
    subst hke
    refine ⟨sI g m 6 (nI k), ?_, ⟨by rw [gI_sI, if_pos ⟨rfl, rfl⟩], fun j hj => by rw [gI_sI, if_neg (by omega)]; exact h3 j hj⟩, Ch.rfl.sI (Or.inl ⟨rfl, rfl⟩)⟩
    rw [f_X11_takesText_l2, h1, if_pos ((nle (by omega) (by omega)).mpr (Nat.le_refl _))]
  | succ d ih =>
    intro k fu g hd hk hfu h1 h2 h3
    obtain ⟨fu, rfl⟩ : ∃ q, fu = q + 1 := ⟨fu - 1, by omega⟩
    have hF : Ch (fun b j => (b = m ∧ j = 6) ∨ b = m + 4) g (sI g (m + 4) k (nI (T k))) := Ch.rfl.sI (Or.inr rfl)
    have hk2 := h2 k (by omega)
    obtain ⟨g', e, a, b⟩ := ih (k + 1) fu (sI g (m + 4) k (nI (T k))) (by omega) (by omega) (by omega) ((hF.i (by omega)).trans h1) (fun j hj => (hF.i (by omega)).trans (h2 j hj)) (fun j hj => by
      by_cases hjk : j = k
      · subst hjk; rw [gI_sI, if_pos ⟨rfl, rfl⟩]
      · rw [gI_sI, if_neg (by omega)]; exact h3 j (by omega))
    refine ⟨g', ?_, a, hF.trans b⟩
    rw [f_X11_takesText_l2, h1, if_neg (fun z => by have := (nle (by omega) (by omega)).mp z; omega)]
    simp (disch := omega) only [hZ.f5, hZ.k5, hZ.l5, hZ.f3, hZ.k3, hZ.l3, drf_s, grd_t, grd_true, inr_eq, clamp, hk2, nI_1]
    exact e
theorem m_takesText {n : Nat} {Z : Zt} {m len : Nat} {T : Nat → Nat} {g : Mem} (hn : 100 ≤ n) (hZ : MZ Z m) (hl : len ≤ 60) (h1 : gI g m 4 = nI len) (h2 : ∀ j, j < len → gI g (m + 3) j = nI (T j)) : ∃ g', f_X11_takesText n Z m g = some ((), g') ∧ SrcIs g' m len T ∧ Ch (fun b j => (b = m ∧ j = 6) ∨ b = m + 4) g g' := by
  obtain ⟨g', e, a, b⟩ := tt_l2 (n := n) hZ hl len 0 n g rfl (Nat.zero_le _) (by omega) h1 h2 fun j hj => by omega
  refine ⟨g', ?_, a, b⟩
  unfold f_X11_takesText
  rw [grd_t hZ.k]; exact e
theorem tq_l2 {n : Nat} {Z : Zt} {m : Nat} {b : Nat → Nat} (hZ : MZ Z m) (hl : b 84 ≤ 60) : ∀ (d k fu : Nat) (g : Mem), d = b 84 - k → k ≤ b 84 → d < fu → BIs g m b → (∀ j, j < k → gI g (m + 4) j = nI (b (85 + j))) → ∃ g', f_X11_takesQuery_l2 n Z m fu (nI k) g = some ((), g') ∧ SrcIs g' m (b 84) (fun k => b (85 + k)) ∧ Ch (fun b j => (b = m ∧ j = 6) ∨ b = m + 4) g g' := by
  have e84 : (84 : Int32).toNatClampNeg = 84 := by decide
  intro d
  induction d with
  | zero =>
    intro k fu g hd hk hfu h1 h3
    obtain ⟨fu, rfl⟩ : ∃ q, fu = q + 1 := ⟨fu - 1, by omega⟩
    have hke : k = b 84 := by omega
    subst hke
    have h84 := h1 84 (by omega)
    refine ⟨sI g m 6 (nI (b 84)), ?_, ⟨by rw [gI_sI, if_pos ⟨rfl, rfl⟩], fun j hj => by rw [gI_sI, if_neg (by omega)]; exact h3 j hj⟩, Ch.rfl.sI (Or.inl ⟨rfl, rfl⟩)⟩
    rw [f_X11_takesQuery_l2]
    simp (disch := omega) only [hZ.f0, hZ.k0, hZ.l0, drf_s, grd_t, grd_true, e84, h84, nle, if_pos]
    rw [grd_t (show inr (84 : Int32) 145 by decide), grd_t (show inr (84 : Int32) 145 by decide)]
  | succ d ih =>
    intro k fu g hd hk hfu h1 h3
    obtain ⟨fu, rfl⟩ : ∃ q, fu = q + 1 := ⟨fu - 1, by omega⟩
    have hF : Ch (fun b j => (b = m ∧ j = 6) ∨ b = m + 4) g (sI g (m + 4) k (nI (b (85 + k)))) := Ch.rfl.sI (Or.inr rfl)
    have h84 := h1 84 (by omega)
    have hk2 := h1 (85 + k) (by omega)
    have e85 : ((85 : Int32) + nI k) = nI (85 + k) := nI_add 85 k
    obtain ⟨g', e, a, c⟩ := ih (k + 1) fu (sI g (m + 4) k (nI (b (85 + k)))) (by omega) (by omega) (by omega) (h1.ch hF fun j => by omega) (fun j hj => by
      by_cases hjk : j = k
      · subst hjk; rw [gI_sI, if_pos ⟨rfl, rfl⟩]
      · rw [gI_sI, if_neg (by omega)]; exact h3 j (by omega))
    refine ⟨g', ?_, a, hF.trans c⟩
    rw [f_X11_takesQuery_l2]
    simp (disch := omega) only [hZ.f0, hZ.k0, hZ.l0, hZ.f5, hZ.k5, hZ.l5, drf_s, grd_t, grd_true, e84, h84, nle, if_neg, e85, inr_eq, clamp, hk2, nI_1]
    rw [grd_t (show inr (84 : Int32) 145 by decide)]
    exact e
theorem m_takesQuery {n : Nat} {Z : Zt} {m : Nat} {b : Nat → Nat} {g : Mem} (hn : 100 ≤ n) (hZ : MZ Z m) (hl : b 84 ≤ 60) (h1 : BIs g m b) : ∃ g', f_X11_takesQuery n Z m g = some ((), g') ∧ SrcIs g' m (b 84) (fun k => b (85 + k)) ∧ Ch (fun b j => (b = m ∧ j = 6) ∨ b = m + 4) g g' := by
  obtain ⟨g', e, a, c⟩ := tq_l2 (n := n) hZ hl (b 84) 0 n g rfl (Nat.zero_le _) (by omega) h1 fun j hj => by omega
  refine ⟨g', ?_, a, c⟩
  unfold f_X11_takesQuery
  rw [grd_t hZ.k]; exact e

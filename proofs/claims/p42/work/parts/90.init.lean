/-! THE CONSTRUCTORS -/
/-- nothing below q changes but fields from i of c -/
def ZR (c i q : Nat) (Z Z' : Zt) : Prop := ∀ b, b < q → zk Z' b = zk Z b ∧ zl Z' b = zl Z b ∧ ∀ j, b ≠ c ∨ j < i → zf Z' b j = zf Z b j
theorem ZR.rfl {c i q : Nat} {Z : Zt} : ZR c i q Z Z := fun _ _ => ⟨Eq.refl _, Eq.refl _, fun _ _ => Eq.refl _⟩
theorem ZR.trans {c i q q' i' : Nat} {Z Z1 Z2 : Zt} (h1 : ZR c i q Z Z1) (h2 : ZR c i' q' Z1 Z2) (hq : q ≤ q') (hi : i ≤ i') : ZR c i q Z Z2 := fun b hb => by
  obtain ⟨a1, a2, a3⟩ := h1 b hb
  obtain ⟨b1, b2, b3⟩ := h2 b (by omega)
  exact ⟨b1.trans a1, b2.trans a2, fun j hj => (b3 j (by omega)).trans (a3 j hj)⟩
theorem ZR.k {c i q b : Nat} {Z Z' : Zt} (h : ZR c i q Z Z') (hb : b < q) : zk Z' b = zk Z b := (h b hb).1
theorem ZR.l {c i q b : Nat} {Z Z' : Zt} (h : ZR c i q Z Z') (hb : b < q) : zl Z' b = zl Z b := (h b hb).2.1
theorem ZR.f {c i q b : Nat} {Z Z' : Zt} (h : ZR c i q Z Z') {j : Nat} (hb : b < q ∧ (b ≠ c ∨ j < i)) : zf Z' b j = zf Z b j := (h b hb.1).2.2 j hb.2
def ZB (q : Nat) (Z Z' : Zt) : Prop := ∀ b, b < q → zk Z' b = zk Z b ∧ zl Z' b = zl Z b ∧ ∀ j, zf Z' b j = zf Z b j
theorem ZB.r {c i q : Nat} {Z Z' : Zt} (h : ZB q Z Z') : ZR c i q Z Z' := fun b hb => ⟨(h b hb).1, (h b hb).2.1, fun j _ => (h b hb).2.2 j⟩
theorem ZB.trans {q q' : Nat} {Z Z1 Z2 : Zt} (h1 : ZB q Z Z1) (h2 : ZB q' Z1 Z2) (hq : q ≤ q') : ZB q Z Z2 := fun b hb => by
  obtain ⟨a1, a2, a3⟩ := h1 b hb
  obtain ⟨b1, b2, b3⟩ := h2 b (by omega)
  exact ⟨b1.trans a1, b2.trans a2, fun j => (b3 j).trans (a3 j)⟩
theorem ZB.nO {q k : Nat} {Z : Zt} : ZB q Z (nO Z q k) := fun b hb => ⟨by rw [zk_nO, if_neg (by omega)], rfl, fun j => by rw [zf_nO, if_neg (by omega)]⟩
theorem ZR.fZ {c i q f : Nat} {Z : Zt} {v : Option Nat} (hf : i ≤ f) : ZR c i q Z (fZ Z c f v) := fun b hb => ⟨Eq.refl _, Eq.refl _, fun j hj => by rw [zf_fZ, if_neg (by omega)]⟩
theorem LZ.mv {c i q a L : Nat} {Z Z' : Zt} (h : LZ Z a L) (hF : ZR c i q Z Z') (h1 : a + 2 ≤ q) (h2 : c < a) : LZ Z' a L := by
  unfold LZ at *
  simp (disch := omega) only [hF.k, hF.l, hF.f]
  exact h
theorem SZ.mv {c i q a : Nat} {Z Z' : Zt} (h : SZ Z a) (hF : ZR c i q Z Z') (h1 : a + 8 ≤ q) (h2 : c < a) : SZ Z' a := by
  refine ⟨?_, h.2.mv hF (by omega) (by omega)⟩
  have h := h.1
  unfold SZ0 at *
  simp (disch := omega) only [hF.k, hF.l, hF.f]
  exact h
theorem PZ.mv {c i q a : Nat} {Z Z' : Zt} (h : PZ Z a) (hF : ZR c i q Z Z') (h1 : a + 3 ≤ q) (h2 : c < a) : PZ Z' a := by
  unfold PZ at *
  simp (disch := omega) only [hF.k, hF.l, hF.f]
  exact h
theorem QZ.mv {c i q a : Nat} {Z Z' : Zt} (h : QZ Z a) (hF : ZR c i q Z Z') (h1 : a + 6 ≤ q) (h2 : c < a) : QZ Z' a := by
  unfold QZ at *
  simp (disch := omega) only [hF.k, hF.l, hF.f]
  exact h
theorem TZ.mv {c i q a : Nat} {Z Z' : Zt} (h : TZ Z a) (hF : ZR c i q Z Z') (h1 : a + 4 ≤ q) (h2 : c < a) : TZ Z' a := by
  unfold TZ at *
  simp (disch := omega) only [hF.k, hF.l, hF.f]
  exact h
theorem RZ.mv {c i q a : Nat} {Z Z' : Zt} (h : RZ Z a) (hF : ZR c i q Z Z') (h1 : a + 99 ≤ q) (h2 : c < a) : RZ Z' a := by
  refine ⟨?_, fun j hj => (h.2 j hj).mv hF (by omega) (by omega)⟩
  have h := h.1
  unfold RZ0 at *
  simp (disch := omega) only [hF.k, hF.l, hF.f]
  exact h
theorem HZ.mv {c i q a : Nat} {Z Z' : Zt} (h : HZ Z a) (hF : ZR c i q Z Z') (h1 : a + 34 ≤ q) (h2 : c < a) : HZ Z' a := by
  refine ⟨?_, fun j hj => (h.2 j hj).mv hF (by omega) (by omega)⟩
  have h := h.1
  unfold HZ0 at *
  simp (disch := omega) only [hF.k, hF.l, hF.f]
  exact h
theorem EZ.mv {c i q a : Nat} {Z Z' : Zt} (h : EZ Z a) (hF : ZR c i q Z Z') (h1 : a + 1388 ≤ q) (h2 : c < a) : EZ Z' a := by
  refine ⟨?_, fun j hj => (h.2 j hj).mv hF (by omega) (by omega)⟩
  have h := h.1
  unfold EZ0 at *
  simp (disch := omega) only [hF.k, hF.l, hF.f]
  exact h
theorem Fr.zr {lo hi : Nat} {g g' : Mem} {q : Nat} (h : Fr lo hi g g') (h1 : lo ≤ q) (h2 : q < hi) : Fr lo hi g (zr g' q) := fun b hb j => by
  obtain ⟨a1, a2, a3⟩ := h b hb j
  exact ⟨by rw [gI_zr, if_neg (by omega)]; exact a1, by rw [gJ_zr, if_neg (by omega)]; exact a2, by rw [gP_zr, if_neg (by omega)]; exact a3⟩
section INIT
variable {n : Nat} {Z : Zt} {g : Mem}
theorem i_X3 {a hs L : Nat} {x : Int32} (hh : hs = a + 1) (hk : zk Z a = 3) (h1 : (if x < (0 : Int32) then (0 : Int32) else x) = x) (h2 : ¬ x < 0) (h3 : x.toNatClampNeg = L) (h4 : L ≤ 65536) : ∃ Z' g', fi_X3 n L hs Z a x g = some (Z', g') ∧ LZ Z' a L ∧ ZB a Z Z' ∧ Fr (a + 1) (a + 2) g g' := by
  subst hh
  refine ⟨fZ (nA Z (a + 1 + 0) 11 L) a 0 (some (a + 1 + 0)), zr g (a + 1 + 0), ?_, ?_, ?_, Fr.zr Fr.rfl (by omega) (by omega)⟩
  · have e : zk (nA Z (a + 1 + 0) 11 L) a = 3 := by rw [zk_nA, if_neg (by omega)]; exact hk
    unfold fi_X3
    rw [h1, h3, grd_t ⟨h2, h4⟩, grd_t ⟨by omega, by omega⟩]
    simp only [nam]
    rw [grd_t e, grd_t ⟨trivial, by omega⟩]
  · unfold LZ
    simp (disch := omega) only [zk_fZ, zl_fZ, zf_fZ, zk_nA, zl_nA, zf_nA, if_pos, if_neg, Nat.add_zero, and_self, hk, ↓reduceIte, true_and, and_true]
  · intro b hb
    simp (disch := omega) only [zk_fZ, zl_fZ, zf_fZ, zk_nA, zl_nA, zf_nA, if_pos, if_neg, implies_true, and_self]
theorem i_X5 {a hs : Nat} (hh : hs = a + 1) (hk : zk Z a = 4) : ∃ Z' g', fi_X5 n hs Z a g = some (Z', g') ∧ PZ Z' a ∧ ZB a Z Z' ∧ Fr a (a + 3) g g' := by
  subst hh
  unfold fi_X5 nam
  simp (disch := omega) only [zk_fZ, zk_nA, if_neg, hk, grd_true, Nat.add_assoc, Nat.reduceAdd]
  refine ⟨_, _, Eq.refl _, ?_, ?_, Fr.zr (Fr.zr Fr.rfl (by omega) (by omega)) (by omega) (by omega)⟩
  · unfold PZ
    simp (disch := omega) only [zk_fZ, zl_fZ, zf_fZ, zk_nA, zl_nA, zf_nA, if_pos, if_neg, and_self, hk, ↓reduceIte, true_and, and_true]
  · intro b hb
    simp (disch := omega) only [zk_fZ, zl_fZ, zf_fZ, zk_nA, zl_nA, zf_nA, if_pos, if_neg, implies_true, and_self]
theorem i_X6 {a hs : Nat} (hh : hs = a + 1) (hk : zk Z a = 5) (hz : ∀ j, gI g a j = 0) : ∃ Z' g', fi_X6 n hs Z a g = some (Z', g') ∧ QZ Z' a ∧ (∀ j, gI g' a j = 0) ∧ ZB a Z Z' ∧ Fr a (a + 6) g g' := by
  subst hh
  unfold fi_X6 nam
  simp (disch := omega) only [zk_fZ, zk_nA, if_neg, hk, grd_true, Nat.add_assoc, Nat.reduceAdd]
  refine ⟨_, _, Eq.refl _, ?_, ?_, ?_, Fr.zr (Fr.zr (Fr.zr (Fr.zr (Fr.zr Fr.rfl (by omega) (by omega)) (by omega) (by omega)) (by omega) (by omega)) (by omega) (by omega)) (by omega) (by omega)⟩
  · unfold QZ
    simp (disch := omega) only [zk_fZ, zl_fZ, zf_fZ, zk_nA, zl_nA, zf_nA, if_pos, if_neg, and_self, hk, ↓reduceIte, true_and, and_true]
  · intro j
    simp (disch := omega) only [gI_zr, if_neg, hz]
  · intro b hb
    simp (disch := omega) only [zk_fZ, zl_fZ, zf_fZ, zk_nA, zl_nA, zf_nA, if_pos, if_neg, implies_true, and_self]
theorem i_X9 {a hs : Nat} (hh : hs = a + 1) (hk : zk Z a = 8) : ∃ Z' g', fi_X9 n hs Z a g = some (Z', g') ∧ TZ Z' a ∧ ZB a Z Z' ∧ Fr a (a + 4) g g' := by
  subst hh
  unfold fi_X9 nam
  simp (disch := omega) only [zk_fZ, zk_nA, if_neg, hk, grd_true, Nat.add_assoc, Nat.reduceAdd]
  refine ⟨_, _, Eq.refl _, ?_, ?_, Fr.zr (Fr.zr (Fr.zr Fr.rfl (by omega) (by omega)) (by omega) (by omega)) (by omega) (by omega)⟩
  · unfold TZ
    simp (disch := omega) only [zk_fZ, zl_fZ, zf_fZ, zk_nA, zl_nA, zf_nA, if_pos, if_neg, and_self, hk, ↓reduceIte, true_and, and_true]
  · intro b hb
    simp (disch := omega) only [zk_fZ, zl_fZ, zf_fZ, zk_nA, zl_nA, zf_nA, if_pos, if_neg, implies_true, and_self]
theorem i_l58 {a hs : Nat} (h1 : zk Z a = 7) (h2 : zf Z a 0 = some (a + 1)) (h3 : zk Z (a + 1) = 12) (h4 : zl Z (a + 1) = 4) : ∀ (d i fu : Nat) (g : Mem), d = 4 - i → i ≤ 4 → d < fu → (∀ t, t < i → gI g (a + 1) t = 2) → ∃ g', fi_X8_l58 n hs a fu (nI i) Z 7 130 g = some (Z, g') ∧ (∀ t, t < 4 → gI g' (a + 1) t = 2) ∧ Ch (fun b _ => b = a + 1) g g' := by
  intro d
  induction d with
  | zero =>
    intro i fu g e1 e2 e3 e4
    obtain ⟨fu, rfl⟩ : ∃ q, fu = q + 1 := ⟨fu - 1, by omega⟩
    have hi : i = 4 := by omega
    subst hi
    refine ⟨g, ?_, e4, Ch.rfl⟩
    unfold fi_X8_l58
    rw [if_pos (show (4 : Int32) ≤ nI 4 by decide), grd_t ⟨rfl, Nat.le_refl _⟩]
  | succ d ih =>
    intro i fu g e1 e2 e3 e4
    obtain ⟨fu, rfl⟩ : ∃ q, fu = q + 1 := ⟨fu - 1, by omega⟩
    have hi : i < 4 := by omega
    have hF : Ch (fun b _ => b = a + 1) g (sI g (a + 1) i 2) := Ch.sI Ch.rfl rfl
    obtain ⟨g', f1, f2, f3⟩ := ih (i + 1) fu (sI g (a + 1) i 2) (by omega) (by omega) (by omega) (fun t ht => by
      rw [gI_sI]
      by_cases q : t = i
      · subst q; rw [if_pos ⟨rfl, rfl⟩]
      · rw [if_neg (by omega)]; exact e4 t (by omega))
    refine ⟨g', ?_, f2, hF.trans f3⟩
    unfold fi_X8_l58
    rw [if_neg (show ¬ (4 : Int32) ≤ nI i from ge_n (N := 4) (by omega) hi), grd_t h1, h2, drf_s, grd_t h3, h4, grd_t (show inr (nI i) 4 by rw [inr_eq (by omega)]; exact hi), clamp (by omega), nI_1]
    exact f1
def St0 (g : Mem) (a : Nat) : Prop := (∀ t, t < 4 → gI g (a + 1) t = 2) ∧ gI g a 6 = 0 ∧ gI g a 7 = 0 ∧ gI g (a + 6) 1 = 0
theorem i_X8 {a hs : Nat} (hn : 40 ≤ n) (hh : hs = a + 1) (hk : zk Z a = 7) (hz : ∀ j, gI g a j = 0) : ∃ Z' g', fi_X8 n hs Z a g = some (Z', g') ∧ SZ Z' a ∧ St0 g' a ∧ ZB a Z Z' ∧ Fr a (a + 8) g g' := by
  subst hh
  unfold fi_X8 nam
  simp (disch := omega) only [zk_fZ, zk_nA, if_neg, hk, grd_true, Nat.add_assoc, Nat.reduceAdd]
  generalize hZa : fZ (nA _ (a + 5) 12 16) a 4 (some (a + 5)) = Za
  have k0 : ∀ b, zk Za b = if b = a + 5 then 12 else if b = a + 4 then 12 else if b = a + 3 then 12 else if b = a + 2 then 12 else if b = a + 1 then 12 else zk Z b := fun b => by rw [← hZa]; rfl
  have l0 : ∀ b, zl Za b = if b = a + 5 then 16 else if b = a + 4 then 16 else if b = a + 3 then 16 else if b = a + 2 then 16 else if b = a + 1 then 4 else zl Z b := fun b => by rw [← hZa]; rfl
  have f0 : ∀ b j, zf Za b j = if b = a ∧ j = 4 then some (a + 5) else if b = a ∧ j = 3 then some (a + 4) else if b = a ∧ j = 2 then some (a + 3) else if b = a ∧ j = 1 then some (a + 2) else if b = a ∧ j = 0 then some (a + 1) else zf Z b j := fun b j => by rw [← hZa]; rfl
  obtain ⟨Zb, gb, e1, e2, e3, e4⟩ := i_X3 (n := n) (Z := nO Za (a + 6) 2) (g := zr (zr (zr (zr (zr (zr g (a + 1)) (a + 2)) (a + 3)) (a + 4)) (a + 5)) (a + 6)) (a := a + 6) (hs := a + 7) (L := 60) (x := 60) rfl (by rw [zk_nO, if_pos rfl]) (by decide) (by decide) (by decide) (by decide)
  have hB : ZB (a + 6) Za Zb := ZB.trans ZB.nO e3 (Nat.le_refl _)
  have hza : zk Zb a = 7 := by rw [(hB a (by omega)).1, k0]; simp (disch := omega) only [if_neg, hk]
  rw [e1, bnd_s, grd_t hza]
  have R : ZR a 5 (a + 6) Za (fZ Zb a 5 (some (a + 6))) := ZR.trans hB.r (ZR.fZ (Nat.le_refl _)) (Nat.le_refl _) (Nat.le_refl _)
  have kk : ∀ b, b < a + 6 → zk (fZ Zb a 5 (some (a + 6))) b = zk Za b := fun b hb => R.k hb
  have ll : ∀ b, b < a + 6 → zl (fZ Zb a 5 (some (a + 6))) b = zl Za b := fun b hb => R.l hb
  have ff : ∀ b j, b < a + 6 ∧ (b ≠ a ∨ j < 5) → zf (fZ Zb a 5 (some (a + 6))) b j = zf Za b j := fun b j hb => R.f hb
  have hl : LZ (fZ Zb a 5 (some (a + 6))) (a + 6) 60 := e2.mv (c := a) (i := 5) (q := a + 8) (ZR.fZ (Nat.le_refl _)) (by omega) (by omega)
  have hS : SZ (fZ Zb a 5 (some (a + 6))) a := by
    refine ⟨?_, hl⟩
    unfold SZ0
    simp (disch := omega) only [kk, ll, ff, k0, l0, f0, if_pos, if_neg, hk, and_self, zf_fZ, ↓reduceIte, and_true, true_and]
  obtain ⟨g', q1, q2, q3⟩ := i_l58 (n := n) (hs := a + 1) (a := a) (Z := fZ Zb a 5 (some (a + 6))) hS.1.k hS.1.f0 hS.1.k0 hS.1.l0 4 0 n gb (by omega) (by omega) (by omega) (fun t ht => absurd ht (Nat.not_lt_zero _))
  have hg0 : Fr a (a + 8) g gb := (Fr.zr (Fr.zr (Fr.zr (Fr.zr (Fr.zr (Fr.zr Fr.rfl (by omega) (by omega)) (by omega) (by omega)) (by omega) (by omega)) (by omega) (by omega)) (by omega) (by omega)) (by omega) (by omega)).trans (e4.mono (by omega) (by omega))
  have z0 : ∀ j, gI g' a j = 0 := fun j => by
    rw [q3.i (by omega), e4.i (by omega)]
    simp (disch := omega) only [gI_zr, if_neg, hz]
  refine ⟨_, g', q1, hS, ⟨q2, z0 6, z0 7, ?_⟩, fun b hb => ?_, hg0.trans (q3.fr fun b j z => by omega)⟩
  · rw [q3.i (by omega), e4.i (by omega), gI_zr, if_pos rfl]
  · refine ⟨?_, ?_, fun j => ?_⟩
    · rw [kk b (by omega), k0]; simp (disch := omega) only [if_neg]
    · rw [ll b (by omega), l0]; simp (disch := omega) only [if_neg]
    · rw [ff b j (by omega), f0]; simp (disch := omega) only [if_neg]
end INIT

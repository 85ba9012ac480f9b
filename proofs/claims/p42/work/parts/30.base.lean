/-! THE PURE PART: rows of evaluation and of numbers -/
theorem grd_t {β : Type} {p : Prop} [Decidable p] {k : Option β} (h : p) : grd p k = k := if_pos h
theorem grd_true {β : Type} {i : Decidable True} {k : Option β} : @grd β True i k = k := if_pos trivial
theorem drf_s {β : Type} {a : Nat} {k : Nat → Option β} : drf (some a) k = k a := rfl
theorem bnd_s {α β : Type} {v : α} {g : Mem} {k : α → Mem → Option β} : bnd (some (v, g)) k = k v g := rfl
theorem nam_s {α β : Type} {v : α} {k : α → Option β} : nam v k = k v := rfl
theorem lit (n : Nat) : (OfNat.ofNat n : Int32) = nI (OfNat.ofNat n) := rfl
theorem clamp {n : Nat} (h : n < 2147483648) : (nI n).toNatClampNeg = n := nI_clamp h
theorem nlt {a b : Nat} (ha : a < 2147483648) (hb : b < 2147483648) : nI a < nI b ↔ a < b := nI_ltI ha hb
theorem nle {a b : Nat} (ha : a < 2147483648) (hb : b < 2147483648) : nI a ≤ nI b ↔ a ≤ b := nI_leI ha hb
theorem neq {a b : Nat} (ha : a < 2147483648) (hb : b < 2147483648) : nI a = nI b ↔ a = b := nI_eq ha hb
theorem nltL {a n : Nat} (ha : a < 2147483648) (hn : (OfNat.ofNat n : Nat) < 2147483648) : (nI a < (no_index (OfNat.ofNat n : Int32))) ↔ a < (OfNat.ofNat n : Nat) := nlt ha hn
theorem nleL {a n : Nat} (ha : a < 2147483648) (hn : (OfNat.ofNat n : Nat) < 2147483648) : (nI a ≤ (no_index (OfNat.ofNat n : Int32))) ↔ a ≤ (OfNat.ofNat n : Nat) := nle ha hn
theorem neqL {a n : Nat} (ha : a < 2147483648) (hn : (OfNat.ofNat n : Nat) < 2147483648) : (nI a = (no_index (OfNat.ofNat n : Int32))) ↔ a = (OfNat.ofNat n : Nat) := neq ha hn
theorem Lnlt {a n : Nat} (ha : a < 2147483648) (hn : (OfNat.ofNat n : Nat) < 2147483648) : ((no_index (OfNat.ofNat n : Int32)) < nI a) ↔ (OfNat.ofNat n : Nat) < a := nlt hn ha
theorem Lnle {a n : Nat} (ha : a < 2147483648) (hn : (OfNat.ofNat n : Nat) < 2147483648) : ((no_index (OfNat.ofNat n : Int32)) ≤ nI a) ↔ (OfNat.ofNat n : Nat) ≤ a := nle hn ha
theorem inr_n {k n : Nat} (h : k < n) (hn : n < 2147483648) : inr (nI k) n := ⟨fun q => nI_nlt (a := k) (b := 0) (Nat.zero_le _) (by omega) q, by rw [clamp (by omega)]; exact h⟩
theorem not_neg {k : Nat} (h : k < 2147483648) : (nI k < 0) = False := eq_false (fun q => nI_nlt (a := k) (b := 0) (Nat.zero_le _) h q)
theorem inr_eq {k n : Nat} (h : k < 2147483648) : inr (nI k) n = (k < n) := propext ⟨fun q => by have := q.2; rw [clamp h] at this; exact this, fun q => ⟨fun z => by rw [not_neg h] at z; exact z, by rw [clamp h]; exact q⟩⟩
theorem subN {a b : Nat} (h : b ≤ a) : nI a - nI b = nI (a - b) := pk_sub h
theorem m1N {k : Nat} (h : 0 < k) : nI k + (-1) = nI (k - 1) := by
  obtain ⟨j, rfl⟩ : ∃ j, k = j + 1 := ⟨k - 1, by omega⟩
  rw [pk_m1]; rfl
/-- what lies outside a stretch of addresses stays -/
def Fr (lo hi : Nat) (g g' : Mem) : Prop := ∀ b, (b < lo ∨ hi ≤ b) → ∀ j, gI g' b j = gI g b j ∧ gJ g' b j = gJ g b j ∧ gP g' b j = gP g b j
theorem Fr.rfl {lo hi : Nat} {g : Mem} : Fr lo hi g g := fun _ _ _ => ⟨Eq.refl _, Eq.refl _, Eq.refl _⟩
theorem Fr.trans {lo hi : Nat} {g g1 g2 : Mem} (h1 : Fr lo hi g g1) (h2 : Fr lo hi g1 g2) : Fr lo hi g g2 := fun b hb j =>
  ⟨(h2 b hb j).1.trans (h1 b hb j).1, (h2 b hb j).2.1.trans (h1 b hb j).2.1, (h2 b hb j).2.2.trans (h1 b hb j).2.2⟩
theorem Fr.mono {lo hi lo' hi' : Nat} {g g' : Mem} (h : Fr lo hi g g') (h1 : lo' ≤ lo) (h2 : hi ≤ hi') : Fr lo' hi' g g' := fun b hb j => h b (by omega) j
theorem Fr.i {lo hi : Nat} {g g' : Mem} (h : Fr lo hi g g') {b : Nat} (hb : b < lo ∨ hi ≤ b) (j : Nat) : gI g' b j = gI g b j := (h b hb j).1
theorem Fr.j {lo hi : Nat} {g g' : Mem} (h : Fr lo hi g g') {b : Nat} (hb : b < lo ∨ hi ≤ b) (j : Nat) : gJ g' b j = gJ g b j := (h b hb j).2.1
theorem Fr.p {lo hi : Nat} {g g' : Mem} (h : Fr lo hi g g') {b : Nat} (hb : b < lo ∨ hi ≤ b) (j : Nat) : gP g' b j = gP g b j := (h b hb j).2.2
theorem Fr.sI {lo hi : Nat} {g g' : Mem} {a k : Nat} {v : Int32} (h : Fr lo hi g g') (h1 : lo ≤ a) (h2 : a < hi) : Fr lo hi g (sI g' a k v) := fun b hb j => by
  have hba : ¬ b = a := by omega
  have := h b hb j
  simpa [gI_sI, gJ_sI, gP_sI, hba] using this
theorem Fr.sJ {lo hi : Nat} {g g' : Mem} {a k : Nat} {v : Int64} (h : Fr lo hi g g') (h1 : lo ≤ a) (h2 : a < hi) : Fr lo hi g (sJ g' a k v) := fun b hb j => by
  have hba : ¬ b = a := by omega
  have := h b hb j
  simpa [gI_sJ, gJ_sJ, gP_sJ, hba] using this
theorem Fr.sP {lo hi : Nat} {g g' : Mem} {a k : Nat} {v : Option Nat} (h : Fr lo hi g g') (h1 : lo ≤ a) (h2 : a < hi) : Fr lo hi g (sP g' a k v) := fun b hb j => by
  have hba : ¬ b = a := by omega
  have := h b hb j
  simpa [gI_sP, gJ_sP, gP_sP, hba] using this
/-- what lies outside some places stays -/
def Ch (P : Nat → Nat → Prop) (g g' : Mem) : Prop := ∀ b j, ¬ P b j → gI g' b j = gI g b j ∧ gJ g' b j = gJ g b j ∧ gP g' b j = gP g b j
theorem Ch.rfl {P : Nat → Nat → Prop} {g : Mem} : Ch P g g := fun _ _ _ => ⟨Eq.refl _, Eq.refl _, Eq.refl _⟩
theorem Ch.trans {P : Nat → Nat → Prop} {g g1 g2 : Mem} (h1 : Ch P g g1) (h2 : Ch P g1 g2) : Ch P g g2 := fun b j hb =>
  ⟨(h2 b j hb).1.trans (h1 b j hb).1, (h2 b j hb).2.1.trans (h1 b j hb).2.1, (h2 b j hb).2.2.trans (h1 b j hb).2.2⟩
theorem Ch.mono {P Q : Nat → Nat → Prop} {g g' : Mem} (h : Ch P g g') (hPQ : ∀ b j, P b j → Q b j) : Ch Q g g' := fun b j hb => h b j fun q => hb (hPQ b j q)
theorem Ch.i {P : Nat → Nat → Prop} {g g' : Mem} (h : Ch P g g') {b j : Nat} (hb : ¬ P b j) : gI g' b j = gI g b j := (h b j hb).1
theorem Ch.j {P : Nat → Nat → Prop} {g g' : Mem} (h : Ch P g g') {b j : Nat} (hb : ¬ P b j) : gJ g' b j = gJ g b j := (h b j hb).2.1
theorem Ch.p {P : Nat → Nat → Prop} {g g' : Mem} (h : Ch P g g') {b j : Nat} (hb : ¬ P b j) : gP g' b j = gP g b j := (h b j hb).2.2
theorem Ch.sI {P : Nat → Nat → Prop} {g g' : Mem} {a k : Nat} {v : Int32} (h : Ch P g g') (hp : P a k) : Ch P g (sI g' a k v) := fun b j hb => by
  have hba : ¬ (b = a ∧ j = k) := fun q => hb (q.1 ▸ q.2 ▸ hp)
  refine ⟨?_, (h b j hb).2.1, (h b j hb).2.2⟩
  rw [gI_sI, if_neg hba]; exact (h b j hb).1
theorem Ch.sJ {P : Nat → Nat → Prop} {g g' : Mem} {a k : Nat} {v : Int64} (h : Ch P g g') (hp : P a k) : Ch P g (sJ g' a k v) := fun b j hb => by
  have hba : ¬ (b = a ∧ j = k) := fun q => hb (q.1 ▸ q.2 ▸ hp)
  refine ⟨(h b j hb).1, ?_, (h b j hb).2.2⟩
  rw [gJ_sJ, if_neg hba]; exact (h b j hb).2.1
theorem Ch.sP {P : Nat → Nat → Prop} {g g' : Mem} {a k : Nat} {v : Option Nat} (h : Ch P g g') (hp : P a k) : Ch P g (sP g' a k v) := fun b j hb => by
  have hba : ¬ (b = a ∧ j = k) := fun q => hb (q.1 ▸ q.2 ▸ hp)
  refine ⟨(h b j hb).1, (h b j hb).2.1, ?_⟩
  rw [gP_sP, if_neg hba]; exact (h b j hb).2.2

/-! derivations, costs, trust, needed -/
def coS (b : Nat → Nat) (x : Int64) : Nat → Nat
  | 0 => 0
  | k + 1 => coS b x k + ex x k * b (6 + 5 * k)
def co (b : Nat → Nat) (x : Int64) : Nat := coS b x 16
theorem coS_le {b : Nat → Nat} (hB : BOk b) (x : Int64) : ∀ k, k ≤ 16 → coS b x k ≤ k * 14985
  | 0, _ => Nat.zero_le _
  | k + 1, hk => by
    have h1 := coS_le hB x k (by omega)
    have h2 := ex_lt x k
    have h3 := (hB.2.1 k (by omega)).2.2.1
    have h4 : ex x k * b (6 + 5 * k) ≤ 15 * 999 := Nat.mul_le_mul (by omega) h3
    unfold coS; omega
theorem co_lt {b : Nat → Nat} (hB : BOk b) (x : Int64) : co b x < 1000000 := by have := coS_le hB x 16 (Nat.le_refl _); unfold co; omega
theorem c_cost5 {n : Nat} {Z : Zt} {a : Nat} {b : Nat → Nat} {x : Int64} {g : Mem} (hB : BOk b) (hZ : SZ Z a) (hS : StIs g a b) : ∀ (d k fu : Nat), d = 16 - k → k ≤ 16 → d < fu → f_X8_costOfTerm_l5 n Z a fu x (nI (coS b x k)) (nI k) g = some (nI (co b x), g) := by
  intro d
  induction d with
  | zero =>
    intro k fu h1 h2 h3
    obtain ⟨fu, rfl⟩ : ∃ q, fu = q + 1 := ⟨fu - 1, by omega⟩
    have hk : k = 16 := by omega
    subst hk
    unfold f_X8_costOfTerm_l5
    rw [if_pos (show (16 : Int32) ≤ nI 16 by decide)]; rfl
  | succ d ih =>
    intro k fu h1 h2 h3
    obtain ⟨fu, rfl⟩ : ∃ q, fu = q + 1 := ⟨fu - 1, by omega⟩
    have hk : k < 16 := by omega
    unfold f_X8_costOfTerm_l5
    rw [if_neg (show ¬ (16 : Int32) ≤ nI k from ge_n (N := 16) (by omega) hk), c_power hk, bnd_s, s_cost hZ hS hk, bnd_s]
    have e : (if b (4 + 5 * k) = 0 then (0 : Int32) else nI (b (6 + 5 * k))) = nI (b (6 + 5 * k)) := by
      by_cases q : b (4 + 5 * k) = 0
      · rw [if_pos q, ((hB.2.1 k hk).2.2.2.2.2 q).2.1]; rfl
      · rw [if_neg q]
    rw [e, mIJ, nI_add, nI_1]
    exact ih (k + 1) fu (by omega) (by omega) (by omega)
theorem c_costT {n : Nat} {Z : Zt} {a : Nat} {b : Nat → Nat} {x : Int64} {g : Mem} (hn : 40 ≤ n) (hB : BOk b) (hZ : SZ Z a) (hS : StIs g a b) : f_X8_costOfTerm n Z a x g = some (nI (co b x), g) := by
  unfold f_X8_costOfTerm
  rw [grd_t hZ.1.k]
  exact c_cost5 hB hZ hS 16 0 n (by omega) (by omega) (by omega)
def trS (b : Nat → Nat) (x : Int64) : Nat → Nat
  | 0 => 100
  | k + 1 => if ex x k = 0 then trS b x k else min (b (7 + 5 * k)) (trS b x k)
def tr (b : Nat → Nat) (x : Int64) : Nat := trS b x 16
theorem trS_le {b : Nat → Nat} (x : Int64) : ∀ k, trS b x k ≤ 100
  | 0 => Nat.le_refl _
  | k + 1 => by have := trS_le (b := b) x k; unfold trS; split <;> omega
theorem c_tr6 {n : Nat} {Z : Zt} {a : Nat} {b : Nat → Nat} {x : Int64} {g : Mem} (hB : BOk b) (hZ : SZ Z a) (hS : StIs g a b) : ∀ (d k fu : Nat), d = 16 - k → k ≤ 16 → d < fu → f_X8_trustOfTerm_l6 n Z a fu x (nI (trS b x k)) (nI k) g = some (nI (tr b x), g) := by
  intro d
  induction d with
  | zero =>
    intro k fu h1 h2 h3
    obtain ⟨fu, rfl⟩ : ∃ q, fu = q + 1 := ⟨fu - 1, by omega⟩
    have hk : k = 16 := by omega
    subst hk
    unfold f_X8_trustOfTerm_l6
    rw [if_pos (show (16 : Int32) ≤ nI 16 by decide)]; rfl
  | succ d ih =>
    intro k fu h1 h2 h3
    obtain ⟨fu, rfl⟩ : ∃ q, fu = q + 1 := ⟨fu - 1, by omega⟩
    have hk : k < 16 := by omega
    have he := ex_lt x k
    have hl := trS_le (b := b) x k
    have h7 := (hB.2.1 k hk).2.2.2.1
    have IH := ih (k + 1) fu (by omega) (by omega) (by omega)
    unfold f_X8_trustOfTerm_l6
    rw [if_neg (show ¬ (16 : Int32) ≤ nI k from ge_n (N := 16) (by omega) hk), c_power hk, bnd_s]
    by_cases q0 : ex x k = 0
    · have e : trS b x (k + 1) = trS b x k := by rw [trS, if_pos q0]
      rw [q0, if_pos (show nI 0 ≤ (0 : Int32) by decide), nI_1, ← e]; exact IH
    · have e : trS b x (k + 1) = min (b (7 + 5 * k)) (trS b x k) := by rw [trS, if_neg q0]
      rw [if_neg (nI_nle (by omega) (by omega)), s_trust hZ hS hk, bnd_s, nI_1]
      have e7 : (if b (4 + 5 * k) = 0 then (0 : Int32) else nI (b (7 + 5 * k))) = nI (b (7 + 5 * k)) := by
        by_cases q : b (4 + 5 * k) = 0
        · rw [if_pos q, ((hB.2.1 k hk).2.2.2.2.2 q).2.2.1]; rfl
        · rw [if_neg q]
      rw [e7]
      have e8 : (if nI (b (7 + 5 * k)) < nI (trS b x k) then nI (b (7 + 5 * k)) else nI (trS b x k)) = nI (trS b x (k + 1)) := by
        rw [e]
        by_cases q : b (7 + 5 * k) < trS b x k
        · rw [if_pos ((nlt (by omega) (by omega)).mpr q), Nat.min_eq_left (by omega)]
        · rw [if_neg (fun z => q ((nlt (by omega) (by omega)).mp z)), Nat.min_eq_right (by omega)]
      rw [e8]; exact IH
theorem c_trT {n : Nat} {Z : Zt} {a : Nat} {b : Nat → Nat} {x : Int64} {g : Mem} (hn : 40 ≤ n) (hB : BOk b) (hZ : SZ Z a) (hS : StIs g a b) : f_X8_trustOfTerm n Z a x g = some (nI (tr b x), g) := by
  unfold f_X8_trustOfTerm
  rw [grd_t hZ.1.k]
  exact c_tr6 hB hZ hS 16 0 n (by omega) (by omega) (by omega)
theorem fold_drop {α : Type} {xs : Pol} {f : α → Int64 × Int64 → α} {s : α} {j : Nat} (hj : j < xs.length) : (xs.drop j).foldl f s = (xs.drop (j + 1)).foldl f (f s (xs.getD j (0, 0))) := by
  rw [drop_cons (0, 0) hj]; rfl
theorem fold_end {α : Type} {xs : Pol} {f : α → Int64 × Int64 → α} {s : α} : (xs.drop xs.length).foldl f s = s := by rw [List.drop_length]; rfl
theorem fold_fav {α : Type} {p : Nat → Bool} {xs : Pol} {f : α → Int64 × Int64 → α} {s : α} : (fav p xs).foldl f s = xs.foldl (fun s a => if avl p a.1 = true then f s a else s) s := by
  unfold fav; rw [List.foldl_filter]
theorem fav_prs {p : Nat → Bool} {xs : Pol} : prs p xs = true ↔ fav p xs ≠ [] := by
  unfold prs fav
  rw [List.any_eq_true]
  constructor
  · rintro ⟨a, a1, a2⟩ z
    have : a ∈ xs.filter fun a => avl p a.1 := List.mem_filter.mpr ⟨a1, a2⟩
    rw [z] at this; cases this
  · intro h
    obtain ⟨a, ha⟩ := List.exists_mem_of_ne_nil _ h
    obtain ⟨a1, a2⟩ := List.mem_filter.mp ha
    exact ⟨a, a1, a2⟩
section EVAL
variable {n : Nat} {Z : Zt} {c m : Nat} {g : Mem}
def sumF (s : Int64) (a : Int64 × Int64) : Int64 := s + a.2
theorem c_der17 {ys : Pol} (hC : CZ Z c) (h : PIs g (c + 1455) ys) : ∀ (d j fu : Nat) (s : Int64), d = ys.length - j → j ≤ ys.length → d < fu → f_X10_derivations_l17 n Z c fu s (nI j) g = some ((ys.drop j).foldl sumF s, g) := by
  have h32 := h.2.1
  intro d
  induction d with
  | zero =>
    intro j fu s h1 h2 h3
    obtain ⟨fu, rfl⟩ : ∃ q, fu = q + 1 := ⟨fu - 1, by omega⟩
    have hj : j = ys.length := by omega
    subst hj
    unfold f_X10_derivations_l17
    rw [hC.f8, drf_s, p_size hC.sh h, bnd_s, if_pos ((nle (by omega) (by omega)).mpr (Nat.le_refl _)), fold_end]
  | succ d ih =>
    intro j fu s h1 h2 h3
    obtain ⟨fu, rfl⟩ : ∃ q, fu = q + 1 := ⟨fu - 1, by omega⟩
    have hj : j < ys.length := by omega
    unfold f_X10_derivations_l17
    rw [hC.f8, drf_s, p_size hC.sh h, bnd_s, if_neg (ge_n (by omega) hj), drf_s, p_fact hC.sh h hj, bnd_s, nI_1, ih (j + 1) fu _ (by omega) (by omega) (by omega), fold_drop hj]
    rfl
/-! the cheapest term -/
def chF (b : Nat → Nat) (s : Option Int64) (a : Int64 × Int64) : Option Int64 := match s with
  | none => some a.1
  | some x => some (if co b a.1 < co b x then a.1 else x)
theorem c_ch20 {b : Nat → Nat} {ys : Pol} (hn : 40 ≤ n) (hB : BOk b) (hC : CZ Z c) (hS : StIs g (c + 1) b) (h : PIs g (c + 1455) ys) : ∀ (d j fu i : Nat), d = ys.length - j → j ≤ ys.length → d < fu → i < ys.length → ∃ i', i' < ys.length ∧ f_X10_cheapestShown_l20 n Z c fu (nI i) (nI (co b (ys.getD i (0, 0)).1)) (nI j) g = some (nI i', g) ∧ (ys.drop j).foldl (chF b) (some (ys.getD i (0, 0)).1) = some (ys.getD i' (0, 0)).1 := by
  have h32 := h.2.1
  intro d
  induction d with
  | zero =>
    intro j fu i h1 h2 h3 hi
    obtain ⟨fu, rfl⟩ : ∃ q, fu = q + 1 := ⟨fu - 1, by omega⟩
    have hj : j = ys.length := by omega
    subst hj
    refine ⟨i, hi, ?_, fold_end⟩
    unfold f_X10_cheapestShown_l20
    rw [hC.f8, drf_s, p_size hC.sh h, bnd_s, if_pos ((nle (by omega) (by omega)).mpr (Nat.le_refl _))]
  | succ d ih =>
    intro j fu i h1 h2 h3 hi
    obtain ⟨fu, rfl⟩ : ∃ q, fu = q + 1 := ⟨fu - 1, by omega⟩
    have hj : j < ys.length := by omega
    have l1 := co_lt hB (ys.getD i (0, 0)).1
    have l2 := co_lt hB (ys.getD j (0, 0)).1
    unfold f_X10_cheapestShown_l20
    rw [hC.f8, drf_s, p_size hC.sh h, bnd_s, if_neg (ge_n (by omega) hj), hC.f0, drf_s, drf_s, p_mono hC.sh h hj, bnd_s, c_costT hn hB hC.st hS, bnd_s, fold_drop hj, nI_1]
    by_cases q : co b (ys.getD j (0, 0)).1 < co b (ys.getD i (0, 0)).1
    · rw [if_neg (ge_n (by omega) q)]
      have e : chF b (some (ys.getD i (0, 0)).1) (ys.getD j (0, 0)) = some (ys.getD j (0, 0)).1 := by show some (if _ then _ else _) = _; rw [if_pos q]
      rw [e]
      exact ih (j + 1) fu j (by omega) (by omega) (by omega) hj
    · rw [if_pos ((nle (by omega) (by omega)).mpr (by omega))]
      have e : chF b (some (ys.getD i (0, 0)).1) (ys.getD j (0, 0)) = some (ys.getD i (0, 0)).1 := by show some (if _ then _ else _) = _; rw [if_neg q]
      rw [e]
      exact ih (j + 1) fu i (by omega) (by omega) (by omega) hi
theorem c_ch {b : Nat → Nat} {ys : Pol} (hn : 40 ≤ n) (hB : BOk b) (hC : CZ Z c) (hS : StIs g (c + 1) b) (h : PIs g (c + 1455) ys) (h0 : 0 < ys.length) : ∃ i, i < ys.length ∧ f_X10_cheapestShown n Z c g = some (nI i, g) ∧ ys.foldl (chF b) none = some (ys.getD i (0, 0)).1 := by
  have h32 := h.2.1
  obtain ⟨i, h1, h2, h3⟩ := c_ch20 (n := n) hn hB hC hS h _ 1 n 0 rfl (by omega) (by omega) h0
  refine ⟨i, h1, ?_, ?_⟩
  · unfold f_X10_cheapestShown
    rw [grd_t hC.k, hC.f0, drf_s, hC.f8, drf_s, show f_X5_monomialAt n Z (c + 1455) (0 : Int32) g = _ from p_mono hC.sh h h0, bnd_s, c_costT hn hB hC.st hS, bnd_s]
    exact h2
  · have := fold_drop (f := chF b) (s := none) h0
    rw [List.drop_zero] at this
    rw [this]; exact h3
theorem ni6 {i : Nat} (h : i < 32) : ¬ nI i = (-6 : Int32) := by
  have H : ∀ q : Fin 32, ¬ nI q.1 = (-6 : Int32) := by decide +kernel
  exact H ⟨i, h⟩
def lsI (b : Nat → Nat) (xs : Pol) : Option Nat → Int32
  | none => 0
  | some i => nI (co b (xs.getD i (0, 0)).1)
theorem chF_some {b : Nat → Nat} : ∀ {ys : Pol} {x : Int64}, ∃ y, ys.foldl (chF b) (some x) = some y
  | [], x => ⟨x, rfl⟩
  | a :: ys, x => by
    show ∃ y, ys.foldl (chF b) (chF b (some x) a) = some y
    exact chF_some
/-- both find the cheapest term -/
theorem ch_agree {ys xs : Pol} {b : Nat → Nat} {i : Nat} {o : Option Nat} (h1 : ys.foldl (chF b) none = some (ys.getD i (0, 0)).1) (h2 : ys.foldl (chF b) none = o.map fun i => (xs.getD i (0, 0)).1) : ∃ j, o = some j ∧ (xs.getD j (0, 0)).1 = (ys.getD i (0, 0)).1 := by
  rw [h1] at h2
  cases o with
  | none => cases h2
  | some j => exact ⟨j, rfl, (Option.some.inj h2).symm⟩
end EVAL

/-! WHAT AN ANSWER HOLDS: degrees, tags, coefficients -/
def sumE (x : Int64) : Nat → Nat
  | 0 => 0
  | k + 1 => sumE x k + ex x k
theorem ex_le_sum (x : Int64) {t : Nat} : ∀ k, t < k → ex x t ≤ sumE x k
  | 0, h => absurd h (Nat.not_lt_zero _)
  | k + 1, h => by
    unfold sumE
    by_cases q : t = k
    · subst q; omega
    · have := ex_le_sum x k (show t < k by omega); omega
theorem sumE_add {x y : Int64} (h : ∀ t, t < 16 → ex x t + ex y t < 16) : ∀ k, k ≤ 16 → sumE (x + y) k = sumE x k + sumE y k
  | 0, _ => rfl
  | k + 1, hk => by
    unfold sumE
    rw [sumE_add h k (by omega), ex_add h k (by omega)]; omega
def TG (b : Nat → Nat) (D : Nat) (x : Int64) : Prop := sumE x 16 ≤ D ∧ (∀ t, t < 16 → ex x t ≠ 0 → b (4 + 5 * t) ≠ 0) ∧ 1 ≤ sumE x 16
theorem TG.add {b : Nat → Nat} {D E : Nat} {x y : Int64} (h : TG b D x) (h' : TG b E y) (hD : D + E ≤ 15) : TG b (D + E) (x + y) := by
  have hs : ∀ t, t < 16 → ex x t + ex y t < 16 := fun t ht => by
    have := ex_le_sum x 16 ht
    have := ex_le_sum y 16 ht
    have := h.1
    have := h'.1
    omega
  refine ⟨by rw [sumE_add hs 16 (by omega)]; have := h.1; have := h'.1; omega, fun t ht z => ?_, by rw [sumE_add hs 16 (by omega)]; have := h.2.2; omega⟩
  rw [ex_add hs t ht] at z
  by_cases q : ex x t = 0
  · exact h'.2.1 t ht (by omega)
  · exact h.2.1 t ht q
theorem TG.mono {b : Nat → Nat} {D E : Nat} {x : Int64} (h : TG b D x) (hD : D ≤ E) : TG b E x := ⟨Nat.le_trans h.1 hD, h.2⟩
theorem tag_sum : ∀ k : Fin 16, sumE (tagM k.1) 16 = 1 := by decide +kernel
theorem TG.tag {b : Nat → Nat} {t : Nat} (ht : t < 16) (h : b (4 + 5 * t) ≠ 0) : TG b 1 (tagM t) := by
  refine ⟨Nat.le_of_eq (tag_sum ⟨t, ht⟩), fun s hs z => ?_, Nat.le_of_eq (tag_sum ⟨t, ht⟩).symm⟩
  have := ex_tag ⟨t, ht⟩ ⟨s, hs⟩
  dsimp only at this
  rw [this] at z
  by_cases q : s = t
  · rw [q]; exact h
  · rw [if_neg q] at z; exact absurd rfl z
/-! weights -/
def wP : Pol → Nat
  | [] => 0
  | a :: p => uN a.2 + wP p
def wL : Rws → Nat
  | [] => 0
  | x :: L => wP x.2 + wL L
def CP1 (p : Pol) : Prop := ∀ a ∈ p, 1 ≤ uN a.2
def CL1 (L : Rws) : Prop := ∀ x ∈ L, CP1 x.2
theorem uN_add {x y : Int64} (h : uN x + uN y < 2 ^ 64) : uN (x + y) = uN x + uN y := by
  unfold uN at *; rw [Int64.toBitVec_add, BitVec.toNat_add, Nat.mod_eq_of_lt h]
theorem uN_mul {x y : Int64} (h : uN x * uN y < 2 ^ 64) : uN (x * y) = uN x * uN y := by
  unfold uN at *; rw [Int64.toBitVec_mul, BitVec.toNat_mul, Nat.mod_eq_of_lt h]
theorem wP_app : ∀ A B : Pol, wP (A ++ B) = wP A + wP B
  | [], B => by simp [wP]
  | a :: A, B => by show uN a.2 + wP (A ++ B) = uN a.2 + wP A + wP B; rw [wP_app A B]; omega
theorem wL_app : ∀ A B : Rws, wL (A ++ B) = wL A + wL B
  | [], B => by simp [wL]
  | a :: A, B => by show wP a.2 + wL (A ++ B) = wP a.2 + wL A + wL B; rw [wL_app A B]; omega
theorem wP_mem {a : Int64 × Int64} : ∀ {p : Pol}, a ∈ p → uN a.2 ≤ wP p
  | x :: p, h => by
    rcases List.mem_cons.mp h with e | e
    · rw [e]; show _ ≤ uN x.2 + wP p; omega
    · have := wP_mem e; show _ ≤ uN x.2 + wP p; omega
theorem wL_mem {x : Nat × Pol} : ∀ {L : Rws}, x ∈ L → wP x.2 ≤ wL L
  | y :: L, h => by
    rcases List.mem_cons.mp h with e | e
    · rw [e]; show _ ≤ wP y.2 + wL L; omega
    · have := wL_mem e; show _ ≤ wP y.2 + wL L; omega
theorem wP_ins {m f : Int64} : ∀ {xs : Pol}, wP xs + uN f < 2 ^ 64 → CP1 xs → 1 ≤ uN f → wP (pIns m f xs) = wP xs + uN f ∧ CP1 (pIns m f xs)
  | [], h, h1, h2 => by
    refine ⟨by show uN f + 0 = 0 + uN f; omega, fun a ha => ?_⟩
    rw [List.mem_singleton.mp ha]; exact h2
  | x :: xs, h, h1, h2 => by
    have h : uN x.2 + wP xs + uN f < 2 ^ 64 := h
    have hx := h1 x (List.mem_cons_self ..)
    have hxs : CP1 xs := fun a ha => h1 a (List.mem_cons_of_mem _ ha)
    rw [pIns]
    by_cases q : uN m < uN x.1
    · rw [if_pos q]
      obtain ⟨i1, i2⟩ := wP_ins (m := m) (f := f) (xs := xs) (by omega) hxs h2
      refine ⟨by show uN x.2 + wP (pIns m f xs) = uN x.2 + wP xs + uN f; rw [i1]; omega, fun a ha => ?_⟩
      rcases List.mem_cons.mp ha with e | e
      · rw [e]; exact hx
      · exact i2 a e
    · rw [if_neg q]
      by_cases w : x.1 = m
      · rw [if_pos w]
        have e1 := uN_add (x := x.2) (y := f) (by omega)
        refine ⟨by show uN (x.2 + f) + wP xs = uN x.2 + wP xs + uN f; rw [e1]; omega, fun a ha => ?_⟩
        rcases List.mem_cons.mp ha with e | e
        · rw [e]; show 1 ≤ uN (x.2 + f); omega
        · exact hxs a e
      · rw [if_neg w]
        refine ⟨by show uN f + (uN x.2 + wP xs) = uN x.2 + wP xs + uN f; omega, fun a ha => ?_⟩
        rcases List.mem_cons.mp ha with e | e
        · rw [e]; exact h2
        · exact h1 a e
theorem wP_addL : ∀ {ys xs zs : Pol}, wP xs + wP ys < 2 ^ 64 → CP1 xs → CP1 ys → pAddL xs ys = some zs → wP zs = wP xs + wP ys ∧ CP1 zs
  | [], xs, zs, h, h1, h2, e => by cases e; exact ⟨by simp [wP], h1⟩
  | y :: ys, xs, zs, h, h1, h2, e => by
    have h : wP xs + (uN y.2 + wP ys) < 2 ^ 64 := h
    rw [pAddL, pAdd_eq] at e
    by_cases q : phas y.1 xs ∨ xs.length < 32
    · rw [if_pos q] at e
      obtain ⟨i1, i2⟩ := wP_ins (m := y.1) (f := y.2) (xs := xs) (by omega) h1 (h2 y (List.mem_cons_self ..))
      obtain ⟨j1, j2⟩ := wP_addL (ys := ys) (xs := pIns y.1 y.2 xs) (by omega) i2 (fun a ha => h2 a (List.mem_cons_of_mem _ ha)) e
      exact ⟨by show wP zs = wP xs + (uN y.2 + wP ys); omega, j2⟩
    · rw [if_neg q] at e; cases e
theorem CP1.nil : CP1 [] := fun a ha => absurd ha List.not_mem_nil
theorem wL_ins {K : Nat} {ys : Pol} (hy : CP1 ys) : ∀ {rows r : Rws}, wL rows + wP ys < 2 ^ 64 → CL1 rows → rIns K ys rows = some r → wL r = wL rows + wP ys ∧ CL1 r
  | [], r, h, h1, e => by
    rw [rIns] at e
    cases hz : pAddL [] ys with
    | none => rw [hz] at e; cases e
    | some z =>
      rw [hz] at e; cases e
      have h : 0 + wP ys < 2 ^ 64 := h
      obtain ⟨j1, j2⟩ := wP_addL (xs := []) h CP1.nil hy hz
      refine ⟨by show wP z + 0 = 0 + wP ys; rw [j1]; rfl, fun x hx => ?_⟩
      rw [List.mem_singleton.mp hx]; exact j2
  | x :: xs, r, h, h1, e => by
    have h : wP x.2 + wL xs + wP ys < 2 ^ 64 := h
    have hx := h1 x (List.mem_cons_self ..)
    have hxs : CL1 xs := fun a ha => h1 a (List.mem_cons_of_mem _ ha)
    rw [rIns] at e
    by_cases q : x.1 < K
    · rw [if_pos q] at e
      cases hz : rIns K ys xs with
      | none => rw [hz] at e; cases e
      | some z =>
        rw [hz] at e; cases e
        obtain ⟨j1, j2⟩ := wL_ins hy (by omega) hxs hz
        refine ⟨by show wP x.2 + wL z = wP x.2 + wL xs + wP ys; omega, fun a ha => ?_⟩
        rcases List.mem_cons.mp ha with c | c
        · rw [c]; exact hx
        · exact j2 a c
    · rw [if_neg q] at e
      by_cases w : x.1 = K
      · rw [if_pos w] at e
        cases hz : pAddL x.2 ys with
        | none => rw [hz] at e; cases e
        | some z =>
          rw [hz] at e; cases e
          obtain ⟨j1, j2⟩ := wP_addL (by omega) hx hy hz
          refine ⟨by show wP z + wL xs = wP x.2 + wL xs + wP ys; omega, fun a ha => ?_⟩
          rcases List.mem_cons.mp ha with c | c
          · rw [c]; exact j2
          · exact hxs a c
      · rw [if_neg w] at e
        cases hz : pAddL [] ys with
        | none => rw [hz] at e; cases e
        | some z =>
          rw [hz] at e; cases e
          obtain ⟨j1, j2⟩ := wP_addL (xs := []) (show 0 + wP ys < 2 ^ 64 by omega) CP1.nil hy hz
          have j1 : wP z = 0 + wP ys := j1
          refine ⟨by show wP z + (wP x.2 + wL xs) = wP x.2 + wL xs + wP ys; omega, fun a ha => ?_⟩
          rcases List.mem_cons.mp ha with c | c
          · rw [c]; exact j2
          · exact h1 a c
theorem wL_addL : ∀ {L rows r : Rws}, wL rows + wL L < 2 ^ 64 → CL1 rows → CL1 L → rAddL rows L = some r → wL r = wL rows + wL L ∧ CL1 r
  | [], rows, r, h, h1, h2, e => by cases e; exact ⟨by simp [wL], h1⟩
  | x :: L, rows, r, h, h1, h2, e => by
    have h : wL rows + (wP x.2 + wL L) < 2 ^ 64 := h
    rw [rAddL] at e
    cases hr : rAdd rows x.1 x.2 with
    | none => rw [hr] at e; cases e
    | some rows1 =>
      rw [hr] at e
      obtain ⟨i1, i2⟩ := wL_ins (h2 x (List.mem_cons_self ..)) (by omega) h1 (rAdd_some hr)
      obtain ⟨j1, j2⟩ := wL_addL (by omega) i2 (fun a ha => h2 a (List.mem_cons_of_mem _ ha)) e
      exact ⟨by show wL r = wL rows + (wP x.2 + wL L); omega, j2⟩
/-! operations -/
theorem tabR_w {b : Nat → Nat} {t : Nat} : ∀ d, d ≤ 16 → wL (tabR b t d) ≤ d ∧ CL1 (tabR b t d) ∧ ∀ x ∈ tabR b t d, ∀ c ∈ mons x.2, TG b 1 c
  | 0, _ => ⟨Nat.le_refl _, fun x hx => absurd hx List.not_mem_nil, fun x hx => absurd hx List.not_mem_nil⟩
  | d + 1, hd => by
    obtain ⟨i1, i2, i3⟩ := tabR_w (b := b) (t := t) d (by omega)
    unfold tabR
    by_cases q : b (4 + 5 * (15 - d)) = t + 1
    · rw [if_pos q]
      have u1 : uN (1 : Int64) = 1 := rfl
      refine ⟨?_, fun x hx => ?_, fun x hx c hc => ?_⟩
      · show uN (1 : Int64) + 0 + wL (tabR b t d) ≤ d + 1
        omega
      · rcases List.mem_cons.mp hx with e | e
        · rw [e]; intro a ha; rw [List.mem_singleton.mp ha]; exact Nat.le_refl _
        · exact i2 x e
      · rcases List.mem_cons.mp hx with e | e
        · rw [e] at hc
          rw [List.mem_singleton.mp hc]
          exact TG.tag (by omega) (by omega)
        · exact i3 x e c hc
    · rw [if_neg q]; exact ⟨by omega, i2, i3⟩
theorem wL_filter (p : Nat × Pol → Bool) : ∀ L : Rws, wL (L.filter p) ≤ wL L
  | [] => Nat.le_refl _
  | x :: L => by
    have := wL_filter p L
    rw [List.filter_cons]
    split
    · show wP x.2 + wL (L.filter p) ≤ wP x.2 + wL L; omega
    · show wL (L.filter p) ≤ wP x.2 + wL L; omega
theorem wL_mapk (k : Nat × Pol → Nat) : ∀ L : Rws, wL (L.map fun x => (k x, x.2)) = wL L
  | [] => rfl
  | x :: L => by show wP x.2 + wL (L.map fun x => (k x, x.2)) = wP x.2 + wL L; rw [wL_mapk k L]
theorem wP_mul1 {a : Int64 × Int64} : ∀ {B : Pol}, uN a.2 * wP B < 2 ^ 64 → wP (B.map fun b => (a.1 + b.1, a.2 * b.2)) = uN a.2 * wP B
  | [], _ => rfl
  | b :: B, h => by
    have h : uN a.2 * (uN b.2 + wP B) < 2 ^ 64 := h
    rw [Nat.mul_add] at h
    have ih := wP_mul1 (a := a) (B := B) (by omega)
    have e := uN_mul (x := a.2) (y := b.2) (by omega)
    show uN (a.2 * b.2) + wP (B.map fun b => (a.1 + b.1, a.2 * b.2)) = uN a.2 * (uN b.2 + wP B)
    rw [ih, e, Nat.mul_add]
theorem wP_mul {B : Pol} : ∀ {A : Pol}, wP A * wP B < 2 ^ 64 → wP (pMulT A B) = wP A * wP B
  | [], _ => by simp [pMulT, wP]
  | a :: A, h => by
    have h : (uN a.2 + wP A) * wP B < 2 ^ 64 := h
    rw [Nat.add_mul] at h
    have ih := wP_mul (A := A) (B := B) (by omega)
    show wP ((B.map fun b => (a.1 + b.1, a.2 * b.2)) ++ pMulT A B) = (uN a.2 + wP A) * wP B
    rw [wP_app, ih, wP_mul1 (by omega), Nat.add_mul]
theorem CP1.mul {A B : Pol} (hA : CP1 A) (hB : CP1 B) (h : wP A * wP B < 2 ^ 64) : CP1 (pMulT A B) := by
  intro x hx
  obtain ⟨a, a1, a2⟩ := List.mem_flatMap.mp hx
  obtain ⟨d, d1, d2⟩ := List.mem_map.mp a2
  rw [← d2]
  have h1 := hA a a1
  have h2 := hB d d1
  have h3 := Nat.mul_le_mul (wP_mem a1) (wP_mem d1)
  show 1 ≤ uN (a.2 * d.2)
  rw [uN_mul (by omega)]
  exact Nat.mul_le_mul h1 h2
theorem wL_join1 {wa wb ca cb : Nat} {x : Nat × Pol} : ∀ {B : Rws}, wP x.2 * wL B < 2 ^ 64 → wL (joinL1 wa wb ca cb x B) ≤ wP x.2 * wL B
  | [], _ => Nat.zero_le _
  | y :: B, h => by
    have h : wP x.2 * (wP y.2 + wL B) < 2 ^ 64 := h
    rw [Nat.mul_add] at h
    have ih := wL_join1 (wa := wa) (wb := wb) (ca := ca) (cb := cb) (x := x) (B := B) (by omega)
    show _ ≤ wP x.2 * (wP y.2 + wL B)
    rw [Nat.mul_add]
    unfold joinL1 at ih ⊢
    rw [List.filter_cons]
    split
    · rw [List.map_cons]
      show wP (pMulT x.2 y.2) + wL _ ≤ _
      rw [wP_mul (by omega)]; omega
    · omega
theorem wL_join {wa wb ca cb : Nat} {B : Rws} : ∀ {A : Rws}, wL A * wL B < 2 ^ 64 → wL (joinL wa wb ca cb A B) ≤ wL A * wL B
  | [], _ => Nat.zero_le _
  | x :: A, h => by
    have h : (wP x.2 + wL A) * wL B < 2 ^ 64 := h
    rw [Nat.add_mul] at h
    have ih := wL_join (wa := wa) (wb := wb) (ca := ca) (cb := cb) (A := A) (B := B) (by omega)
    show wL (joinL1 wa wb ca cb x B ++ joinL wa wb ca cb A B) ≤ (wP x.2 + wL A) * wL B
    have := wL_join1 (wa := wa) (wb := wb) (ca := ca) (cb := cb) (x := x) (B := B) (by omega)
    rw [wL_app, Nat.add_mul]; omega
/-- a value of a node: degree at most D, weight at most W -/
def Gd (b : Nat → Nat) (D W : Nat) (v : Vl) : Prop := (∀ x ∈ v.2, ∀ c ∈ mons x.2, TG b D c) ∧ wL v.2 ≤ W ∧ CL1 v.2 ∧ RSo v.2 ∧ v.2.length ≤ 32 ∧ ∀ x ∈ v.2, x.2.length ≤ 32
theorem gd_of {b : Nat → Nat} {D W w : Nat} {L r : Rws} (h1 : ∀ x ∈ L, ∀ c ∈ mons x.2, TG b D c) (h2 : wL L ≤ W) (h3 : CL1 L) (hW : W < 2 ^ 64) (e : rAddL [] L = some r) : Gd b D W (w, r) := by
  obtain ⟨a1, a2, a3, a4, a5, a6⟩ := rAddL_abs RSo.nil (by simp) (fun x hx => absurd hx List.not_mem_nil) e
  obtain ⟨b1, b2⟩ := wL_addL (rows := []) (show 0 + wL L < 2 ^ 64 by omega) (fun x hx => absurd hx List.not_mem_nil) h3 e
  have b1 : wL r = 0 + wL L := b1
  refine ⟨fun y hy c hc => ?_, by show wL r ≤ W; omega, b2, a1, a2, a3⟩
  obtain ⟨x, x1, x2, x3⟩ := a6 y hy c hc
  exact h1 x (x1.resolve_left List.not_mem_nil) c x3
def lvs : List Nd → Nat
  | [] => 0
  | nd :: L => (if nd.1 = 0 then 1 else 0) + lvs L
def jns : List Nd → Nat
  | [] => 0
  | nd :: L => (if nd.1 = 4 then 1 else 0) + jns L
theorem lvs_app : ∀ A B, lvs (A ++ B) = lvs A + lvs B
  | [], B => by simp [lvs]
  | a :: A, B => by show _ + lvs (A ++ B) = _ + lvs A + lvs B; rw [lvs_app A B]; omega
theorem jns_app : ∀ A B, jns (A ++ B) = jns A + jns B
  | [], B => by simp [jns]
  | a :: A, B => by show _ + jns (A ++ B) = _ + jns A + jns B; rw [jns_app A B]; omega
theorem hV_gd {b : Nat → Nat} {nd : Nd} {f s v : Vl} {Df Wf Ds Ws D W : Nat} (hf : nd.1 ≠ 0 → Gd b Df Wf f) (hs : nd.1 = 4 ∨ nd.1 = 5 → Gd b Ds Ws s) (h0 : nd.1 = 0 → D = 1 ∧ W = 16) (h4 : nd.1 = 4 → D = Df + Ds ∧ Wf * Ws ≤ W ∧ Df + Ds ≤ 15) (h5 : nd.1 = 5 → Df ≤ D ∧ Ds ≤ D ∧ Wf + Ws ≤ W) (h1 : nd.1 ≠ 0 → nd.1 ≠ 4 → nd.1 ≠ 5 → D = Df ∧ W = Wf) (hW : W < 2 ^ 64) (e : hV b nd f s = some v) : Gd b D W v := by
  unfold hV at e
  cases hr : rAddL [] (opL b nd f s) with
  | none => rw [hr] at e; cases e
  | some r =>
    rw [hr] at e
    cases e
    have key : (∀ x ∈ opL b nd f s, ∀ c ∈ mons x.2, TG b D c) ∧ wL (opL b nd f s) ≤ W ∧ CL1 (opL b nd f s) := by
      unfold opL
      by_cases q0 : nd.1 = 0
      · rw [if_pos q0]
        obtain ⟨e1, e2⟩ := h0 q0
        obtain ⟨i1, i2, i3⟩ := tabR_w (b := b) (t := nd.2.1) 16 (by omega)
        rw [e1, e2]; exact ⟨i3, i1, i2⟩
      rw [if_neg q0]
      obtain ⟨f1, f2, f3, -⟩ := hf q0
      by_cases q3 : nd.1 = 3
      · obtain ⟨e1, e2⟩ := h1 q0 (by omega) (by omega)
        rw [if_pos q3, e1, e2]
        refine ⟨fun x hx c hc => ?_, by rw [wL_mapk (fun x => prjK f.1 nd.2.1 nd.2.2 x.1 nd.2.1)]; exact f2, fun x hx => ?_⟩
        · obtain ⟨y, y1, y2⟩ := List.mem_map.mp hx
          rw [← y2] at hc; exact f1 y y1 c hc
        · obtain ⟨y, y1, y2⟩ := List.mem_map.mp hx
          rw [← y2]; exact f3 y y1
      rw [if_neg q3]
      by_cases q4 : nd.1 = 4
      · obtain ⟨s1, s2, s3, -⟩ := hs (Or.inl q4)
        obtain ⟨e1, e2, e3⟩ := h4 q4
        have hm : wL f.2 * wL s.2 ≤ Wf * Ws := Nat.mul_le_mul f2 s2
        rw [if_pos q4]
        refine ⟨fun z hz c hc => ?_, ?_, fun z hz => ?_⟩
        · obtain ⟨x, x1, y, y1, _, z1⟩ := mem_joinL.mp hz
          rw [z1] at hc
          obtain ⟨a, a1, d, d1, e⟩ := mem_pMulT.mp hc
          rw [e, e1]
          exact (f1 x x1 a a1).add (s1 y y1 d d1) e3
        · have := wL_join (wa := f.1) (wb := s.1) (ca := nd.2.1) (cb := nd.2.2) (A := f.2) (B := s.2) (by omega); omega
        · obtain ⟨x, x1, y, y1, _, z1⟩ := mem_joinL.mp hz
          rw [z1]
          have := Nat.mul_le_mul (wL_mem x1) (wL_mem y1)
          exact (f3 x x1).mul (s3 y y1) (by omega)
      rw [if_neg q4]
      by_cases q5 : nd.1 = 5
      · obtain ⟨s1, s2, s3, -⟩ := hs (Or.inr q5)
        obtain ⟨e1, e2, e3⟩ := h5 q5
        rw [if_pos q5]
        refine ⟨fun z hz c hc => ?_, by rw [wL_app]; omega, fun z hz => ?_⟩
        · rcases List.mem_append.mp hz with y | y
          · exact (f1 z y c hc).mono e1
          · exact (s1 z y c hc).mono e2
        · rcases List.mem_append.mp hz with y | y
          · exact f3 z y
          · exact s3 z y
      rw [if_neg q5]
      obtain ⟨e1, e2⟩ := h1 q0 q4 q5
      rw [e1, e2]
      exact ⟨fun x hx => f1 x (List.mem_filter.mp hx).1, Nat.le_trans (wL_filter _ _) f2, fun x hx => f3 x (List.mem_filter.mp hx).1⟩
    exact gd_of key.1 key.2.1 key.2.2 hW hr
/-- leaves and joins of a query within bounds, out of its length -/
def Nb (l : List Nd) : Prop := 5 * lvs l ≤ ownL l + 4 ∧ 7 * (jns l + 1) ≤ ownL l + 6 ∧ 1 ≤ lvs l
theorem own_ll {L : List Nd} : ∀ {ls : List (List Nd)} {i : Nat}, i < ls.length → ownL (ls.getD i []) ≤ ownLL ls
  | x :: ls, 0, _ => by show ownL x ≤ ownL x + ownLL ls; omega
  | x :: ls, i + 1, h => by
    have := own_ll (L := L) (ls := ls) (i := i) (by simpa using h)
    show ownL (ls.getD i []) ≤ ownL x + ownLL ls; omega
theorem pow16 {a c : Nat} (h1 : 1 ≤ a) (h2 : 1 ≤ c) : 16 ^ a + 16 ^ c ≤ 16 ^ (a + c) := by
  have e1 : 16 ^ 1 ≤ 16 ^ a := Nat.pow_le_pow_right (by omega) h1
  have e2 : 16 ^ 1 ≤ 16 ^ c := Nat.pow_le_pow_right (by omega) h2
  rw [Nat.pow_add]
  have k1 : 16 ^ a * 2 ≤ 16 ^ a * 16 ^ c := Nat.mul_le_mul_left _ (by omega)
  have k2 : 2 * 16 ^ c ≤ 16 ^ a * 16 ^ c := Nat.mul_le_mul_right _ (by omega)
  omega
theorem vals_gd {b : Nat → Nat} : ∀ {L : List Nd} {k : Nat}, (∀ x ∈ L, NOk x) → wfn L k → ownL L ≤ 60 → ∀ i, i < k → Nb ((posts L).getD i []) ∧ ∀ v, (vals (hV b) dV L).getD i none = some v → Gd b (jns ((posts L).getD i []) + 1) (16 ^ lvs ((posts L).getD i [])) v
  | [], k, _, hw, _, i, hi => by
    have : k = 0 := hw
    omega
  | nd :: L, k, hn, hw, ho, i, hi => by
    obtain ⟨j, rfl, hw2⟩ := id hw
    have ho' : own nd + ownL L ≤ 60 := ho
    have hnd := hn nd (List.mem_cons_self ..)
    have ih := vals_gd (b := b) (L := L) (fun x hx => hn x (List.mem_cons_of_mem _ hx)) hw2 (by omega)
    have hpl := posts_len hw2
    cases i with
    | succ i =>
      rw [posts, vals, List.getD_cons_succ, List.getD_cons_succ, drop_get, drop_get]
      exact ih (ar nd.1 + i) (by omega)
    | zero =>
      have hown := posts_own hw
      have h0 := own_ll (L := L) (ls := posts (nd :: L)) (i := 0) (by rw [posts_len hw]; omega)
      rw [hown] at h0
      rw [posts, vals, List.getD_cons_zero, List.getD_cons_zero] at *
      have e1 : ∀ A, lvs (A ++ [nd]) = lvs A + (if nd.1 = 0 then 1 else 0) := fun A => by rw [lvs_app]; rfl
      have e2 : ∀ A, jns (A ++ [nd]) = jns A + (if nd.1 = 4 then 1 else 0) := fun A => by rw [jns_app]; rfl
      have e3 : ∀ A, ownL (A ++ [nd]) = ownL A + own nd := fun A => by rw [ownL_app]; rfl
      have pw : ∀ a, a ≤ 12 → 16 ^ a < 2 ^ 64 := fun a ha => by
        have : 16 ^ a ≤ 16 ^ 12 := Nat.pow_le_pow_right (by omega) ha
        omega
      have hk := hnd.k
      unfold postOf at h0 ⊢
      unfold itm
      rcases ar_cases nd with a | a | a
      · have z := ar0 a
        rw [if_pos a] at h0 ⊢
        rw [if_pos a]
        have ow : own nd = 1 := by unfold own; rw [if_pos z]
        rw [e1, e2, if_pos z, if_neg (by omega)]
        refine ⟨⟨?_, ?_, ?_⟩, fun v hv => ?_⟩
        · rw [e1, e3, if_pos z, ow]; decide
        · rw [e2, e3, if_neg (by omega), ow]; decide
        · rw [e1, if_pos z]; decide
        · exact hV_gd (Df := 0) (Wf := 0) (Ds := 0) (Ws := 0) (fun y => absurd z y) (fun y => by omega) (fun _ => ⟨rfl, rfl⟩) (fun y => by omega) (fun y => by omega) (fun y => absurd z y) (by decide) hv
      · have z := ar1 a
        obtain ⟨⟨n1, n2, n3⟩, g1⟩ := ih 0 (by omega)
        rw [if_neg (by omega), if_pos a] at h0 ⊢
        rw [if_neg (by omega), if_pos a, e1, e2, if_neg z.1, if_neg z.2.1]
        have ow : 1 ≤ own nd := (own_ar nd).1
        rw [e3] at h0
        refine ⟨⟨?_, ?_, ?_⟩, fun v hv => ?_⟩
        · rw [e1, e3, if_neg z.1]; omega
        · rw [e2, e3, if_neg z.2.1]; omega
        · rw [e1, if_neg z.1]; omega
        · cases hx : (vals (hV b) dV L).getD 0 none with
          | none => rw [hx] at hv; cases hv
          | some x =>
            rw [hx] at hv
            exact hV_gd (Ds := 0) (Ws := 0) (fun _ => g1 x hx) (fun y => by omega) (fun y => absurd y z.1) (fun y => absurd y z.2.1) (fun y => absurd y z.2.2) (fun _ _ _ => ⟨rfl, rfl⟩) (pw _ (by omega)) hv
      · have z := ar2 a
        obtain ⟨⟨n1, n2, n3⟩, g1⟩ := ih 0 (by omega)
        obtain ⟨⟨m1, m2, m3⟩, g2⟩ := ih 1 (by omega)
        rw [if_neg (by omega), if_neg (by omega)] at h0 ⊢
        rw [if_neg (by omega), if_neg (by omega)]
        rw [e3, ownL_app] at h0
        have ow : nd.1 = 4 → own nd = 6 := fun y => by unfold own; rw [if_neg (by omega), if_neg (by omega), if_neg (by omega)]
        have ow5 : nd.1 = 5 → own nd = 4 := fun y => by unfold own; rw [if_neg (by omega), if_neg (by omega), if_pos y]
        have nz : ¬ nd.1 = 0 := by omega
        rw [e1, e2, lvs_app, jns_app, if_neg nz]
        refine ⟨⟨?_, ?_, ?_⟩, fun v hv => ?_⟩
        · rw [e1, e3, lvs_app, ownL_app, if_neg nz]
          rcases z with y | y
          · rw [ow y]; omega
          · rw [ow5 y]; omega
        · rw [e2, e3, jns_app, ownL_app]
          rcases z with y | y
          · rw [ow y, if_pos y]; omega
          · rw [ow5 y, if_neg (by omega)]; omega
        · rw [e1, lvs_app]; omega
        · cases hx : (vals (hV b) dV L).getD 0 none with
          | none => rw [hx] at hv; cases hv
          | some x =>
            rw [hx] at hv
            cases hy : (vals (hV b) dV L).getD 1 none with
            | none => rw [hy] at hv; cases hv
            | some y =>
              rw [hy] at hv
              have hpp := pow16 n3 m3
              refine hV_gd (fun _ => g1 x hx) (fun _ => g2 y hy) (fun w => absurd w nz) (fun w => ?_) (fun w => ?_) (fun _ w1 w2 => by omega) (pw _ ?_) hv
              · rw [if_pos w]
                have := ow w
                refine ⟨by omega, ?_, by omega⟩
                rw [Nat.add_zero, Nat.pow_add]; exact Nat.le_refl _
              · rw [if_neg (by omega)]
                refine ⟨by omega, by omega, ?_⟩
                rw [Nat.add_zero]; exact hpp
              · rcases z with y | y
                · have := ow y; omega
                · have := ow5 y; omega
/-- an answer -/
theorem Ans.good {b : Nat → Nat} {v : Vl} (hB : BOk b) (h : Ans b v) : Gd b 9 (16 ^ 12) v := by
  rcases h with ⟨_, h2⟩ | ⟨h1, pre, w, h2, h3, h4⟩
  · rw [h2]
    exact ⟨fun x hx => absurd hx List.not_mem_nil, Nat.zero_le _, fun x hx => absurd hx List.not_mem_nil, RSo.nil, Nat.zero_le _, fun x hx => absurd hx List.not_mem_nil⟩
  · obtain ⟨k1, k2, k3⟩ := h2.ok hB
    have h60 := hB.2.2.1
    obtain ⟨⟨n1, n2, n3⟩, g1⟩ := vals_gd (b := b) k2 k1 (by omega) 0 (by omega)
    have hp : ownL ((posts pre).getD 0 []) = ownL pre := post_own k1
    rw [hp] at n1 n2
    obtain ⟨a1, a2, a3, a4, a5, a6⟩ := g1 v h4
    refine ⟨fun x hx c hc => (a1 x hx c hc).mono (by omega), Nat.le_trans a2 (Nat.pow_le_pow_right (by omega) (by omega)), a3, a4, a5, a6⟩

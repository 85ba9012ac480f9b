/-! THE LAW -/
theorem inr_add {i t L : Nat} (hL : L ≤ 2560) (hi : i + 5 ≤ L) (ht : t < 5) : inr (nI i + nI t) L := by
  rw [nI_add, inr_eq (by omega)]; omega
section LAW
variable {n : Nat} {Z : Zt} {hs m L i : Nat} {xw : Nat → Int32} {κ : Int32 → Mem → Option Int32} {g : Mem}
theorem law_c0 (hn : 70000 ≤ n) (hC : CZ Z hs) (hM : MZ Z m) (hd : hs + 1462 ≤ m) (hL : L ≤ 2560) (hi : i + 5 ≤ L) (h : LInv hs m g) (hκ : ∀ g, LInv hs m g → κ (nI i + 5) g = some 1) : f_law_c0 n Z hs m L xw κ (nI i) g = some 1 := by
  have I1 : inr (nI i + (1 : Int32)) L := inr_add (t := 1) hL hi (by omega)
  have I2 : inr (nI i + (2 : Int32)) L := inr_add (t := 2) hL hi (by omega)
  obtain ⟨r, g1, g2, e1, e2, e3⟩ := a_setColumns (n := n) (Z := Z) (c := hs) (m := m) (g := g) (show 500 ≤ n by omega) hC hM hd (xw (nI i + (1 : Int32)).toNatClampNeg) (xw (nI i + (2 : Int32)).toNatClampNeg) h
  unfold f_law_c0
  simp only [grd_t I1, grd_t I2]
  rw [e1, bnd_s, e2, bnd_s, if_pos rfl]
  exact hκ g2 e3
theorem law_c1 (hn : 70000 ≤ n) (hC : CZ Z hs) (hM : MZ Z m) (hd : hs + 1462 ≤ m) (hL : L ≤ 2560) (hi : i + 5 ≤ L) (h : LInv hs m g) (hκ : ∀ g, LInv hs m g → κ (nI i + 5) g = some 1) : f_law_c1 n Z hs m L xw κ (nI i) g = some 1 := by
  have I1 : inr (nI i + (1 : Int32)) L := inr_add (t := 1) hL hi (by omega)
  have I2 : inr (nI i + (2 : Int32)) L := inr_add (t := 2) hL hi (by omega)
  obtain ⟨r, g1, g2, e1, e2, e3⟩ := a_addRow (n := n) (Z := Z) (c := hs) (m := m) (g := g) (show 500 ≤ n by omega) hC hM hd (xw (nI i + (1 : Int32)).toNatClampNeg) (xw (nI i + (2 : Int32)).toNatClampNeg) h
  unfold f_law_c1
  simp only [grd_t I1, grd_t I2]
  rw [e1, bnd_s, e2, bnd_s, if_pos rfl]
  exact hκ g2 e3
theorem law_c2 (hn : 70000 ≤ n) (hC : CZ Z hs) (hM : MZ Z m) (hd : hs + 1462 ≤ m) (hL : L ≤ 2560) (hi : i + 5 ≤ L) (h : LInv hs m g) (hκ : ∀ g, LInv hs m g → κ (nI i + 5) g = some 1) : f_law_c2 n Z hs m L xw κ (nI i) g = some 1 := by
  have I1 : inr (nI i + (1 : Int32)) L := inr_add (t := 1) hL hi (by omega)
  obtain ⟨r, g1, g2, e1, e2, e3⟩ := a_dropRow (n := n) (Z := Z) (c := hs) (m := m) (g := g) (show 500 ≤ n by omega) hC hM hd (xw (nI i + (1 : Int32)).toNatClampNeg) h
  unfold f_law_c2
  simp only [grd_t I1]
  rw [e1, bnd_s, e2, bnd_s, if_pos rfl]
  exact hκ g2 e3
theorem law_c3 (hn : 70000 ≤ n) (hC : CZ Z hs) (hM : MZ Z m) (hd : hs + 1462 ≤ m) (hL : L ≤ 2560) (hi : i + 5 ≤ L) (h : LInv hs m g) (hκ : ∀ g, LInv hs m g → κ (nI i + 5) g = some 1) : f_law_c3 n Z hs m L xw κ (nI i) g = some 1 := by
  have I1 : inr (nI i + (1 : Int32)) L := inr_add (t := 1) hL hi (by omega)
  have I2 : inr (nI i + (2 : Int32)) L := inr_add (t := 2) hL hi (by omega)
  obtain ⟨r, g1, g2, e1, e2, e3⟩ := a_setCost (n := n) (Z := Z) (c := hs) (m := m) (g := g) (show 500 ≤ n by omega) hC hM hd (xw (nI i + (1 : Int32)).toNatClampNeg) (xw (nI i + (2 : Int32)).toNatClampNeg) h
  unfold f_law_c3
  simp only [grd_t I1, grd_t I2]
  rw [e1, bnd_s, e2, bnd_s, if_pos rfl]
  exact hκ g2 e3
theorem law_c4 (hn : 70000 ≤ n) (hC : CZ Z hs) (hM : MZ Z m) (hd : hs + 1462 ≤ m) (hL : L ≤ 2560) (hi : i + 5 ≤ L) (h : LInv hs m g) (hκ : ∀ g, LInv hs m g → κ (nI i + 5) g = some 1) : f_law_c4 n Z hs m L xw κ (nI i) g = some 1 := by
  have I1 : inr (nI i + (1 : Int32)) L := inr_add (t := 1) hL hi (by omega)
  have I2 : inr (nI i + (2 : Int32)) L := inr_add (t := 2) hL hi (by omega)
  obtain ⟨r, g1, g2, e1, e2, e3⟩ := a_setTrust (n := n) (Z := Z) (c := hs) (m := m) (g := g) (show 500 ≤ n by omega) hC hM hd (xw (nI i + (1 : Int32)).toNatClampNeg) (xw (nI i + (2 : Int32)).toNatClampNeg) h
  unfold f_law_c4
  simp only [grd_t I1, grd_t I2]
  rw [e1, bnd_s, e2, bnd_s, if_pos rfl]
  exact hκ g2 e3
theorem law_c5 (hn : 70000 ≤ n) (hC : CZ Z hs) (hM : MZ Z m) (hd : hs + 1462 ≤ m) (hL : L ≤ 2560) (hi : i + 5 ≤ L) (h : LInv hs m g) (hκ : ∀ g, LInv hs m g → κ (nI i + 5) g = some 1) : f_law_c5 n Z hs m L xw κ (nI i) g = some 1 := by
  have I1 : inr (nI i + (1 : Int32)) L := inr_add (t := 1) hL hi (by omega)
  have I2 : inr (nI i + (2 : Int32)) L := inr_add (t := 2) hL hi (by omega)
  by_cases q : (xw (nI i + (2 : Int32)).toNatClampNeg) = 0
  · obtain ⟨r, g1, g2, e1, e2, e3⟩ := a_setWithdrawn (n := n) (Z := Z) (c := hs) (m := m) (g := g) (show 500 ≤ n by omega) hC hM hd (xw (nI i + (1 : Int32)).toNatClampNeg) 0 (by omega) h
    replace e1 : f_X10_setWithdrawn n Z hs (xw (nI i + (1 : Int32)).toNatClampNeg) (0 : Int32) g = some (r, g1) := e1
    replace e2 : f_X11_setWithdrawn n Z m (xw (nI i + (1 : Int32)).toNatClampNeg) (0 : Int32) g1 = some (r, g2) := e2
    unfold f_law_c5
    simp only [grd_t I1, grd_t I2, if_pos q]
    rw [e1, bnd_s, e2, bnd_s, if_pos rfl]
    exact hκ g2 e3
  · obtain ⟨r, g1, g2, e1, e2, e3⟩ := a_setWithdrawn (n := n) (Z := Z) (c := hs) (m := m) (g := g) (show 500 ≤ n by omega) hC hM hd (xw (nI i + (1 : Int32)).toNatClampNeg) 1 (by omega) h
    replace e1 : f_X10_setWithdrawn n Z hs (xw (nI i + (1 : Int32)).toNatClampNeg) (1 : Int32) g = some (r, g1) := e1
    replace e2 : f_X11_setWithdrawn n Z m (xw (nI i + (1 : Int32)).toNatClampNeg) (1 : Int32) g1 = some (r, g2) := e2
    unfold f_law_c5
    simp only [grd_t I1, grd_t I2, if_neg q]
    rw [e1, bnd_s, e2, bnd_s, if_pos rfl]
    exact hκ g2 e3
theorem law_c6 (hn : 70000 ≤ n) (hC : CZ Z hs) (hM : MZ Z m) (hd : hs + 1462 ≤ m) (hL : L ≤ 2560) (hi : i + 5 ≤ L) (h : LInv hs m g) (hκ : ∀ g, LInv hs m g → κ (nI i + 5) g = some 1) : f_law_c6 n Z hs m L xw κ (nI i) g = some 1 := by
  obtain ⟨r, g1, g2, e1, e2, e3⟩ := a_setQuery (n := n) (Z := Z) (c := hs) (m := m) (g := g) (show 500 ≤ n by omega) hC hM hd  h
  unfold f_law_c6
  rw [e1, bnd_s, e2, bnd_s, if_pos rfl]
  exact hκ g2 e3
theorem law_c7 (hn : 70000 ≤ n) (hC : CZ Z hs) (hM : MZ Z m) (hd : hs + 1462 ≤ m) (hL : L ≤ 2560) (hi : i + 5 ≤ L) (h : LInv hs m g) (hκ : ∀ g, LInv hs m g → κ (nI i + 5) g = some 1) : f_law_c7 n Z hs m L xw κ (nI i) g = some 1 := by
  obtain ⟨r, g1, g2, e1, e2, e3⟩ := a_dropQuery (n := n) (Z := Z) (c := hs) (m := m) (g := g) (show 500 ≤ n by omega) hC hM hd  h
  unfold f_law_c7
  rw [e1, bnd_s, e2, bnd_s, if_pos rfl]
  exact hκ g2 e3
theorem law_c8 (hn : 70000 ≤ n) (hC : CZ Z hs) (hM : MZ Z m) (hd : hs + 1462 ≤ m) (hL : L ≤ 2560) (hi : i + 5 ≤ L) (h : LInv hs m g) (hκ : ∀ g, LInv hs m g → κ (nI i + 5) g = some 1) : f_law_c8 n Z hs m L xw κ (nI i) g = some 1 := by
  have I1 : inr (nI i + (1 : Int32)) L := inr_add (t := 1) hL hi (by omega)
  obtain ⟨r, g1, g2, e1, e2, e3⟩ := a_append (n := n) (Z := Z) (c := hs) (m := m) (g := g) hC hM hd (xw (nI i + (1 : Int32)).toNatClampNeg) h
  unfold f_law_c8
  simp only [grd_t I1]
  rw [e1, bnd_s, e2, bnd_s, if_pos rfl]
  exact hκ g2 e3
theorem law_c9 (hn : 70000 ≤ n) (hC : CZ Z hs) (hM : MZ Z m) (hd : hs + 1462 ≤ m) (hL : L ≤ 2560) (hi : i + 5 ≤ L) (h : LInv hs m g) (hκ : ∀ g, LInv hs m g → κ (nI i + 5) g = some 1) : f_law_c9 n Z hs m L xw κ (nI i) g = some 1 := by
  obtain ⟨r, g1, g2, e1, e2, e3⟩ := a_clearText (n := n) (Z := Z) (c := hs) (m := m) (g := g) hC hM hd  h
  unfold f_law_c9
  rw [e1, bnd_s, e2, bnd_s, if_pos rfl]
  exact hκ g2 e3
theorem law_c10 (hn : 70000 ≤ n) (hC : CZ Z hs) (hM : MZ Z m) (hd : hs + 1462 ≤ m) (hL : L ≤ 2560) (hi : i + 5 ≤ L) (h : LInv hs m g) (hκ : ∀ g, LInv hs m g → κ (nI i + 5) g = some 1) : f_law_c10 n Z hs m L xw κ (nI i) g = some 1 := by
  obtain ⟨r, g1, g2, e1, e2, e3⟩ := a_fault (n := n) (Z := Z) (c := hs) (m := m) (g := g) (show 500 ≤ n by omega) hC hM hd  h
  unfold f_law_c10
  rw [e1, bnd_s, e2, bnd_s, if_pos rfl]
  exact hκ g2 e3
theorem law_c11 (hn : 70000 ≤ n) (hC : CZ Z hs) (hM : MZ Z m) (hd : hs + 1462 ≤ m) (hL : L ≤ 2560) (hi : i + 5 ≤ L) (h : LInv hs m g) (hκ : ∀ g, LInv hs m g → κ (nI i + 5) g = some 1) : f_law_c11 n Z hs m L xw κ (nI i) g = some 1 := by
  obtain ⟨r, g1, g2, e1, e2, e3⟩ := a_undo (n := n) (Z := Z) (c := hs) (m := m) (g := g) (show 500 ≤ n by omega) hC hM hd  h
  unfold f_law_c11
  rw [e1, bnd_s, e2, bnd_s, if_pos rfl]
  exact hκ g2 e3
theorem law_c12 (hn : 70000 ≤ n) (hC : CZ Z hs) (hM : MZ Z m) (hd : hs + 1462 ≤ m) (hL : L ≤ 2560) (hi : i + 5 ≤ L) (h : LInv hs m g) (hκ : ∀ g, LInv hs m g → κ (nI i + 5) g = some 1) : f_law_c12 n Z hs m L xw κ (nI i) g = some 1 := by
  have I1 : inr (nI i + (1 : Int32)) L := inr_add (t := 1) hL hi (by omega)
  obtain ⟨r, g1, g2, e1, e2, e3⟩ := a_columns (n := n) (Z := Z) (c := hs) (m := m) (g := g) hC hM hd (xw (nI i + (1 : Int32)).toNatClampNeg) h
  unfold f_law_c12
  simp only [grd_t I1]
  rw [e1, bnd_s, e2, bnd_s, if_pos rfl]
  exact hκ g2 e3
theorem law_c13 (hn : 70000 ≤ n) (hC : CZ Z hs) (hM : MZ Z m) (hd : hs + 1462 ≤ m) (hL : L ≤ 2560) (hi : i + 5 ≤ L) (h : LInv hs m g) (hκ : ∀ g, LInv hs m g → κ (nI i + 5) g = some 1) : f_law_c13 n Z hs m L xw κ (nI i) g = some 1 := by
  obtain ⟨r, g1, g2, e1, e2, e3⟩ := a_tags (n := n) (Z := Z) (c := hs) (m := m) (g := g) (show 500 ≤ n by omega) hC hM hd  h
  unfold f_law_c13
  rw [e1, bnd_s, e2, bnd_s, if_pos rfl]
  exact hκ g2 e3
theorem law_c14 (hn : 70000 ≤ n) (hC : CZ Z hs) (hM : MZ Z m) (hd : hs + 1462 ≤ m) (hL : L ≤ 2560) (hi : i + 5 ≤ L) (h : LInv hs m g) (hκ : ∀ g, LInv hs m g → κ (nI i + 5) g = some 1) : f_law_c14 n Z hs m L xw κ (nI i) g = some 1 := by
  obtain ⟨r, g1, g2, e1, e2, e3⟩ := a_withdrawn (n := n) (Z := Z) (c := hs) (m := m) (g := g) (show 500 ≤ n by omega) hC hM hd  h
  unfold f_law_c14
  rw [e1, bnd_s, e2, bnd_s, if_pos rfl]
  exact hκ g2 e3
theorem law_c15 (hn : 70000 ≤ n) (hC : CZ Z hs) (hM : MZ Z m) (hd : hs + 1462 ≤ m) (hL : L ≤ 2560) (hi : i + 5 ≤ L) (h : LInv hs m g) (hκ : ∀ g, LInv hs m g → κ (nI i + 5) g = some 1) : f_law_c15 n Z hs m L xw κ (nI i) g = some 1 := by
  have I1 : inr (nI i + (1 : Int32)) L := inr_add (t := 1) hL hi (by omega)
  obtain ⟨r, g1, g2, e1, e2, e3⟩ := a_tableOf (n := n) (Z := Z) (c := hs) (m := m) (g := g) hC hM hd (xw (nI i + (1 : Int32)).toNatClampNeg) h
  unfold f_law_c15
  simp only [grd_t I1]
  rw [e1, bnd_s, e2, bnd_s, if_pos rfl]
  exact hκ g2 e3
theorem law_c16 (hn : 70000 ≤ n) (hC : CZ Z hs) (hM : MZ Z m) (hd : hs + 1462 ≤ m) (hL : L ≤ 2560) (hi : i + 5 ≤ L) (h : LInv hs m g) (hκ : ∀ g, LInv hs m g → κ (nI i + 5) g = some 1) : f_law_c16 n Z hs m L xw κ (nI i) g = some 1 := by
  have I1 : inr (nI i + (1 : Int32)) L := inr_add (t := 1) hL hi (by omega)
  have I2 : inr (nI i + (2 : Int32)) L := inr_add (t := 2) hL hi (by omega)
  obtain ⟨r, g1, g2, e1, e2, e3⟩ := a_value (n := n) (Z := Z) (c := hs) (m := m) (g := g) (show 500 ≤ n by omega) hC hM hd (xw (nI i + (1 : Int32)).toNatClampNeg) (xw (nI i + (2 : Int32)).toNatClampNeg) h
  unfold f_law_c16
  simp only [grd_t I1, grd_t I2]
  rw [e1, bnd_s, e2, bnd_s, if_pos rfl]
  exact hκ g2 e3
theorem law_c17 (hn : 70000 ≤ n) (hC : CZ Z hs) (hM : MZ Z m) (hd : hs + 1462 ≤ m) (hL : L ≤ 2560) (hi : i + 5 ≤ L) (h : LInv hs m g) (hκ : ∀ g, LInv hs m g → κ (nI i + 5) g = some 1) : f_law_c17 n Z hs m L xw κ (nI i) g = some 1 := by
  have I1 : inr (nI i + (1 : Int32)) L := inr_add (t := 1) hL hi (by omega)
  obtain ⟨r, g1, g2, e1, e2, e3⟩ := a_cost (n := n) (Z := Z) (c := hs) (m := m) (g := g) hC hM hd (xw (nI i + (1 : Int32)).toNatClampNeg) h
  unfold f_law_c17
  simp only [grd_t I1]
  rw [e1, bnd_s, e2, bnd_s, if_pos rfl]
  exact hκ g2 e3
theorem law_c18 (hn : 70000 ≤ n) (hC : CZ Z hs) (hM : MZ Z m) (hd : hs + 1462 ≤ m) (hL : L ≤ 2560) (hi : i + 5 ≤ L) (h : LInv hs m g) (hκ : ∀ g, LInv hs m g → κ (nI i + 5) g = some 1) : f_law_c18 n Z hs m L xw κ (nI i) g = some 1 := by
  have I1 : inr (nI i + (1 : Int32)) L := inr_add (t := 1) hL hi (by omega)
  obtain ⟨r, g1, g2, e1, e2, e3⟩ := a_trust (n := n) (Z := Z) (c := hs) (m := m) (g := g) hC hM hd (xw (nI i + (1 : Int32)).toNatClampNeg) h
  unfold f_law_c18
  simp only [grd_t I1]
  rw [e1, bnd_s, e2, bnd_s, if_pos rfl]
  exact hκ g2 e3
theorem law_c19 (hn : 70000 ≤ n) (hC : CZ Z hs) (hM : MZ Z m) (hd : hs + 1462 ≤ m) (hL : L ≤ 2560) (hi : i + 5 ≤ L) (h : LInv hs m g) (hκ : ∀ g, LInv hs m g → κ (nI i + 5) g = some 1) : f_law_c19 n Z hs m L xw κ (nI i) g = some 1 := by
  obtain ⟨r, g1, g2, e1, e2, e3⟩ := a_queryLength (n := n) (Z := Z) (c := hs) (m := m) (g := g) hC hM hd  h
  unfold f_law_c19
  rw [e1, bnd_s, e2, bnd_s, if_pos rfl]
  exact hκ g2 e3
theorem law_c20 (hn : 70000 ≤ n) (hC : CZ Z hs) (hM : MZ Z m) (hd : hs + 1462 ≤ m) (hL : L ≤ 2560) (hi : i + 5 ≤ L) (h : LInv hs m g) (hκ : ∀ g, LInv hs m g → κ (nI i + 5) g = some 1) : f_law_c20 n Z hs m L xw κ (nI i) g = some 1 := by
  have I1 : inr (nI i + (1 : Int32)) L := inr_add (t := 1) hL hi (by omega)
  obtain ⟨r, g1, g2, e1, e2, e3⟩ := a_queryAt (n := n) (Z := Z) (c := hs) (m := m) (g := g) hC hM hd (xw (nI i + (1 : Int32)).toNatClampNeg) h
  unfold f_law_c20
  simp only [grd_t I1]
  rw [e1, bnd_s, e2, bnd_s, if_pos rfl]
  exact hκ g2 e3
theorem law_c21 (hn : 70000 ≤ n) (hC : CZ Z hs) (hM : MZ Z m) (hd : hs + 1462 ≤ m) (hL : L ≤ 2560) (hi : i + 5 ≤ L) (h : LInv hs m g) (hκ : ∀ g, LInv hs m g → κ (nI i + 5) g = some 1) : f_law_c21 n Z hs m L xw κ (nI i) g = some 1 := by
  obtain ⟨r, g1, g2, e1, e2, e3⟩ := a_answerRows (n := n) (Z := Z) (c := hs) (m := m) (g := g) (show 500 ≤ n by omega) hC hM hd  h
  unfold f_law_c21
  rw [e1, bnd_s, e2, bnd_s, if_pos rfl]
  exact hκ g2 e3
theorem law_c22 (hn : 70000 ≤ n) (hC : CZ Z hs) (hM : MZ Z m) (hd : hs + 1462 ≤ m) (hL : L ≤ 2560) (hi : i + 5 ≤ L) (h : LInv hs m g) (hκ : ∀ g, LInv hs m g → κ (nI i + 5) g = some 1) : f_law_c22 n Z hs m L xw κ (nI i) g = some 1 := by
  obtain ⟨r, g1, g2, e1, e2, e3⟩ := a_answerColumns (n := n) (Z := Z) (c := hs) (m := m) (g := g) (show 500 ≤ n by omega) hC hM hd  h
  unfold f_law_c22
  rw [e1, bnd_s, e2, bnd_s, if_pos rfl]
  exact hκ g2 e3
theorem law_c23 (hn : 70000 ≤ n) (hC : CZ Z hs) (hM : MZ Z m) (hd : hs + 1462 ≤ m) (hL : L ≤ 2560) (hi : i + 5 ≤ L) (h : LInv hs m g) (hκ : ∀ g, LInv hs m g → κ (nI i + 5) g = some 1) : f_law_c23 n Z hs m L xw κ (nI i) g = some 1 := by
  have I1 : inr (nI i + (1 : Int32)) L := inr_add (t := 1) hL hi (by omega)
  have I2 : inr (nI i + (2 : Int32)) L := inr_add (t := 2) hL hi (by omega)
  obtain ⟨r, g1, g2, e1, e2, e3⟩ := a_answerValue (n := n) (Z := Z) (c := hs) (m := m) (g := g) (show 500 ≤ n by omega) hC hM hd (xw (nI i + (1 : Int32)).toNatClampNeg) (xw (nI i + (2 : Int32)).toNatClampNeg) h
  unfold f_law_c23
  simp only [grd_t I1, grd_t I2]
  rw [e1, bnd_s, e2, bnd_s, if_pos rfl]
  exact hκ g2 e3
theorem law_c24 (hn : 70000 ≤ n) (hC : CZ Z hs) (hM : MZ Z m) (hd : hs + 1462 ≤ m) (hL : L ≤ 2560) (hi : i + 5 ≤ L) (h : LInv hs m g) (hκ : ∀ g, LInv hs m g → κ (nI i + 5) g = some 1) : f_law_c24 n Z hs m L xw κ (nI i) g = some 1 := by
  have I1 : inr (nI i + (1 : Int32)) L := inr_add (t := 1) hL hi (by omega)
  have I2 : inr (nI i + (2 : Int32)) L := inr_add (t := 2) hL hi (by omega)
  obtain ⟨r, g1, g2, e1, e2, e3⟩ := a_terms (n := n) (Z := Z) (c := hs) (m := m) (g := g) (show 500 ≤ n by omega) hC hM hd (xw (nI i + (1 : Int32)).toNatClampNeg) (xw (nI i + (2 : Int32)).toNatClampNeg) h
  unfold f_law_c24
  simp only [grd_t I1, grd_t I2]
  rw [e1, bnd_s, e2, bnd_s, if_pos rfl]
  exact hκ g2 e3
theorem law_c25 (hn : 70000 ≤ n) (hC : CZ Z hs) (hM : MZ Z m) (hd : hs + 1462 ≤ m) (hL : L ≤ 2560) (hi : i + 5 ≤ L) (h : LInv hs m g) (hκ : ∀ g, LInv hs m g → κ (nI i + 5) g = some 1) : f_law_c25 n Z hs m L xw κ (nI i) g = some 1 := by
  have I1 : inr (nI i + (1 : Int32)) L := inr_add (t := 1) hL hi (by omega)
  have I2 : inr (nI i + (2 : Int32)) L := inr_add (t := 2) hL hi (by omega)
  have I3 : inr (nI i + (3 : Int32)) L := inr_add (t := 3) hL hi (by omega)
  obtain ⟨r, g1, g2, e1, e2, e3⟩ := a_coefficient (n := n) (Z := Z) (c := hs) (m := m) (g := g) (show 500 ≤ n by omega) hC hM hd (xw (nI i + (1 : Int32)).toNatClampNeg) (xw (nI i + (2 : Int32)).toNatClampNeg) (xw (nI i + (3 : Int32)).toNatClampNeg) h
  unfold f_law_c25
  simp only [grd_t I1, grd_t I2, grd_t I3]
  rw [e1, bnd_s, e2, bnd_s, if_pos ((lg_cmp_eq _ _).mpr rfl)]
  exact hκ g2 e3
theorem law_c26 (hn : 70000 ≤ n) (hC : CZ Z hs) (hM : MZ Z m) (hd : hs + 1462 ≤ m) (hL : L ≤ 2560) (hi : i + 5 ≤ L) (h : LInv hs m g) (hκ : ∀ g, LInv hs m g → κ (nI i + 5) g = some 1) : f_law_c26 n Z hs m L xw κ (nI i) g = some 1 := by
  have I1 : inr (nI i + (1 : Int32)) L := inr_add (t := 1) hL hi (by omega)
  have I2 : inr (nI i + (2 : Int32)) L := inr_add (t := 2) hL hi (by omega)
  have I3 : inr (nI i + (3 : Int32)) L := inr_add (t := 3) hL hi (by omega)
  have I4 : inr (nI i + (4 : Int32)) L := inr_add (t := 4) hL hi (by omega)
  obtain ⟨r, g1, g2, e1, e2, e3⟩ := a_exponent (n := n) (Z := Z) (c := hs) (m := m) (g := g) (show 500 ≤ n by omega) hC hM hd (xw (nI i + (1 : Int32)).toNatClampNeg) (xw (nI i + (2 : Int32)).toNatClampNeg) (xw (nI i + (3 : Int32)).toNatClampNeg) (xw (nI i + (4 : Int32)).toNatClampNeg) h
  unfold f_law_c26
  simp only [grd_t I1, grd_t I2, grd_t I3, grd_t I4]
  rw [e1, bnd_s, e2, bnd_s, if_pos rfl]
  exact hκ g2 e3
theorem law_c27 (hn : 70000 ≤ n) (hC : CZ Z hs) (hM : MZ Z m) (hd : hs + 1462 ≤ m) (hL : L ≤ 2560) (hi : i + 5 ≤ L) (h : LInv hs m g) (hκ : ∀ g, LInv hs m g → κ (nI i + 5) g = some 1) : f_law_c27 n Z hs m L xw κ (nI i) g = some 1 := by
  have I1 : inr (nI i + (1 : Int32)) L := inr_add (t := 1) hL hi (by omega)
  obtain ⟨r, g1, g2, e1, e2, e3⟩ := a_lineage (n := n) (Z := Z) (c := hs) (m := m) (g := g) (show 500 ≤ n by omega) hC hM hd (xw (nI i + (1 : Int32)).toNatClampNeg) h
  unfold f_law_c27
  simp only [grd_t I1]
  rw [e1, bnd_s, e2, bnd_s, if_pos rfl]
  exact hκ g2 e3
theorem law_c28 (hn : 70000 ≤ n) (hC : CZ Z hs) (hM : MZ Z m) (hd : hs + 1462 ≤ m) (hL : L ≤ 2560) (hi : i + 5 ≤ L) (h : LInv hs m g) (hκ : ∀ g, LInv hs m g → κ (nI i + 5) g = some 1) : f_law_c28 n Z hs m L xw κ (nI i) g = some 1 := by
  have I1 : inr (nI i + (1 : Int32)) L := inr_add (t := 1) hL hi (by omega)
  obtain ⟨r, g1, g2, e1, e2, e3⟩ := a_derivations (n := n) (Z := Z) (c := hs) (m := m) (g := g) (show 500 ≤ n by omega) hC hM hd (xw (nI i + (1 : Int32)).toNatClampNeg) h
  unfold f_law_c28
  simp only [grd_t I1]
  rw [e1, bnd_s, e2, bnd_s, if_pos ((lg_cmp_eq _ _).mpr rfl)]
  exact hκ g2 e3
theorem law_c29 (hn : 70000 ≤ n) (hC : CZ Z hs) (hM : MZ Z m) (hd : hs + 1462 ≤ m) (hL : L ≤ 2560) (hi : i + 5 ≤ L) (h : LInv hs m g) (hκ : ∀ g, LInv hs m g → κ (nI i + 5) g = some 1) : f_law_c29 n Z hs m L xw κ (nI i) g = some 1 := by
  have I1 : inr (nI i + (1 : Int32)) L := inr_add (t := 1) hL hi (by omega)
  obtain ⟨r, g1, g2, e1, e2, e3⟩ := a_leastCost (n := n) (Z := Z) (c := hs) (m := m) (g := g) (show 500 ≤ n by omega) hC hM hd (xw (nI i + (1 : Int32)).toNatClampNeg) h
  unfold f_law_c29
  simp only [grd_t I1]
  rw [e1, bnd_s, e2, bnd_s, if_pos rfl]
  exact hκ g2 e3
theorem law_c30 (hn : 70000 ≤ n) (hC : CZ Z hs) (hM : MZ Z m) (hd : hs + 1462 ≤ m) (hL : L ≤ 2560) (hi : i + 5 ≤ L) (h : LInv hs m g) (hκ : ∀ g, LInv hs m g → κ (nI i + 5) g = some 1) : f_law_c30 n Z hs m L xw κ (nI i) g = some 1 := by
  have I1 : inr (nI i + (1 : Int32)) L := inr_add (t := 1) hL hi (by omega)
  obtain ⟨r, g1, g2, e1, e2, e3⟩ := a_cheapestTags (n := n) (Z := Z) (c := hs) (m := m) (g := g) (show 500 ≤ n by omega) hC hM hd (xw (nI i + (1 : Int32)).toNatClampNeg) h
  unfold f_law_c30
  simp only [grd_t I1]
  rw [e1, bnd_s, e2, bnd_s, if_pos rfl]
  exact hκ g2 e3
theorem law_c31 (hn : 70000 ≤ n) (hC : CZ Z hs) (hM : MZ Z m) (hd : hs + 1462 ≤ m) (hL : L ≤ 2560) (hi : i + 5 ≤ L) (h : LInv hs m g) (hκ : ∀ g, LInv hs m g → κ (nI i + 5) g = some 1) : f_law_c31 n Z hs m L xw κ (nI i) g = some 1 := by
  have I1 : inr (nI i + (1 : Int32)) L := inr_add (t := 1) hL hi (by omega)
  obtain ⟨r, g1, g2, e1, e2, e3⟩ := a_answerTrust (n := n) (Z := Z) (c := hs) (m := m) (g := g) (show 500 ≤ n by omega) hC hM hd (xw (nI i + (1 : Int32)).toNatClampNeg) h
  unfold f_law_c31
  simp only [grd_t I1]
  rw [e1, bnd_s, e2, bnd_s, if_pos rfl]
  exact hκ g2 e3
theorem law_c32 (hn : 70000 ≤ n) (hC : CZ Z hs) (hM : MZ Z m) (hd : hs + 1462 ≤ m) (hL : L ≤ 2560) (hi : i + 5 ≤ L) (h : LInv hs m g) (hκ : ∀ g, LInv hs m g → κ (nI i + 5) g = some 1) : f_law_c32 n Z hs m L xw κ (nI i) g = some 1 := by
  have I1 : inr (nI i + (1 : Int32)) L := inr_add (t := 1) hL hi (by omega)
  obtain ⟨r, g1, g2, e1, e0, e2, e3⟩ := a_confidence (n := n) (Z := Z) (c := hs) (m := m) (g := g) (show 500 ≤ n by omega) hC hM hd (xw (nI i + (1 : Int32)).toNatClampNeg) h
  unfold f_law_c32
  simp only [grd_t I1]
  rw [e1, bnd_s, grd_t e0, e2, bnd_s, grd_t e0]
  by_cases q : Op.cmpValue (FP.dcmp (FP.f2d r) (FP.f2d r)) .l = 0
  · rw [if_pos q]; exact hκ g2 e3
  · rw [if_neg q, if_neg q, if_neg q]; exact hκ g2 e3
theorem law_c33 (hn : 70000 ≤ n) (hC : CZ Z hs) (hM : MZ Z m) (hd : hs + 1462 ≤ m) (hL : L ≤ 2560) (hi : i + 5 ≤ L) (h : LInv hs m g) (hκ : ∀ g, LInv hs m g → κ (nI i + 5) g = some 1) : f_law_c33 n Z hs m L xw κ (nI i) g = some 1 := by
  have I1 : inr (nI i + (1 : Int32)) L := inr_add (t := 1) hL hi (by omega)
  obtain ⟨r, g1, g2, e1, e2, e3⟩ := a_needed (n := n) (Z := Z) (c := hs) (m := m) (g := g) (show 500 ≤ n by omega) hC hM hd (xw (nI i + (1 : Int32)).toNatClampNeg) h
  unfold f_law_c33
  simp only [grd_t I1]
  rw [e1, bnd_s, e2, bnd_s, if_pos rfl]
  exact hκ g2 e3
theorem law_c34 (hn : 70000 ≤ n) (hC : CZ Z hs) (hM : MZ Z m) (hd : hs + 1462 ≤ m) (hL : L ≤ 2560) (hi : i + 5 ≤ L) (h : LInv hs m g) (hκ : ∀ g, LInv hs m g → κ (nI i + 5) g = some 1) : f_law_c34 n Z hs m L xw κ (nI i) g = some 1 := by
  have I1 : inr (nI i + (1 : Int32)) L := inr_add (t := 1) hL hi (by omega)
  obtain ⟨r, g1, g2, e1, e2, e3⟩ := a_smallestCut (n := n) (Z := Z) (c := hs) (m := m) (g := g) hn hC hM hd (xw (nI i + (1 : Int32)).toNatClampNeg) h
  unfold f_law_c34
  simp only [grd_t I1]
  rw [e1, bnd_s, e2, bnd_s, if_pos rfl]
  exact hκ g2 e3
theorem law_c35 (hn : 70000 ≤ n) (hC : CZ Z hs) (hM : MZ Z m) (hd : hs + 1462 ≤ m) (hL : L ≤ 2560) (hi : i + 5 ≤ L) (h : LInv hs m g) (hκ : ∀ g, LInv hs m g → κ (nI i + 5) g = some 1) : f_law_c35 n Z hs m L xw κ (nI i) g = some 1 := by
  have I1 : inr (nI i + (1 : Int32)) L := inr_add (t := 1) hL hi (by omega)
  obtain ⟨r, g1, g2, e1, e2, e3⟩ := a_worlds (n := n) (Z := Z) (c := hs) (m := m) (g := g) hn hC hM hd (xw (nI i + (1 : Int32)).toNatClampNeg) h
  unfold f_law_c35
  simp only [grd_t I1]
  rw [e1, bnd_s, e2, bnd_s, if_pos rfl]
  exact hκ g2 e3
theorem law_c36 (hn : 70000 ≤ n) (hC : CZ Z hs) (hM : MZ Z m) (hd : hs + 1462 ≤ m) (hL : L ≤ 2560) (hi : i + 5 ≤ L) (h : LInv hs m g) (hκ : ∀ g, LInv hs m g → κ (nI i + 5) g = some 1) : f_law_c36 n Z hs m L xw κ (nI i) g = some 1 := by
  have I1 : inr (nI i + (1 : Int32)) L := inr_add (t := 1) hL hi (by omega)
  obtain ⟨r, g1, g2, e1, e2, e3⟩ := a_lostIf (n := n) (Z := Z) (c := hs) (m := m) (g := g) (show 500 ≤ n by omega) hC hM hd (xw (nI i + (1 : Int32)).toNatClampNeg) h
  unfold f_law_c36
  simp only [grd_t I1]
  rw [e1, bnd_s, e2, bnd_s, if_pos rfl]
  exact hκ g2 e3
theorem law_c37 (hn : 70000 ≤ n) (hC : CZ Z hs) (hM : MZ Z m) (hd : hs + 1462 ≤ m) (hL : L ≤ 2560) (hi : i + 5 ≤ L) (h : LInv hs m g) (hκ : ∀ g, LInv hs m g → κ (nI i + 5) g = some 1) : f_law_c37 n Z hs m L xw κ (nI i) g = some 1 := by
  have I1 : inr (nI i + (1 : Int32)) L := inr_add (t := 1) hL hi (by omega)
  have I2 : inr (nI i + (2 : Int32)) L := inr_add (t := 2) hL hi (by omega)
  obtain ⟨r, g1, g2, e1, e2, e3⟩ := a_print (n := n) (Z := Z) (c := hs) (m := m) (g := g) (show 500 ≤ n by omega) hC hM hd (xw (nI i + (1 : Int32)).toNatClampNeg) (xw (nI i + (2 : Int32)).toNatClampNeg) h
  unfold f_law_c37
  simp only [grd_t I1, grd_t I2]
  rw [e1, bnd_s, e2, bnd_s, if_pos rfl]
  exact hκ g2 e3
theorem law_c38 (hn : 70000 ≤ n) (hC : CZ Z hs) (hM : MZ Z m) (hd : hs + 1462 ≤ m) (hL : L ≤ 2560) (hi : i + 5 ≤ L) (h : LInv hs m g) (hκ : ∀ g, LInv hs m g → κ (nI i + 5) g = some 1) : f_law_c38 n Z hs m L xw κ (nI i) g = some 1 := by
  have I1 : inr (nI i + (1 : Int32)) L := inr_add (t := 1) hL hi (by omega)
  obtain ⟨r, g1, g2, e1, e2, e3⟩ := a_printed (n := n) (Z := Z) (c := hs) (m := m) (g := g) hC hM hd (xw (nI i + (1 : Int32)).toNatClampNeg) h
  unfold f_law_c38
  simp only [grd_t I1]
  rw [e1, bnd_s, e2, bnd_s, if_pos rfl]
  exact hκ g2 e3
end LAW

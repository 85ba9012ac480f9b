/-! THE FIRST STATE -/
def bI : Nat → Nat := fun t => if t < 4 then 2 else 0
theorem bI_hi {t : Nat} (h : 4 ≤ t) : bI t = 0 := by unfold bI; rw [if_neg (by omega)]
theorem bI_ok : BOk bI := by
  refine ⟨fun t ht => by unfold bI; rw [if_pos ht]; omega, fun t ht => ?_, by rw [bI_hi (by omega)]; omega, fun k hk => by rw [bI_hi (by omega)] at hk; omega⟩
  rw [bI_hi (t := 4 + 5 * t) (by omega), bI_hi (t := 8 + 5 * t) (by omega), bI_hi (t := 6 + 5 * t) (by omega), bI_hi (t := 7 + 5 * t) (by omega), bI_hi (t := 5 + 5 * t) (by omega)]
  exact ⟨by omega, by omega, by omega, by omega, fun z => absurd rfl z, fun _ => ⟨rfl, rfl, rfl, rfl⟩⟩
theorem bI_ans : Ans bI dV := Or.inl ⟨bI_hi (by omega), rfl⟩
def T0 : Nat → Nat := fun _ => 0
theorem pinv0 : PInv bI [] 0 T0 [] dV := ⟨⟨bI_ok, dV, bI_ans⟩, fun x hx => absurd hx List.not_mem_nil, ⟨by omega, fun k hk => absurd hk (Nat.not_lt_zero _), fun k _ => rfl⟩, bI_ans, Nat.zero_le _⟩
theorem St0.fr {g g' : Mem} {a lo hi : Nat} (h : St0 g a) (hF : Fr lo hi g g') (h1 : a + 8 ≤ lo ∨ hi ≤ a) : St0 g' a :=
  ⟨fun t ht => (hF.i (by omega) _).trans (h.1 t ht), (hF.i (by omega) _).trans h.2.1, (hF.i (by omega) _).trans h.2.2.1, (hF.i (by omega) _).trans h.2.2.2⟩
theorem St0.st {g : Mem} {a : Nat} (h : St0 g a) : StIs g a bI := by
  refine ⟨fun t ht => ?_, fun t ht z => absurd (bI_hi (by omega)) z, ⟨0, h.2.1, by omega, fun t ht => ?_⟩, ⟨0, h.2.2.1, by omega, fun t ht => ?_⟩, ?_, fun k hk => ?_⟩
  · rw [h.1 t ht]; unfold bI; rw [if_pos ht]; rfl
  · show Nat.testBit 0 t = decide (bI (4 + 5 * t) ≠ 0)
    rw [bI_hi (by omega)]; exact Nat.zero_testBit t
  · show Nat.testBit 0 t = decide (bI (8 + 5 * t) = 1)
    rw [bI_hi (by omega)]; exact Nat.zero_testBit t
  · rw [h.2.2.2, bI_hi (by omega)]; rfl
  · rw [bI_hi (by omega)] at hk; exact absurd hk (Nat.not_lt_zero _)
section FIRST
variable {n : Nat} {Z : Zt} {g : Mem}
theorem stp {c i q kd : Nat} {Z Y : Zt} (hB : ZB q (nO Z q kd) Y) : ZR c i q Z (fZ Y c i (some q)) ∧ zf (fZ Y c i (some q)) c i = some q :=
  ⟨ZR.trans (ZB.trans ZB.nO hB (Nat.le_refl _)).r (ZR.fZ (Nat.le_refl _)) (Nat.le_refl _) (Nat.le_refl _), by rw [zf_fZ, if_pos ⟨rfl, rfl⟩]⟩
theorem i_X10 {c : Nat} (hn : 40 ≤ n) (hk : zk Z c = 9) : ∃ Z' g', fi_X10 n (c + 1) Z c g = some (Z', g') ∧ CZ Z' c ∧ CInv g' c bI [] 0 T0 [] dV ∧ ZB c Z Z' ∧ Fr c (c + 1462) g g' := by
  obtain ⟨Y1, g1, e1, s1, t1, b1, r1⟩ := i_X8 (n := n) (Z := nO (Z) (c + 1) 6) (g := zr g (c + 1)) (a := c + 1) (hs := c + 2) hn rfl (by rw [zk_nO, if_pos rfl]) (fun j => by rw [gI_zr, if_pos rfl])
  obtain ⟨R1, v1⟩ := stp (c := c) (i := 0) b1
  have K1 : zk Y1 c = 9 := (R1.k (by omega)).trans hk
  have G1 : Fr (c + 1) (c + 9) g g1 := (Fr.zr Fr.rfl (by omega) (by omega)).trans (r1.mono (by omega) (by omega))
  obtain ⟨Y2, g2, e2, s2, t2, b2, r2⟩ := i_X8 (n := n) (Z := nO (fZ Y1 c 0 (some (c + 1))) (c + 9) 6) (g := zr g1 (c + 9)) (a := c + 9) (hs := c + 10) hn rfl (by rw [zk_nO, if_pos rfl]) (fun j => by rw [gI_zr, if_pos rfl])
  obtain ⟨R2, v2⟩ := stp (c := c) (i := 1) b2
  have K2 : zk Y2 c = 9 := (R2.k (by omega)).trans K1
  have G2 : Fr (c + 9) (c + 17) g1 g2 := (Fr.zr Fr.rfl (by omega) (by omega)).trans (r2.mono (by omega) (by omega))
  obtain ⟨Y3, g3, e3, s3, t3, b3, r3⟩ := i_X1 (n := n) (Z := nO (fZ Y2 c 1 (some (c + 9))) (c + 17) 1) (g := zr g2 (c + 17)) (a := c + 17) (hs := c + 18) hn rfl (by rw [zk_nO, if_pos rfl]) (fun j => by rw [gI_zr, if_pos rfl])
  obtain ⟨R3, v3⟩ := stp (c := c) (i := 2) b3
  have K3 : zk Y3 c = 9 := (R3.k (by omega)).trans K2
  have G3 : Fr (c + 17) (c + 51) g2 g3 := (Fr.zr Fr.rfl (by omega) (by omega)).trans (r3.mono (by omega) (by omega))
  obtain ⟨Y4, g4, e4, s4, b4, r4⟩ := i_X3 (n := n) (Z := nO (fZ Y3 c 2 (some (c + 17))) (c + 51) 2) (g := zr g3 (c + 51)) (a := c + 51) (hs := c + 52) (L := 60) (x := 60) rfl (by rw [zk_nO, if_pos rfl]) (by decide) (by decide) (by decide) (by decide)
  obtain ⟨R4, v4⟩ := stp (c := c) (i := 3) b4
  have K4 : zk Y4 c = 9 := (R4.k (by omega)).trans K3
  have G4 : Fr (c + 51) (c + 53) g3 g4 := (Fr.zr Fr.rfl (by omega) (by omega)).trans (r4.mono (by omega) (by omega))
  obtain ⟨Y5, g5, e5, s5, b5, r5⟩ := i_X3 (n := n) (Z := nO (fZ Y4 c 3 (some (c + 51))) (c + 53) 2) (g := zr g4 (c + 53)) (a := c + 53) (hs := c + 54) (L := 1024) (x := 1024) rfl (by rw [zk_nO, if_pos rfl]) (by decide) (by decide) (by decide) (by decide)
  obtain ⟨R5, v5⟩ := stp (c := c) (i := 4) b5
  have K5 : zk Y5 c = 9 := (R5.k (by omega)).trans K4
  have G5 : Fr (c + 53) (c + 55) g4 g5 := (Fr.zr Fr.rfl (by omega) (by omega)).trans (r5.mono (by omega) (by omega))
  obtain ⟨Y6, g6, e6, s6, t6, b6, r6⟩ := i_X6 (n := n) (Z := nO (fZ Y5 c 4 (some (c + 53))) (c + 55) 4) (g := zr g5 (c + 55)) (a := c + 55) (hs := c + 56) rfl (by rw [zk_nO, if_pos rfl]) (fun j => by rw [gI_zr, if_pos rfl])
  obtain ⟨R6, v6⟩ := stp (c := c) (i := 5) b6
  have K6 : zk Y6 c = 9 := (R6.k (by omega)).trans K5
  have G6 : Fr (c + 55) (c + 61) g5 g6 := (Fr.zr Fr.rfl (by omega) (by omega)).trans (r6.mono (by omega) (by omega))
  obtain ⟨Y7, g7, e7, s7, t7, b7, r7⟩ := i_X6 (n := n) (Z := nO (fZ Y6 c 5 (some (c + 55))) (c + 61) 4) (g := zr g6 (c + 61)) (a := c + 61) (hs := c + 62) rfl (by rw [zk_nO, if_pos rfl]) (fun j => by rw [gI_zr, if_pos rfl])
  obtain ⟨R7, v7⟩ := stp (c := c) (i := 6) b7
  have K7 : zk Y7 c = 9 := (R7.k (by omega)).trans K6
  have G7 : Fr (c + 61) (c + 67) g6 g7 := (Fr.zr Fr.rfl (by omega) (by omega)).trans (r7.mono (by omega) (by omega))
  obtain ⟨Y8, g8, e8, s8, t8, b8, r8⟩ := i_X0 (n := n) (Z := nO (fZ Y7 c 6 (some (c + 61))) (c + 67) 0) (g := zr g7 (c + 67)) (a := c + 67) (hs := c + 68) hn rfl (by rw [zk_nO, if_pos rfl])
  obtain ⟨R8, v8⟩ := stp (c := c) (i := 7) b8
  have K8 : zk Y8 c = 9 := (R8.k (by omega)).trans K7
  have G8 : Fr (c + 67) (c + 1455) g7 g8 := (Fr.zr Fr.rfl (by omega) (by omega)).trans (r8.mono (by omega) (by omega))
  obtain ⟨Y9, g9, e9, s9, b9, r9⟩ := i_X5 (n := n) (Z := nO (fZ Y8 c 7 (some (c + 67))) (c + 1455) 3) (g := zr g8 (c + 1455)) (a := c + 1455) (hs := c + 1456) rfl (by rw [zk_nO, if_pos rfl])
  obtain ⟨R9, v9⟩ := stp (c := c) (i := 8) b9
  have K9 : zk Y9 c = 9 := (R9.k (by omega)).trans K8
  have G9 : Fr (c + 1455) (c + 1458) g8 g9 := (Fr.zr Fr.rfl (by omega) (by omega)).trans (r9.mono (by omega) (by omega))
  obtain ⟨Y10, g10, e10, s10, b10, r10⟩ := i_X9 (n := n) (Z := nO (fZ Y9 c 8 (some (c + 1455))) (c + 1458) 7) (g := zr g9 (c + 1458)) (a := c + 1458) (hs := c + 1459) rfl (by rw [zk_nO, if_pos rfl])
  obtain ⟨R10, v10⟩ := stp (c := c) (i := 9) b10
  have K10 : zk Y10 c = 9 := (R10.k (by omega)).trans K9
  have G10 : Fr (c + 1458) (c + 1462) g9 g10 := (Fr.zr Fr.rfl (by omega) (by omega)).trans (r10.mono (by omega) (by omega))
  have S10 : ZR c 10 (c + 1462) (fZ Y10 c 9 (some (c + 1458))) (fZ Y10 c 9 (some (c + 1458))) := ZR.rfl
  have F10 : Fr (c + 1462) (c + 1462) g10 g10 := Fr.rfl
  have S9 : ZR c 9 (c + 1458) (fZ Y9 c 8 (some (c + 1455))) (fZ Y10 c 9 (some (c + 1458))) := ZR.trans R10 S10 (by omega) (by omega)
  have F9 : Fr (c + 1458) (c + 1462) g9 g10 := (G10.mono (by omega) (by omega)).trans (F10.mono (by omega) (by omega))
  have S8 : ZR c 8 (c + 1455) (fZ Y8 c 7 (some (c + 67))) (fZ Y10 c 9 (some (c + 1458))) := ZR.trans R9 S9 (by omega) (by omega)
  have F8 : Fr (c + 1455) (c + 1462) g8 g10 := (G9.mono (by omega) (by omega)).trans (F9.mono (by omega) (by omega))
  have S7 : ZR c 7 (c + 67) (fZ Y7 c 6 (some (c + 61))) (fZ Y10 c 9 (some (c + 1458))) := ZR.trans R8 S8 (by omega) (by omega)
  have F7 : Fr (c + 67) (c + 1462) g7 g10 := (G8.mono (by omega) (by omega)).trans (F8.mono (by omega) (by omega))
  have S6 : ZR c 6 (c + 61) (fZ Y6 c 5 (some (c + 55))) (fZ Y10 c 9 (some (c + 1458))) := ZR.trans R7 S7 (by omega) (by omega)
  have F6 : Fr (c + 61) (c + 1462) g6 g10 := (G7.mono (by omega) (by omega)).trans (F7.mono (by omega) (by omega))
  have S5 : ZR c 5 (c + 55) (fZ Y5 c 4 (some (c + 53))) (fZ Y10 c 9 (some (c + 1458))) := ZR.trans R6 S6 (by omega) (by omega)
  have F5 : Fr (c + 55) (c + 1462) g5 g10 := (G6.mono (by omega) (by omega)).trans (F6.mono (by omega) (by omega))
  have S4 : ZR c 4 (c + 53) (fZ Y4 c 3 (some (c + 51))) (fZ Y10 c 9 (some (c + 1458))) := ZR.trans R5 S5 (by omega) (by omega)
  have F4 : Fr (c + 53) (c + 1462) g4 g10 := (G5.mono (by omega) (by omega)).trans (F5.mono (by omega) (by omega))
  have S3 : ZR c 3 (c + 51) (fZ Y3 c 2 (some (c + 17))) (fZ Y10 c 9 (some (c + 1458))) := ZR.trans R4 S4 (by omega) (by omega)
  have F3 : Fr (c + 51) (c + 1462) g3 g10 := (G4.mono (by omega) (by omega)).trans (F4.mono (by omega) (by omega))
  have S2 : ZR c 2 (c + 17) (fZ Y2 c 1 (some (c + 9))) (fZ Y10 c 9 (some (c + 1458))) := ZR.trans R3 S3 (by omega) (by omega)
  have F2 : Fr (c + 17) (c + 1462) g2 g10 := (G3.mono (by omega) (by omega)).trans (F3.mono (by omega) (by omega))
  have S1 : ZR c 1 (c + 9) (fZ Y1 c 0 (some (c + 1))) (fZ Y10 c 9 (some (c + 1458))) := ZR.trans R2 S2 (by omega) (by omega)
  have F1 : Fr (c + 9) (c + 1462) g1 g10 := (G2.mono (by omega) (by omega)).trans (F2.mono (by omega) (by omega))
  have S0 : ZR c 0 (c + 1) Z (fZ Y10 c 9 (some (c + 1458))) := ZR.trans R1 S1 (by omega) (by omega)
  have F0 : Fr (c + 1) (c + 1462) g g10 := (G1.mono (by omega) (by omega)).trans (F1.mono (by omega) (by omega))
  refine ⟨fZ Y10 c 9 (some (c + 1458)), g10, ?_, ⟨⟨K10, (S1.f (by omega)).trans v1, (S2.f (by omega)).trans v2, (S3.f (by omega)).trans v3, (S4.f (by omega)).trans v4, (S5.f (by omega)).trans v5, (S6.f (by omega)).trans v6, (S7.f (by omega)).trans v7, (S8.f (by omega)).trans v8, (S9.f (by omega)).trans v9, (S10.f (by omega)).trans v10⟩, (s1.mv (c := c) (i := 0) (q := c + 9) (ZR.fZ (Nat.le_refl _)) (by omega) (by omega)).mv S1 (by omega) (by omega), (s2.mv (c := c) (i := 1) (q := c + 17) (ZR.fZ (Nat.le_refl _)) (by omega) (by omega)).mv S2 (by omega) (by omega), (s3.mv (c := c) (i := 2) (q := c + 51) (ZR.fZ (Nat.le_refl _)) (by omega) (by omega)).mv S3 (by omega) (by omega), (s4.mv (c := c) (i := 3) (q := c + 53) (ZR.fZ (Nat.le_refl _)) (by omega) (by omega)).mv S4 (by omega) (by omega), (s5.mv (c := c) (i := 4) (q := c + 55) (ZR.fZ (Nat.le_refl _)) (by omega) (by omega)).mv S5 (by omega) (by omega), (s6.mv (c := c) (i := 5) (q := c + 61) (ZR.fZ (Nat.le_refl _)) (by omega) (by omega)).mv S6 (by omega) (by omega), (s7.mv (c := c) (i := 6) (q := c + 67) (ZR.fZ (Nat.le_refl _)) (by omega) (by omega)).mv S7 (by omega) (by omega), (s8.mv (c := c) (i := 7) (q := c + 1455) (ZR.fZ (Nat.le_refl _)) (by omega) (by omega)).mv S8 (by omega) (by omega), (s9.mv (c := c) (i := 8) (q := c + 1458) (ZR.fZ (Nat.le_refl _)) (by omega) (by omega)).mv S9 (by omega) (by omega), (s10.mv (c := c) (i := 9) (q := c + 1462) (ZR.fZ (Nat.le_refl _)) (by omega) (by omega)).mv S10 (by omega) (by omega)⟩, ?_, fun b hb => ?_, F0.mono (by omega) (by omega)⟩
  · unfold fi_X10
    simp only [nam, Nat.add_zero, Nat.add_assoc, Nat.reduceAdd]
    rw [e1, bnd_s, grd_t K1, e2, bnd_s, grd_t K2, e3, bnd_s, grd_t K3, e4, bnd_s, grd_t K4, e5, bnd_s, grd_t K5, e6, bnd_s, grd_t K6, e7, bnd_s, grd_t K7, e8, bnd_s, grd_t K8, e9, bnd_s, grd_t K9, e10, bnd_s, grd_t K10]
  · refine ⟨(t1.fr F1 (by omega)).st, ⟨id, t3.fr F3 (by omega)⟩, ⟨?_, fun k hk => absurd hk (Nat.not_lt_zero _)⟩, ⟨?_, fun k hk => absurd hk (Nat.not_lt_zero _)⟩, Or.inl ⟨bI_hi (by omega), ?_⟩, t8.fr F8 (by omega)⟩
    · rw [F4.i (by omega), r4.i (by omega), gI_zr, if_pos rfl]; rfl
    · rw [F5.i (by omega), r5.i (by omega), gI_zr, if_pos rfl]; rfl
    · rw [F7.i (by omega)]; exact t7 9
  · exact ⟨S0.k (by omega), S0.l (by omega), fun j => S0.f (by omega)⟩
end FIRST

/-! FILLING BY A JOIN (the class) -/
def joinL1 (wa wb ca cb : Nat) (x : Nat × Pol) (B : Rws) : Rws := (B.filter fun y => decide (dg wb y.1 cb = dg wa x.1 ca)).map fun y => (x.1 * 10 ^ wb + y.1, pMulT x.2 y.2)
def joinL (wa wb ca cb : Nat) (A B : Rws) : Rws := A.flatMap fun x => joinL1 wa wb ca cb x B
/-- keys have w digits -/
def KOk (w : Nat) (rows : Rws) : Prop := ∀ k, k < rows.length → (rows.getD k (0, [])).1 < 10 ^ w
/-- how an inner filling loop ends -/
def SK (f : Option (Int32 × Mem)) (κ : Mem → Option (Int32 × Mem)) (g : Mem) (r w : Nat) (o : Option Rws) : Prop := match o with
  | some rows => ∃ g' π, f = κ g' ∧ RIs g' r w π rows ∧ Fr r (r + 99) g g'
  | none => ∃ g' π rows, f = some (0, g') ∧ RIs g' r w π rows ∧ Fr r (r + 99) g g'
theorem SK.pre {f : Option (Int32 × Mem)} {κ : Mem → Option (Int32 × Mem)} {g g1 : Mem} {r w : Nat} {o : Option Rws} (h : SK f κ g1 r w o) (hF : Fr r (r + 99) g g1) : SK f κ g r w o := by
  cases o with
  | none => obtain ⟨g', π, zs, e, h1, h2⟩ := h; exact ⟨g', π, zs, e, h1, hF.trans h2⟩
  | some zs => obtain ⟨g', π, e, h1, h2⟩ := h; exact ⟨g', π, e, h1, hF.trans h2⟩
theorem SK.cong {f f' : Option (Int32 × Mem)} {κ : Mem → Option (Int32 × Mem)} {g : Mem} {r w : Nat} {o : Option Rws} (h : SK f κ g r w o) (e : f' = f) : SK f' κ g r w o := e ▸ h
theorem pow_10 {a b : Nat} (h : a + b ≤ 4) : 10 ^ a * 10 ^ b ≤ 10000 := by
  rw [← Nat.pow_add]
  exact Nat.pow_le_pow_right (by omega) h
theorem key_comb {a b x y : Nat} (hx : x < 10 ^ a) (hy : y < 10 ^ b) : x * 10 ^ b + y < 10 ^ (a + b) := by
  rw [Nat.pow_add]
  calc x * 10 ^ b + y < x * 10 ^ b + 10 ^ b := by omega
    _ = (x + 1) * 10 ^ b := by rw [Nat.add_mul, Nat.one_mul]
    _ ≤ 10 ^ a * 10 ^ b := Nat.mul_le_mul_right _ hx
theorem KOk.comb {wa wb i k : Nat} {A B : Rws} (hA : KOk wa A) (hB : KOk wb B) (hw : wa + wb ≤ 4) (hi : i < A.length) (hk : k < B.length) : (A.getD i (0, [])).1 * 10 ^ wb + (B.getD k (0, [])).1 < 10000 := by
  have h1 := key_comb (hA i hi) (hB k hk)
  have h2 : 10 ^ (wa + wb) ≤ 10 ^ 4 := Nat.pow_le_pow_right (by omega) hw
  omega
theorem fillJ_l47 {n : Nat} {Z : Zt} {a r q p wa wb ca cb i : Nat} {ψ φ : Nat → Nat} {A B : Rws} {κ : Nat → Nat → Int32 → Int32 → Int32 → Mem → Option (Int32 × Mem)} (hn : 40 ≤ n) (hE : zk Z a = 1) (hZ : RZ Z r) (hZq : RZ Z q) (hZp : RZ Z p) (hd : q + 99 ≤ r ∨ r + 99 ≤ q) (hdp : p + 99 ≤ r ∨ r + 99 ≤ p) (hda : a + 1 ≤ r ∨ r + 99 ≤ a) (hw : wa + wb ≤ 4) (hca : ca < wa) (hcb : cb < wb) (hkA : KOk wa A) (hkB : KOk wb B) (hi : i < A.length) : ∀ (d k fu : Nat) (g : Mem) (π : Nat → Nat) (rows : Rws), d = B.length - k → k ≤ B.length → d < fu → gP g a 1 = some r → RIs g r (wa + wb) π rows → RIs g q wa ψ (pkR A) → RIs g p wb φ (pkR B) →
    SK (f_X0_fillJoin_l47 n Z κ a fu q p (nI ca) (nI cb) (nI i) (nI (dg wa (A.getD i (0, [])).1 ca)) (nI k) g) (κ q p (nI ca) (nI cb) (nI i + 1)) g r (wa + wb) (rAddL rows (pkR (joinL1 wa wb ca cb (A.getD i (0, [])) (B.drop k)))) := by
  intro d
  induction d with
  | zero =>
    intro k fu g π rows h1 h2 h3 hp hR hQ hT
    obtain ⟨fu, rfl⟩ : ∃ q, fu = q + 1 := ⟨fu - 1, by omega⟩
    have hl := hT.2.2.1
    rw [pkR_len] at hl
    have e : k = B.length := by omega
    subst e
    rw [List.drop_length]
    refine SK.cong (f := κ q p (nI ca) (nI cb) (nI i + 1) g) ⟨g, π, rfl, hR, Fr.rfl⟩ ?_
    unfold f_X0_fillJoin_l47
    rw [r_size hZp hT, bnd_s, pkR_len, if_pos ((nle (by omega) (by omega)).mpr (Nat.le_refl _))]
  | succ d ih =>
    intro k fu g π rows h1 h2 h3 hp hR hQ hT
    obtain ⟨fu, rfl⟩ : ∃ q, fu = q + 1 := ⟨fu - 1, by omega⟩
    have hl := hT.2.2.1
    rw [pkR_len] at hl
    have hkl : k < B.length := by omega
    unfold joinL1
    rw [drop_one B k (0, []) hkl, List.filter_cons]
    unfold f_X0_fillJoin_l47
    rw [r_size hZp hT, bnd_s, pkR_len, if_neg (fun z => by have := (nle (by omega) (by omega)).mp z; omega), r_key hZp hT (by rw [pkR_len]; exact hkl), bnd_s, pkR_key hkl, r_width hZp hT, bnd_s, key_digit (by omega) hcb, bnd_s]
    have hd1 := dg_lt wb (B.getD k (0, [])).1 cb
    have hd2 := dg_lt wa (A.getD i (0, [])).1 ca
    by_cases hq : dg wb (B.getD k (0, [])).1 cb = dg wa (A.getD i (0, [])).1 ca
    · rw [if_pos (congrArg nI hq), if_pos (decide_eq_true hq), nam_s, List.map_cons]
      rw [r_key hZq hQ (by rw [pkR_len]; exact hi), bnd_s, r_key hZp hT (by rw [pkR_len]; exact hkl), bnd_s, r_width hZp hT, bnd_s, pkR_key hi, pkR_key hkl, key_join (by omega) (hkB k hkl) (hkA.comb hkB hw hi hkl), bnd_s, hp, drf_s]
      have hW := row_with hn hZ hR (K := pk ((A.getD i (0, [])).1 * 10 ^ wb + (B.getD k (0, [])).1)) (by have := pk_bound ((A.getD i (0, [])).1 * 10 ^ wb + (B.getD k (0, [])).1); omega)
      show SK _ _ g r (wa + wb) (rAddL rows ((pk ((A.getD i (0, [])).1 * 10 ^ wb + (B.getD k (0, [])).1), pMulT (A.getD i (0, [])).2 (B.getD k (0, [])).2) :: pkR (joinL1 wa wb ca cb (A.getD i (0, [])) (B.drop (k + 1)))))
      unfold rAddL rAdd
      generalize pk ((A.getD i (0, [])).1 * 10 ^ wb + (B.getD k (0, [])).1) = K at hW ⊢
      cases hr : rRow rows K with
      | none =>
        rw [hr] at hW
        rw [hW, bnd_s, r_poly hZq hQ (by rw [pkR_len]; exact hi), bnd_s, r_poly hZp hT (by rw [pkR_len]; exact hkl), bnd_s, if_pos rfl]
        exact ⟨g, π, rows, rfl, hR, Fr.rfl⟩
      | some rows1 =>
        rw [hr] at hW
        obtain ⟨g', π', e, h5, h6⟩ := hW
        obtain ⟨h7, h8⟩ := rRow_spec hr
        have hQ' := hQ.fr h6 (by omega)
        have hT' := hT.fr h6 (by omega)
        rw [e, bnd_s, r_poly hZq hQ' (by rw [pkR_len]; exact hi), bnd_s, r_poly hZp hT' (by rw [pkR_len]; exact hkl), bnd_s, if_neg (by simp), if_neg (by simp), if_neg (by simp), drf_s, drf_s, drf_s]
        have b1 := (h5.pz hZ h7).2
        have b2 := (hQ'.pz hZq (k := i) (by rw [pkR_len]; exact hi)).2
        have b3 := (hT'.pz hZp (k := k) (by rw [pkR_len]; exact hkl)).2
        have hA := add_prod hn (h5.pz hZ h7).1 (hQ'.pz hZq (k := i) (by rw [pkR_len]; exact hi)).1 (hT'.pz hZp (k := k) (by rw [pkR_len]; exact hkl)).1 (by omega) (by omega) (h5.2.2.2.2.2.2 _ h7) (hQ'.2.2.2.2.2.2 i (by rw [pkR_len]; exact hi)) (hT'.2.2.2.2.2.2 k (by rw [pkR_len]; exact hkl))
        rw [pkR_pol hi, pkR_pol hkl] at hA
        refine SK.pre (g1 := g') ?_ h6
        have hS' := row_poly h5 h7 h8 hA
        revert hS'
        show SRes _ _ _ _ _ → SK _ _ _ _ _ (match (match pAddL _ _ with | none => none | some zs => some _) with | none => none | some rows1 => rAddL rows1 _)
        cases pAddL (rows1.getD (kspot K rows) (0, [])).2 (pMulT (A.getD i (0, [])).2 (B.getD k (0, [])).2) with
        | none => rintro ⟨g2, π2, z2, e2, h9, h10⟩; rw [e2, bnd_s, if_pos rfl]; exact ⟨g2, π2, z2, rfl, h9, h10⟩
        | some zs =>
          rintro ⟨g2, π2, e2, h9, h10⟩
          rw [e2, bnd_s, if_neg (by decide), nI_1]
          have h11 := h6.trans h10
          exact (ih (k + 1) fu g2 π2 _ (by omega) (by omega) (by omega) ((h11.p (by omega) _).trans hp) h9 (hQ.fr h11 (by omega)) (hT.fr h11 (by omega))).pre h10
    · rw [if_neg (fun z => hq ((neq (by omega) (by omega)).mp z)), if_neg (fun z => hq (of_decide_eq_true z)), nI_1]
      exact ih (k + 1) fu g π rows (by omega) (by omega) (by omega) hp hR hQ hT
theorem fillJ_l19 {n : Nat} {Z : Zt} {a r q p wa wb ca cb : Nat} {ψ φ : Nat → Nat} {A B : Rws} (hn : 40 ≤ n) (hE : zk Z a = 1) (hZ : RZ Z r) (hZq : RZ Z q) (hZp : RZ Z p) (hd : q + 99 ≤ r ∨ r + 99 ≤ q) (hdp : p + 99 ≤ r ∨ r + 99 ≤ p) (hda : a + 1 ≤ r ∨ r + 99 ≤ a) (hw : wa + wb ≤ 4) (hca : ca < wa) (hcb : cb < wb) (hkA : KOk wa A) (hkB : KOk wb B) : ∀ (d i fu : Nat) (g : Mem) (π : Nat → Nat) (rows : Rws), d = A.length - i → i ≤ A.length → d < fu → gP g a 1 = some r → RIs g r (wa + wb) π rows → RIs g q wa ψ (pkR A) → RIs g p wb φ (pkR B) →
    SRes (f_X0_fillJoin_l19 n Z a fu q p (nI ca) (nI cb) (nI i) g) g r (wa + wb) (rAddL rows (pkR (joinL wa wb ca cb (A.drop i) B))) := by
  intro d
  induction d with
  | zero =>
    intro i fu g π rows h1 h2 h3 hp hR hQ hT
    obtain ⟨fu, rfl⟩ : ∃ q, fu = q + 1 := ⟨fu - 1, by omega⟩
    have hl := hQ.2.2.1
    rw [pkR_len] at hl
    have e : i = A.length := by omega
    subst e
    rw [List.drop_length]
    refine SRes.cong (f := some (1, g)) ⟨g, π, rfl, hR, Fr.rfl⟩ ?_
    unfold f_X0_fillJoin_l19
    rw [r_size hZq hQ, bnd_s, pkR_len, if_pos ((nle (by omega) (by omega)).mpr (Nat.le_refl _))]
  | succ d ih =>
    intro i fu g π rows h1 h2 h3 hp hR hQ hT
    obtain ⟨fu, rfl⟩ : ∃ q, fu = q + 1 := ⟨fu - 1, by omega⟩
    have hl := hQ.2.2.1
    have hlb := hT.2.2.1
    rw [pkR_len] at hl hlb
    have hil : i < A.length := by omega
    rw [drop_one A i (0, []) hil]
    unfold joinL
    rw [List.flatMap_cons]
    unfold pkR
    rw [List.map_append]
    show SRes _ g r (wa + wb) (rAddL rows (pkR (joinL1 wa wb ca cb (A.getD i (0, [])) B) ++ pkR (joinL wa wb ca cb (A.drop (i + 1)) B)))
    rw [rAddL_app]
    unfold f_X0_fillJoin_l19
    rw [r_size hZq hQ, bnd_s, pkR_len, if_neg (fun z => by have := (nle (by omega) (by omega)).mp z; omega), r_key hZq hQ (by rw [pkR_len]; exact hil), bnd_s, pkR_key hil, r_width hZq hQ, bnd_s, key_digit (by omega) hca, bnd_s]
    have hI := fillJ_l47 (i := i) (κ := fun y0 y1 y2 y3 y4 y => f_X0_fillJoin_l19 n Z a fu y0 y1 y2 y3 y4 y) hn hE hZ hZq hZp hd hdp hda hw hca hcb hkA hkB hil B.length 0 n g π rows (by omega) (by omega) (by omega) hp hR hQ hT
    rw [List.drop_zero] at hI
    revert hI
    cases rAddL rows (pkR (joinL1 wa wb ca cb (A.getD i (0, [])) B)) with
    | none => rintro ⟨g2, π2, z2, e2, h6, h7⟩; exact ⟨g2, π2, z2, e2, h6, h7⟩
    | some rows1 =>
      rintro ⟨g2, π2, e2, h6, h7⟩
      refine SRes.cong (f := f_X0_fillJoin_l19 n Z a fu q p (nI ca) (nI cb) (nI i + 1) g2) ?_ e2
      rw [nI_1]
      exact (ih (i + 1) fu g2 π2 rows1 (by omega) (by omega) (by omega) ((h7.p (by omega) _).trans hp) h6 (hQ.fr h7 (by omega)) (hT.fr h7 (by omega))).pre h7
theorem fill_join {n : Nat} {Z : Zt} {a r q p wa wb ca cb w0 : Nat} {π ψ φ : Nat → Nat} {g : Mem} {rows A B : Rws} (hn : 40 ≤ n) (hE : zk Z a = 1) (hZ : RZ Z r) (hZq : RZ Z q) (hZp : RZ Z p) (hd : q + 99 ≤ r ∨ r + 99 ≤ q) (hdp : p + 99 ≤ r ∨ r + 99 ≤ p) (hda : a + 1 ≤ r ∨ r + 99 ≤ a) (hw : wa + wb ≤ 4) (hca : ca < wa) (hcb : cb < wb) (hkA : KOk wa A) (hkB : KOk wb B) (hp : gP g a 1 = some r) (hR : RIs g r w0 π rows) (hQ : RIs g q wa ψ (pkR A)) (hT : RIs g p wb φ (pkR B)) :
    SRes (f_X0_fillJoin n Z a q p (nI ca) (nI cb) g) g r (wa + wb) (rAddL [] (pkR (joinL wa wb ca cb A B))) := by
  obtain ⟨g1, e, h1, h2⟩ := r_clear (n := n) (w := wa + wb) hZ hR
  have hl := hQ.2.2.1
  rw [pkR_len] at hl
  unfold f_X0_fillJoin
  rw [grd_t hE, nam_s, r_width hZq hQ, bnd_s, r_width hZp hT, bnd_s, hp, drf_s, nI_add, e, bnd_s]
  exact (fillJ_l19 hn hE hZ hZq hZp hd hdp hda hw hca hcb hkA hkB A.length 0 n g1 π [] (by omega) (by omega) (by omega) ((h2.p (by omega) _).trans hp) h1 (hQ.fr h2 (by omega)) (hT.fr h2 (by omega))).pre h2

theorem pkR_key {rows : Rws} {k : Nat} (hk : k < rows.length) : ((pkR rows).getD k (0, [])).1 = pk (rows.getD k (0, [])).1 := by rw [pkR_get _ _ hk]
theorem pkR_pol {rows : Rws} {k : Nat} (hk : k < rows.length) : ((pkR rows).getD k (0, [])).2 = (rows.getD k (0, [])).2 := by rw [pkR_get _ _ hk]
/-- the next row was added, or not: how a filling loop goes on -/
theorem SRes.next {f : Option (Int32 × Mem)} {g : Mem} {r w K : Nat} {rows : Rws} {ys : Pol} {L : Rws} {κ : Mem → Option (Int32 × Mem)} (h : SRes f g r w (rAdd rows K ys)) (hκ : ∀ g1 π1 rows1, rAdd rows K ys = some rows1 → RIs g1 r w π1 rows1 → Fr r (r + 99) g g1 → SRes (κ g1) g1 r w (rAddL rows1 L)) :
    SRes (bnd f fun r1 g1 => if r1 = 0 then some ((0 : Int32), g1) else κ g1) g r w (rAddL rows ((K, ys) :: L)) := by
  revert h
  show SRes _ _ _ _ _ → SRes _ _ _ _ (match rAdd rows K ys with | none => none | some rows1 => rAddL rows1 L)
  cases hr : rAdd rows K ys with
  | none =>
    rintro ⟨g2, π2, z2, e2, h9, h10⟩
    rw [e2, bnd_s, if_pos rfl]
    exact ⟨g2, π2, z2, rfl, h9, h10⟩
  | some rows1 =>
    rintro ⟨g2, π2, e2, h9, h10⟩
    rw [e2, bnd_s, if_neg (by decide)]
    exact (hκ g2 π2 rows1 hr h9 h10).pre h10
theorem SRes.cong {f f' : Option (Int32 × Mem)} {g : Mem} {r w : Nat} {o : Option Rws} (h : SRes f g r w o) (e : f' = f) : SRes f' g r w o := e ▸ h
/-- what a select takes: kind 1: a digit, kind 2: a column -/
def selP (kind w a c K : Nat) : Bool := decide (dg w K a = if kind = 2 then dg w K c else c)
theorem fillS_l18 {n : Nat} {Z : Zt} {a r q v ca cb kind : Nat} {ψ : Nat → Nat} {S : Rws} (hn : 40 ≤ n) (hE : zk Z a = 1) (hZ : RZ Z r) (hZq : RZ Z q) (hd : q + 99 ≤ r ∨ r + 99 ≤ q) (hda : a + 1 ≤ r ∨ r + 99 ≤ a) (hv : v ≤ 4) (hca : ca < v) (hk : kind = 1 ∧ cb < 10 ∨ kind = 2 ∧ cb < v) : ∀ (d k fu : Nat) (g : Mem) (π : Nat → Nat) (rows : Rws), d = S.length - k → k ≤ S.length → d < fu → gP g a 1 = some r → RIs g r v π rows → RIs g q v ψ (pkR S) →
    SRes (f_X0_fillSelect_l18 n Z a fu q (nI kind) (nI ca) (nI cb) (nI v) (nI k) g) g r v (rAddL rows (pkR ((S.drop k).filter fun x => selP kind v ca cb x.1))) := by
  intro d
  induction d with
  | zero =>
    intro k fu g π rows h1 h2 h3 hp hR hQ
    obtain ⟨fu, rfl⟩ : ∃ q, fu = q + 1 := ⟨fu - 1, by omega⟩
    have hl := hQ.2.2.1
    rw [pkR_len] at hl
    have e : k = S.length := by omega
    subst e
    rw [List.drop_length]
    refine SRes.cong (f := some (1, g)) ⟨g, π, rfl, hR, Fr.rfl⟩ ?_
    unfold f_X0_fillSelect_l18
    rw [r_size hZq hQ, bnd_s, pkR_len, if_pos ((nle (by omega) (by omega)).mpr (Nat.le_refl _))]
  | succ d ih =>
    intro k fu g π rows h1 h2 h3 hp hR hQ
    obtain ⟨fu, rfl⟩ : ∃ q, fu = q + 1 := ⟨fu - 1, by omega⟩
    have hl := hQ.2.2.1
    rw [pkR_len] at hl
    have hkl : k < S.length := by omega
    rw [drop_one S k (0, []) hkl, List.filter_cons]
    unfold f_X0_fillSelect_l18
    rw [r_size hZq hQ, bnd_s, pkR_len, if_neg (fun z => by have := (nle (by omega) (by omega)).mp z; omega), r_key hZq hQ (by rw [pkR_len]; exact hkl), bnd_s, pkR_key hkl]
    have hgo : ∀ wanted, wanted < 10 → (selP kind v ca cb (S.getD k (0, [])).1 = decide (dg v (S.getD k (0, [])).1 ca = wanted)) → SRes (f_X0_fillSelect_l54 n Z (fun y0 y1 y2 y3 y4 y5 y => f_X0_fillSelect_l18 n Z a fu y0 y1 y2 y3 y4 y5 y) a q (nI kind) (nI ca) (nI cb) (nI v) (nI k) (nI (pk (S.getD k (0, [])).1)) (nI wanted) g) g r v (rAddL rows (pkR (if selP kind v ca cb (S.getD k (0, [])).1 = true then S.getD k (0, []) :: (S.drop (k + 1)).filter (fun x => selP kind v ca cb x.1) else (S.drop (k + 1)).filter (fun x => selP kind v ca cb x.1)))) := by
      intro wanted hw hs
      unfold f_X0_fillSelect_l54
      rw [key_digit hv hca, bnd_s]
      have hdl := dg_lt v (S.getD k (0, [])).1 ca
      by_cases hq : dg v (S.getD k (0, [])).1 ca = wanted
      · rw [hs, if_pos (decide_eq_true hq), if_pos (congrArg nI hq)]
        have hA := add_spare (k := k) (K := pk (S.getD k (0, [])).1) hn hE hp hZ hZq hd hR hQ (by rw [pkR_len]; exact hkl) (by have := pk_bound (S.getD k (0, [])).1; omega)
        rw [pkR_pol hkl] at hA
        show SRes _ g r v (rAddL rows ((pk (S.getD k (0, [])).1, (S.getD k (0, [])).2) :: pkR _))
        refine SRes.next hA fun g1 π1 rows1 _ h5 h6 => ?_
        rw [nI_1]
        exact ih (k + 1) fu g1 π1 rows1 (by omega) (by omega) (by omega) ((h6.p (by omega) _).trans hp) h5 (hQ.fr h6 (by omega))
      · rw [hs, if_neg (fun z => hq ((neq (by omega) (by omega)).mp z)), if_neg (fun z => hq (of_decide_eq_true z)), nI_1]
        exact ih (k + 1) fu g π rows (by omega) (by omega) (by omega) hp hR hQ
    rcases hk with ⟨e, hcb⟩ | ⟨e, hcb⟩
    · subst e
      rw [if_neg (by decide)]
      exact hgo cb hcb (by simp [selP])
    · subst e
      rw [if_pos (show nI 2 = (2 : Int32) from rfl), key_digit hv hcb, bnd_s]
      exact hgo (dg v (S.getD k (0, [])).1 cb) (dg_lt _ _ _) (by simp [selP])
theorem fill_select {n : Nat} {Z : Zt} {a r q v ca cb kind w0 : Nat} {π ψ : Nat → Nat} {g : Mem} {rows S : Rws} (hn : 40 ≤ n) (hE : zk Z a = 1) (hZ : RZ Z r) (hZq : RZ Z q) (hd : q + 99 ≤ r ∨ r + 99 ≤ q) (hda : a + 1 ≤ r ∨ r + 99 ≤ a) (hv : v ≤ 4) (hca : ca < v) (hk : kind = 1 ∧ cb < 10 ∨ kind = 2 ∧ cb < v) (hp : gP g a 1 = some r) (hR : RIs g r w0 π rows) (hQ : RIs g q v ψ (pkR S)) :
    SRes (f_X0_fillSelect n Z a q (nI kind) (nI ca) (nI cb) g) g r v (rAddL [] (pkR (S.filter fun x => selP kind v ca cb x.1))) := by
  obtain ⟨g1, e, h1, h2⟩ := r_clear (n := n) (w := v) hZ hR
  have hl := hQ.2.2.1
  rw [pkR_len] at hl
  unfold f_X0_fillSelect
  rw [grd_t hE, r_width hZq hQ, bnd_s, nam_s, hp, drf_s, e, bnd_s]
  exact (fillS_l18 hn hE hZ hZq hd hda hv hca hk S.length 0 n g1 π [] (by omega) (by omega) (by omega) ((h2.p (by omega) _).trans hp) h1 (hQ.fr h2 (by omega))).pre h2
/-- the key that a project makes of the first i named columns: nd holds them as decimal digits -/
def prjK (v cnt nd K : Nat) : Nat → Nat
  | 0 => 0
  | i + 1 => prjK v cnt nd K i * 10 + dg v K (dg cnt nd i)
theorem prjK_lt (v cnt nd K i : Nat) : prjK v cnt nd K i < 10 ^ i := by
  induction i with
  | zero => simp [prjK]
  | succ i ih =>
    have := dg_lt v K (dg cnt nd i)
    rw [prjK, Nat.pow_succ]; omega
theorem fillP_l26 {n : Nat} {Z : Zt} {a q v cnt nd k : Nat} {ψ : Nat → Nat} {S : Rws} {κ : Nat → Int32 → Int32 → Int32 → Mem → Option (Int32 × Mem)} (hZq : RZ Z q) (hv : v ≤ 4) (hc : cnt ≤ 4) (hnd : ∀ i, i < cnt → dg cnt nd i < v) {g : Mem} (hQ : RIs g q v ψ (pkR S)) (hk : k < S.length) : ∀ (d i fu : Nat), d = cnt - i → i ≤ cnt → d < fu →
    f_X0_fillProject_l26 n Z κ a fu q (nI cnt) (nI (pk nd)) (nI k) (nI (pk (prjK v cnt nd (S.getD k (0, [])).1 i))) (nI i) g = f_X0_fillProject_l76 n Z κ a q (nI cnt) (nI (pk nd)) (nI k) (nI (pk (prjK v cnt nd (S.getD k (0, [])).1 cnt))) g := by
  intro d
  induction d with
  | zero =>
    intro i fu h1 h2 h3
    obtain ⟨fu, rfl⟩ : ∃ q, fu = q + 1 := ⟨fu - 1, by omega⟩
    have e : i = cnt := by omega
    subst e
    unfold f_X0_fillProject_l26
    simp (disch := omega) only [nle, if_pos]
  | succ d ih =>
    intro i fu h1 h2 h3
    obtain ⟨fu, rfl⟩ : ∃ q, fu = q + 1 := ⟨fu - 1, by omega⟩
    unfold f_X0_fillProject_l26
    simp (disch := omega) only [nle, Lnle, if_neg]
    have h5 := hnd i (by omega)
    have h6 := dg_lt v (S.getD k (0, [])).1 (dg cnt nd i)
    have h7 := prjK_lt v cnt nd (S.getD k (0, [])).1 (i + 1)
    have h8 : pk (dg v (S.getD k (0, [])).1 (dg cnt nd i)) = dg v (S.getD k (0, [])).1 (dg cnt nd i) := by unfold pk; omega
    have h9 : 10 ^ (i + 1) ≤ 10 ^ 4 := Nat.pow_le_pow_right (by omega) (by omega)
    have hj := key_join (n := n) (Z := Z) (a := prjK v cnt nd (S.getD k (0, [])).1 i) (b := dg v (S.getD k (0, [])).1 (dg cnt nd i)) (w := 1) (g := g) (by omega) (by omega) (by rw [prjK] at h7; omega)
    rw [h8] at hj
    rw [key_digit hc (by omega), bnd_s, r_key hZq hQ (by rw [pkR_len]; exact hk), bnd_s, r_width hZq hQ, bnd_s, pkR_key hk, key_digit hv h5, bnd_s, show (1 : Int32) = nI 1 from rfl, hj, bnd_s, nI_add]
    exact ih (i + 1) fu (by omega) (by omega) (by omega)
theorem fillP_l11 {n : Nat} {Z : Zt} {a r q v cnt nd : Nat} {ψ : Nat → Nat} {S : Rws} (hn : 40 ≤ n) (hE : zk Z a = 1) (hZ : RZ Z r) (hZq : RZ Z q) (hd : q + 99 ≤ r ∨ r + 99 ≤ q) (hda : a + 1 ≤ r ∨ r + 99 ≤ a) (hv : v ≤ 4) (hc : cnt ≤ 4) (hnd : ∀ i, i < cnt → dg cnt nd i < v) : ∀ (d k fu : Nat) (g : Mem) (π : Nat → Nat) (rows : Rws), d = S.length - k → k ≤ S.length → d < fu → gP g a 1 = some r → RIs g r cnt π rows → RIs g q v ψ (pkR S) →
    SRes (f_X0_fillProject_l11 n Z a fu q (nI cnt) (nI (pk nd)) (nI k) g) g r cnt (rAddL rows (pkR ((S.drop k).map fun x => (prjK v cnt nd x.1 cnt, x.2)))) := by
  intro d
  induction d with
  | zero =>
    intro k fu g π rows h1 h2 h3 hp hR hQ
    obtain ⟨fu, rfl⟩ : ∃ q, fu = q + 1 := ⟨fu - 1, by omega⟩
    have hl := hQ.2.2.1
    rw [pkR_len] at hl
    have e : k = S.length := by omega
    subst e
    rw [List.drop_length]
    refine SRes.cong (f := some (1, g)) ⟨g, π, rfl, hR, Fr.rfl⟩ ?_
    unfold f_X0_fillProject_l11
    rw [r_size hZq hQ, bnd_s, pkR_len, if_pos ((nle (by omega) (by omega)).mpr (Nat.le_refl _))]
  | succ d ih =>
    intro k fu g π rows h1 h2 h3 hp hR hQ
    obtain ⟨fu, rfl⟩ : ∃ q, fu = q + 1 := ⟨fu - 1, by omega⟩
    have hl := hQ.2.2.1
    rw [pkR_len] at hl
    have hkl : k < S.length := by omega
    rw [drop_one S k (0, []) hkl, List.map_cons]
    unfold f_X0_fillProject_l11
    rw [r_size hZq hQ, bnd_s, pkR_len, if_neg (fun z => by have := (nle (by omega) (by omega)).mp z; omega)]
    have h26 := fillP_l26 (a := a) (n := n) (κ := fun y0 y1 y2 y3 y => f_X0_fillProject_l11 n Z a fu y0 y1 y2 y3 y) hZq hv hc hnd hQ hkl cnt 0 n (by omega) (by omega) (by omega)
    rw [show pk (prjK v cnt nd (S.getD k (0, [])).1 0) = 0 by simp [prjK, pk], show nI 0 = (0 : Int32) from rfl] at h26
    refine SRes.cong ?_ h26
    have hA := add_spare (k := k) (K := pk (prjK v cnt nd (S.getD k (0, [])).1 cnt)) hn hE hp hZ hZq hd hR hQ (by rw [pkR_len]; exact hkl) (by have := pk_bound (prjK v cnt nd (S.getD k (0, [])).1 cnt); omega)
    rw [pkR_pol hkl] at hA
    show SRes _ g r cnt (rAddL rows ((pk (prjK v cnt nd (S.getD k (0, [])).1 cnt), (S.getD k (0, [])).2) :: pkR _))
    unfold f_X0_fillProject_l76
    refine SRes.next hA fun g1 π1 rows1 _ h5 h6 => ?_
    rw [nI_1]
    exact ih (k + 1) fu g1 π1 rows1 (by omega) (by omega) (by omega) ((h6.p (by omega) _).trans hp) h5 (hQ.fr h6 (by omega))
theorem fill_project {n : Nat} {Z : Zt} {a r q v cnt nd w0 : Nat} {π ψ : Nat → Nat} {g : Mem} {rows S : Rws} (hn : 40 ≤ n) (hE : zk Z a = 1) (hZ : RZ Z r) (hZq : RZ Z q) (hd : q + 99 ≤ r ∨ r + 99 ≤ q) (hda : a + 1 ≤ r ∨ r + 99 ≤ a) (hv : v ≤ 4) (hc : cnt ≤ 4) (hnd : ∀ i, i < cnt → dg cnt nd i < v) (hp : gP g a 1 = some r) (hR : RIs g r w0 π rows) (hQ : RIs g q v ψ (pkR S)) :
    SRes (f_X0_fillProject n Z a q (nI cnt) (nI (pk nd)) g) g r cnt (rAddL [] (pkR (S.map fun x => (prjK v cnt nd x.1 cnt, x.2)))) := by
  obtain ⟨g1, e, h1, h2⟩ := r_clear (n := n) (w := cnt) hZ hR
  have hl := hQ.2.2.1
  rw [pkR_len] at hl
  unfold f_X0_fillProject
  rw [grd_t hE, nam_s, hp, drf_s, e, bnd_s]
  exact (fillP_l11 hn hE hZ hZq hd hda hv hc hnd S.length 0 n g1 π [] (by omega) (by omega) (by omega) ((h2.p (by omega) _).trans hp) h1 (hQ.fr h2 (by omega))).pre h2
theorem fillU_l45 {n : Nat} {Z : Zt} {a r q v w : Nat} {ψ : Nat → Nat} {S : Rws} (hn : 40 ≤ n) (hE : zk Z a = 1) (hZ : RZ Z r) (hZq : RZ Z q) (hd : q + 99 ≤ r ∨ r + 99 ≤ q) (hda : a + 1 ≤ r ∨ r + 99 ≤ a) : ∀ (d k fu : Nat) (g : Mem) (π : Nat → Nat) (rows : Rws), d = S.length - k → k ≤ S.length → d < fu → gP g a 1 = some r → RIs g r w π rows → RIs g q v ψ (pkR S) →
    SRes (f_X0_fillUnion_l45 n Z a fu q (nI k) g) g r w (rAddL rows (pkR (S.drop k))) := by
  intro d
  induction d with
  | zero =>
    intro k fu g π rows h1 h2 h3 hp hR hQ
    obtain ⟨fu, rfl⟩ : ∃ q, fu = q + 1 := ⟨fu - 1, by omega⟩
    have hl := hQ.2.2.1
    rw [pkR_len] at hl
    have e : k = S.length := by omega
    subst e
    rw [List.drop_length]
    refine SRes.cong (f := some (1, g)) ⟨g, π, rfl, hR, Fr.rfl⟩ ?_
    unfold f_X0_fillUnion_l45
    rw [r_size hZq hQ, bnd_s, pkR_len, if_pos ((nle (by omega) (by omega)).mpr (Nat.le_refl _))]
  | succ d ih =>
    intro k fu g π rows h1 h2 h3 hp hR hQ
    obtain ⟨fu, rfl⟩ : ∃ q, fu = q + 1 := ⟨fu - 1, by omega⟩
    have hl := hQ.2.2.1
    rw [pkR_len] at hl
    have hkl : k < S.length := by omega
    rw [drop_one S k (0, []) hkl]
    unfold f_X0_fillUnion_l45
    rw [r_size hZq hQ, bnd_s, pkR_len, if_neg (fun z => by have := (nle (by omega) (by omega)).mp z; omega), r_key hZq hQ (by rw [pkR_len]; exact hkl), bnd_s, pkR_key hkl]
    have hA := add_spare (k := k) (K := pk (S.getD k (0, [])).1) hn hE hp hZ hZq hd hR hQ (by rw [pkR_len]; exact hkl) (by have := pk_bound (S.getD k (0, [])).1; omega)
    rw [pkR_pol hkl] at hA
    show SRes _ g r w (rAddL rows ((pk (S.getD k (0, [])).1, (S.getD k (0, [])).2) :: pkR _))
    refine SRes.next hA fun g1 π1 rows1 _ h5 h6 => ?_
    rw [nI_1]
    exact ih (k + 1) fu g1 π1 rows1 (by omega) (by omega) (by omega) ((h6.p (by omega) _).trans hp) h5 (hQ.fr h6 (by omega))
theorem fillU_l13 {n : Nat} {Z : Zt} {a r q p v u w : Nat} {ψ φ : Nat → Nat} {S T : Rws} (hn : 40 ≤ n) (hE : zk Z a = 1) (hZ : RZ Z r) (hZq : RZ Z q) (hZp : RZ Z p) (hd : q + 99 ≤ r ∨ r + 99 ≤ q) (hdp : p + 99 ≤ r ∨ r + 99 ≤ p) (hda : a + 1 ≤ r ∨ r + 99 ≤ a) : ∀ (d k fu : Nat) (g : Mem) (π : Nat → Nat) (rows : Rws), d = S.length - k → k ≤ S.length → d < fu → gP g a 1 = some r → RIs g r w π rows → RIs g q v ψ (pkR S) → RIs g p u φ (pkR T) →
    SRes (f_X0_fillUnion_l13 n Z a fu q p (nI k) g) g r w (rAddL rows (pkR (S.drop k ++ T))) := by
  intro d
  induction d with
  | zero =>
    intro k fu g π rows h1 h2 h3 hp hR hQ hT
    obtain ⟨fu, rfl⟩ : ∃ q, fu = q + 1 := ⟨fu - 1, by omega⟩
    have hl := hQ.2.2.1
    have hlt := hT.2.2.1
    rw [pkR_len] at hl hlt
    have e : k = S.length := by omega
    subst e
    rw [List.drop_length, List.nil_append]
    have h45 := fillU_l45 hn hE hZ hZp hdp hda T.length 0 n g π rows (by omega) (by omega) (by omega) hp hR hT
    refine SRes.cong h45 ?_
    unfold f_X0_fillUnion_l13
    rw [r_size hZq hQ, bnd_s, pkR_len, if_pos ((nle (by omega) (by omega)).mpr (Nat.le_refl _))]
    rfl
  | succ d ih =>
    intro k fu g π rows h1 h2 h3 hp hR hQ hT
    obtain ⟨fu, rfl⟩ : ∃ q, fu = q + 1 := ⟨fu - 1, by omega⟩
    have hl := hQ.2.2.1
    rw [pkR_len] at hl
    have hkl : k < S.length := by omega
    rw [drop_one S k (0, []) hkl]
    unfold f_X0_fillUnion_l13
    rw [r_size hZq hQ, bnd_s, pkR_len, if_neg (fun z => by have := (nle (by omega) (by omega)).mp z; omega), r_key hZq hQ (by rw [pkR_len]; exact hkl), bnd_s, pkR_key hkl]
    have hA := add_spare (k := k) (K := pk (S.getD k (0, [])).1) hn hE hp hZ hZq hd hR hQ (by rw [pkR_len]; exact hkl) (by have := pk_bound (S.getD k (0, [])).1; omega)
    rw [pkR_pol hkl] at hA
    show SRes _ g r w (rAddL rows ((pk (S.getD k (0, [])).1, (S.getD k (0, [])).2) :: pkR _))
    refine SRes.next hA fun g1 π1 rows1 _ h5 h6 => ?_
    rw [nI_1]
    exact ih (k + 1) fu g1 π1 rows1 (by omega) (by omega) (by omega) ((h6.p (by omega) _).trans hp) h5 (hQ.fr h6 (by omega)) (hT.fr h6 (by omega))
theorem fill_union {n : Nat} {Z : Zt} {a r q p v u w0 : Nat} {π ψ φ : Nat → Nat} {g : Mem} {rows S T : Rws} (hn : 40 ≤ n) (hE : zk Z a = 1) (hZ : RZ Z r) (hZq : RZ Z q) (hZp : RZ Z p) (hd : q + 99 ≤ r ∨ r + 99 ≤ q) (hdp : p + 99 ≤ r ∨ r + 99 ≤ p) (hda : a + 1 ≤ r ∨ r + 99 ≤ a) (hp : gP g a 1 = some r) (hR : RIs g r w0 π rows) (hQ : RIs g q v ψ (pkR S)) (hT : RIs g p u φ (pkR T)) :
    SRes (f_X0_fillUnion n Z a q p g) g r v (rAddL [] (pkR (S ++ T))) := by
  obtain ⟨g1, e, h1, h2⟩ := r_clear (n := n) (w := v) hZ hR
  have hl := hQ.2.2.1
  rw [pkR_len] at hl
  unfold f_X0_fillUnion
  rw [grd_t hE, nam_s, r_width hZq hQ, bnd_s, hp, drf_s, e, bnd_s]
  exact (fillU_l13 hn hE hZ hZq hZp hd hdp hda S.length 0 n g1 π [] (by omega) (by omega) (by omega) ((h2.p (by omega) _).trans hp) h1 (hQ.fr h2 (by omega)) (hT.fr h2 (by omega))).pre h2

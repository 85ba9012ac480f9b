/-! look: a number out of the state alone -/
section LOOK
variable {n : Nat} {Z : Zt} {c : Nat} {b : Nat → Nat} {v : Vl}
theorem lk_184 (hn : 500 ≤ n) (hC : CZ Z c) (h4 : v.1 ≤ 4) (h32 : v.2.length ≤ 32) : ∀ (d k fu : Nat) (x1 : Int64), d = 6 - k → k ≤ 6 → d < fu → ∃ h, Rd c b v (fun g => f_L_look_l184 n Z fu c x1 (nI k) g) h := by
  intro d
  induction d with
  | zero =>
    intro k fu x1 hd hk hfu
    obtain ⟨fu, rfl⟩ : ∃ q, fu = q + 1 := ⟨fu - 1, by omega⟩
    have hk6 : k = 6 := by omega
    subst hk6
    refine ⟨x1, Rd.eq (fun g => by rw [f_L_look_l184]) ?_⟩
    refine (rd_answerRows hC).bnd ?_
    by_cases q : nI v.2.length ≤ nI 6
    · exact Rd.pos q Rd.pure
    · exact Rd.neg q (Rd.pos (show (6 : Int32) ≤ nI 6 by decide) Rd.pure)
  | succ d ih =>
    intro k fu x1 hd hk hfu
    obtain ⟨fu, rfl⟩ : ∃ q, fu = q + 1 := ⟨fu - 1, by omega⟩
    by_cases q : v.2.length ≤ k
    · refine ⟨x1, Rd.eq (fun g => by rw [f_L_look_l184]) ?_⟩
      exact (rd_answerRows hC).bnd (Rd.pos ((nle (by omega) (by omega)).mpr q) Rd.pure)
    obtain ⟨r1, h1⟩ := rd_answerValueE (n := n) (b := b) hC h4 (nI k) 0
    have h2 := rd_lineage (n := n) (b := b) hn hC (k := k) (Nat.lt_of_not_le q)
    have h3 := rd_derivations (n := n) (b := b) hn hC (k := k) (Nat.lt_of_not_le q)
    obtain ⟨r4, h5⟩ := ih (k + 1) fu (((31 : Int64) * (((31 : Int64) * (((31 : Int64) * x1) + (r1.toInt64))) + ((nI (tsN (orK (rowP v k) 0))).toInt64))) + (fav (goneB b) (rowP v k)).foldl sumF 0) (by omega) (by omega) (by omega)
    refine ⟨r4, Rd.eq (fun g => by rw [f_L_look_l184]) ?_⟩
    refine (rd_answerRows hC).bnd (Rd.neg (fun z => q ((nle (by omega) (by omega)).mp z)) (Rd.neg (show ¬ (6 : Int32) ≤ nI k from ge_n (N := 6) (by omega) (by omega)) (h1.bnd (h2.bnd (h3.bnd ?_)))))
    rw [nI_1]
    exact h5
theorem lk_133 (hn : 500 ≤ n) (hC : CZ Z c) (hB : BOk b) (h4 : v.1 ≤ 4) (h32 : v.2.length ≤ 32) : ∀ (d k fu : Nat) (x1 : Int64), d = b 84 - k → k ≤ b 84 → d < fu → ∃ h, Rd c b v (fun g => f_L_look_l133 n Z fu c x1 (nI k) g) h := by
  have h60 := hB.2.2.1
  intro d
  induction d with
  | zero =>
    intro k fu x1 hd hk hfu
    obtain ⟨fu, rfl⟩ : ∃ q, fu = q + 1 := ⟨fu - 1, by omega⟩
    obtain ⟨r, h⟩ := lk_184 (n := n) (b := b) hn hC h4 h32 6 0 n (((31 : Int64) * (((31 : Int64) * x1) + ((nI v.2.length).toInt64))) + ((nI v.1).toInt64)) rfl (by omega) (by omega)
    refine ⟨r, Rd.eq (fun g => by rw [f_L_look_l133]) ?_⟩
    exact (rd_queryLength hC).bnd (Rd.pos ((nle (by omega) (by omega)).mpr (by omega)) ((rd_answerRows hC).bnd ((rd_answerColumns hC).bnd h)))
  | succ d ih =>
    intro k fu x1 hd hk hfu
    obtain ⟨fu, rfl⟩ : ∃ q, fu = q + 1 := ⟨fu - 1, by omega⟩
    have h1 := rd_queryAt (n := n) (v := v) hC hB (j := k) (by omega)
    obtain ⟨r4, h5⟩ := ih (k + 1) fu (((31 : Int64) * x1) + ((nI (b (85 + k))).toInt64)) (by omega) (by omega) (by omega)
    refine ⟨r4, Rd.eq (fun g => by rw [f_L_look_l133]) ?_⟩
    refine (rd_queryLength hC).bnd (Rd.neg (ge_n (by omega) (by omega)) (h1.bnd ?_))
    rw [nI_1]
    exact h5
theorem lk_76 (hC : CZ Z c) (hB : BOk b) {κ : Nat → Int64 → Int32 → Mem → Option (Int64 × Mem)} {x3 : Int32} (hκ : ∀ x1, ∃ h, Rd c b v (fun g => κ c x1 (x3 + 1) g) h) : ∀ (d k fu : Nat) (x1 : Int64), d = 3 - k → k ≤ 3 → d < fu → ∃ h, Rd c b v (fun g => f_L_look_l76 n Z κ fu c x1 x3 (nI k) g) h := by
  intro d
  induction d with
  | zero =>
    intro k fu x1 hd hk hfu
    obtain ⟨fu, rfl⟩ : ∃ q, fu = q + 1 := ⟨fu - 1, by omega⟩
    have hk6 : k = 3 := by omega
    subst hk6
    obtain ⟨r, h⟩ := hκ x1
    refine ⟨r, Rd.eq (fun g => by rw [f_L_look_l76]) ?_⟩
    exact Rd.pos (show (3 : Int32) ≤ nI 3 by decide) h
  | succ d ih =>
    intro k fu x1 hd hk hfu
    obtain ⟨fu, rfl⟩ : ∃ q, fu = q + 1 := ⟨fu - 1, by omega⟩
    obtain ⟨r1, h1⟩ := rd_value (n := n) (v := v) hC hB x3 (nI k)
    obtain ⟨r4, h5⟩ := ih (k + 1) fu (((31 : Int64) * x1) + r1.toInt64) (by omega) (by omega) (by omega)
    refine ⟨r4, Rd.eq (fun g => by rw [f_L_look_l76]) ?_⟩
    refine Rd.neg (show ¬ (3 : Int32) ≤ nI k from ge_n (N := 3) (by omega) (by omega)) (h1.bnd ?_)
    rw [nI_1]
    exact h5
theorem rd_tabE (hC : CZ Z c) (x : Int32) : (∃ r, Rd c b v (f_X10_tableOf n Z c x) r) ∧ (∃ r, Rd c b v (f_X10_cost n Z c x) r) ∧ ∃ r, Rd c b v (f_X10_trust n Z c x) r := by
  by_cases h : tagI b x
  · obtain ⟨t, ht, rfl, q0⟩ := h
    exact ⟨⟨_, rd_tableOf hC ht q0⟩, ⟨_, rd_cost hC ht q0⟩, ⟨_, rd_trust hC ht q0⟩⟩
  · exact ⟨⟨_, rd_tableOfO hC h⟩, ⟨_, rd_costO hC h⟩, ⟨_, rd_trustO hC h⟩⟩
theorem lk_32 (hn : 500 ≤ n) (hC : CZ Z c) (hB : BOk b) (h4 : v.1 ≤ 4) (h32 : v.2.length ≤ 32) : ∀ (d k fu : Nat) (x1 : Int64), d = 16 - k → k ≤ 16 → d < fu → ∃ h, Rd c b v (fun g => f_L_look_l32 n Z fu c x1 (nI k) g) h := by
  have h60 := hB.2.2.1
  intro d
  induction d with
  | zero =>
    intro k fu x1 hd hk hfu
    obtain ⟨fu, rfl⟩ : ∃ q, fu = q + 1 := ⟨fu - 1, by omega⟩
    have hk6 : k = 16 := by omega
    subst hk6
    obtain ⟨r, h⟩ := lk_133 (n := n) hn hC hB h4 h32 (b 84) 0 n (((31 : Int64) * (((31 : Int64) * x1) + ((nI (mk (goneB b) 16)).toInt64))) + ((nI (b 84)).toInt64)) rfl (by omega) (by omega)
    refine ⟨r, Rd.eq (fun g => by rw [f_L_look_l32]) ?_⟩
    exact Rd.pos (show (16 : Int32) ≤ nI 16 by decide) ((rd_withdrawn hC).bnd ((rd_queryLength hC).bnd h))
  | succ d ih =>
    intro k fu x1 hd hk hfu
    obtain ⟨fu, rfl⟩ : ∃ q, fu = q + 1 := ⟨fu - 1, by omega⟩
    obtain ⟨⟨r1, h1⟩, ⟨r2, h2⟩, ⟨r3, h3⟩⟩ := rd_tabE (n := n) (b := b) (v := v) hC (nI k)
    obtain ⟨r, h⟩ := lk_76 (n := n) (κ := fun y0 y1 y2 y => f_L_look_l32 n Z fu y0 y1 y2 y) (x3 := nI k) hC hB (fun x1 => by
      obtain ⟨r, h⟩ := ih (k + 1) fu x1 (by omega) (by omega) (by omega)
      exact ⟨r, by rw [nI_1]; exact h⟩) 3 0 n (((31 : Int64) * (((31 : Int64) * (((31 : Int64) * x1) + (r1.toInt64))) + (r2.toInt64))) + (r3.toInt64)) rfl (by omega) (by omega)
    refine ⟨r, Rd.eq (fun g => by rw [f_L_look_l32]) ?_⟩
    exact Rd.neg (show ¬ (16 : Int32) ≤ nI k from ge_n (N := 16) (by omega) (by omega)) (h1.bnd (h2.bnd (h3.bnd h)))
theorem lk_6 (hn : 500 ≤ n) (hC : CZ Z c) (hB : BOk b) (h4 : v.1 ≤ 4) (h32 : v.2.length ≤ 32) : ∀ (d k fu : Nat) (x1 : Int64), d = 4 - k → k ≤ 4 → d < fu → ∃ h, Rd c b v (fun g => f_L_look_l6 n Z fu c x1 (nI k) g) h := by
  intro d
  induction d with
  | zero =>
    intro k fu x1 hd hk hfu
    obtain ⟨fu, rfl⟩ : ∃ q, fu = q + 1 := ⟨fu - 1, by omega⟩
    have hk6 : k = 4 := by omega
    subst hk6
    obtain ⟨r, h⟩ := lk_32 (n := n) hn hC hB h4 h32 16 0 n x1 rfl (by omega) (by omega)
    refine ⟨r, Rd.eq (fun g => by rw [f_L_look_l6]) ?_⟩
    exact Rd.pos (show (4 : Int32) ≤ nI 4 by decide) h
  | succ d ih =>
    intro k fu x1 hd hk hfu
    obtain ⟨fu, rfl⟩ : ∃ q, fu = q + 1 := ⟨fu - 1, by omega⟩
    have h1 := rd_columns (n := n) (b := b) (v := v) hC (t := k) (by omega)
    obtain ⟨r4, h5⟩ := ih (k + 1) fu (((31 : Int64) * x1) + (nI (b k)).toInt64) (by omega) (by omega) (by omega)
    refine ⟨r4, Rd.eq (fun g => by rw [f_L_look_l6]) ?_⟩
    refine Rd.neg (show ¬ (4 : Int32) ≤ nI k from ge_n (N := 4) (by omega) (by omega)) (h1.bnd ?_)
    rw [nI_1]
    exact h5
/-- what an answer is, roughly -/
theorem Ans.rough (hB : BOk b) (h : Ans b v) : (b 84 = 0 ∧ v = dV) ∨ (b 84 ≠ 0 ∧ VOk v) := by
  rcases h with ⟨z, y⟩ | ⟨z1, pre, w, z2, z3, z4⟩
  · exact Or.inl ⟨z, y⟩
  · obtain ⟨k1, k2, k3⟩ := z2.ok hB
    exact Or.inr ⟨z1, ans_vok hB k2 z3 z4⟩
theorem Ans.w4 (hB : BOk b) (h : Ans b v) : v.1 ≤ 4 := by
  rcases h.rough hB with ⟨_, y⟩ | ⟨_, y⟩
  · rw [y]; exact Nat.zero_le _
  · exact y.2.1
theorem rd_look (hn : 500 ≤ n) (hC : CZ Z c) (hB : BOk b) (hA : Ans b v) : ∃ h, Rd c b v (f_L_look n Z c) h := by
  obtain ⟨r, h⟩ := lk_6 (n := n) hn hC hB (hA.w4 hB) (hA.good hB).2.2.2.2.1 4 0 n 347 rfl (by omega) (by omega)
  exact ⟨r, Rd.eq (fun g => by rw [f_L_look]; rfl) h⟩
end LOOK

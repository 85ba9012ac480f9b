theorem KNX0 : Cond.instantiable RX0 4 ∈ TB := tw_1800
theorem KNX1 : Cond.instantiable RX1 2 ∈ TB := tw_1786
theorem KNX3 : Cond.instantiable RX3 2 ∈ TB := tw_1790
theorem KNX5 : Cond.instantiable RX5 3 ∈ TB := tw_1804
theorem KNX6 : Cond.instantiable RX6 10 ∈ TB := tw_1795
theorem KNX7 : Cond.instantiable RX7 4 ∈ TB := tw_1854
theorem KNX8 : Cond.instantiable RX8 8 ∈ TB := tw_1781
theorem KNX9 : Cond.instantiable RX9 4 ∈ TB := tw_1808
theorem KNX10 : Cond.instantiable RX10 10 ∈ TB := tw_1771
theorem AWC : Cond.arrayClass .char ∈ TB := tw_1830
theorem AWI : Cond.arrayClass .int ∈ TB := tw_1773
theorem AWJ : Cond.arrayClass .long ∈ TB := tw_1868
theorem AOX5 : Cond.arrayOver (.object RX5) ∈ tables_1 := tm_1 (i := 140) (by decide +kernel)
theorem AOX7 : Cond.arrayOver (.object RX7) ∈ tables_1 := tm_1 (i := 133) (by decide +kernel)
theorem AOX8 : Cond.arrayOver (.object RX8) ∈ tables_1 := tm_1 (i := 78) (by decide +kernel)
theorem NW_in : ∀ q ∈ NW, Cond.methodLinkNest q.1 q.2.1 q.2.2 RX10 ∈ tables_1 := List.forall_mem_cons.mpr ⟨tm_2 (i := 143) (by decide +kernel), List.forall_mem_cons.mpr ⟨tm_1 (i := 91) (by decide +kernel), List.forall_mem_cons.mpr ⟨tm_1 (i := 142) (by decide +kernel), List.forall_mem_cons.mpr ⟨tm_1 (i := 184) (by decide +kernel), List.forall_mem_cons.mpr ⟨tm_1 (i := 187) (by decide +kernel), fun _ h => absurd h List.not_mem_nil⟩⟩⟩⟩⟩
theorem arr_known {args : Array Value} {s : State} {ty : FieldType} (h : (Cond.arrayClass ty).before args s = true) (hn : ∀ C, ty ≠ .object C) : ∃ cA : ClassId, ArrOfT s cA ty ∧ va_RA s cA ty := by
  obtain ⟨cA, kA, comp, hf, hk, hkind⟩ := Cond.arrayClass_spec h
  refine ⟨cA, fun n z => ⟨(fun k h => by cases h), kA, hk, comp, hkind⟩, ?_⟩
  cases ty with
  | object C => exact absurd rfl (hn C)
  | _ => exact hf
theorem arrO_known {s : State} {C : String} (h : va_AO C s) : ∃ cA : ClassId, ArrOfT s cA (.object C) ∧ va_RA s cA (.object C) := by
  obtain ⟨comp, c, k, h1, h2, h3, h4, h5⟩ := Cond.arrayOver_spec h
  exact ⟨c, fun n z => ⟨(fun k h => by cases h), k, h3, comp, h4⟩, k, comp, h3, h4, h1, h5⟩
set_option maxHeartbeats 4000000 in
set_option maxRecDepth 100000 in
/-- YOUR PART: from the entry, for every script of at most 260 ints, the law comes to its end with true ('hflags': the launch's flags, for a law that throws: no stack traces) -/
theorem whole_start {p : Program} {e : Env} {s : State} {m : MethodId} {below : List Frame} {meth : Method} {c : Code} (l : Launch) (hflags : l.flags = flags0) {b L : Nat} {xs : Nat → Int32} (hL : L ≤ 260) (C0 : lw_At p s m meth c b L xs) : W p l e room_1 s m #[Value.ref b] below meth c s.heap [] 0 0 (lw_Z below #[Value.ref b] s) (entryFrame m ([Value.ref b] : List Value).toArray 11) := by
  obtain ⟨hx, hb, hr, hml, hown, hts, hX, hbl, hlocks, hgv⟩ := id C0
  obtain ⟨n, ⟨gg, hn⟩, hZ⟩ := law_pure s.heap.size b L xs hbl hL
  have htb : ∀ w ∈ TB, w.before #[Value.ref b] s = true := fun w hw => hts w (TB_in w hw)
  have ht1 : ∀ w ∈ tables_1, w.before #[Value.ref b] s = true := fun w hw => hts w (List.mem_append_right _ hw)
  have hkn : ∀ c : Nat, ∃ (cC : ClassId) (iS : Nat → Nat), ∀ q : vw_C, vwCl[c]? = some q → u_Kn s q.1 q.2.1 q.2.2 cC iS := by
    intro c
    match c with
    | 0 => obtain ⟨c1, i1, h1⟩ := u_known (C := RX0) (T := TX0) (N := 4) (n := 4) htb inX0 (htb _ KNX0); exact ⟨c1, i1, fun q hq => by cases hq; exact h1⟩
    | 1 => obtain ⟨c1, i1, h1⟩ := u_known (C := RX1) (T := TX1) (N := 2) (n := 2) htb inX1 (htb _ KNX1); exact ⟨c1, i1, fun q hq => by cases hq; exact h1⟩
    | 2 => obtain ⟨c1, i1, h1⟩ := u_known (C := RX3) (T := TX3) (N := 2) (n := 2) htb inX3 (htb _ KNX3); exact ⟨c1, i1, fun q hq => by cases hq; exact h1⟩
    | 3 => obtain ⟨c1, i1, h1⟩ := u_known (C := RX5) (T := TX5) (N := 3) (n := 3) htb inX5 (htb _ KNX5); exact ⟨c1, i1, fun q hq => by cases hq; exact h1⟩
    | 4 => obtain ⟨c1, i1, h1⟩ := u_known (C := RX6) (T := TX6) (N := 10) (n := 10) htb inX6 (htb _ KNX6); exact ⟨c1, i1, fun q hq => by cases hq; exact h1⟩
    | 5 => obtain ⟨c1, i1, h1⟩ := u_known (C := RX7) (T := TX7) (N := 4) (n := 4) htb inX7 (htb _ KNX7); exact ⟨c1, i1, fun q hq => by cases hq; exact h1⟩
    | 6 => obtain ⟨c1, i1, h1⟩ := u_known (C := RX8) (T := TX8) (N := 8) (n := 8) htb inX8 (htb _ KNX8); exact ⟨c1, i1, fun q hq => by cases hq; exact h1⟩
    | 7 => obtain ⟨c1, i1, h1⟩ := u_known (C := RX9) (T := TX9) (N := 4) (n := 4) htb inX9 (htb _ KNX9); exact ⟨c1, i1, fun q hq => by cases hq; exact h1⟩
    | 8 => obtain ⟨c1, i1, h1⟩ := u_known (C := RX10) (T := TX10) (N := 10) (n := 10) htb inX10 (htb _ KNX10); exact ⟨c1, i1, fun q hq => by cases hq; exact h1⟩
    | c + 9 => exact ⟨0, fun _ => 0, fun q hq => by simp [vwCl] at hq⟩
  have hao5 : va_AO RX5 s := va_AO.of (ht1 _ AOX5)
  have hao7 : va_AO RX7 s := va_AO.of (ht1 _ AOX7)
  have hao8 : va_AO RX8 s := va_AO.of (ht1 _ AOX8)
  obtain ⟨xd0, hd0⟩ := arr_known (htb _ AWC) (fun C h => by cases h)
  obtain ⟨xd1, hd1⟩ := arr_known (htb _ AWI) (fun C h => by cases h)
  obtain ⟨xd2, hd2⟩ := arr_known (htb _ AWJ) (fun C h => by cases h)
  obtain ⟨xd4, hd4⟩ := arrO_known hao5
  obtain ⟨xd5, hd5⟩ := arrO_known hao7
  obtain ⟨xd6, hd6⟩ := arrO_known hao8
  let xC : Nat → ClassId := fun c => Classical.choose (hkn c)
  let xI : Nat → Nat → Nat := fun c => Classical.choose (Classical.choose_spec (hkn c))
  let xD : Nat → ClassId := fun t => match t with | 0 => xd0 | 1 => xd1 | 2 => xd2 | 3 => xd1 | 4 => xd4 | 5 => xd5 | _ => xd6
  have hK : va_K (xC, xI) vwCl (tyl xD) s := by
    refine ⟨fun c q hq => Classical.choose_spec (Classical.choose_spec (hkn c)) q hq, fun k q hq => ?_⟩
    match k with
    | 0 => cases hq; exact hd0
    | 1 => cases hq; exact hd1
    | 2 => cases hq; exact hd2
    | 3 => cases hq; exact hd1
    | 4 => cases hq; exact hd4
    | 5 => cases hq; exact hd5
    | 6 => cases hq; exact hd6
    | k + 7 => simp [tyl] at hq
  have hKx : Kx xC xI xD s := ⟨hK, fun q hq => va_Nw.of rfl (ht1 _ (NW_in q hq)), hao5, hao7, hao8⟩
  have hl := lv_entry ([.ref b]) (n := 11) (Nat.le_of_ble_eq_true rfl)
  rw [lg_entry_eq]
  have hv := vlaw (x := (p, l, e, room_1, s, m, #[Value.ref b], below, meth, c, xC, xI, xD, (fun q => s.heap.size ≤ q), s.heap, lw_Z below #[Value.ref b] s)) (hs := s.heap.size) (b := b) (L := L) (xw := xs) ⟨⟨hx, hb, hml, htb, hown, hKx, hlocks⟩, hX, hbl, rfl, rfl, rfl, hr, rfl, rfl⟩ rfl hZ hn
  exact hv s.heap [] _ (by rw [show (xc _) = c from rfl, hml]; exact hl) ⟨⟨fun a c hc hz => absurd hz (Nat.succ_ne_zero c).symm, fun a t ht hz => absurd hz (Nat.succ_ne_zero (t + 10)).symm⟩, rfl⟩ va_S.rf

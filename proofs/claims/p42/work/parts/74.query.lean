/-! setQuery, dropQuery, undo, the answer's size -/
theorem st_setQ {g g' : Mem} {a len : Nat} {b T : Nat → Nat} (h : StIs g a b) (hF : Fr (a + 6) (a + 8) g g') (hL : LIs g' (a + 6) len T) : StIs g' a (setQ b len T) := by
  obtain ⟨h1, h2, ⟨M, h3, h3'⟩, ⟨W, h4, h4'⟩, h5⟩ := h
  refine ⟨fun t ht => ?_, fun t ht hb => ?_, ⟨M, ?_, ?_⟩, ⟨W, ?_, ?_⟩, ?_⟩
  · rw [setQ_lo (by omega), hF.i (by omega)]; exact h1 t ht
  · rw [setQ_lo (by omega)] at hb
    rw [setQ_lo (by omega), setQ_lo (by omega), setQ_lo (by omega), setQ_lo (by omega), hF.i (by omega), hF.i (by omega), hF.i (by omega), hF.i (by omega)]
    exact h2 t ht hb
  · rw [hF.i (by omega)]; exact h3
  · exact h3'.cong fun t ht => by rw [setQ_lo (by omega)]
  · rw [hF.i (by omega)]; exact h4
  · exact h4'.cong fun t ht => by rw [setQ_lo (by omega)]
  · rw [setQ_84]
    exact hL.cong fun k hk => (setQ_85).symm
/-- a text that is a query, where it fits and is not too large -/
theorem ans_setQ {b T : Nat → Nat} {len w : Nat} {pre S : List Nd} {v : Vl} (hB : BOk b) (hT : TOk T len) (hp : prunT T = (len, some (pre, S))) (hw : qw b pre = some w) (hv : qv b pre = some v) : Ans (setQ b len T) v := by
  obtain ⟨k1, k2, k3, k4, k5⟩ := prunT_ok hT hp
  obtain ⟨e1, e2⟩ := qv_setQ (b := b) (len := len) (T := T) k3
  refine Or.inr ⟨?_, pre, w, ⟨S, by rw [setQ_tq hT, setQ_84]; exact hp⟩, by rw [e2]; exact hw, by rw [e1]; exact hv⟩
  rw [setQ_84]
  intro z
  rw [prunT_empty (hT.2.2 0 (by omega))] at hp
  cases hp
theorem c_rows {n : Nat} {Z : Zt} {c : Nat} {g : Mem} {v : Vl} (hC : CZ Z c) (h : EA g (c + 67) v) : f_X10_answerRows n Z c g = some (nI v.2.length, g) := by
  obtain ⟨q, π, h1, h2, h3, h4⟩ := h.at hC.ev
  unfold f_X10_answerRows f_X0_answer
  rw [grd_t hC.k, hC.f7, drf_s, grd_t hC.ev.1.1, h1, nam_s, bnd_s, drf_s, r_size h2 h3, bnd_s, pkR_len]
theorem c_cols {n : Nat} {Z : Zt} {c : Nat} {g : Mem} {v : Vl} (hC : CZ Z c) (h : EA g (c + 67) v) : f_X10_answerColumns n Z c g = some (nI v.1, g) := by
  obtain ⟨q, π, h1, h2, h3, h4⟩ := h.at hC.ev
  unfold f_X10_answerColumns f_X0_answer
  rw [grd_t hC.k, hC.f7, drf_s, grd_t hC.ev.1.1, h1, nam_s, bnd_s, drf_s, r_width h2 h3, bnd_s]
section QUERY2
variable {n : Nat} {Z : Zt} {c m : Nat} {g : Mem}
end QUERY2

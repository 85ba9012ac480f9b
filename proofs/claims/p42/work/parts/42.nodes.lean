/-! QUERIES AS LISTS OF NODES, parts behind: two machines, and that they agree -/
def own (nd : Nd) : Nat := if nd.1 = 0 then 1 else if nd.1 = 3 then 3 + nd.2.1 else if nd.1 = 5 then 4 else 6
def ownL : List Nd → Nat
  | [] => 0
  | nd :: L => own nd + ownL L
theorem ownL_app (A B : List Nd) : ownL (A ++ B) = ownL A + ownL B := by
  induction A with
  | nil => show ownL B = 0 + ownL B; omega
  | cons x A ih => show own x + ownL (A ++ B) = own x + ownL A + ownL B; omega
theorem own_ar (nd : Nd) : 1 ≤ own nd ∧ 4 * ar nd.1 ≤ 4 + own nd ∧ ar nd.1 ≤ 2 := by
  unfold own ar
  by_cases h0 : nd.1 = 0
  · rw [if_pos h0, if_pos h0]; omega
  · rw [if_neg h0, if_neg h0]
    by_cases h3 : nd.1 = 3
    · rw [if_pos h3, if_neg (by omega)]; omega
    · rw [if_neg h3]
      by_cases h5 : nd.1 = 5
      · rw [if_pos h5, if_pos (Or.inr h5)]; omega
      · rw [if_neg h5]
        by_cases h4 : nd.1 = 4
        · rw [if_pos (Or.inl h4)]; omega
        · rw [if_neg (by omega)]; omega
/-- the nodes leave so many values, from the last node to the first -/
def wfn : List Nd → Nat → Prop
  | [], k => k = 0
  | nd :: L, k => ∃ j, k = j + 1 ∧ wfn L (j + ar nd.1)
theorem wfn_up {L : List Nd} {k : Nat} (h : wfn L k) : k ≤ ownL L := by
  induction L generalizing k with
  | nil => have : k = 0 := h; omega
  | cons x L ih =>
    obtain ⟨j, e, h2⟩ := h
    have := ih h2
    have := own_ar x
    show k ≤ own x + ownL L
    omega
theorem wfn_uniq {L : List Nd} {k m : Nat} (h : wfn L m) (hL : wfn L k) : m = k := by
  induction L generalizing m k with
  | nil => rw [show m = 0 from h, show k = 0 from hL]
  | cons x L ih =>
    obtain ⟨j, e, h2⟩ := h
    obtain ⟨j', e', h2'⟩ := hL
    have := ih h2 h2'
    omega
theorem wfn_down {A L : List Nd} {k m : Nat} (h : wfn (A ++ L) m) (hL : wfn L k) : 4 * k ≤ 4 * m + ownL A := by
  induction A generalizing m with
  | nil =>
    have e : m = k := wfn_uniq h hL
    omega
  | cons x A ih =>
    obtain ⟨j, e, h2⟩ := h
    have := ih h2
    have := own_ar x
    show 4 * k ≤ 4 * m + (own x + ownL A)
    omega
theorem wfn_len {L : List Nd} : L.length ≤ ownL L := by
  induction L with
  | nil => exact Nat.le_refl _
  | cons x L ih => have := own_ar x; show L.length + 1 ≤ own x + ownL L; omega
/-- the class: the first part is on top -/
def cst {α : Type} (h : Nd → α → α → Option α) (d : α) (nd : Nd) (st : List α) : Option (List α) := if st.length < ar nd.1 then none else (h nd (st.getD 0 d) (st.getD 1 d)).map fun x => x :: st.drop (ar nd.1)
def crun {α : Type} (h : Nd → α → α → Option α) (d : α) : List Nd → List α → Option (List α)
  | [], st => some st
  | nd :: L, st => (crun h d L st).bind (cst h d nd)
/-- the reference: the second part is on top -/
def mst {α : Type} (h : Nd → α → α → Option α) (d : α) (nd : Nd) (st : List α) : Option (List α) := if st.length < ar nd.1 then none else (h nd (st.getD (ar nd.1 - 1) d) (st.getD 0 d)).map fun x => x :: st.drop (ar nd.1)
def mrun {α : Type} (h : Nd → α → α → Option α) (d : α) : List Nd → List α → Option (List α)
  | [], st => some st
  | nd :: L, st => (mst h d nd st).bind (mrun h d L)
theorem mrun_app {α : Type} (h : Nd → α → α → Option α) (d : α) (A B : List Nd) (st : List α) : mrun h d (A ++ B) st = (mrun h d A st).bind (mrun h d B) := by
  induction A generalizing st with
  | nil => rfl
  | cons x A ih =>
    show (mst h d x st).bind (mrun h d (A ++ B)) = ((mst h d x st).bind (mrun h d A)).bind (mrun h d B)
    cases mst h d x st with
    | none => rfl
    | some st' => exact ih st'
def postOf (nd : Nd) (st : List (List Nd)) : List Nd := (if ar nd.1 = 0 then [] else if ar nd.1 = 1 then st.getD 0 [] else st.getD 0 [] ++ st.getD 1 []) ++ [nd]
/-- what the reference runs, for each of the values -/
def posts : List Nd → List (List Nd)
  | [] => []
  | nd :: L => postOf nd (posts L) :: (posts L).drop (ar nd.1)
/-- the operation looks at no more than its parts -/
def Ign {α : Type} (h : Nd → α → α → Option α) : Prop := (∀ nd x y x' y', ar nd.1 = 0 → h nd x y = h nd x' y') ∧ ∀ nd x y y', ar nd.1 = 1 → h nd x y = h nd x y'
def itm {α : Type} (h : Nd → α → α → Option α) (d : α) (nd : Nd) (x y : Option α) : Option α := if ar nd.1 = 0 then h nd d d else if ar nd.1 = 1 then x.bind fun x => h nd x d else x.bind fun x => y.bind fun y => h nd x y
def vals {α : Type} (h : Nd → α → α → Option α) (d : α) : List Nd → List (Option α)
  | [] => []
  | nd :: L => itm h d nd ((vals h d L).getD 0 none) ((vals h d L).getD 1 none) :: (vals h d L).drop (ar nd.1)
theorem vals_len {α : Type} (h : Nd → α → α → Option α) (d : α) {L : List Nd} {k : Nat} (hw : wfn L k) : (vals h d L).length = k := by
  induction L generalizing k with
  | nil => exact (show k = 0 from hw).symm
  | cons x L ih =>
    obtain ⟨j, e, h2⟩ := hw
    have := ih h2
    show ((vals h d L).drop (ar x.1)).length + 1 = k
    rw [List.length_drop]; omega
theorem posts_len {L : List Nd} {k : Nat} (hw : wfn L k) : (posts L).length = k := by
  induction L generalizing k with
  | nil => exact (show k = 0 from hw).symm
  | cons x L ih =>
    obtain ⟨j, e, h2⟩ := hw
    have := ih h2
    show ((posts L).drop (ar x.1)).length + 1 = k
    rw [List.length_drop]; omega
theorem drop_get {α : Type} (l : List α) (c i : Nat) (d : α) : (l.drop c).getD i d = l.getD (c + i) d := by
  rw [List.getD_eq_getElem?_getD, List.getD_eq_getElem?_getD, List.getElem?_drop]
theorem mrun_one {α : Type} (h : Nd → α → α → Option α) (d : α) (nd : Nd) (st : List α) : mrun h d [nd] st = mst h d nd st := by
  show (mst h d nd st).bind (mrun h d []) = _
  cases mst h d nd st with
  | none => rfl
  | some _ => rfl
theorem ar_cases (nd : Nd) : ar nd.1 = 0 ∨ ar nd.1 = 1 ∨ ar nd.1 = 2 := by have := own_ar nd; omega
theorem posts_run {α : Type} {h : Nd → α → α → Option α} {d : α} (hI : Ign h) {L : List Nd} {k : Nat} (hw : wfn L k) : ∀ i, i < k → ∀ st, mrun h d ((posts L).getD i []) st = ((vals h d L).getD i none).map fun x => x :: st := by
  induction L generalizing k with
  | nil => intro i hi; rw [show k = 0 from hw] at hi; omega
  | cons x L ih =>
    obtain ⟨j, e, h2⟩ := hw
    intro i hi st
    cases i with
    | succ i =>
      show mrun h d (((posts L).drop (ar x.1)).getD i []) st = (((vals h d L).drop (ar x.1)).getD i none).map _
      rw [drop_get, drop_get]
      exact ih h2 (ar x.1 + i) (by omega) st
    | zero =>
      show mrun h d (postOf x (posts L)) st = (itm h d x ((vals h d L).getD 0 none) ((vals h d L).getD 1 none)).map _
      unfold postOf itm
      rw [mrun_app]
      rcases ar_cases x with q | q | q
      · rw [if_pos q, if_pos q]
        show mrun h d [x] st = _
        rw [mrun_one]
        unfold mst
        rw [if_neg (by omega), q, hI.1 x _ _ d d q]
        rfl
      · rw [if_neg (by omega), if_pos q, if_neg (by omega), if_pos q, ih h2 0 (by omega) st]
        cases (vals h d L).getD 0 none with
        | none => rfl
        | some v =>
          show mrun h d [x] (v :: st) = (h x v d).map _
          rw [mrun_one]
          unfold mst
          rw [if_neg (by rw [q]; show ¬ st.length + 1 < 1; omega), q, hI.2 x _ _ d q]
          rfl
      · rw [if_neg (by omega), if_neg (by omega), if_neg (by omega), if_neg (by omega), mrun_app, ih h2 0 (by omega) st]
        cases (vals h d L).getD 0 none with
        | none => rfl
        | some v =>
          show (mrun h d ((posts L).getD 1 []) (v :: st)).bind (mrun h d [x]) = _
          rw [ih h2 1 (by omega) (v :: st)]
          cases (vals h d L).getD 1 none with
          | none => rfl
          | some u =>
            show mrun h d [x] (u :: v :: st) = (h x v u).map _
            rw [mrun_one]
            unfold mst
            rw [if_neg (by rw [q]; show ¬ st.length + 1 + 1 < 2; omega), q]
            rfl
def seqO {α : Type} : List (Option α) → Option (List α)
  | [] => some []
  | x :: l => x.bind fun x => (seqO l).map fun l => x :: l
theorem crun_vals {α : Type} {h : Nd → α → α → Option α} {d : α} (hI : Ign h) {L : List Nd} {k : Nat} (hw : wfn L k) : crun h d L [] = seqO (vals h d L) := by
  induction L generalizing k with
  | nil => rfl
  | cons x L ih =>
    obtain ⟨j, e, h2⟩ := hw
    have hl := vals_len h d h2
    show (crun h d L []).bind (cst h d x) = (itm h d x ((vals h d L).getD 0 none) ((vals h d L).getD 1 none)).bind fun v => (seqO ((vals h d L).drop (ar x.1))).map fun l => v :: l
    rw [ih h2]
    revert hl
    generalize vals h d L = V
    intro hl
    unfold itm
    rcases ar_cases x with q | q | q
    · rw [if_pos q, q]
      show _ = (h x d d).bind fun v => (seqO V).map fun l => v :: l
      cases seqO V with
      | none => cases h x d d with
        | none => rfl
        | some _ => rfl
      | some st =>
        show cst h d x st = (h x d d).bind fun v => some (v :: st)
        unfold cst
        rw [if_neg (by omega), q, hI.1 x _ _ d d q]
        cases h x d d with
        | none => rfl
        | some _ => rfl
    · rw [if_neg (by omega), if_pos q, q]
      cases V with
      | nil => exfalso; rw [q] at hl; have hl : 0 = j + 1 := hl; omega
      | cons v V =>
        show (v.bind fun x => (seqO V).map fun l => x :: l).bind (cst h d x) = (v.bind fun x_1 => h x x_1 d).bind fun v => (seqO V).map fun l => v :: l
        cases v with
        | none => rfl
        | some v =>
          show ((seqO V).map fun l => v :: l).bind (cst h d x) = (h x v d).bind fun v => (seqO V).map fun l => v :: l
          cases seqO V with
          | none => cases h x v d with
            | none => rfl
            | some _ => rfl
          | some st =>
            show cst h d x (v :: st) = (h x v d).bind fun v => some (v :: st)
            unfold cst
            rw [if_neg (by rw [q]; show ¬ st.length + 1 < 1; omega), q, hI.2 x _ _ d q]
            show (h x v d).map _ = _
            cases h x v d with
            | none => rfl
            | some _ => rfl
    · rw [if_neg (by omega), if_neg (by omega), q]
      match V, hl with
      | [], hl => exfalso; rw [q] at hl; have hl : 0 = j + 2 := hl; omega
      | [_], hl => exfalso; rw [q] at hl; have hl : 1 = j + 2 := hl; omega
      | v :: u :: V, hl =>
        show (v.bind fun x => (u.bind fun y => (seqO V).map fun l => y :: l).map fun l => x :: l).bind (cst h d x) = (v.bind fun x_1 => u.bind fun y => h x x_1 y).bind fun v => (seqO V).map fun l => v :: l
        cases v with
        | none => rfl
        | some v =>
          cases u with
          | none => rfl
          | some u =>
            show (((seqO V).map fun l => u :: l).map fun l => v :: l).bind (cst h d x) = (h x v u).bind fun v => (seqO V).map fun l => v :: l
            cases seqO V with
            | none => cases h x v u with
              | none => rfl
              | some _ => rfl
            | some st =>
              show cst h d x (v :: u :: st) = (h x v u).bind fun v => some (v :: st)
              unfold cst
              rw [if_neg (by rw [q]; show ¬ st.length + 1 + 1 < 2; omega), q]
              show (h x v u).map _ = _
              cases h x v u with
              | none => rfl
              | some _ => rfl
/-- the reference's order of a whole query -/
def post (pre : List Nd) : List Nd := (posts pre).getD 0 []
theorem run_agree {α : Type} {h : Nd → α → α → Option α} {d : α} (hI : Ign h) {pre : List Nd} (hw : wfn pre 1) : crun h d pre [] = ((vals h d pre).getD 0 none).map (fun x => [x]) ∧ mrun h d (post pre) [] = ((vals h d pre).getD 0 none).map fun x => [x] := by
  have hl := vals_len h d hw
  refine ⟨?_, posts_run hI hw 0 (by omega) []⟩
  rw [crun_vals hI hw]
  match vals h d pre, hl with
  | [v], _ => cases v with
    | none => rfl
    | some v => rfl
/-- depths of the reference's run -/
def mdp : Nat → List Nd → Nat → Prop
  | k, [], j => j = k
  | k, nd :: L, j => ar nd.1 ≤ k ∧ mdp (k - ar nd.1 + 1) L j
theorem mdp_app {A B : List Nd} {k j : Nat} (hA : mdp k A j) {i : Nat} (hB : mdp j B i) : mdp k (A ++ B) i := by
  induction A generalizing k with
  | nil => rw [show j = k from hA] at hB; exact hB
  | cons x A ih => exact ⟨hA.1, ih hA.2⟩
theorem mdp_up {L : List Nd} {k j : Nat} (h : mdp k L j) : j ≤ k + ownL L := by
  induction L generalizing k with
  | nil => have : j = k := h; omega
  | cons x L ih =>
    have := ih h.2
    have := own_ar x
    show j ≤ k + (own x + ownL L)
    omega
theorem mdp_down {L : List Nd} {k j : Nat} (h : mdp k L j) : 4 * k ≤ 4 * j + ownL L := by
  induction L generalizing k with
  | nil => have : j = k := h; omega
  | cons x L ih =>
    have := ih h.2
    have := own_ar x
    have := h.1
    show 4 * k ≤ 4 * j + (own x + ownL L)
    omega
theorem posts_mdp {L : List Nd} {k : Nat} (hw : wfn L k) : ∀ i, i < k → ∀ c, mdp c ((posts L).getD i []) (c + 1) := by
  induction L generalizing k with
  | nil => intro i hi; rw [show k = 0 from hw] at hi; omega
  | cons x L ih =>
    obtain ⟨j, e, h2⟩ := hw
    intro i hi c
    cases i with
    | succ i =>
      show mdp c (((posts L).drop (ar x.1)).getD i []) (c + 1)
      rw [drop_get]
      exact ih h2 (ar x.1 + i) (by omega) c
    | zero =>
      show mdp c (postOf x (posts L)) (c + 1)
      unfold postOf
      rcases ar_cases x with q | q | q
      · rw [if_pos q]
        exact ⟨by omega, by show c + 1 = c - ar x.1 + 1; omega⟩
      · rw [if_neg (by omega), if_pos q]
        exact mdp_app (ih h2 0 (by omega) c) ⟨by omega, by show c + 1 = c + 1 - ar x.1 + 1; omega⟩
      · rw [if_neg (by omega), if_neg (by omega)]
        exact mdp_app (mdp_app (ih h2 0 (by omega) c) (ih h2 1 (by omega) (c + 1))) ⟨by omega, by show c + 1 = c + 1 + 1 - ar x.1 + 1; omega⟩
def ownLL : List (List Nd) → Nat
  | [] => 0
  | x :: l => ownL x + ownLL l
theorem posts_own {L : List Nd} {k : Nat} (hw : wfn L k) : ownLL (posts L) = ownL L := by
  induction L generalizing k with
  | nil => rfl
  | cons x L ih =>
    obtain ⟨j, e, h2⟩ := hw
    have hl := posts_len h2
    have hi := ih h2
    show ownL (postOf x (posts L)) + ownLL ((posts L).drop (ar x.1)) = own x + ownL L
    rw [← hi]
    revert hl
    generalize posts L = V
    intro hl
    unfold postOf
    rw [ownL_app]
    have ho : ownL [x] = own x := by show own x + 0 = own x; omega
    rw [ho]
    rcases ar_cases x with q | q | q
    · rw [if_pos q, q]
      show 0 + own x + ownLL V = _
      omega
    · rw [if_neg (by omega), if_pos q, q]
      cases V with
      | nil => exfalso; rw [q] at hl; have hl : 0 = j + 1 := hl; omega
      | cons v V =>
        show ownL v + own x + ownLL V = own x + (ownL v + ownLL V)
        omega
    · rw [if_neg (by omega), if_neg (by omega), q]
      match V, hl with
      | [], hl => exfalso; rw [q] at hl; have hl : 0 = j + 2 := hl; omega
      | [_], hl => exfalso; rw [q] at hl; have hl : 1 = j + 2 := hl; omega
      | v :: u :: V, hl =>
        show ownL (v ++ u) + own x + ownLL V = own x + (ownL v + (ownL u + ownLL V))
        rw [ownL_app]; omega
theorem post_own {pre : List Nd} (hw : wfn pre 1) : ownL (post pre) = ownL pre := by
  have h := posts_own hw
  have hl := posts_len hw
  unfold post
  revert h
  match posts pre, hl with
  | [v], _ =>
    intro h
    show ownL v = _
    rw [← h]
    show ownL v = ownL v + 0
    omega
theorem posts_mem {L : List Nd} {P : Nd → Prop} (h : ∀ x ∈ L, P x) : ∀ l ∈ posts L, ∀ x ∈ l, P x := by
  induction L with
  | nil => intro l hl; cases hl
  | cons y L ih =>
    have ih := ih fun x hx => h x (List.mem_cons_of_mem _ hx)
    have hg : ∀ i, ∀ x ∈ (posts L).getD i [], P x := by
      intro i x hx
      by_cases q : i < (posts L).length
      · rw [List.getD_eq_getElem?_getD, List.getElem?_eq_getElem q] at hx
        exact ih _ (List.getElem_mem q) x hx
      · rw [List.getD_eq_getElem?_getD, List.getElem?_eq_none (by omega)] at hx
        cases hx
    intro l hl x hx
    rcases List.mem_cons.mp hl with e | e
    · rw [e] at hx
      unfold postOf at hx
      rcases List.mem_append.mp hx with e | e
      · split at e
        · cases e
        · split at e
          · exact hg 0 x e
          · rcases List.mem_append.mp e with e | e
            · exact hg 0 x e
            · exact hg 1 x e
      · rcases List.mem_cons.mp e with e | e
        · rw [e]; exact h y List.mem_cons_self
        · cases e
    · exact ih l (List.mem_of_mem_drop e) x hx
theorem post_mem {pre : List Nd} {P : Nd → Prop} (h : ∀ x ∈ pre, P x) : ∀ x ∈ post pre, P x := by
  intro x hx
  unfold post at hx
  by_cases q : 0 < (posts pre).length
  · rw [List.getD_eq_getElem?_getD, List.getElem?_eq_getElem q] at hx
    exact posts_mem h _ (List.getElem_mem q) x hx
  · rw [List.getD_eq_getElem?_getD, List.getElem?_eq_none (by omega)] at hx
    cases hx
theorem post_mdp {pre : List Nd} (hw : wfn pre 1) : mdp 0 (post pre) 1 := posts_mdp hw 0 (by omega) 0
/-! widths and values -/
def hW (b : Nat → Nat) (nd : Nd) (f s : Nat) : Option Nat := if (nd.1 = 1 → nd.2.1 < f) ∧ (nd.1 = 2 → nd.2.1 < f ∧ nd.2.2 < f) ∧ (nd.1 = 3 → ∀ i, i < nd.2.1 → dg nd.2.1 nd.2.2 i < f) ∧ (nd.1 = 4 → nd.2.1 < f ∧ nd.2.2 < s ∧ f + s ≤ 4) ∧ (nd.1 = 5 → f = s) then some (opW b nd f s) else none
theorem hW_fit {b : Nat → Nat} {nd : Nd} {f s : Nat} (h : NFit nd f s) : hW b nd f s = some (opW b nd f s) := if_pos h
theorem hW_not {b : Nat → Nat} {nd : Nd} {f s : Nat} (h : ¬ NFit nd f s) : hW b nd f s = none := if_neg h
theorem hW_some {b : Nat → Nat} {nd : Nd} {f s w : Nat} (h : hW b nd f s = some w) : NFit nd f s ∧ w = opW b nd f s := by
  by_cases q : NFit nd f s
  · rw [hW_fit q] at h; cases h; exact ⟨q, rfl⟩
  · rw [hW_not q] at h; cases h
def hV (b : Nat → Nat) (nd : Nd) (f s : Vl) : Option Vl := (rAddL [] (opL b nd f s)).map fun rows => (opW b nd f.1 s.1, rows)
theorem ar0 {nd : Nd} (h : ar nd.1 = 0) : nd.1 = 0 := by
  unfold ar at h
  by_cases q : nd.1 = 0
  · exact q
  · rw [if_neg q] at h; split at h <;> omega
theorem ar1 {nd : Nd} (h : ar nd.1 = 1) : nd.1 ≠ 0 ∧ nd.1 ≠ 4 ∧ nd.1 ≠ 5 := by
  unfold ar at h
  by_cases q : nd.1 = 0
  · rw [if_pos q] at h; omega
  · rw [if_neg q] at h
    by_cases q2 : nd.1 = 4 ∨ nd.1 = 5
    · rw [if_pos q2] at h; omega
    · omega
theorem ar2 {nd : Nd} (h : ar nd.1 = 2) : nd.1 = 4 ∨ nd.1 = 5 := by
  unfold ar at h
  by_cases q : nd.1 = 0
  · rw [if_pos q] at h; omega
  · rw [if_neg q] at h
    by_cases q2 : nd.1 = 4 ∨ nd.1 = 5
    · exact q2
    · rw [if_neg q2] at h; omega
theorem hV_ign (b : Nat → Nat) : Ign (hV b) := by
  refine ⟨fun nd x y x' y' h => ?_, fun nd x y y' h => ?_⟩
  · have h := ar0 h
    unfold hV opL opW
    simp only [if_pos h]
  · have h := ar1 h
    unfold hV opL opW
    simp only [if_neg h.2.1, if_neg h.2.2]
theorem hW_ign (b : Nat → Nat) : Ign (hW b) := by
  refine ⟨fun nd x y x' y' h => ?_, fun nd x y y' h => ?_⟩
  · have h := ar0 h
    have n1 : ¬ nd.1 = 1 := by omega
    have n2 : ¬ nd.1 = 2 := by omega
    have n3 : ¬ nd.1 = 3 := by omega
    have n4 : ¬ nd.1 = 4 := by omega
    have n5 : ¬ nd.1 = 5 := by omega
    have q : ∀ u v, NFit nd u v := fun u v => ⟨fun z => absurd z n1, fun z => absurd z n2, fun z => absurd z n3, fun z => absurd z n4, fun z => absurd z n5⟩
    rw [hW_fit (q _ _), hW_fit (q _ _)]
    unfold opW
    simp only [if_pos h]
  · have h := ar1 h
    have q : ∀ u v, NFit nd x u → NFit nd x v := fun u v z => ⟨z.1, z.2.1, z.2.2.1, fun z => absurd z h.2.1, fun z => absurd z h.2.2⟩
    by_cases p : NFit nd x y
    · rw [hW_fit p, hW_fit (q _ y' p)]
      unfold opW
      simp only [if_neg h.2.1]
    · rw [hW_not p, hW_not fun z => p (q _ _ z)]

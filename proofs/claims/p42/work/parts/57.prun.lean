/-! WHAT HAS BEEN READ -/
theorem wfn_app2 {A B : List Nd} {j k : Nat} (hA : wfn A j) (hB : wfn B k) : wfn (A ++ B) (j + k) := by
  induction A generalizing j with
  | nil =>
    have hA : j = 0 := hA
    subst hA
    rw [Nat.zero_add]; exact hB
  | cons nd A ih =>
    obtain ⟨i, h1, h2⟩ := hA
    exact ⟨i + k, by omega, by have := ih h2; rw [show i + k + ar nd.1 = i + ar nd.1 + k by omega]; exact this⟩
theorem getD_app_l {α : Type} {l m : List α} {k : Nat} {d : α} (h : k < l.length) : (l ++ m).getD k d = l.getD k d := getD_append_left' h
theorem posts_app {A B : List Nd} {j : Nat} (hA : wfn A j) : posts (A ++ B) = posts A ++ posts B := by
  induction A generalizing j with
  | nil => rfl
  | cons nd A ih =>
    obtain ⟨i, h1, h2⟩ := hA
    have hlen := posts_len h2
    show postOf nd (posts (A ++ B)) :: (posts (A ++ B)).drop (ar nd.1) = postOf nd (posts A) :: (posts A).drop (ar nd.1) ++ posts B
    rw [ih h2]
    have e1 : (posts A ++ posts B).drop (ar nd.1) = (posts A).drop (ar nd.1) ++ posts B := List.drop_append_of_le_length (by omega)
    have e2 : postOf nd (posts A ++ posts B) = postOf nd (posts A) := by
      unfold postOf
      rcases ar_cases nd with h | h | h
      · rw [if_pos h, if_pos h]
      · rw [if_neg (show ¬ ar nd.1 = 0 by omega), if_pos h, if_neg (show ¬ ar nd.1 = 0 by omega), if_pos h, getD_app_l (by omega)]
      · rw [if_neg (by omega), if_neg (by omega), if_neg (by omega), if_neg (by omega), getD_app_l (by omega), getD_app_l (by omega)]
    rw [e1, e2]; rfl
def PI : List (Nd × Nat) → Nat → List Nd → List Nd → Prop
  | [], c, pre, S => wfn pre c ∧ S = (posts pre).flatten
  | (nd, h) :: O, c, pre, S => h < ar nd.1 ∧ ∃ pre' S' C, pre = pre' ++ nd :: C ∧ S = S' ++ (posts C).flatten ∧ wfn C (h + c) ∧ PI O 0 pre' S'
theorem wfn_0 {L : List Nd} (h : wfn L 0) : L = [] := by
  cases L with
  | nil => rfl
  | cons nd L => obtain ⟨j, h1, _⟩ := h; omega
theorem PI.app {O : List (Nd × Nat)} {pre S D : List Nd} (h : PI O 0 pre S) (hD : wfn D 1) : PI O 1 (pre ++ D) (S ++ (posts D).flatten) := by
  cases O with
  | nil =>
    obtain ⟨h1, h2⟩ := h
    have := wfn_0 h1
    subst this
    subst h2
    exact ⟨hD, rfl⟩
  | cons e O =>
    obtain ⟨nd, k⟩ := e
    obtain ⟨h0, pre', S', C, h1, h2, h3, h4⟩ := h
    refine ⟨h0, pre', S', C ++ D, by rw [h1, List.append_assoc]; rfl, ?_, wfn_app2 h3 hD, h4⟩
    rw [posts_app h3, List.flatten_append, h2, List.append_assoc]
theorem flat_post {nd : Nd} {C : List Nd} (h : wfn C (ar nd.1)) : wfn (nd :: C) 1 ∧ (posts (nd :: C)).flatten = (posts C).flatten ++ [nd] := by
  refine ⟨⟨0, rfl, by rw [Nat.zero_add]; exact h⟩, ?_⟩
  have hlen := posts_len h
  show (postOf nd (posts C) :: (posts C).drop (ar nd.1)).flatten = _
  rw [← hlen, List.drop_length]
  show postOf nd (posts C) ++ [] = _
  rw [List.append_nil]
  unfold postOf
  congr 1
  obtain ⟨P, hP⟩ : ∃ P, P = posts C := ⟨_, rfl⟩
  rw [← hP] at hlen ⊢
  rcases ar_cases nd with e | e | e
  · rw [if_pos e]
    rw [e] at hlen
    cases P with
    | nil => rfl
    | cons x P => simp at hlen
  · rw [if_neg (by omega), if_pos e]
    rw [e] at hlen
    match P, hlen with
    | [x], _ => simp
  · rw [if_neg (by omega), if_neg (by omega)]
    rw [e] at hlen
    match P, hlen with
    | [x, y], _ => simp
def dueC : List (Nd × Nat) → Nat
  | [] => 0
  | (nd, h) :: O => (if ar nd.1 = 2 ∧ h = 0 then 2 else 1) + dueC O
theorem prun_ok {T : Nat → Nat} {len : Nat} (hT : TOk T len) : ∀ (f p : Nat) (w : Bool) (O : List (Nd × Nat)) (pre S : List Nd) (p' : Nat) (pre' S' : List Nd), PI O (if w then 1 else 0) pre S → (∀ x ∈ pre, NOk x) → ownL pre = p + dueC O → p ≤ len → prun T f p w O pre S = (p', some (pre', S')) → wfn pre' 1 ∧ S' = post pre' ∧ (∀ x ∈ pre', NOk x) ∧ ownL pre' = p' ∧ p' ≤ len := by
  intro f
  induction f with
  | zero => intro p w O pre S p' pre' S' _ _ _ _ h; cases h
  | succ f ih =>
    intro p w O pre S p' pre' S' hP hN ho hp h
    cases w with
    | false =>
      have h : (match phead T p with
        | (none, p') => (p', none)
        | (some nd, p') => if ar nd.1 = 0 then prun T f p' true O (pre ++ [nd]) (S ++ [nd]) else prun T f p' false ((nd, 0) :: O) (pre ++ [nd]) S) = (p', some (pre', S')) := h
      have hP : PI O 0 pre S := hP
      cases hph : phead T p with
      | mk r p1 =>
        rw [hph] at h
        cases r with
        | none => cases h
        | some nd =>
          obtain ⟨k1, k2, k3, k4, k5⟩ := phead_len hT hph
          have h : (if ar nd.1 = 0 then prun T f p1 true O (pre ++ [nd]) (S ++ [nd]) else prun T f p1 false ((nd, 0) :: O) (pre ++ [nd]) S) = (p', some (pre', S')) := h
          have hN' : ∀ x ∈ pre ++ [nd], NOk x := fun x hx => by
            rcases List.mem_append.mp hx with z | z
            · exact hN x z
            · have : x = nd := by simpa using z
              subst this; exact k1
          have ho' : ownL (pre ++ [nd]) = ownL pre + own nd := by rw [ownL_app]; rfl
          by_cases ha : ar nd.1 = 0
          · rw [if_pos ha] at h
            obtain ⟨w1, w2⟩ := flat_post (nd := nd) (C := []) (by rw [ha]; rfl)
            have := hP.app w1
            rw [w2] at this
            exact ih p1 true O _ _ p' pre' S' this hN' (by omega) k3 h
          · rw [if_neg ha] at h
            refine ih p1 false ((nd, 0) :: O) _ _ p' pre' S' ⟨by omega, pre, S, [], rfl, ?_, rfl, hP⟩ hN' ?_ k3 h
            · show S = S ++ []; rw [List.append_nil]
            · show _ = p1 + ((if ar nd.1 = 2 ∧ 0 = 0 then 2 else 1) + dueC O)
              rcases ar_cases nd with e | e | e
              · omega
              · rw [if_neg (by omega)]; omega
              · rw [if_pos ⟨e, rfl⟩]; omega
    | true =>
      cases O with
      | nil =>
        have h : (p, some (pre, S)) = (p', some (pre', S')) := h
        cases h
        obtain ⟨h1, h2⟩ := hP
        have h1 : wfn pre 1 := h1
        refine ⟨h1, ?_, hN, ho, hp⟩
        have hlen := posts_len h1
        unfold post
        rw [h2]
        match posts pre, hlen with
        | [x], _ => simp
      | cons e O =>
        obtain ⟨nd, k⟩ := e
        obtain ⟨h0, preA, SA, C, h1, h2, h3, h4⟩ := hP
        have h3 : wfn C (k + 1) := h3
        have ho : ownL pre = p + ((if ar nd.1 = 2 ∧ k = 0 then 2 else 1) + dueC O) := ho
        have h : (if ar nd.1 = 2 ∧ k = 0 then (if T p = 44 then prun T f (p + 1) false ((nd, 1) :: O) pre S else (p, none)) else (if T p = 41 then prun T f (p + 1) true O pre (S ++ [nd]) else (p, none))) = (p', some (pre', S')) := h
        by_cases hc : ar nd.1 = 2 ∧ k = 0
        · rw [if_pos hc] at h ho
          by_cases ht : T p = 44
          · rw [if_pos ht] at h
            have hpl := hT.in_ (k := p) (by omega)
            refine ih (p + 1) false ((nd, 1) :: O) pre S p' pre' S' ⟨by omega, preA, SA, C, h1, h2, by rw [hc.2] at h3; exact h3, h4⟩ hN ?_ (by omega) h
            show _ = p + 1 + ((if ar nd.1 = 2 ∧ 1 = 0 then 2 else 1) + dueC O)
            rw [if_neg (by omega)]; omega
          · rw [if_neg ht] at h; cases h
        · rw [if_neg hc] at h ho
          by_cases ht : T p = 41
          · rw [if_pos ht] at h
            have hpl := hT.in_ (k := p) (by omega)
            have hk : k + 1 = ar nd.1 := by
              rcases ar_cases nd with e | e | e <;> omega
            rw [hk] at h3
            obtain ⟨w1, w2⟩ := flat_post h3
            have := h4.app w1
            rw [w2, ← List.append_assoc, ← h2, ← h1] at this
            exact ih (p + 1) true O pre (S ++ [nd]) p' pre' S' this hN (by omega) (by omega) h
          · rw [if_neg ht] at h; cases h
/-- a query that was read -/
theorem prunT_ok {T : Nat → Nat} {len p : Nat} {pre S : List Nd} (hT : TOk T len) (h : prunT T = (p, some (pre, S))) : wfn pre 1 ∧ S = post pre ∧ (∀ x ∈ pre, NOk x) ∧ ownL pre = p ∧ p ≤ len :=
  prun_ok hT 62 0 false [] [] [] p pre S ⟨rfl, rfl⟩ (fun x hx => by cases hx) rfl (Nat.zero_le _) h

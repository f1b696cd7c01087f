/-! The law's conditions: tags, comparisons. -/
theorem sem_tag (lad : Bool) : SEMC 1 [if lad then -12 else -11] [(if lad then 7 else 6, 0)] := fun E hE => by
  have key : ∀ x : Int32, (x = 0 ∨ x = 1) → ∃ b : Bool, x = bI b := fun x h => by
    rcases h with h | h
    · exact ⟨false, h⟩
    · exact ⟨true, h⟩
  cases lad with
  | true =>
    obtain ⟨b, eb⟩ := key _ hE.2
    refine ⟨b, fun tr l0 k _ _ => ⟨l0, ?_⟩, fun st => ?_⟩
    · show stC E (-12) (tr, l0, 0) = _
      rw [← eb]; rfl
    · show (stR E 7 0 st).bind _ = _
      rw [← eb]; rfl
  | false =>
    obtain ⟨b, eb⟩ := key _ hE.1
    refine ⟨b, fun tr l0 k _ _ => ⟨l0, ?_⟩, fun st => ?_⟩
    · show stC E (-11) (tr, l0, 0) = _
      rw [← eb]; rfl
    · show (stR E 6 0 st).bind _ = _
      rw [← eb]; rfl
theorem sem_cmp (less : Bool) {c1 c2 : List Int32} {r1 r2 : List (Int32 × Int32)} (h1 : SEMS c1 r1) (h2 : SEMS c2 r2) : SEMC 1 (c1 ++ (-8) :: (c2 ++ [if less then -9 else -10])) (r1 ++ (r2 ++ [(if less then 10 else 11, 0)])) := fun E _ => by
  obtain ⟨v1, a1, b1⟩ := h1 E
  obtain ⟨v2, a2, b2⟩ := h2 E
  have e8 : ∀ tr l0, runCl E (c1 ++ (-8) :: (c2 ++ [if less then -9 else -10])) (tr, l0, 0) = stC E (if less then -9 else -10) (tr, v1, v2) := fun tr l0 => by
    rw [runCl_app, a1, Int32.zero_add]
    show runCl E (c2 ++ [if less then -9 else -10]) (tr, v1, 0) = _
    rw [runCl_app, a2, Int32.zero_add]
    rfl
  have f8 : ∀ st, runRl E (r1 ++ (r2 ++ [(if less then 10 else 11, 0)])) st = (stR E (if less then 10 else 11) 0 (v2 :: v1 :: st)).bind (runRl E []) := fun st => by
    rw [runRl_app, b1]
    show runRl E (r2 ++ [(if less then 10 else 11, 0)]) (v1 :: st) = _
    rw [runRl_app, b2]
    rfl
  cases less with
  | true =>
    refine ⟨!decide (v2 ≤ v1), fun tr l0 k _ _ => ⟨v1, ?_⟩, fun st => ?_⟩
    · rw [e8]
      show ((tr <<< ((1 : Int32) &&& 31)) ||| (if v2 ≤ v1 then 0 else 1), v1, (0 : Int32)) = _
      by_cases c : v2 ≤ v1
      · rw [if_pos c, decide_eq_true c]; rfl
      · rw [if_neg c, decide_eq_false c]; rfl
    · rw [f8]
      show some ((if v2 ≤ v1 then (0 : Int32) else 1) :: st) = _
      by_cases c : v2 ≤ v1
      · rw [if_pos c, decide_eq_true c]; rfl
      · rw [if_neg c, decide_eq_false c]; rfl
  | false =>
    refine ⟨!decide (v1 ≤ v2), fun tr l0 k _ _ => ⟨v1, ?_⟩, fun st => ?_⟩
    · rw [e8]
      show ((tr <<< ((1 : Int32) &&& 31)) ||| (if v1 ≤ v2 then 0 else 1), v1, (0 : Int32)) = _
      by_cases c : v1 ≤ v2
      · rw [if_pos c, decide_eq_true c]; rfl
      · rw [if_neg c, decide_eq_false c]; rfl
    · rw [f8]
      show some ((if v1 ≤ v2 then (0 : Int32) else 1) :: st) = _
      by_cases c : v1 ≤ v2
      · rw [if_pos c, decide_eq_true c]; rfl
      · rw [if_neg c, decide_eq_false c]; rfl

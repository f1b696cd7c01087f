/-! The law's conditions: sums. -/
theorem sem_num {n : Nat} (hn : n ≤ 999) : SEMS [nI n] [(8, nI n)] := fun E => by
  refine ⟨nI n, fun tr l0 s0 => ?_, fun st => ?_⟩
  · show stC E (nI n) (tr, l0, s0) = _
    unfold stC
    rw [if_neg (nI_pos (by omega))]
  · show (stR E 8 (nI n) st).bind _ = _
    rfl
theorem sem_fac (k : Nat) (c : Int32) (hk : (k = 0 ∧ c = -2) ∨ (k = 1 ∧ c = -3) ∨ (k = 2 ∧ c = -4) ∨ (k = 3 ∧ c = -5) ∨ (k = 4 ∧ c = -6) ∨ (k = 5 ∧ c = -7)) : SEMS [c] [(nI k, 0)] := fun E => by
  refine ⟨E k, fun tr l0 s0 => ?_, fun st => ?_⟩
  · show stC E c (tr, l0, s0) = _
    rcases hk with ⟨rfl, rfl⟩ | ⟨rfl, rfl⟩ | ⟨rfl, rfl⟩ | ⟨rfl, rfl⟩ | ⟨rfl, rfl⟩ | ⟨rfl, rfl⟩ <;> rfl
  · show (stR E (nI k) 0 st).bind _ = _
    rcases hk with ⟨rfl, rfl⟩ | ⟨rfl, rfl⟩ | ⟨rfl, rfl⟩ | ⟨rfl, rfl⟩ | ⟨rfl, rfl⟩ | ⟨rfl, rfl⟩ <;> rfl
theorem sem_add {c1 c2 : List Int32} {r1 r2 : List (Int32 × Int32)} (h1 : SEMS c1 r1) (h2 : SEMS c2 r2) : SEMS (c1 ++ c2) (r1 ++ (r2 ++ [(9, 0)])) := fun E => by
  obtain ⟨v1, a1, b1⟩ := h1 E
  obtain ⟨v2, a2, b2⟩ := h2 E
  refine ⟨v1 + v2, fun tr l0 s0 => ?_, fun st => ?_⟩
  · rw [runCl_app, a1, a2, Int32.add_assoc]
  · rw [runRl_app, b1]
    show runRl E (r2 ++ [(9, 0)]) (v1 :: st) = _
    rw [runRl_app, b2]
    rfl

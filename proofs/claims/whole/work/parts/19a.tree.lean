/-! The law's conditions: both sides' steps for one, and that they say the same. -/
def runCl (E : Nat → Int32) (l : List Int32) (c : Int32 × Int32 × Int32) : Int32 × Int32 × Int32 := l.foldl (fun c x => stC E x c) c
def runRl (E : Nat → Int32) : List (Int32 × Int32) → List Int32 → Option (List Int32)
  | [], st => some st
  | x :: l, st => (stR E x.1 x.2 st).bind (runRl E l)
theorem runCl_app (E : Nat → Int32) (l1 l2 : List Int32) (c : Int32 × Int32 × Int32) : runCl E (l1 ++ l2) c = runCl E l2 (runCl E l1 c) := by
  unfold runCl
  rw [List.foldl_append]
theorem runRl_app (E : Nat → Int32) (l2 : List (Int32 × Int32)) : ∀ (l1 : List (Int32 × Int32)) (st : List Int32), runRl E (l1 ++ l2) st = (runRl E l1 st).bind (runRl E l2)
  | [], st => rfl
  | x :: l1, st => by
    show (stR E x.1 x.2 st).bind (runRl E (l1 ++ l2)) = ((stR E x.1 x.2 st).bind (runRl E l1)).bind (runRl E l2)
    cases stR E x.1 x.2 st with
    | none => rfl
    | some s1 => exact runRl_app E l2 l1 s1
/-- a sum's steps: the class adds to what it has, the reference lays one value -/
def SEMS (cl : List Int32) (rl : List (Int32 × Int32)) : Prop := ∀ E, ∃ v : Int32, (∀ tr l0 s0, runCl E cl (tr, l0, s0) = (tr, l0, s0 + v)) ∧ ∀ st, runRl E rl st = some (v :: st)
/-- a condition's steps, n bits of the class's at most -/
def SEMC (n : Nat) (cl : List Int32) (rl : List (Int32 × Int32)) : Prop := ∀ E, gE E → ∃ b : Bool, (∀ tr l0 k, (∀ p, k ≤ p → has9 tr p = false) → k + n ≤ 31 → ∃ l1, runCl E cl (tr, l0, 0) = ((tr <<< ((1 : Int32) &&& 31)) ||| bI b, l1, 0)) ∧ ∀ st, runRl E rl st = some (bI b :: st)

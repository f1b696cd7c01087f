/-! The law's conditions: not, and, or. -/
theorem has9_shl1 (x : Int32) {p : Nat} (hp : p < 32) : has9 (x <<< ((1 : Int32) &&& 31)) p = (decide (0 < p) && has9 x (p - 1)) := by
  unfold has9
  rw [Int32.toBitVec_shiftLeft]
  have e : (((1 : Int32) &&& 31).toBitVec.smod 32).toNat = 1 := by decide
  rw [BitVec.shiftLeft_eq', e, BitVec.getLsbD_shiftLeft]
  by_cases c : p = 0
  · subst c; simp
  · simp [hp, show 0 < p by omega, show ¬ p < 1 by omega]
theorem has9_bI (b : Bool) (p : Nat) : has9 (bI b) p = (b && decide (p = 0)) := by
  cases b with
  | true => exact (has9_bit (p := 0) (by decide) p).trans (by simp)
  | false => exact has9_0 p
def psh (tr : Int32) (b : Bool) : Int32 := (tr <<< ((1 : Int32) &&& 31)) ||| bI b
theorem psh_0 (tr : Int32) (b : Bool) : has9 (psh tr b) 0 = b := by
  unfold psh
  rw [has9_or, has9_shl1 _ (by decide), has9_bI]
  cases b <;> rfl
theorem psh_s (tr : Int32) (b : Bool) {p : Nat} (hp : p < 31) : has9 (psh tr b) (p + 1) = has9 tr p := by
  unfold psh
  rw [has9_or, has9_shl1 _ (by omega), has9_bI]
  simp
theorem psh_ext {x : Int32} {tr : Int32} {b : Bool} (h0 : has9 x 0 = b) (hs : ∀ p, p < 31 → has9 x (p + 1) = has9 tr p) : x = psh tr b := has9_ext (fun p hp => by
  cases p with
  | zero => rw [psh_0]; exact h0
  | succ p => rw [psh_s _ _ (by omega)]; exact hs p (by omega))
theorem psh_ushr {tr : Int32} (h : has9 tr 31 = false) (b : Bool) : ushr (psh tr b) 1 = tr := has9_ext (fun p hp => by
  rw [show (1 : Int32) = nI 1 from rfl, has9_ushr _ (by decide), Nat.add_comm]
  by_cases c : p < 31
  · exact psh_s _ _ c
  · rw [has9_ge _ (by omega), show p = 31 by omega, h])
theorem has9_1 (p : Nat) : has9 1 p = decide (p = 0) := has9_bit (p := 0) (by decide) p
theorem joined_not (tr : Int32) (b : Bool) : fX2_joined (-13) (psh tr b) = psh tr (!b) := by
  have e : ∀ x, fX2_joined (-13) x = x ^^^ 1 := fun x => rfl
  have q : ∀ x p, has9 (x ^^^ 1) p = (has9 x p ^^ decide (p = 0)) := fun x p => by
    have := has9_1 p
    unfold has9 at this ⊢
    rw [Int32.toBitVec_xor, BitVec.getLsbD_xor, this]
  rw [e]
  refine psh_ext ?_ (fun p hp => ?_)
  · rw [q, psh_0]; cases b <;> rfl
  · rw [q, psh_s _ _ hp]; simp
theorem joined_and {tr : Int32} (h : has9 tr 30 = false) (a b : Bool) : fX2_joined (-14) (psh (psh tr a) b) = psh tr (a && b) := by
  have e : ∀ x, fX2_joined (-14) x = if x &&& 1 = 0 then ushr x 1 &&& -2 else ushr x 1 := fun x => rfl
  rw [e, and1, psh_0, psh_ushr (by rw [psh_s _ _ (by decide)]; exact h)]
  have q : ∀ p : Nat, p < 32 → has9 (-2) p = decide (p ≠ 0) := fun p hp => (show ∀ p : Fin 32, has9 (-2) p.val = decide (p.val ≠ 0) by decide +kernel) ⟨p, hp⟩
  cases b with
  | true => rw [if_neg (by decide), Bool.and_true]
  | false =>
    rw [if_pos (show bI false = 0 from rfl), Bool.and_false]
    refine psh_ext ?_ (fun p hp => ?_)
    · rw [has9_and, q 0 (by decide)]; simp
    · rw [has9_and, q _ (by omega), psh_s _ _ hp]; simp
theorem joined_or {tr : Int32} (h : has9 tr 30 = false) (a b : Bool) : fX2_joined (-15) (psh (psh tr a) b) = psh tr (a || b) := by
  have e : ∀ x, fX2_joined (-15) x = ushr x 1 ||| (x &&& 1) := fun x => rfl
  rw [e, and1, psh_0, psh_ushr (by rw [psh_s _ _ (by decide)]; exact h)]
  refine psh_ext ?_ (fun p hp => ?_)
  · rw [has9_or, psh_0, has9_bI]; simp
  · rw [has9_or, psh_s _ _ hp, has9_bI]; simp
theorem SEMC.mono {n m : Nat} {cl : List Int32} {rl : List (Int32 × Int32)} (h : SEMC n cl rl) (hm : n ≤ m) : SEMC m cl rl := fun E hE => by
  obtain ⟨b, h1, h2⟩ := h E hE
  exact ⟨b, fun tr l0 k hk hn => h1 tr l0 k hk (by omega), h2⟩
theorem sem_not {n : Nat} {cl : List Int32} {rl : List (Int32 × Int32)} (h : SEMC n cl rl) : SEMC n (cl ++ [-13]) (rl ++ [(12, 0)]) := fun E hE => by
  obtain ⟨b, h1, h2⟩ := h E hE
  refine ⟨!b, fun tr l0 k hk hn => ?_, fun st => ?_⟩
  · obtain ⟨l1, e⟩ := h1 tr l0 k hk hn
    refine ⟨l1, ?_⟩
    rw [runCl_app, e]
    show (fX2_joined (-13) (psh tr b), l1, (0 : Int32)) = (psh tr (!b), l1, 0)
    rw [joined_not]
  · rw [runRl_app, h2]
    show some ((1 - bI b) :: st) = some (bI (!b) :: st)
    cases b <;> rfl
theorem sem_bin (or : Bool) {n m k : Nat} {c1 c2 : List Int32} {r1 r2 : List (Int32 × Int32)} (h1 : SEMC n c1 r1) (h2 : SEMC m c2 r2) (hn : n ≤ k) (hm : m + 1 ≤ k) : SEMC k (c1 ++ (c2 ++ [if or then -15 else -14])) (r1 ++ (r2 ++ [(if or then 14 else 13, 0)])) := fun E hE => by
  obtain ⟨a, a1, a2⟩ := h1 E hE
  obtain ⟨b, b1, b2⟩ := h2 E hE
  refine ⟨if or then a || b else a && b, fun tr l0 i hi hk => ?_, fun st => ?_⟩
  · obtain ⟨l1, e1⟩ := a1 tr l0 i hi (by omega)
    have z : ∀ p, i + 1 ≤ p → has9 (psh tr a) p = false := fun p hp => by
      by_cases c : p < 32
      · obtain ⟨q, rfl⟩ : ∃ q, p = q + 1 := ⟨p - 1, by omega⟩
        rw [psh_s _ _ (by omega)]; exact hi q (by omega)
      · exact has9_ge _ (by omega)
    obtain ⟨l2, e2⟩ := b1 (psh tr a) l1 (i + 1) z (by omega)
    refine ⟨l2, ?_⟩
    have h30 : has9 tr 30 = false := hi 30 (by omega)
    rw [runCl_app, e1]
    show runCl E (c2 ++ [if or then -15 else -14]) (psh tr a, l1, 0) = _
    rw [runCl_app, e2]
    cases or with
    | true =>
      show (fX2_joined (-15) (psh (psh tr a) b), l2, (0 : Int32)) = (psh tr (a || b), l2, 0)
      rw [joined_or h30]
    | false =>
      show (fX2_joined (-14) (psh (psh tr a) b), l2, (0 : Int32)) = (psh tr (a && b), l2, 0)
      rw [joined_and h30]
  · rw [runRl_app, a2]
    show runRl E (r2 ++ [(if or then 14 else 13, 0)]) (bI a :: st) = _
    rw [runRl_app, b2]
    cases or with
    | true =>
      show some ((if bI a + bI b ≤ 0 then (0 : Int32) else 1) :: st) = some (bI (a || b) :: st)
      cases a <;> cases b <;> rfl
    | false =>
      show some ((if bI a + bI b = 2 then (1 : Int32) else 0) :: st) = some (bI (a && b) :: st)
      cases a <;> cases b <;> rfl

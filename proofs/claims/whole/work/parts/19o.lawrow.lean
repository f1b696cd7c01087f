/-! The law as it was read: what both sides make of it. -/
theorem runC_list (E f : Nat → Int32) : ∀ (cl : List Int32) (i : Nat) (c : Int32 × Int32 × Int32), (∀ j, j < cl.length → f (i + j) = cl.getD j 0) → runC E f cl.length i c = runCl E cl c
  | [], _, _, _ => rfl
  | x :: cl, i, c, h => by
    show runC E f cl.length (i + 1) (stC E (f i) c) = runCl E cl (stC E x c)
    have h0 : f i = x := h 0 (Nat.succ_pos _)
    rw [h0]
    refine runC_list E f cl (i + 1) _ (fun j hj => ?_)
    rw [show i + 1 + j = i + (j + 1) by omega]
    exact h (j + 1) (Nat.succ_lt_succ hj)
theorem runR_list (E f : Nat → Int32) : ∀ (rl : List (Int32 × Int32)) (i : Nat) (st : List Int32), (∀ j, j < rl.length → f (2 * (i + j)) = (rl.getD j (0, 0)).1 ∧ f (2 * (i + j) + 1) = (rl.getD j (0, 0)).2) → runR E f rl.length i st = runRl E rl st
  | [], _, _, _ => rfl
  | x :: rl, i, st, h => by
    have h0 : f (2 * i) = x.1 ∧ f (2 * i + 1) = x.2 := h 0 (Nat.succ_pos _)
    show (stR E (f (2 * i)) (f (2 * i + 1)) st).bind (runR E f rl.length (i + 1)) = (stR E x.1 x.2 st).bind (runRl E rl)
    rw [h0.1, h0.2]
    congr 1
    funext st'
    refine runR_list E f rl (i + 1) st' (fun j hj => ?_)
    rw [show i + 1 + j = i + (j + 1) by omega]
    exact h (j + 1) (Nat.succ_lt_succ hj)
theorem prL_val {cl : List Int32} {rl : List (Int32 × Int32)} (p : prL cl rl) {E : Nat → Int32} (hE : gE E) : has9 (runCl E cl (1, 0, 0)).1 0 = resR (runRl E rl []) ∧ (runRl E rl [] = some [] ∨ ∃ v, runRl E rl [] = some [v]) := by
  rcases p with ⟨rfl, rfl⟩ | p
  · refine ⟨?_, Or.inl rfl⟩
    show has9 1 0 = true
    decide
  · obtain ⟨b, h1, h2⟩ := p E hE
    obtain ⟨l1, e1⟩ := h1 1 0 1 (fun q hq => by rw [has9_1]; exact decide_eq_false (by omega)) (by decide)
    rw [e1, h2]
    refine ⟨?_, Or.inr ⟨_, rfl⟩⟩
    show has9 (psh 1 b) 0 = decide (bI b = 1)
    rw [psh_0]
    cases b <;> rfl
def lawW (d : Nat → Int32) (n : Nat) : Nat → Int32 := fun i => if i = 2 then 1 else if 333 ≤ i ∧ i < 1182 then upd d 1182 (nI n) (i + 849) else upd d 1182 (nI n) i
theorem lawW_2 (d : Nat → Int32) (n : Nat) : lawW d n 2 = 1 := if_pos rfl
theorem lawW_333 (d : Nat → Int32) (n : Nat) : lawW d n 333 = nI n := by
  unfold lawW
  rw [if_neg (by decide), if_pos (by decide), upd_s]
theorem lawW_d (d : Nat → Int32) (n : Nat) {i : Nat} (h1 : 334 ≤ i) (h2 : i < 1182) : lawW d n i = d (i + 849) := by
  unfold lawW
  rw [if_neg (by omega), if_pos (by omega), upd_n _ _ (by omega)]
theorem lawW_o (d : Nat → Int32) (n : Nat) {i : Nat} (h1 : i < 333) (h2 : i ≠ 2) : lawW d n i = d i := by
  unfold lawW
  rw [if_neg h2, if_neg (by omega), upd_n _ _ (by omega)]
theorem line_of {h : Hp} {n ln : Nat} {D : LD} (hn : n ≤ 12) (hl : ln < n) (H : okD n D) (hR : D.2.2.2.2.2.length ≤ 400) (R1 : RST D.2.2.2.2.2 h) (K : LKM n D h) : lineM (lawW (h 209) n) ln ∧ ∀ hC : Hp, LKC n D hC → (∀ i, i < D.2.2.2.2.1.length → hC 17 i = D.2.2.2.2.1.getD i 0) → D.2.2.2.2.1.length ≤ 400 → lineC hC 13 (lawW (h 209) n) ln := by
  obtain ⟨kd, am, ce, re, L, R⟩ := D
  obtain ⟨c0, r0, c1, r1, H⟩ := H
  obtain ⟨q1, q2, q3, cl, rl, q4, q5, q6, q7, q8, q9, q10⟩ := H ln hl
  have hR' : R.length ≤ 400 := hR
  have R2 : ∀ i, i < R.length → h 209 (1231 + 2 * i) = (R.getD i (0, 0)).1 ∧ h 209 (1231 + 2 * i + 1) = (R.getD i (0, 0)).2 := R1.2
  obtain ⟨k0, k1, k2, k3⟩ := K ln hl
  have v0 : lawW (h 209) n (334 + 4 * ln) = nI (kd ln) := by rw [lawW_d _ _ (by omega) (by omega), show 334 + 4 * ln + 849 = 1183 + 4 * ln by omega]; exact k0
  have v1 : lawW (h 209) n (334 + 4 * ln + 1) = nI (am ln) := by rw [lawW_d _ _ (by omega) (by omega), show 334 + 4 * ln + 1 + 849 = 1183 + 4 * ln + 1 by omega]; exact k1
  have v2 : lawW (h 209) n (334 + 4 * ln + 2) = nI (re ln) := by rw [lawW_d _ _ (by omega) (by omega), show 334 + 4 * ln + 2 + 849 = 1183 + 4 * ln + 2 by omega]; exact k2
  have v3 : lawW (h 209) n (334 + 4 * ln + 3) = nI (re (ln + 1)) := by rw [lawW_d _ _ (by omega) (by omega), show 334 + 4 * ln + 3 + 849 = 1183 + 4 * ln + 3 by omega]; exact k3
  have run : ∀ E, runR E (fun j => lawW (h 209) n (382 + j)) (re (ln + 1) - re ln) (re ln) [] = runRl E rl [] := fun E => by
    rw [show re (ln + 1) - re ln = rl.length by omega]
    refine runR_list E _ rl (re ln) [] (fun j hj => ?_)
    have z := R2 (re ln + j) (by omega)
    try dsimp only
    rw [lawW_d _ _ (by omega) (by omega), lawW_d _ _ (by omega) (by omega), show 382 + 2 * (re ln + j) + 849 = 1231 + 2 * (re ln + j) by omega, show 382 + (2 * (re ln + j) + 1) + 849 = 1231 + 2 * (re ln + j) + 1 by omega, ← q9 j hj]
    exact z
  refine ⟨⟨kd ln, am ln, re ln, re (ln + 1), q1, q2, v0, v1, q3, v2, v3, by omega, by omega, fun E hE => ?_⟩, fun hC KC SC hL => ?_⟩
  · rw [run]; exact (prL_val q10 hE).2
  · obtain ⟨j0, j1⟩ := KC
    obtain ⟨j2, j3, j4⟩ := j1 ln hl
    have hL' : L.length ≤ 400 := hL
    refine ⟨ce ln, ce (ln + 1), by rw [v0]; exact j2, fun q => ?_, j4, fun q => by rw [q]; exact c0, fun q => ?_, by omega, by omega, fun E hE => ?_⟩
    · rw [v1]; exact j3 (fun z => q (by rw [v0, z]; rfl))
    · have := (j1 (ln - 1) (by omega)).2.2
      rw [show ln - 1 + 1 = ln by omega] at this
      exact this
    · unfold lnV
      rw [v2, v3, nI_clamp (by omega), nI_clamp (by omega), run, ← (prL_val q10 hE).1, show ce (ln + 1) - ce ln = cl.length by omega]
      have z : runC E (hC (13 + 4)) cl.length (ce ln) (1, 0, 0) = runCl E cl (1, 0, 0) := runC_list E _ cl (ce ln) _ (fun j hj => by
        rw [show hC (13 + 4) (ce ln + j) = hC 17 (ce ln + j) from rfl, SC _ (show ce ln + j < L.length by omega)]; exact q8 j hj)
      rw [z]
theorem law_of {h hC : Hp} {n : Nat} {D : LD} (hn : n ≤ 12) (H : okD n D) (hR : D.2.2.2.2.2.length ≤ 400) (hL : D.2.2.2.2.1.length ≤ 400) (R1 : RST D.2.2.2.2.2 h) (K : LKM n D h) (KC : LKC n D hC) (SC : ∀ i, i < D.2.2.2.2.1.length → hC 17 i = D.2.2.2.2.1.getD i 0) : lawM (lawW (h 209) n) ∧ lawC hC 13 (lawW (h 209) n) := by
  refine ⟨Or.inr ⟨lawW_2 _ _, n, hn, lawW_333 _ _, fun ln hl => (line_of hn hl H hR R1 K).1⟩, Or.inr ⟨lawW_2 _ _, ?_, fun ln hl => ?_⟩⟩
  · rw [lawW_333]
    obtain ⟨kd, am, ce, re, L, R⟩ := D
    exact KC.1
  · rw [lawW_333, nI_clamp (by omega)] at hl
    exact (line_of hn hl H hR R1 K).2 hC KC SC hL

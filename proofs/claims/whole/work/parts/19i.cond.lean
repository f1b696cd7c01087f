/-! The law's text: "and" and "or". -/
theorem cl22 {α β γ : Type} (o : Option (α × Hp)) (f : α → Hp → Option (β × Hp)) (g : β → Hp → Option γ) : cl2 (cl2 o f) g = cl2 o (fun x h => cl2 (f x h) g) := by
  cases o with
  | none => rfl
  | some q => rfl
theorem cl29 {α β γ : Type} (o : Option α) (f : α → Option (β × Hp)) (g : β → Hp → Option γ) : cl2 (cl9 o f) g = cl9 o (fun x => cl2 (f x) g) := by
  cases o <;> rfl
theorem isW_len {T : Nat → Int32} {t s : Nat} {w : List Int32} (hs : s ≤ t) (h : isW T t w s = true) : wnd T t s = s + w.length := by
  have := wnd_ge (T := T) hs
  unfold isW at h
  rw [Bool.and_eq_true, decide_eq_true_eq] at h
  omega
theorem CF.cg {T : Nat → Int32} {t x a : Nat} {o : LOut} {f g : Hp → Option Hp} (e : ∀ h, f h = g h) (c : CF T t x a o g) : CF T t x a o f := fun L h hl S => by
  obtain ⟨h1, e1, F1, k⟩ := c L h hl S
  exact ⟨h1, by rw [e]; exact e1, F1, k⟩
theorem CF.nil {T : Nat → Int32} {t x a : Nat} {rl : List (Int32 × Int32)} {o : LOut} {f : Hp → Option Hp} (c : CF T t x a o f) : CF T t x a (seqO [] rl o) f := fun L h hl S => by
  obtain ⟨h1, e1, F1, k⟩ := c L h hl S
  refine ⟨h1, e1, F1, ?_⟩
  cases o with
  | inl f => exact k
  | inr q => exact k
theorem MF.cg {T : Nat → Int32} {t d x b : Nat} {o : LOut} {f g : Hp → Option (Int32 × Hp)} (e : ∀ h, f h = g h) (c : MF T t d x b o g) : MF T t d x b o f := fun L h hl S => by
  obtain ⟨r, h1, e1, F1, k⟩ := c L h hl S
  exact ⟨r, h1, by rw [e]; exact e1, F1, k⟩
def PC (n : Nat) (q : Bool) (cl : List Int32) (rl : List (Int32 × Int32)) : Prop := match q with
  | false => ∀ c0 r0, SEMC (n + 1) c0 r0 → SEMC (n + 2) (c0 ++ cl) (r0 ++ rl)
  | true => ∀ c0 r0 c1 r1, SEMC (n + 2) c0 r0 → SEMC (n + 1) c1 r1 → SEMC (n + 2) (c0 ++ (c1 ++ cl)) (r0 ++ (r1 ++ rl))
def qa (q : Bool) : Nat := cond q 2 1
def orC (q : Bool) : List Int32 := cond q [-15] []
def orM (q : Bool) : List (Int32 × Int32) := cond q [(14, 0)] []
def qK (sM : Nat → Hp → Option (Int32 × Hp)) (q : Bool) (n : Nat) (h : Hp) : Option (Int32 × Hp) := cond q (cl9 (fX12_emits h 14 0) (fun h9 => LX12_readCond sM n h9)) (LX12_readCond sM n h)
def aK (sm sM : Nat → Hp → Option (Int32 × Hp)) (q : Bool) (n2 n3 : Nat) (h : Hp) : Option (Int32 × Hp) := cl2 (LX12_readAllOf sm n2 h) (fun r h5 => if r = (0 : Int32) then some ((0 : Int32), h5) else qK sM q n3 h5)
theorem aK_s (sm sM : Nat → Hp → Option (Int32 × Hp)) (q : Bool) (n2 n3 : Nat) : (fun h => aK sm sM q (n2 + 1) n3 h) = fun h => cl2 (fX12_passes h sw51) (fun x3 h1 => if x3 = (0 : Int32) then qK sM q n3 h1 else cl2 (sm 2 h1) (fun x7 h5 => if x7 = (0 : Int32) then some ((0 : Int32), h5) else cl9 (fX12_emits h5 13 0) (fun h9 => aK sm sM q n2 n3 h9))) := by
  funext h
  unfold aK
  rw [LX12_readAllOf, BX12_readAllOf_0, cl22]
  congr 1
  funext x3 h1
  by_cases c : x3 = 0
  · rw [if_pos c, if_pos c]; rfl
  · rw [if_neg c, if_neg c, cl22]
    congr 1
    funext x7 h5
    by_cases c2 : x7 = 0
    · rw [if_pos c2, if_pos c2]; rfl
    · rw [if_neg c2, if_neg c2, cl29]
theorem PC_and {n : Nat} {q : Bool} {c1 c' : List Int32} {r1 r' : List (Int32 × Int32)} (h1 : SEMC n c1 r1) (h2 : PC n q c' r') : PC n q (c1 ++ (-14) :: c') (r1 ++ (13, 0) :: r') := by
  cases q with
  | false =>
    intro c0 r0 h0
    have k : SEMC (n + 1) (c0 ++ (c1 ++ [-14])) (r0 ++ (r1 ++ [(13, 0)])) := sem_bin false h0 h1 (Nat.le_refl _) (Nat.le_refl _)
    have := (show ∀ c0 r0, SEMC (n + 1) c0 r0 → SEMC (n + 2) (c0 ++ c') (r0 ++ r') from h2) _ _ k
    simpa using this
  | true =>
    intro c0 r0 c r h0 h3
    have k : SEMC (n + 1) (c ++ (c1 ++ [-14])) (r ++ (r1 ++ [(13, 0)])) := sem_bin false h3 h1 (Nat.le_refl _) (Nat.le_refl _)
    have := (show ∀ c0 r0 c1 r1, SEMC (n + 2) c0 r0 → SEMC (n + 1) c1 r1 → SEMC (n + 2) (c0 ++ (c1 ++ c')) (r0 ++ (r1 ++ r')) from h2) _ _ _ _ h0 k
    simpa using this
theorem PC_or {n : Nat} {q : Bool} {c1 c' : List Int32} {r1 r' : List (Int32 × Int32)} (h1 : SEMC n c1 r1) (h2 : PC n true c' r') : PC n q (orC q ++ (c1 ++ c')) (orM q ++ (r1 ++ r')) := by
  have h2' : ∀ c0 r0 c1 r1, SEMC (n + 2) c0 r0 → SEMC (n + 1) c1 r1 → SEMC (n + 2) (c0 ++ (c1 ++ c')) (r0 ++ (r1 ++ r')) := h2
  cases q with
  | false =>
    intro c0 r0 h0
    exact h2' _ _ _ _ (h0.mono (by omega)) (h1.mono (by omega))
  | true =>
    intro c0 r0 c r h0 h3
    have k : SEMC (n + 2) (c0 ++ (c ++ [-15])) (r0 ++ (r ++ [(14, 0)])) := sem_bin true h0 h3 (Nat.le_refl _) (Nat.le_refl _)
    have := h2' _ _ _ _ k (h1.mono (by omega))
    show SEMC (n + 2) (c0 ++ (c ++ ([-15] ++ (c1 ++ c')))) (r0 ++ (r ++ ([(14, 0)] ++ (r1 ++ r'))))
    simpa using this
theorem PC_end (n : Nat) (q : Bool) : PC n q (orC q) (orM q) := by
  cases q with
  | false =>
    intro c0 r0 h0
    show SEMC (n + 2) (c0 ++ []) (r0 ++ [])
    rw [List.append_nil, List.append_nil]
    exact h0.mono (by omega)
  | true =>
    intro c0 r0 c r h0 h3
    exact sem_bin true h0 h3 (Nat.le_refl _) (Nat.le_refl _)
/-- the loop that both go through behind an atom -/
theorem condL {T : Nat → Int32} {t d n : Nat} (ht : t ≤ 400) {sc : Nat → Hp → Int32 → Option Hp} {sm sM : Nat → Hp → Option (Int32 × Hp)} (hM : ∀ h, sM 1 h = cl2 (sm 2 h) (fun r h1 => if r = (0 : Int32) then some ((0 : Int32), h1) else LX12_readAllOf sm big h1)) (A : ∀ x, x ≤ t → 1 ≤ x → LB (SEMC n) T t d x 2 1 1 1 (fun h => sc 1 h (nI d)) (fun h => sm 2 h)) : ∀ m x, t - x < m → x ≤ t → ∀ (q : Bool) i n1 n2 n3, i + 1 ≤ x → m + 1 ≤ n1 → m ≤ n2 → m ≤ n3 → m ≤ 900 → LB (PC n q) T t d x (qa q) 1 (qa q) 1 (fun h => LX3_takeCondition sc n1 0 h (nI d) (bI q) (nI i)) (fun h => aK sm sM q n2 n3 h) := by
  intro m
  induction m with
  | zero => intro x hm; omega
  | succ m ih =>
    intro x hm hx q i n1 n2 n3 hi hn1 hn2 hn3 hm9
    have hg := skp_ge (T := T) hx
    have hs := skp_le (T := T) hx
    have hss := skp_id (T := T) hx
    obtain ⟨n1, rfl⟩ : ∃ k, n1 = k + 2 := ⟨n1 - 2, by omega⟩
    obtain ⟨n2, rfl⟩ : ∃ k, n2 = k + 1 := ⟨n2 - 1, by omega⟩
    obtain ⟨n3, rfl⟩ : ∃ k, n3 = k + 1 := ⟨n3 - 1, by omega⟩
    generalize hE : skp T t x = s at *
    have hq : 1 ≤ qa q ∧ qa q ≤ 2 := by cases q <;> decide
    have ec : (fun h => LX3_takeCondition sc (n1 + 1 + 1) 0 h (nI d) (bI q) (nI i)) = fun h => cl2 (fX9_takeWord h sw12) (fun x4 h2 => if x4 = (0 : Int32) then cl2 (fX9_takeWord h2 sw13) (fun x8 h6 => if x8 = (0 : Int32) then LX3_takeCondition sc (n1 + 1) 1 h6 0 (bI q) 0 else cl9 (if bI q = (0 : Int32) then some h6 else cl9 (fX2_put h6 13 (-15 : Int32)) (fun h14 => some h14)) (fun h10 => cl9 (sc 1 h10 (nI d)) (fun h16 => LX3_takeCondition sc (n1 + 1) 0 h16 (nI d) 1 (nI (i + 1))))) else cl9 (sc 1 h2 (nI d)) (fun h19 => cl9 (fX2_put h19 13 (-14 : Int32)) (fun h21 => LX3_takeCondition sc (n1 + 1) 0 h21 (nI d) (bI q) (nI (i + 1))))) := by
      funext h
      rw [LX3_takeCondition, if_pos rfl, BX3_takeCondition_0, if_neg (show ¬ (400 : Int32) ≤ nI i from le_n 400 rfl (by omega) (by decide)), nI_1]
      rfl
    cases hA : isW T t sw12 s with
    | true =>
      have hl := isW_len hs hA
      have hl3 : sw12.length = 3 := rfl
      have he := wnd_le (T := T) hs
      have B : LB (PC n q) T t d (wnd T t s) (qa q + 3) 1 (qa q + 3) 1 (fun h => cl9 (sc 1 h (nI d)) (fun h19 => cl9 (fX2_put h19 13 (-14 : Int32)) (fun h21 => LX3_takeCondition sc (n1 + 1) 0 h21 (nI d) (bI q) (nI (i + 1))))) (fun h1 => cl2 (sm 2 h1) (fun x7 h5 => if x7 = (0 : Int32) then some ((0 : Int32), h5) else cl9 (fX12_emits h5 13 0) (fun h9 => aK sm sM q n2 (n3 + 1) h9))) := by
        obtain ⟨oA, kA, cA, mA⟩ := A (wnd T t s) he (by omega)
        have A' : LB (SEMC n) T t d (wnd T t s) (qa q + 3) (qa q + 1) (qa q + 3) (qa q + 1) (fun h => sc 1 h (nI d)) (fun h => sm 2 h) := ⟨oA, kA.mono (Nat.le_refl _) (by omega) (by omega), cA.mono (by omega), mA.mono (by omega)⟩
        refine LB.seq (Pr2 := fun c r => ∃ c' r', c = (-14) :: c' ∧ r = (13, 0) :: r' ∧ PC n q c' r') A' (FF.seq (FF.put _) (FF.loop sc (n1 - 1 + 0) _ _ _ |> fun z => by rw [show n1 + 1 = n1 - 1 + 0 + 2 by omega]; exact z)) (fun y h1 h2 => ?_) ?_
        · obtain ⟨o, k, c, mm⟩ := ih y (by omega) h2 q (i + 1) (n1 + 1) n2 (n3 + 1) (by omega) (by omega) (by omega) (by omega) (by omega)
          refine ⟨seqO [-14] [(13, 0)] o, ?_, CF.seq (CF.put h2 (by omega) _ _) c (by show 1 + y + _ ≤ _; omega), MF.emit h2 mm (Nat.le_refl _)⟩
          exact okLO.seq (Pr1 := fun _ _ => True) (y := y) (a1 := qa q) (b1 := qa q) ⟨Nat.le_refl _, h2, by show 1 + y + _ ≤ _; omega, by show 1 + y + _ ≤ _; omega, trivial⟩ k (fun c r p => ⟨c, r, rfl, rfl, p⟩)
        · rintro c r _ _ p ⟨c', r', rfl, rfl, p2⟩
          exact PC_and p p2
      obtain ⟨o, k, c, mm⟩ := B
      refine ⟨o, k.mono (by omega) (by omega) (by omega), ?_, ?_⟩
      · rw [ec]
        exact CF.word_y hx hE (by decide) hA c (by omega)
      · rw [aK_s]
        exact MF.word_y hx hE (w := sw51) (by decide) hA mm (by omega)
    | false =>
      cases hO : isW T t sw13 s with
      | true =>
        have hl := isW_len hs hO
        have hl3 : sw13.length = 2 := rfl
        have he := wnd_le (T := T) hs
        have B : LB (fun c r => ∃ c1 r1 c' r', c = c1 ++ c' ∧ r = r1 ++ r' ∧ SEMC n c1 r1 ∧ PC n true c' r') T t d (wnd T t s) 3 1 3 1 (fun h10 => cl9 (sc 1 h10 (nI d)) (fun h16 => LX3_takeCondition sc (n1 + 1) 0 h16 (nI d) 1 (nI (i + 1)))) (fun h1 => cl2 (sm 2 h1) (fun x7 h5 => if x7 = (0 : Int32) then some ((0 : Int32), h5) else aK sm sM true big n3 h5)) := by
          obtain ⟨oA, kA, cA, mA⟩ := A (wnd T t s) he (by omega)
          have A' : LB (SEMC n) T t d (wnd T t s) 3 2 3 2 (fun h => sc 1 h (nI d)) (fun h => sm 2 h) := ⟨oA, kA.mono (Nat.le_refl _) (by omega) (by omega), cA.mono (by omega), mA.mono (by omega)⟩
          refine LB.seq (Pr2 := PC n true) A' (FF.loop sc (n1 - 1 + 0) _ _ _ |> fun z => by rw [show n1 + 1 = n1 - 1 + 0 + 2 by omega]; exact z) (fun y h1 h2 => ?_) ?_
          · exact ih y (by omega) h2 true (i + 1) (n1 + 1) big n3 (by omega) (by omega) (by unfold big; omega) (by omega) (by omega)
          · exact fun c r c' r' p p2 => ⟨c, r, c', r', rfl, rfl, p, p2⟩
        have em : (fun h => LX12_readCond sM (n3 + 1) h) = fun h => cl2 (fX12_passes h sw52) (fun x3 h1 => if x3 = (0 : Int32) then some ((1 : Int32), h1) else cl2 (sm 2 h1) (fun x7 h5 => if x7 = (0 : Int32) then some ((0 : Int32), h5) else aK sm sM true big n3 h5)) := by
          funext h
          rw [LX12_readCond, BX12_readCond_0]
          congr 1
          funext x3 h1
          by_cases c : x3 = 0
          · rw [if_pos c, if_pos c]
          · rw [if_neg c, if_neg c, hM, cl22]
            congr 1
            funext x7 h5
            by_cases c2 : x7 = 0
            · rw [if_pos c2, if_pos c2]; rfl
            · rw [if_neg c2, if_neg c2]; rfl
        obtain ⟨o, k, c, mm⟩ := B
        have mW : MF T t d s 1 o (fun h => LX12_readCond sM (n3 + 1) h) := by
          rw [em]
          exact MF.word_y hs hss (w := sw52) (by decide) hO mm (by omega)
        refine ⟨seqO (orC q) (orM q) o, ?_, ?_, ?_⟩
        · have ho : (orC q).length + 1 = qa q ∧ (orM q).length + 1 = qa q := by cases q <;> decide
          exact okLO.seq (Pr1 := fun _ _ => True) (y := wnd T t s) (a1 := 3) (b1 := 3) ⟨by omega, he, by omega, by omega, trivial⟩ k (fun c r ⟨c1, r1, c', r', e1, e2, p, p2⟩ => by rw [e1, e2]; exact PC_or p p2)
        · rw [ec]
          refine CF.word_n hx hE (by decide) hA (CF.word_y hs hss (by decide) hO (a1 := qa q + 2) ?_ (by omega))
          cases q with
          | false =>
            refine CF.cg (fun h => by rw [if_pos (show bI false = 0 from rfl), cl9_some]) (?_ : CF T t (wnd T t s) 3 (seqO [] [] o) _)
            refine CF.nil ?_
            exact c
          | true =>
            refine CF.cg (fun h => by rw [if_neg (show ¬ bI true = 0 by decide)]) (?_ : CF T t (wnd T t s) 4 (seqO [-15] [(14, 0)] o) (fun h6 => cl9 (cl9 (fX2_put h6 13 (-15 : Int32)) (fun h14 => some h14)) (fun h10 => cl9 (sc 1 h10 (nI d)) (fun h16 => LX3_takeCondition sc (n1 + 1) 0 h16 (nI d) 1 (nI (i + 1))))))
            exact CF.seq (CF.tail (CF.put he (by decide) _ _)) c (by show 1 + _ + _ ≤ _; omega)
        · rw [aK_s]
          refine MF.word_n hx hE (w := sw51) (by decide) hA ?_
          cases q with
          | false => exact MF.skip (cl := []) mW
          | true => exact MF.emit hs mW (by decide)
      | false =>
        refine ⟨.inr (s, orC q, orM q), ⟨by omega, hs, ?_, ?_, PC_end n q⟩, ?_, ?_⟩
        · cases q
          · show 0 + x + 1 ≤ s + 1; omega
          · show 1 + x + 1 ≤ s + 2; omega
        · cases q
          · show 0 + x + 1 ≤ s + 1; omega
          · show 1 + x + 1 ≤ s + 2; omega
        · rw [ec]
          refine CF.word_n hx hE (by decide) hA (CF.word_n hs hss (by decide) hO ?_)
          cases q with
          | false => exact CF.cg (fun h => by rw [LX3_takeCondition, if_neg (by decide), if_pos rfl, BX3_takeCondition_1, if_pos (show bI false = 0 from rfl)]) (CF.id _)
          | true => exact CF.cg (fun h => by rw [LX3_takeCondition, if_neg (by decide), if_pos rfl, BX3_takeCondition_1, if_neg (show ¬ bI true = 0 by decide)]) (CF.tail (CF.put hs (by decide) _ _))
        · rw [aK_s]
          refine MF.word_n hx hE (w := sw51) (by decide) hA ?_
          have mW : ∀ cl, MF T t d s 1 (.inr (s, cl, [])) (fun h => LX12_readCond sM (n3 + 1) h) := fun cl => MF.word_n hs hss (w := sw52) (by decide) hO (MF.one cl)
          cases q with
          | false => exact mW _
          | true => exact MF.emit (cl := []) (o := .inr (s, [-15], [])) hs (mW _) (by decide)
/-- a condition, out of its atoms -/
theorem cond_both {T : Nat → Int32} {t d n : Nat} (ht : t ≤ 400) {sc : Nat → Hp → Int32 → Option Hp} {sm sM : Nat → Hp → Option (Int32 × Hp)} (hM : ∀ h, sM 1 h = cl2 (sm 2 h) (fun r h1 => if r = (0 : Int32) then some ((0 : Int32), h1) else LX12_readAllOf sm big h1)) (A : ∀ x, x ≤ t → 1 ≤ x → LB (SEMC n) T t d x 2 1 1 1 (fun h => sc 1 h (nI d)) (fun h => sm 2 h)) {x : Nat} (hx : x ≤ t) (h1 : 1 ≤ x) : LB (SEMC (n + 2)) T t d x 2 1 1 1 (fun h => F9X3_takeCondition h sc (nI d)) (fun h => F9X12_readCond h sM) := by
  have em : (fun h => F9X12_readCond h sM) = fun h => cl2 (sm 2 h) (fun r h1 => if r = (0 : Int32) then some ((0 : Int32), h1) else aK sm sM false big big h1) := by
    funext h
    unfold F9X12_readCond
    rw [hM, cl22]
    congr 1
    funext r h1
    by_cases c : r = 0
    · rw [if_pos c, if_pos c]; rfl
    · rw [if_neg c, if_neg c]; rfl
  rw [em]
  exact LB.seq (Pr2 := PC n false) (A x hx h1) (FF.loop sc 999998 _ _ _) (fun y h2 h3 => condL ht hM A (t - y + 1) y (by omega) h3 false 0 big big big (by omega) (by unfold big; omega) (by unfold big; omega) (by unfold big; omega) (by omega)) (fun c r c' r' p p2 => (show ∀ c0 r0, SEMC (n + 1) c0 r0 → SEMC (n + 2) (c0 ++ c') (r0 ++ r') from p2) c r (p.mono (by omega)))

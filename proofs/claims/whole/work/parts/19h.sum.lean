/-! The law's text: a sum. -/
theorem LB.shift {Pr : List Int32 → List (Int32 × Int32) → Prop} {T : Nat → Int32} {t d x a a1 b b1 : Nat} {fc : Hp → Option Hp} {fm : Hp → Option (Int32 × Hp)} (B : LB Pr T t d x a a1 b b1 fc fm) (e f : Nat) : LB Pr T t d x (a + e) (a1 + e) (b + f) (b1 + f) fc fm := by
  obtain ⟨o, k, c, m⟩ := B
  exact ⟨o, k.mono (Nat.le_refl _) (by omega) (by omega), c.mono (by omega), m.mono (by omega)⟩
theorem isS_lt {T : Nat → Int32} {t c s : Nat} (h : isS T t c s = true) : s < t := by
  unfold isS at h
  rw [Bool.and_eq_true, decide_eq_true_eq] at h
  exact h.1
theorem sumL {T : Nat → Int32} {t d : Nat} (ht : t ≤ 400) : ∀ m x, t - x ≤ m → x ≤ t → ∀ i n n', i + 1 ≤ x → m < n → m < n' → LB (fun cl rl => ∀ c0 r0, SEMS c0 r0 → SEMS (c0 ++ cl) (r0 ++ rl)) T t d x 2 2 1 1 (fun h => cl2 (fX9_takeSign h (43 : Int32)) (fun x54 h52 => if x54 = (0 : Int32) then some h52 else LX3_takeSum n h52 (nI i + 1))) (fun h => LX12_readSum n' h) := by
  intro m
  induction m with
  | zero =>
    intro x hm hx i n n' hi hn hn'
    obtain rfl : x = t := by omega
    obtain ⟨n', rfl⟩ : ∃ k, n' = k + 1 := ⟨n' - 1, by omega⟩
    have e : skp T x x = x := scn_end (Nat.le_refl _)
    have hS : isS T x 43 x = false := by unfold isS; rw [decide_eq_false (Nat.lt_irrefl _)]; rfl
    refine ⟨.inr (x, [], []), ⟨Nat.le_refl _, hx, by show 0 + x + 2 ≤ _; omega, by show 0 + x + 1 ≤ _; omega, fun c0 r0 h => by rw [List.append_nil, List.append_nil]; exact h⟩, CF.sign_n hx e (c := 43) (by decide) rfl hS (CF.id _), ?_⟩
    exact MF.sign_n hx e (c := 43) rfl hS (MF.one _)
  | succ m ih =>
    intro x hm hx i n n' hi hn hn'
    have hg := skp_ge (T := T) hx
    have hs := skp_le (T := T) hx
    obtain ⟨n, rfl⟩ : ∃ k, n = k + 1 := ⟨n - 1, by omega⟩
    obtain ⟨n', rfl⟩ : ∃ k, n' = k + 1 := ⟨n' - 1, by omega⟩
    cases hS : isS T t 43 (skp T t x) with
    | false =>
      refine ⟨.inr (skp T t x, [], []), ⟨hg, hs, by show 0 + x + 2 ≤ _; omega, by show 0 + x + 1 ≤ _; omega, fun c0 r0 h => by rw [List.append_nil, List.append_nil]; exact h⟩, CF.sign_n hx rfl (c := 43) (by decide) rfl hS (CF.id _), ?_⟩
      exact MF.sign_n hx rfl (c := 43) rfl hS (MF.one _)
    | true =>
      have hs1 := isS_lt hS
      generalize hE : skp T t x = s at *
      have B1 := (part_both (T := T) (d := d) (show s + 1 ≤ t by omega)).shift 0 1
      have B : LB (fun cl rl => ∀ c0 r0, SEMS c0 r0 → SEMS (c0 ++ cl) (r0 ++ rl)) T t d (s + 1) 2 2 2 1 (fun h => cl9 (pCf h) (fun h5 => cl2 (fX9_takeSign h5 (43 : Int32)) (fun x54 h52 => if x54 = (0 : Int32) then some h52 else LX3_takeSum n h52 (nI (i + 1) + 1)))) (fun h => cl2 (fX12_readPart h) (fun r h1 => if r = (0 : Int32) then some ((0 : Int32), h1) else cl9 (fX12_emits h1 9 0) (fun h9 => LX12_readSum n' h9))) := by
        refine LB.seq (Pr2 := fun c r => ∃ r', r = (9, 0) :: r' ∧ ∀ c0 r0, SEMS c0 r0 → SEMS (c0 ++ c) (r0 ++ r')) B1 (FF.sign FF.id) (fun y h1 h2 => ?_) ?_
        · obtain ⟨o, k, c, mm⟩ := ih y (by omega) h2 (i + 1) n n' (by omega) (by omega) (by omega)
          refine ⟨seqO [] [(9, 0)] o, ?_, ?_, MF.emit h2 mm (by decide)⟩
          · exact okLO.seq (Pr1 := fun _ _ => True) (y := y) (a1 := 2) (b1 := 1) ⟨Nat.le_refl _, h2, by show 0 + y + 2 ≤ _; omega, by show 1 + y + 1 ≤ _; omega, trivial⟩ k (fun c r p => ⟨r, rfl, p⟩)
          · cases o with
            | inl f => exact c
            | inr q => exact c
        · rintro c r c' r' p ⟨r2, rfl, p2⟩ c0 r0 p0
          have := p2 _ _ (sem_add p0 p)
          rw [← List.append_assoc]
          simpa using this
      obtain ⟨o, k, c, mm⟩ := B
      have e : (fun h52 => LX3_takeSum (n + 1) h52 (nI i + 1)) = fun h => cl9 (pCf h) (fun h5 => cl2 (fX9_takeSign h5 (43 : Int32)) (fun x54 h52 => if x54 = (0 : Int32) then some h52 else LX3_takeSum n h52 (nI (i + 1) + 1))) := by
        funext h
        rw [sumC_s, nI_1, if_neg (show ¬ (400 : Int32) ≤ nI (i + 1) from le_n 400 rfl (by omega) (by decide))]
      refine ⟨o, k.mono (by omega) (by omega) (by omega), CF.sign_y hx hE (c := 43) (by decide) rfl hS (f1 := fun h52 => LX3_takeSum (n + 1) h52 (nI i + 1)) (a1 := 2) (by rw [e]; exact c) (by decide), ?_⟩
      exact MF.sign_y hx hE (c := 43) rfl hS (b1 := 2) mm (by decide)
theorem sum_both {T : Nat → Int32} {t d x : Nat} (ht : t ≤ 400) (hx : x ≤ t) (h1 : 1 ≤ x) : LB SEMS T t d x 2 2 1 1 (fun h => fX3_takeSum h) (fun h => fX12_readSum h) := by
  have e : (fun h => fX3_takeSum h) = fun h => cl9 (pCf h) (fun h5 => cl2 (fX9_takeSign h5 (43 : Int32)) (fun x54 h52 => if x54 = (0 : Int32) then some h52 else LX3_takeSum 999999 h52 (nI 0 + 1))) := by
    funext h
    unfold fX3_takeSum
    rw [show big = 999999 + 1 from rfl, sumC_s, if_neg (by decide)]
    rfl
  rw [e]
  exact LB.seq (part_both hx) (FF.sign FF.id) (fun y h2 h3 => sumL ht (t - y) y (Nat.le_refl _) h3 0 999999 big (by omega) (by omega) (by unfold big; omega)) (fun c r c' r' p p2 => p2 c r p)
theorem FF.tsum {T : Nat → Int32} {t : Nat} : FF T t (fun h => fX3_takeSum h) := FF.sum 999999 0
theorem FF.cmp {T : Nat → Int32} {t : Nat} {K : Int32 → Hp → Option Hp} (b : ∀ v, FF T t (K v)) : FF T t (fun h => cl2 (fX3_takeComparison h) (fun x h1 => K x h1)) := fun f h L => by
  obtain ⟨h1, e1, F1, L1⟩ := takeSign_f L.1 60
  obtain ⟨h2, e2, F2, L2⟩ := takeSign_f L1 62
  obtain ⟨h3, e3, F3, L3⟩ := failNext_f L2
  obtain ⟨h4, e4, F4, L4⟩ := b (-10) f h3 (L.tp ((F1.trans F2).trans F3) L3)
  refine ⟨h4, ?_, ((F1.trans F2).trans F3).c13L.trans F4, L4⟩
  dsimp only
  unfold fX3_takeComparison
  rw [e1, cl2_some, if_pos rfl, e2, cl2_some, if_pos rfl, e3, cl9_some, cl2_some]
  exact e4
theorem FF.atom {T : Nat → Int32} {t : Nat} (self : Nat → Hp → Int32 → Option Hp) (a : Int32) : FF T t (fun h => F9X3_takeAtom h self a) := by
  unfold F9X3_takeAtom
  exact FF.word (FF.word (FF.word (FF.sign (FF.seq FF.tsum (FF.seq (FF.put _) (FF.cmp (K := fun x23 h21 => cl9 (fX3_takeSum h21) (fun h24 => cl9 (fX2_put h24 13 x23) (fun h26 => some h26))) (fun v => FF.seq FF.tsum (FF.seq (FF.put _) FF.id))))))))
theorem FF.grp1 {T : Nat → Int32} {t : Nat} (n : Nat) (a : Int32) : FF T t (fun h => grp_X3_takeCondition (n + 1) 1 h a) := FF.atom (grp_X3_takeCondition n) a
theorem FF.cg {T : Nat → Int32} {t : Nat} {f g : Hp → Option Hp} (e : ∀ h, f h = g h) (c : FF T t g) : FF T t f := fun k h L => by
  rw [e]; exact c k h L
theorem FF.loop {T : Nat → Int32} {t : Nat} (self : Nat → Hp → Int32 → Option Hp) (n : Nat) (y2 y3 y4 : Int32) : FF T t (fun h => LX3_takeCondition self (n + 2) 0 h y2 y3 y4) := by
  have e1 : FF T t (fun h => LX3_takeCondition self (n + 1) 1 h 0 y3 0) := by
    refine FF.cg (fun h => ?_) (FF.ite (p := y3 = 0) FF.id (FF.seq (FF.put (-15)) FF.id))
    rw [LX3_takeCondition, if_neg (by decide), if_pos rfl, BX3_takeCondition_1]
  refine FF.cg (fun h => ?_) (FF.ite (p := (400 : Int32) ≤ y4) e1 (FF.word (w := sw12) (f1 := fun h2 => cl9 (self 1 h2 y2) (fun h19 => cl9 (fX2_put h19 13 (-14 : Int32)) (fun h21 => lt9 (y4 + (1 : Int32)) (fun x23 => LX3_takeCondition self (n + 1) 0 h21 y2 y3 x23)))) (FF.word (w := sw13) (f1 := fun h6 => cl9 ((if y3 = (0 : Int32) then some h6 else cl9 (fX2_put h6 13 (-15 : Int32)) (fun h14 => some h14)) : Option (Hp)) (fun h10 => cl9 (self 1 h10 y2) (fun h16 => lt9 (y4 + (1 : Int32)) (fun x18 => LX3_takeCondition self (n + 1) 0 h16 y2 (1 : Int32) x18)))) e1)))
  rw [LX3_takeCondition, if_pos rfl, BX3_takeCondition_0]
theorem FF.cond {T : Nat → Int32} {t : Nat} (n : Nat) (a : Int32) : FF T t (fun h => grp_X3_takeCondition (n + 2) 0 h a) := FF.seq (FF.grp1 n a) (FF.loop (grp_X3_takeCondition (n + 1)) 999998 a 0 0)

/-! The law's text: line behind line. -/
abbrev LR : Type := Nat ⊕ (Nat × Nat × LD)
def okLRC (T : Nat → Int32) (t : Nat) (o : LR) (r : Int32) (h : Hp) : Prop := match o with
  | .inl f => r = nI f ∧ FLD T t f h
  | .inr (y, ln, D) => r = -1 ∧ CLN T t y ln D h
def okLRM (T : Nat → Int32) (t : Nat) (o : LR) (r : Int32) (h : Hp) : Prop := match o with
  | .inl f => r = -1 ∧ h 208 12 = nI f
  | .inr (y, ln, D) => r = nI ln ∧ RLN T t y ln D h
def okLRO (t : Nat) (o : LR) : Prop := match o with
  | .inl f => f ≤ t
  | .inr (y, ln, D) => y ≤ t ∧ ln ≤ 12 ∧ okD ln D ∧ D.2.2.2.2.1.length ≤ t ∧ D.2.2.2.2.2.length ≤ t
theorem CLN.tp {T : Nat → Int32} {t x y ln : Nat} {D : LD} {h h' : Hp} (S : CLN T t x ln D h) (F : FI c1345 h h') (e3 : h' 1 3 = nI y) (e5 : h' 1 5 = -1) : CLN T t y ln D h' := ⟨S.1.tp F e3 e5, S.2.fi F (fun k j q => by unfold c1345 at q; omega)⟩
theorem RLN.tp {T : Nat → Int32} {t x y ln : Nat} {D : LD} {h h' : Hp} (S : RLN T t x ln D h) (F : FI c1012 h h') (e : h' 208 10 = nI y) : RLN T t y ln D h' := ⟨S.1.fi F (fun k j q => by unfold c1012 at q; omega), e, S.2.2.1.fi F (fun k j q => by unfold c1012 at q; omega), S.2.2.2.fi F (fun k j q => by unfold c1012 at q; omega)⟩
theorem FI.c1345n {h h' : Hp} (F : FI c1345 h h') : FI cLn h h' := F.c1345L.cLkn
theorem FI.c1012n {h h' : Hp} (F : FI c1012 h h') : FI cRn h h' := F.c1012L.cRln
theorem okLnM.b {T : Nat → Int32} {t ln : Nat} {o : LnO} {r : Int32} {h : Hp} (k : okLnM T t ln o r h) : r = 0 ∨ r = 1 := by
  cases o with
  | inl f => exact Or.inl k.1
  | inr q => exact Or.inr k.1
theorem llines_both {T : Nat → Int32} {t : Nat} (ht : t ≤ 400) : ∀ k ln D x, ln + k = 12 → okD ln D → x ≤ t → D.2.2.2.2.1.length ≤ x → D.2.2.2.2.2.length ≤ x → ∃ o : LR, okLRO t o ∧ (∀ n h, k < n → CLN T t x ln D h → ∃ r h', LX10_readL n h 12 (nI ln) = some (r, h') ∧ FI cLn h h' ∧ okLRC T t o r h') ∧ (∀ n h, k < n → RLN T t x ln D h → ∃ r h', LX12_readAll n h 0 (nI ln) = some (r, h') ∧ FI cRn h h' ∧ okLRM T t o r h') := by
  intro k
  induction k with
  | zero =>
    intro ln D x hk G hx hL hR
    obtain rfl : ln = 12 := by omega
    refine ⟨.inl (skp T t x), skp_le hx, fun n h hn S => ?_, fun n h hn S => ?_⟩
    · obtain ⟨n, rfl⟩ : ∃ m, n = m + 1 := ⟨n - 1, by omega⟩
      obtain ⟨h1, e1, F1, y3, y5⟩ := failNext_x S.1.1 hx S.1.2.1 S.1.2.2.1
      refine ⟨_, h1, ?_, F1.c1345n, rfl, S.1.1.fi F1 (fun k j q => by unfold c1345 at q; omega), ⟨_, skp_le hx, y3⟩, skp_le hx, y5⟩
      rw [LX10_readL, BX10_readL_0, if_pos (by decide), e1, cl9_some, y5]
    · obtain ⟨n, rfl⟩ : ∃ m, n = m + 1 := ⟨n - 1, by omega⟩
      obtain ⟨h1, e1, F1, y10, y12⟩ := letters_m S.1 hx S.2.1
      refine ⟨-1, h1, ?_, F1.c1012n, rfl, y12⟩
      rw [LX12_readAll, BX12_readAll_0]
      unfold fX12_readLine
      rw [e1, cl9_some, if_pos rfl, cl9_some, if_pos (by decide), cl2_some, if_pos rfl]
  | succ k ih =>
    intro ln D x hk G hx hL hR
    have hs := skp_le (T := T) hx
    have hg := skp_ge (T := T) hx
    obtain ⟨o, ho, lc, lm⟩ := line_both (T := T) ht hs (show ln < 12 by omega) G (by omega) (by omega)
    have c12 : ¬ (12 : Int32) ≤ nI ln := le_n 12 rfl (by omega) (by decide)
    have mL : ∀ h, RLN T t x ln D h → ∃ r h1, FI cRn h h1 ∧ okLnM T t ln o r h1 ∧ ∀ n, LX12_readAll (n + 1) h 0 (nI ln) = (if r = 0 then some (-1, h1) else cl9 (fX12_blanks h1) (fun h5 => (if (h5 208 10) = (h5 208 11) then some ((nI ln + 1), h5) else cl9 (fX12_isAt h5 59 59) (fun x8 => (if x8 = 0 then some (-1, h5) else lt9 (up2 h5 208 10 ((h5 208 10) + 1)) (fun h11 => lt9 (nI ln + 1) (fun x12 => LX12_readAll n h11 0 x12))))))) := by
      intro h S
      obtain ⟨h1, e1, F1, y10, y12⟩ := letters_m S.1 hx S.2.1
      obtain ⟨r, h2, e2, F2, k2⟩ := lm h1 (S.tp F1 y10) y12
      refine ⟨r, h2, F1.c1012n.trans F2, k2, fun n => ?_⟩
      rw [LX12_readAll, BX12_readAll_0]
      unfold fX12_readLine
      rw [e1, cl9_some, if_pos rfl, cl9_some, if_neg c12, if_pos rfl, e2, cl2_some]
      rcases k2.b with rfl | rfl
      · rw [if_pos rfl, cl2_some, if_pos rfl]
      · rw [if_neg (by decide), cl2_some, if_neg (by decide)]
    cases o with
    | inl f =>
      refine ⟨.inl f, ho, fun n h hn S => ?_, fun n h hn S => ?_⟩
      · obtain ⟨n, rfl⟩ : ∃ m, n = m + 1 := ⟨n - 1, by omega⟩
        obtain ⟨h1, e1, F1, L1⟩ := lc x h hx rfl hL S
        obtain ⟨b, h2, e2, F2, L2⟩ := atEnd_f (show FLD T t f h1 from L1)
        refine ⟨_, h2, ?_, F1.trans (F2.mono (fun k j q => by unfold cLn; omega)), rfl, L2⟩
        rw [LX10_readL, BX10_readL_0, if_neg c12, e1, cl9_some, e2, cl2_some, failed_f L2, L2.2.2.2]
        cases b with
        | true => rw [if_neg (show ¬ bI true = 0 by decide), cl9_some, if_pos rfl]
        | false => rw [if_pos (show bI false = 0 from rfl), if_neg (by decide), cl9_some, if_pos rfl]
      · obtain ⟨n, rfl⟩ : ∃ m, n = m + 1 := ⟨n - 1, by omega⟩
        obtain ⟨r, h1, F1, k1, e1⟩ := mL h S
        refine ⟨-1, h1, ?_, F1, rfl, k1.2⟩
        rw [e1 n, k1.1, if_pos rfl]
    | inr q =>
      obtain ⟨x1, D1⟩ := q
      obtain ⟨-, hx1, G1, hL1, hR1⟩ := ho
      have hs1 := skp_le (T := T) hx1
      have hg1 := skp_ge (T := T) hx1
      have cA : ∀ h, CLN T t x ln D h → ∃ h2, FI cLn h h2 ∧ CLN T t (skp T t x1) (ln + 1) D1 h2 ∧ ∀ n, LX10_readL (n + 1) h 12 (nI ln) = (if skp T t x1 = t then some (-1, h2) else cl2 (fX9_takeSign h2 59) (fun x17 h15 => (if x17 = 0 then cl9 (fX9_failNext h15) (fun h20 => some ((h20 1 5), h20)) else lt9 (nI ln + 1) (fun x19 => LX10_readL n h15 12 x19)))) := by
        intro h S
        obtain ⟨h1, e1, F1, S1⟩ := lc x h hx rfl hL S
        have S1' : CLN T t x1 (ln + 1) D1 h1 := S1
        obtain ⟨h2, e2, F2, y3⟩ := atEnd_x S1'.1.1 hx1 S1'.1.2.1
        have y5 : h2 1 5 = -1 := by rw [F2 1 5 (by omega)]; exact S1'.1.2.2.1
        have F2' : FI c1345 h1 h2 := F2.mono (fun k j q => by unfold c1345; omega)
        refine ⟨h2, F1.trans F2'.c1345n, S1'.tp F2' y3 y5, fun n => ?_⟩
        have f0 : fX9_failed h2 = 0 := by unfold fX9_failed; rw [y5, if_pos rfl]
        rw [LX10_readL, BX10_readL_0, if_neg c12, e1, cl9_some, e2, cl2_some, f0, y5]
        by_cases c : skp T t x1 = t
        · rw [decide_eq_true c, if_neg (show ¬ bI true = 0 by decide), cl9_some, if_pos rfl, if_pos c]
        · rw [decide_eq_false c, if_pos (show bI false = 0 from rfl), if_pos rfl, cl9_some, if_neg (by decide), if_neg c]
      have mA : ∀ h, RLN T t x ln D h → ∃ h2, FI cRn h h2 ∧ RLN T t (skp T t x1) (ln + 1) D1 h2 ∧ h2 208 12 = nI (skp T t x1) ∧ ∀ n, LX12_readAll (n + 1) h 0 (nI ln) = (if skp T t x1 = t then some (nI ln + 1, h2) else if isS T t 59 (skp T t x1) then LX12_readAll n (up2 h2 208 10 (nI (skp T t x1 + 1))) 0 (nI (ln + 1)) else some (-1, h2)) := by
        intro h S
        obtain ⟨r, h1, F1, k1, e1⟩ := mL h S
        obtain ⟨k0, k1⟩ := k1
        obtain ⟨h2, e2, F2, y10, y12⟩ := blanks_m k1.1 hx1 k1.2.1
        have S2 : RLN T t (skp T t x1) (ln + 1) D1 h2 := k1.tp F2 y10
        refine ⟨h2, F1.trans F2.c1012n, S2, y12, fun n => ?_⟩
        rw [e1 n, k0, if_neg (by decide), e2, cl9_some, isAt_m S2.1 hs1 y10, y10, S2.1.2.1, cl9_some, rg_one]
        by_cases c : skp T t x1 = t
        · rw [if_pos (congrArg nI c), if_pos c]
        · rw [if_neg (nI_ne (by omega) (by omega) c), if_neg c, lt9_e, lt9_e, nI_1, nI_1]
          show (if bI (isS T t 59 (skp T t x1)) = 0 then _ else _) = _
          cases isS T t 59 (skp T t x1) with
          | true => rw [if_neg (show ¬ bI true = 0 by decide), if_pos rfl]
          | false => rw [if_pos (show bI false = 0 from rfl), if_neg (by decide)]
      by_cases c : skp T t x1 = t
      · refine ⟨.inr (skp T t x1, ln + 1, D1), ⟨hs1, by omega, G1, by omega, by omega⟩, fun n h hn S => ?_, fun n h hn S => ?_⟩
        · obtain ⟨n, rfl⟩ : ∃ m, n = m + 1 := ⟨n - 1, by omega⟩
          obtain ⟨h2, F2, S2, e2⟩ := cA h S
          exact ⟨-1, h2, by rw [e2 n, if_pos c], F2, rfl, S2⟩
        · obtain ⟨n, rfl⟩ : ∃ m, n = m + 1 := ⟨n - 1, by omega⟩
          obtain ⟨h2, F2, S2, -, e2⟩ := mA h S
          exact ⟨nI ln + 1, h2, by rw [e2 n, if_pos c], F2, nI_1 ln, S2⟩
      · cases q : isS T t 59 (skp T t x1) with
        | true =>
          obtain ⟨o2, ho2, ic, im⟩ := ih (ln + 1) D1 (skp T t x1 + 1) (by omega) G1 (by omega) (by omega) (by omega)
          refine ⟨o2, ho2, fun n h hn S => ?_, fun n h hn S => ?_⟩
          · obtain ⟨n, rfl⟩ : ∃ m, n = m + 1 := ⟨n - 1, by omega⟩
            obtain ⟨h2, F2, S2, e2⟩ := cA h S
            obtain ⟨h3, e3, F3, y3, -⟩ := takeSign_x S2.1.1 hs1 S2.1.2.1 S2.1.2.2.1 (c := 59) (by decide)
            rw [skp_id hx1, q] at e3 y3
            have e3' : fX9_takeSign h2 59 = some (bI true, h3) := e3
            obtain ⟨r, h4, e4, F4, k4⟩ := ic n h3 (by omega) (S2.tp F3.c134L (y3 rfl).1 (by rw [F3 1 5 (fun z => by unfold c134 at z; omega)]; exact S2.1.2.2.1))
            refine ⟨r, h4, ?_, (F2.trans F3.c134L.c1345n).trans F4, k4⟩
            rw [e2 n, if_neg c, e3', cl2_some, if_neg (show ¬ bI true = 0 by decide), lt9_e, nI_1]
            exact e4
          · obtain ⟨n, rfl⟩ : ∃ m, n = m + 1 := ⟨n - 1, by omega⟩
            obtain ⟨h2, F2, S2, -, e2⟩ := mA h S
            have F3 : FI c1012 h2 (up2 h2 208 10 (nI (skp T t x1 + 1))) := FI.up2 _ _ (by unfold c1012; omega)
            obtain ⟨r, h4, e4, F4, k4⟩ := im n (up2 h2 208 10 (nI (skp T t x1 + 1))) (by omega) (S2.tp F3 (by rw [up2_s, upd_s]))
            refine ⟨r, h4, ?_, (F2.trans F3.c1012n).trans F4, k4⟩
            rw [e2 n, if_neg c, q, if_pos rfl]
            exact e4
        | false =>
          refine ⟨.inl (skp T t x1), hs1, fun n h hn S => ?_, fun n h hn S => ?_⟩
          · obtain ⟨n, rfl⟩ : ∃ m, n = m + 1 := ⟨n - 1, by omega⟩
            obtain ⟨h2, F2, S2, e2⟩ := cA h S
            obtain ⟨h3, e3, F3, -, y3⟩ := takeSign_x S2.1.1 hs1 S2.1.2.1 S2.1.2.2.1 (c := 59) (by decide)
            rw [skp_id hx1, q] at e3 y3
            have e3' : fX9_takeSign h2 59 = some (bI false, h3) := e3
            have S3 : CLN T t (skp T t x1) (ln + 1) D1 h3 := S2.tp F3.c134L (y3 rfl) (by rw [F3 1 5 (fun z => by unfold c134 at z; omega)]; exact S2.1.2.2.1)
            obtain ⟨h4, e4, F4, y34, y54⟩ := failNext_x S3.1.1 hs1 S3.1.2.1 S3.1.2.2.1
            rw [skp_id hx1] at y34 y54
            refine ⟨_, h4, ?_, (F2.trans F3.c134L.c1345n).trans F4.c1345n, rfl, S3.1.1.fi F4 (fun k j q => by unfold c1345 at q; omega), ⟨_, hs1, y34⟩, hs1, y54⟩
            rw [e2 n, if_neg c, e3', cl2_some, if_pos (show bI false = 0 from rfl), e4, cl9_some, y54]
          · obtain ⟨n, rfl⟩ : ∃ m, n = m + 1 := ⟨n - 1, by omega⟩
            obtain ⟨h2, F2, S2, y12, e2⟩ := mA h S
            refine ⟨-1, h2, ?_, F2, rfl, y12⟩
            rw [e2 n, if_neg c, q, if_neg (by decide)]
def D0 : LD := (fun _ => 0, fun _ => 0, fun _ => 0, fun _ => 0, [], [])
theorem okD_0 : okD 0 D0 := ⟨rfl, rfl, rfl, rfl, fun i hi => by omega⟩
theorem ltext_both {T : Nat → Int32} {t : Nat} (ht : t ≤ 400) : ∃ o : LR, okLRO t o ∧ (∀ h, CLN T t 0 0 D0 h → ∃ r h', cl2 (fX9_atEnd h) (fun x26 h24 => if x26 = 0 then LX10_readL big h24 12 0 else some (-1, h24)) = some (r, h') ∧ FI cLn h h' ∧ okLRC T t o r h') ∧ (∀ h, RLN T t 0 0 D0 h → ∃ r h', cl9 (fX12_blanks h) (fun h16 => if (h16 208 10) = (h16 208 11) then some (0, h16) else LX12_readAll big h16 0 0) = some (r, h') ∧ FI cRn h h' ∧ okLRM T t o r h') := by
  have h0 : 0 ≤ t := Nat.zero_le _
  have hs := skp_le (T := T) h0
  have cA : ∀ h, CLN T t 0 0 D0 h → ∃ h1, fX9_atEnd h = some (bI (decide (skp T t 0 = t)), h1) ∧ FI cLn h h1 ∧ CLN T t (skp T t 0) 0 D0 h1 := fun h S => by
    obtain ⟨h1, e1, F1, y3⟩ := atEnd_x S.1.1 h0 S.1.2.1
    have F1' : FI c1345 h h1 := F1.mono (fun k j q => by unfold c1345; omega)
    exact ⟨h1, e1, F1'.c1345n, S.tp F1' y3 (by rw [F1 1 5 (by omega)]; exact S.1.2.2.1)⟩
  have mA : ∀ h, RLN T t 0 0 D0 h → ∃ h1, fX12_blanks h = some h1 ∧ FI cRn h h1 ∧ RLN T t (skp T t 0) 0 D0 h1 := fun h S => by
    obtain ⟨h1, e1, F1, y10, y12⟩ := blanks_m S.1 h0 S.2.1
    exact ⟨h1, e1, F1.c1012n, S.tp F1 y10⟩
  by_cases c : skp T t 0 = t
  · refine ⟨.inr (skp T t 0, 0, D0), ⟨hs, by decide, okD_0, Nat.zero_le _, Nat.zero_le _⟩, fun h S => ?_, fun h S => ?_⟩
    · obtain ⟨h1, e1, F1, S1⟩ := cA h S
      exact ⟨-1, h1, by rw [e1, cl2_some, decide_eq_true c, if_neg (show ¬ bI true = 0 by decide)], F1, rfl, S1⟩
    · obtain ⟨h1, e1, F1, S1⟩ := mA h S
      exact ⟨0, h1, by rw [e1, cl9_some, S1.2.1, S1.1.2.1, if_pos (congrArg nI c)], F1, rfl, S1⟩
  · obtain ⟨o, ho, lc, lm⟩ := llines_both (T := T) (t := t) ht 12 0 D0 (skp T t 0) (by decide) okD_0 hs (Nat.zero_le _) (Nat.zero_le _)
    refine ⟨o, ho, fun h S => ?_, fun h S => ?_⟩
    · obtain ⟨h1, e1, F1, S1⟩ := cA h S
      obtain ⟨r, h2, e2, F2, k2⟩ := lc 1000000 h1 (by decide) S1
      exact ⟨r, h2, by rw [e1, cl2_some, decide_eq_false c, if_pos (show bI false = 0 from rfl)]; exact e2, F1.trans F2, k2⟩
    · obtain ⟨h1, e1, F1, S1⟩ := mA h S
      obtain ⟨r, h2, e2, F2, k2⟩ := lm 1000000 h1 (by decide) S1
      exact ⟨r, h2, by rw [e1, cl9_some, S1.2.1, S1.1.2.1, if_neg (nI_ne (by omega) (by omega) c)]; exact e2, F1.trans F2, k2⟩

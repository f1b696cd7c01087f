/-! The sky's text: line behind line. -/
def okRC (T : Nat → Int32) (t : Nat) (o : Out) (r : Int32) (h' : Hp) : Prop := match o with
  | .inl f => r = nI f ∧ FLD T t f h'
  | .inr (x', w') => r = -1 ∧ CST T t w' x' h'
def okRM (T : Nat → Int32) (t : Nat) (o : Out) (r : Int32) (h' : Hp) : Prop := match o with
  | .inl f => r = -1 ∧ h' 208 12 = nI f
  | .inr (x', w') => (0 : Int32) ≤ r ∧ MST T t w' x' h'
def okRO (t : Nat) (w : Nat → Int32) (o : Out) : Prop := match o with
  | .inl f => f ≤ t
  | .inr (x', w') => x' ≤ t ∧ GW w' ∧ keepW w w'
theorem lines_both {T : Nat → Int32} {t : Nat} : ∀ k ln w x, ln + k = 14 → GW w → x ≤ t → ∃ o : Out, okRO t w o ∧ (∀ n h, k < n → CST T t w x h → ∃ r h', LX10_readS n h 14 (nI ln) = some (r, h') ∧ FI cSk h h' ∧ okRC T t o r h') ∧ (∀ n h, k < n → MST T t w x h → ∃ r h', LX12_readAll n h 1 (nI ln) = some (r, h') ∧ FI cRk h h' ∧ okRM T t o r h') := by
  intro k
  induction k with
  | zero =>
    intro ln w x hk G hx
    obtain rfl : ln = 14 := by omega
    refine ⟨.inl (skp T t x), skp_le hx, fun n h hn S => ?_, fun n h hn S => ?_⟩
    · obtain ⟨n, rfl⟩ : ∃ m, n = m + 1 := ⟨n - 1, by omega⟩
      obtain ⟨h1, e1, F1, y3, y5⟩ := failNext_x S.1 hx S.2.1 S.2.2.1
      refine ⟨_, h1, ?_, F1.c1345S, rfl, S.1.cSf F1.c1345S, ⟨_, skp_le hx, y3⟩, skp_le hx, y5⟩
      rw [LX10_readS, BX10_readS_0, if_pos (by decide), e1, cl9_some, y5]
    · obtain ⟨n, rfl⟩ : ∃ m, n = m + 1 := ⟨n - 1, by omega⟩
      obtain ⟨h1, e1, F1, y10, y12⟩ := letters_m S.1 hx S.2.1
      refine ⟨-1, h1, ?_, F1.c1012R, rfl, y12⟩
      rw [LX12_readAll, BX12_readAll_0]
      unfold fX12_readLine
      rw [e1, cl9_some, if_neg (show ¬ (1 : Int32) = 0 by decide), cl9_some, if_pos (by decide), cl2_some, if_pos rfl]
  | succ k ih =>
    intro ln w x hk G hx
    have hs := skp_le (T := T) hx
    obtain ⟨o, ho, lc, lm⟩ := skyLine (T := T) G hs (skp_id hx)
    have c14 : ¬ (14 : Int32) ≤ nI ln := le_n 14 rfl (by omega) (by decide)
    have mL : ∀ h, MST T t w x h → ∃ r h1, FI cRk h h1 ∧ okM T t o r h1 ∧ ∀ n, LX12_readAll (n + 1) h 1 (nI ln) = (if r = 0 then some (-1, h1) else cl9 (fX12_blanks h1) (fun h5 => (if (h5 208 10) = (h5 208 11) then some ((nI ln + 1), h5) else cl9 (fX12_isAt h5 59 59) (fun x8 => (if x8 = 0 then some (-1, h5) else lt9 (up2 h5 208 10 ((h5 208 10) + 1)) (fun h11 => lt9 (nI ln + 1) (fun x12 => LX12_readAll n h11 1 x12))))))) := by
      intro h S
      obtain ⟨h1, e1, F1, y10, y12⟩ := letters_m S.1 hx S.2.1
      have S1 : MST T t w (wnd T t (skp T t x)) h1 := ⟨S.1.cRf F1.c1012R, y10, by rw [F1.cell (k := 209) (fun j q => by unfold c1012 at q; omega)]; exact S.2.2⟩
      obtain ⟨r, h2, e2, F2, k2⟩ := lm h1 S1 y12
      refine ⟨r, h2, F1.c1012R.trans F2, k2, fun n => ?_⟩
      rw [LX12_readAll, BX12_readAll_0]
      unfold fX12_readLine
      rw [e1, cl9_some, if_neg (show ¬ (1 : Int32) = 0 by decide), cl9_some, if_neg c14, if_neg (show ¬ (1 : Int32) = 0 by decide), e2, cl2_some]
      rcases k2.b with rfl | rfl
      · rw [if_pos rfl, cl2_some, if_pos rfl]
      · rw [if_neg (by decide), cl2_some, if_neg (by decide)]
    cases o with
    | inl f =>
      refine ⟨.inl f, ho, fun n h hn S => ?_, fun n h hn S => ?_⟩
      · obtain ⟨n, rfl⟩ : ∃ m, n = m + 1 := ⟨n - 1, by omega⟩
        obtain ⟨h1, e1, F1, L1⟩ := lc x h hx rfl S
        obtain ⟨b, h2, e2, F2, L2⟩ := atEnd_f (show FLD T t f h1 from L1)
        refine ⟨_, h2, ?_, F1.trans (F2.mono (fun k j q => by unfold cSk; omega)), rfl, L2⟩
        rw [LX10_readS, BX10_readS_0, if_neg c14, e1, cl9_some, e2, cl2_some, failed_f L2, L2.2.2.2]
        cases b with
        | true => rw [if_neg (show ¬ bI true = 0 by decide), cl9_some, if_pos rfl]
        | false => rw [if_pos (show bI false = 0 from rfl), if_neg (by decide), cl9_some, if_pos rfl]
      · obtain ⟨n, rfl⟩ : ∃ m, n = m + 1 := ⟨n - 1, by omega⟩
        obtain ⟨r, h1, F1, k1, e1⟩ := mL h S
        refine ⟨-1, h1, ?_, F1, rfl, k1.2⟩
        rw [e1 n, k1.1, if_pos rfl]
    | inr q =>
      obtain ⟨x1, w1⟩ := q
      obtain ⟨-, hx1, G1, K1⟩ := ho
      have hs1 := skp_le (T := T) hx1
      have cA : ∀ h, CST T t w x h → ∃ h2, FI cSk h h2 ∧ CST T t w1 (skp T t x1) h2 ∧ ∀ n, LX10_readS (n + 1) h 14 (nI ln) = (if skp T t x1 = t then some (-1, h2) else cl2 (fX9_takeSign h2 59) (fun x17 h15 => (if x17 = 0 then cl9 (fX9_failNext h15) (fun h20 => some ((h20 1 5), h20)) else lt9 (nI ln + 1) (fun x19 => LX10_readS n h15 14 x19)))) := by
        intro h S
        obtain ⟨h1, e1, F1, S1⟩ := lc x h hx rfl S
        have S1' : CST T t w1 x1 h1 := S1
        obtain ⟨h2, e2, F2, y3⟩ := atEnd_x S1'.1 hx1 S1'.2.1
        have y5 : h2 1 5 = -1 := by rw [F2 1 5 (by omega)]; exact S1'.2.2.1
        refine ⟨h2, F1.trans (F2.mono (fun k j q => by unfold cSk; omega)), ⟨S1'.1.fi F2 (fun k j q => by omega), y3, y5, S1'.2.2.2.fi F2 (fun k j q => by omega)⟩, fun n => ?_⟩
        have f0 : fX9_failed h2 = 0 := by unfold fX9_failed; rw [y5, if_pos rfl]
        rw [LX10_readS, BX10_readS_0, if_neg c14, e1, cl9_some, e2, cl2_some, f0, y5]
        by_cases c : skp T t x1 = t
        · rw [decide_eq_true c, if_neg (show ¬ bI true = 0 by decide), cl9_some, if_pos rfl, if_pos c]
        · rw [decide_eq_false c, if_pos (show bI false = 0 from rfl), if_pos rfl, cl9_some, if_neg (by decide), if_neg c]
      have mA : ∀ h, MST T t w x h → ∃ h2, FI cRk h h2 ∧ MST T t w1 (skp T t x1) h2 ∧ h2 208 12 = nI (skp T t x1) ∧ ∀ n, LX12_readAll (n + 1) h 1 (nI ln) = (if skp T t x1 = t then some (nI ln + 1, h2) else if isS T t 59 (skp T t x1) then LX12_readAll n (up2 h2 208 10 (nI (skp T t x1 + 1))) 1 (nI (ln + 1)) else some (-1, h2)) := by
        intro h S
        have ht := S.1.1
        obtain ⟨r, h1, F1, k1, e1⟩ := mL h S
        obtain ⟨k0, k1⟩ := k1
        obtain ⟨h2, e2, F2, y10, y12⟩ := blanks_m k1.1 hx1 k1.2.1
        have S2 : MST T t w1 (skp T t x1) h2 := ⟨k1.1.cRf F2.c1012R, y10, by rw [F2.cell (k := 209) (fun j q => by unfold c1012 at q; omega)]; exact k1.2.2⟩
        refine ⟨h2, F1.trans F2.c1012R, S2, y12, fun n => ?_⟩
        rw [e1 n, k0, if_neg (by decide), e2, cl9_some, isAt_m S2.1 hs1 y10, y10, S2.1.2.1, cl9_some, rg_one]
        by_cases c : skp T t x1 = t
        · rw [if_pos (congrArg nI c), if_pos c]
        · rw [if_neg (nI_ne (by omega) (by omega) c), if_neg c, lt9_e, lt9_e, nI_1, nI_1]
          show (if bI (isS T t 59 (skp T t x1)) = 0 then _ else _) = _
          cases isS T t 59 (skp T t x1) with
          | true => rw [if_neg (show ¬ bI true = 0 by decide), if_pos rfl]
          | false => rw [if_pos (show bI false = 0 from rfl), if_neg (by decide)]
      by_cases c : skp T t x1 = t
      · refine ⟨.inr (skp T t x1, w1), ⟨hs1, G1, K1⟩, fun n h hn S => ?_, fun n h hn S => ?_⟩
        · obtain ⟨n, rfl⟩ : ∃ m, n = m + 1 := ⟨n - 1, by omega⟩
          obtain ⟨h2, F2, S2, e2⟩ := cA h S
          exact ⟨-1, h2, by rw [e2 n, if_pos c], F2, rfl, S2⟩
        · obtain ⟨n, rfl⟩ : ∃ m, n = m + 1 := ⟨n - 1, by omega⟩
          obtain ⟨h2, F2, S2, -, e2⟩ := mA h S
          exact ⟨nI ln + 1, h2, by rw [e2 n, if_pos c], F2, by rw [nI_1]; exact nI_le (a := 0) (Nat.zero_le _) (by omega), S2⟩
      · cases q : isS T t 59 (skp T t x1) with
        | true =>
          obtain ⟨o2, ho2, ic, im⟩ := ih (ln + 1) w1 (skp T t x1 + 1) (by omega) G1 (by omega)
          refine ⟨o2, ?_, fun n h hn S => ?_, fun n h hn S => ?_⟩
          · cases o2 with
            | inl f => exact ho2
            | inr z => exact ⟨ho2.1, ho2.2.1, K1.trans ho2.2.2⟩
          · obtain ⟨n, rfl⟩ : ∃ m, n = m + 1 := ⟨n - 1, by omega⟩
            obtain ⟨h2, F2, S2, e2⟩ := cA h S
            obtain ⟨h3, e3, F3, y3, -⟩ := takeSign_x S2.1 hs1 S2.2.1 S2.2.2.1 (c := 59) (by decide)
            rw [skp_id hx1, q] at e3 y3
            have e3' : fX9_takeSign h2 59 = some (bI true, h3) := e3
            obtain ⟨r, h4, e4, F4, k4⟩ := ic n h3 (by omega) ⟨S2.1.cSf F3.c134S, (y3 rfl).1, by rw [F3 1 5 (fun z => by unfold c134 at z; omega)]; exact S2.2.2.1, S2.2.2.2.fi F3 (fun k j z => by unfold c134 at z; omega)⟩
            refine ⟨r, h4, ?_, (F2.trans F3.c134S).trans F4, k4⟩
            rw [e2 n, if_neg c, e3', cl2_some, if_neg (show ¬ bI true = 0 by decide), lt9_e, nI_1]
            exact e4
          · obtain ⟨n, rfl⟩ : ∃ m, n = m + 1 := ⟨n - 1, by omega⟩
            obtain ⟨h2, F2, S2, -, e2⟩ := mA h S
            obtain ⟨r, h4, e4, F4, k4⟩ := im n (up2 h2 208 10 (nI (skp T t x1 + 1))) (by omega) ⟨S2.1.cRf (FI.up2 _ _ (by unfold cRk; omega)), by rw [up2_s, upd_s], by rw [up2_n _ _ _ (by decide)]; exact S2.2.2⟩
            refine ⟨r, h4, ?_, (F2.trans (FI.up2 _ _ (by unfold cRk; omega))).trans F4, k4⟩
            rw [e2 n, if_neg c, q, if_pos rfl]
            exact e4
        | false =>
          refine ⟨.inl (skp T t x1), hs1, fun n h hn S => ?_, fun n h hn S => ?_⟩
          · obtain ⟨n, rfl⟩ : ∃ m, n = m + 1 := ⟨n - 1, by omega⟩
            obtain ⟨h2, F2, S2, e2⟩ := cA h S
            obtain ⟨h3, e3, F3, -, y3⟩ := takeSign_x S2.1 hs1 S2.2.1 S2.2.2.1 (c := 59) (by decide)
            rw [skp_id hx1, q] at e3 y3
            have e3' : fX9_takeSign h2 59 = some (bI false, h3) := e3
            have P3 := S2.1.cSf F3.c134S
            obtain ⟨h4, e4, F4, y34, y54⟩ := failNext_x P3 hs1 (y3 rfl) (by rw [F3 1 5 (fun z => by unfold c134 at z; omega)]; exact S2.2.2.1)
            rw [skp_id hx1] at y34 y54
            refine ⟨_, h4, ?_, (F2.trans F3.c134S).trans F4.c1345S, rfl, P3.cSf F4.c1345S, ⟨_, hs1, y34⟩, hs1, y54⟩
            rw [e2 n, if_neg c, e3', cl2_some, if_pos (show bI false = 0 from rfl), e4, cl9_some, y54]
          · obtain ⟨n, rfl⟩ : ∃ m, n = m + 1 := ⟨n - 1, by omega⟩
            obtain ⟨h2, F2, S2, y12, e2⟩ := mA h S
            refine ⟨-1, h2, ?_, F2, rfl, y12⟩
            rw [e2 n, if_neg c, q, if_neg (by decide)]

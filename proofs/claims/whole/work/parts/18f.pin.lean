/-! The sky's lines: pin. -/
theorem no_m1 {p : Nat} (hp : p < 2 ^ 31) : ¬ nI p = -1 := fun q => by have := nI_pos hp; rw [q] at this; exact this (by decide)
theorem setPin_up {h : Hp} {p : Nat} (hp : p < 16) (v : Int32) : fX7_setPin h 65 (nI p) v = some (up2 (up2 h 65 5 (h 65 5 ||| bit9 p)) (65 + 4) p v) := by
  unfold fX7_setPin
  rw [bit9_def, lt9_e, gd_in hp (by decide), nI_clamp (by omega)]
  rfl
theorem word_both {T : Nat → Int32} {t : Nat} {w : Nat → Int32} {x : Nat} (hx : x ≤ t) {wd : List Int32} (hw : okW wd = true) :
    (∀ h, CST T t w x h → ∃ h', fX9_takeWord h wd = some (bI (isW T t wd (skp T t x)), h') ∧ FI c134 h h' ∧ CST T t w (if isW T t wd (skp T t x) then wnd T t (skp T t x) else skp T t x) h' ∧ (isW T t wd (skp T t x) = true → h' 1 4 = nI (skp T t x))) ∧ (∀ h, MST T t w x h → ∃ h', fX12_passes h wd = some (bI (isW T t wd (skp T t x)), h') ∧ FI c1012 h h' ∧ MST T t w (if isW T t wd (skp T t x) then wnd T t (skp T t x) else skp T t x) h' ∧ h' 208 12 = nI (skp T t x)) := by
  refine ⟨fun h S => ?_, fun h S => ?_⟩
  · obtain ⟨h', e, F, y1, y2⟩ := takeWord_x S.1 hx S.2.1 S.2.2.1 hw
    refine ⟨h', e, F, ⟨S.1.cSf F.c134S, ?_, by rw [F 1 5 (fun q => by unfold c134 at q; omega)]; exact S.2.2.1, S.2.2.2.fi F (fun k j q => by unfold c134 at q; omega)⟩, fun q => (y1 q).2⟩
    cases c : isW T t wd (skp T t x) with
    | true => exact (y1 c).1
    | false => exact y2 c
  · obtain ⟨h', e, F, y12, y10⟩ := passes_m S.1 hx S.2.1 hw
    exact ⟨h', e, F, ⟨S.1.cRf F.c1012R, y10, by rw [F.cell (k := 209) (fun j q => by unfold c1012 at q; omega)]; exact S.2.2⟩, y12⟩
theorem FLD.fail {T : Nat → Int32} {t : Nat} {w : Nat → Int32} {x f : Nat} {h : Hp} (S : CST T t w x h) (hx : x ≤ t) (hf : f ≤ t) : FLD T t f (up2 h 1 5 (nI f)) :=
  ⟨S.1.fi (FI.up2 (C := fun k j => k = 1 ∧ j = 5) _ _ ⟨rfl, rfl⟩) (fun k j q => by omega), ⟨x, hx, by rw [up2_s, upd_n _ _ (by decide)]; exact S.2.1⟩, hf, by rw [up2_s, upd_s]⟩
theorem putM (h : Hp) {p : Nat} (hp : p < 16) (v : Int32) : gd (inb 7 2031) (lt9 (up2 h 209 (7 : Int32).toNatClampNeg ((h 209 7) ||| (1 <<< (nI p &&& 31)))) (fun h23 => gd (inb (62 + nI p) 2031) (lt9 (up2 h23 209 (62 + nI p).toNatClampNeg v) (fun h25 => some ((1 : Int32), h25))))) = some (1, up2 (up2 h 209 7 (h 209 7 ||| bit9 p)) 209 (62 + p) v) := by
  rw [gd_t (show inb 7 2031 by decide), bit9_def, lt9_e, i_62, nI_add, gd_in (show 62 + p < 2031 by omega) (by decide), nI_clamp (by omega)]
  rfl
theorem leaf_pin {T : Nat → Int32} {t : Nat} {w : Nat → Int32} (G : GW w) {e s : Nat} (he : e ≤ t) : LEAF T t w e s fX8_takePin fX12_readPin := by
  rcases num_both (T := T) (w := w) he 0 15 (by decide) (by decide) with ⟨k, a1, a2, a3, a4, ac, am⟩ | ⟨k, a1, ac, am⟩
  · generalize hp : nmV T t (skp T t e) = p at a3 a4 ac am
    generalize hy : dnd T t (skp T t e) = y at a1 a2 ac am
    have hse := skp_le (T := T) he
    have c1 : ∀ h, CST T t w e h → ∃ h1, CST T t w y h1 ∧ FI c1345 h h1 ∧ h1 1 4 = nI (skp T t e) ∧ fX8_takePin h = if has9 (w 7) p then some (up2 h1 1 5 (nI (skp T t e))) else cl2 (fX9_takeWord h1 sw15) (fun x8 h6 => cl2 ((if x8 = 0 then some (0, h6) else cl2 (fX9_takeNumber h6 0 99) (fun x16 h14 => some (x16, h14))) : Option (Int32 × Hp)) (fun x9 h10 => cl9 (fX7_setPin h10 65 (nI p) x9) (fun h17 => some h17))) := by
      intro h S
      obtain ⟨h1, e1, F1, S1, y4⟩ := ac h S
      have e1' : fX9_takeNumber h 0 15 = _ := e1
      refine ⟨h1, S1, F1, y4, ?_⟩
      unfold fX8_takePin fX7_hasPin
      rw [e1', cl2_some, if_neg (no_m1 (by omega)), show h1 65 5 = w 7 from S1.2.2.2.get (i := 7) (c := 0) rfl (by decide) (by decide), has_x _ (by omega)]
      cases has9 (w 7) p with
      | true => rw [if_neg (show ¬ bI true = 0 by decide), failLatest_x y4 S1.2.2.1]; rfl
      | false => rw [if_pos (show bI false = 0 from rfl)]; rfl
    have m1 : ∀ h, MST T t w e h → ∃ h1, MST T t w y h1 ∧ FI c1012 h h1 ∧ h1 208 12 = nI (skp T t e) ∧ fX12_readPin h = if has9 (w 7) p then some ((0 : Int32), h1) else cl2 (fX12_passes h1 sw29) (fun x12 h10 => cl2 ((if x12 = 0 then some (0, h10) else cl2 (fX12_number h10 0 99) (fun x20 h18 => some (x20, h18))) : Option (Int32 × Hp)) (fun v13 h14 => (if 0 ≤ v13 then gd (inb 7 2031) (lt9 (up2 h14 209 (7 : Int32).toNatClampNeg ((h14 209 7) ||| (1 <<< (nI p &&& 31)))) (fun h23 => gd (inb (62 + nI p) 2031) (lt9 (up2 h23 209 (62 + nI p).toNatClampNeg v13) (fun h25 => some ((1 : Int32), h25))))) else some ((0 : Int32), h14)))) := by
      intro h S
      obtain ⟨h1, e1, F1, S1, y12⟩ := am h S
      have e1' : fX12_number h 0 15 = _ := e1
      refine ⟨h1, S1, F1, y12, ?_⟩
      unfold fX12_readPin fX12_placeTold fX12_hasPin fX12_pins
      rw [e1', cl2_some, cl2_some, if_neg (nI_pos (n := p) (by omega)), S1.2.2, has_m _ (by omega)]
      cases has9 (w 7) p with
      | true => rw [if_neg (show ¬ bI true = 0 by decide), cl9_some, if_pos rfl]
      | false =>
        rw [if_pos (show bI false = 0 from rfl), cl9_some, if_neg (by decide)]
    cases hpin : has9 (w 7) p with
    | true =>
      rw [hpin] at c1 m1
      refine ⟨.inl (skp T t e), hse, fun h S _ => ?_, fun h S _ => ?_⟩
      · obtain ⟨h1, S1, F1, y4, e1⟩ := c1 h S
        exact ⟨_, e1, F1.c1345S.trans (FI.up2 _ _ (by unfold cSk; omega)), FLD.fail S1 a2 hse⟩
      · obtain ⟨h1, S1, F1, y12, e1⟩ := m1 h S
        exact ⟨0, h1, e1, F1.c1012R, rfl, y12⟩
    | false =>
      rw [hpin] at c1 m1
      obtain ⟨wc, wm⟩ := word_both (T := T) (w := w) a2 (wd := sw29) (by decide)
      have hsy := skp_le (T := T) a2
      have hgy := skp_ge (T := T) a2
      generalize hz : skp T t y = z at wc wm hsy hgy
      have hwz := wnd_le (T := T) hsy
      have hwg := wnd_ge (T := T) hsy
      have GP : ∀ r, r ≤ 99 → GW (upd (upd w 7 (w 7 ||| bit9 p)) (62 + p) (nI r)) := fun r hr => G.put (by omega) hr
      have KP : ∀ v, keepW w (upd (upd w 7 (w 7 ||| bit9 p)) (62 + p) v) := fun v => (keepW.up (by omega) _).trans (keepW.up (by omega) _)
      -- the class's and the reference's putting of the pin
      have fc : ∀ (h10 : Hp) x v, CST T t w x h10 → CST T t (upd (upd w 7 (w 7 ||| bit9 p)) (62 + p) v) x (up2 (up2 h10 65 5 (w 7 ||| bit9 p)) (65 + 4) p v) := fun h10 x v S => by
        refine ⟨(S.1.cSf (FI.up2 _ _ (by unfold cSk; omega))).cSf (FI.up2 _ _ (by unfold cSk; omega)), ?_, ?_, ?_⟩
        · rw [up2_n _ _ _ (by decide), up2_n _ _ _ (by decide)]; exact S.2.1
        · rw [up2_n _ _ _ (by decide), up2_n _ _ _ (by decide)]; exact S.2.2.1
        · exact (S.2.2.2.up (i := 7) (c := 0) rfl (by decide) _).up (loc_r (by omega)) (by omega) _
      have fm : ∀ (h10 : Hp) x v, MST T t w x h10 → MST T t (upd (upd w 7 (w 7 ||| bit9 p)) (62 + p) v) x (up2 (up2 h10 209 7 (w 7 ||| bit9 p)) 209 (62 + p) v) := fun h10 x v S => by
        refine ⟨(S.1.cRf (FI.up2 _ _ (by unfold cRk; omega))).cRf (FI.up2 _ _ (by unfold cRk; omega)), ?_, ?_⟩
        · rw [up2_n _ _ _ (by decide), up2_n _ _ _ (by decide)]; exact S.2.1
        · rw [up2_s, up2_s, S.2.2]
      have e7 : ∀ (h10 : Hp) x, CST T t w x h10 → h10 65 5 = w 7 := fun h10 x S => S.2.2.2.get (i := 7) (c := 0) rfl (by decide) (by decide)
      cases hW : isW T t sw29 z with
      | false =>
        rw [hW] at wc wm
        refine ⟨.inr (z, upd (upd w 7 (w 7 ||| bit9 p)) (62 + p) (nI 0)), ⟨by omega, hsy, GP 0 (by omega), KP _⟩, fun h S _ => ?_, fun h S _ => ?_⟩
        · obtain ⟨h1, S1, F1, y4, e1⟩ := c1 h S
          obtain ⟨h2, e2, F2, S2, -⟩ := wc h1 S1
          have e2' : fX9_takeWord h1 sw15 = some (bI false, h2) := e2
          refine ⟨_, ?_, ((F1.c1345S.trans F2.c134S).trans (FI.up2 _ _ (by unfold cSk; omega))).trans (FI.up2 _ _ (by unfold cSk; omega)), fc h2 z (nI 0) S2⟩
          rw [e1, if_neg (by decide), e2', cl2_some, if_pos (show bI false = 0 from rfl), cl2_some, setPin_up (by omega), e7 h2 _ S2]
          rfl
        · obtain ⟨h1, S1, F1, y12, e1⟩ := m1 h S
          obtain ⟨h2, e2, F2, S2, -⟩ := wm h1 S1
          refine ⟨1, _, ?_, ((F1.c1012R.trans F2.c1012R).trans (FI.up2 _ _ (by unfold cRk; omega))).trans (FI.up2 _ _ (by unfold cRk; omega)), rfl, fm h2 z (nI 0) S2⟩
          rw [e1, if_neg (by decide), e2, cl2_some, if_pos (show bI false = 0 from rfl), cl2_some, if_pos (by decide), putM _ (by omega), S2.2.2]
          rfl
      | true =>
        rw [hW] at wc wm
        rcases num_both (T := T) (w := w) hwz 0 99 (by decide) (by decide) with ⟨k', b1, b2, b3, b4, bc, bm⟩ | ⟨k', b1, bc, bm⟩
        · generalize hv : nmV T t (skp T t (wnd T t z)) = v at b3 b4 bc bm
          refine ⟨.inr (dnd T t (skp T t (wnd T t z)), upd (upd w 7 (w 7 ||| bit9 p)) (62 + p) (nI v)), ⟨by omega, b2, GP v (by omega), KP _⟩, fun h S _ => ?_, fun h S _ => ?_⟩
          · obtain ⟨h1, S1, F1, y4, e1⟩ := c1 h S
            obtain ⟨h2, e2, F2, S2, -⟩ := wc h1 S1
            have e2' : fX9_takeWord h1 sw15 = some (bI true, h2) := e2
            obtain ⟨h3, e3, F3, S3, -⟩ := bc h2 S2
            have e3' : fX9_takeNumber h2 0 99 = _ := e3
            refine ⟨_, ?_, (((F1.c1345S.trans F2.c134S).trans F3.c1345S).trans (FI.up2 _ _ (by unfold cSk; omega))).trans (FI.up2 _ _ (by unfold cSk; omega)), fc h3 _ (nI v) S3⟩
            rw [e1, if_neg (by decide), e2', cl2_some, if_neg (show ¬ bI true = 0 by decide), e3', cl2_some, cl2_some, setPin_up (by omega), e7 h3 _ S3]
            rfl
          · obtain ⟨h1, S1, F1, y12, e1⟩ := m1 h S
            obtain ⟨h2, e2, F2, S2, -⟩ := wm h1 S1
            obtain ⟨h3, e3, F3, S3, -⟩ := bm h2 S2
            have e3' : fX12_number h2 0 99 = _ := e3
            refine ⟨1, _, ?_, (((F1.c1012R.trans F2.c1012R).trans F3.c1012R).trans (FI.up2 _ _ (by unfold cRk; omega))).trans (FI.up2 _ _ (by unfold cRk; omega)), rfl, fm h3 _ (nI v) S3⟩
            rw [e1, if_neg (by decide), e2, cl2_some, if_neg (show ¬ bI true = 0 by decide), e3', cl2_some, cl2_some, if_pos (show (0 : Int32) ≤ nI v from nI_le (a := 0) (Nat.zero_le _) (by omega)), putM _ (by omega), S3.2.2]
        · refine ⟨.inl (skp T t (wnd T t z)), b1, fun h S _ => ?_, fun h S _ => ?_⟩
          · obtain ⟨h1, S1, F1, y4, e1⟩ := c1 h S
            obtain ⟨h2, e2, F2, S2, -⟩ := wc h1 S1
            have e2' : fX9_takeWord h1 sw15 = some (bI true, h2) := e2
            obtain ⟨h3, e3, F3, L3⟩ := bc h2 S2
            have e3' : fX9_takeNumber h2 0 99 = _ := e3
            refine ⟨up2 (up2 h3 65 5 (h3 65 5 ||| bit9 p)) (65 + 4) p (-1), ?_, (((F1.c1345S.trans F2.c134S).trans F3.c1345S).trans (FI.up2 _ _ (by unfold cSk; omega))).trans (FI.up2 _ _ (by unfold cSk; omega)), FLD.fi (FLD.fi L3 (FI.up2 (C := fun k _ => k = 65) _ _ rfl) (fun k j q => by omega)) (FI.up2 (C := fun k _ => k = 65 + 4) _ _ rfl) (fun k j q => by omega)⟩
            rw [e1, if_neg (by decide), e2', cl2_some, if_neg (show ¬ bI true = 0 by decide), e3', cl2_some, cl2_some, setPin_up (by omega)]
            rfl
          · obtain ⟨h1, S1, F1, y12, e1⟩ := m1 h S
            obtain ⟨h2, e2, F2, S2, -⟩ := wm h1 S1
            obtain ⟨h3, e3, F3, y12', -⟩ := bm h2 S2
            have e3' : fX12_number h2 0 99 = _ := e3
            refine ⟨0, h3, ?_, (F1.c1012R.trans F2.c1012R).trans F3.c1012R, rfl, y12'⟩
            rw [e1, if_neg (by decide), e2, cl2_some, if_neg (show ¬ bI true = 0 by decide), e3', cl2_some, cl2_some, if_neg (show ¬ (0 : Int32) ≤ -1 by decide)]
  · refine ⟨.inl (skp T t e), a1, fun h S _ => ?_, fun h S _ => ?_⟩
    · obtain ⟨h1, e1, F1, L1⟩ := ac h S
      have e1' : fX9_takeNumber h 0 15 = _ := e1
      refine ⟨h1, ?_, F1.c1345S, L1⟩
      unfold fX8_takePin
      rw [e1', cl2_some, if_pos rfl]
    · obtain ⟨h1, e1, F1, y12, y9⟩ := am h S
      have e1' : fX12_number h 0 15 = _ := e1
      refine ⟨0, h1, ?_, F1.c1012R, rfl, y12⟩
      unfold fX12_readPin fX12_placeTold
      rw [e1', cl2_some, cl2_some, if_pos (show (-1 : Int32) < 0 by decide), cl9_some, if_pos rfl]

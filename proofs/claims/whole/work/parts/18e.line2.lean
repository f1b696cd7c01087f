/-! The sky's lines: place and value, bare, pin, pinner. -/
theorem skp_nd {T : Nat → Int32} {t x : Nat} (hx : x ≤ t) : skp T t x ≤ t := skp_le hx
/-- ground, need, tree -/
theorem leaf_at {T : Nat → Int32} {t : Nat} {w : Nat → Int32} (G : GW w) {e s : Nat} (he : e ≤ t) {hi b c : Nat} (hhi : hi ≤ 20) (el : ∀ p, p < 16 → loc (b + p) = (c, p)) (hb : 14 ≤ b ∧ b + 15 < 62) (hs : ∀ p, p < 16 → spc (b + p) = false) (hh : ∀ p, p < 16 → hi ≤ hiT (b + p)) (hc : 1 ≤ c ∧ c ≤ 3) : LEAF T t w e s (fun h => fX8_takePlaceValue h (65 + c) 16 (nI hi)) (fun h => fX12_readAt h (nI b) (nI hi)) := by
  rcases num_both (T := T) (w := w) he 0 15 (by decide) (by decide) with ⟨k, a1, a2, a3, a4, ac, am⟩ | ⟨k, a1, ac, am⟩
  · generalize hp : nmV T t (skp T t e) = p at a3 a4 ac am
    generalize hy : dnd T t (skp T t e) = y at a1 a2 ac am
    rcases num_both (T := T) (w := w) a2 0 hi (by omega) (by decide) with ⟨k', b1, b2, b3, b4, bc, bm⟩ | ⟨k', b1, bc, bm⟩
    · refine ⟨.inr (dnd T t (skp T t y), upd w (b + p) (nI (nmV T t (skp T t y)))), ⟨by omega, b2, G.set (by omega) (hs p (by omega)) (Nat.le_trans b4 (hh p (by omega))) (by omega) (fun q => by omega) (fun q _ => by omega) (fun q _ => by omega), keepW.up (by omega) _⟩, fun h S _ => ?_, fun h S _ => ?_⟩
      · obtain ⟨h1, e1, F1, S1, -⟩ := ac h S
        obtain ⟨h2, e2, F2, S2, -⟩ := bc h1 S1
        refine ⟨up2 h2 (65 + c) p (nI (nmV T t (skp T t y))), ?_, (F1.c1345S.trans F2.c1345S).trans (FI.up2 _ _ (by unfold cSk; omega)), S2.1.cSf (FI.up2 _ _ (by unfold cSk; omega)), ?_, ?_, S2.2.2.2.up (el p (by omega)) (by omega) _⟩
        · dsimp only
          unfold fX8_takePlaceValue
          have e1' : fX9_takeNumber h 0 15 = _ := e1
          have e2' : fX9_takeNumber h1 0 (nI hi) = _ := e2
          rw [e1', cl2_some, e2', cl2_some, if_neg (fun q => by have := nI_pos (n := p) (by omega); rw [q] at this; exact this (by decide)), gd_in (show p < 16 by omega) (by decide), nI_clamp (by omega)]
          rfl
        · rw [up2_n _ _ _ (by omega)]; exact S2.2.1
        · rw [up2_n _ _ _ (by omega)]; exact S2.2.2.1
      · obtain ⟨h1, e1, F1, S1, -⟩ := am h S
        obtain ⟨h2, e2, F2, S2, -⟩ := bm h1 S1
        refine ⟨1, up2 h2 209 (b + p) (nI (nmV T t (skp T t y))), ?_, (F1.c1012R.trans F2.c1012R).trans (FI.up2 _ _ (by unfold cRk; omega)), rfl, S2.1.cRf (FI.up2 _ _ (by unfold cRk; omega)), ?_, ?_⟩
        · dsimp only
          unfold fX12_readAt fX12_placeTold
          have e1' : fX12_number h 0 15 = _ := e1
          have e2' : fX12_number h1 0 (nI hi) = _ := e2
          rw [e1', cl2_some, cl2_some, if_neg (nI_pos (n := p) (by omega)), nI_add]
          unfold fX12_readNumber
          rw [e2', cl2_some, if_pos (show (0 : Int32) ≤ nI (nmV T t (skp T t y)) from nI_le (a := 0) (Nat.zero_le _) (by omega)), cl9_some, gd_in (show b + p < 2031 by omega) (by decide), nI_clamp (by omega), lt9_e, if_neg (nI_pos (n := nmV T t (skp T t y)) (by omega)), cl2_some, if_neg (by decide)]
        · rw [up2_n _ _ _ (by decide)]; exact S2.2.1
        · rw [up2_s, S2.2.2]
    · refine ⟨.inl (skp T t y), b1, fun h S _ => ?_, fun h S _ => ?_⟩
      · obtain ⟨h1, e1, F1, S1, -⟩ := ac h S
        obtain ⟨h2, e2, F2, L2⟩ := bc h1 S1
        refine ⟨up2 h2 (65 + c) p (-1), ?_, (F1.c1345S.trans F2.c1345S).trans (FI.up2 _ _ (by unfold cSk; omega)), L2.fi (FI.up2 (C := fun k _ => k = 65 + c) _ _ rfl) (fun k j q => by omega)⟩
        dsimp only
        unfold fX8_takePlaceValue
        have e1' : fX9_takeNumber h 0 15 = _ := e1
        have e2' : fX9_takeNumber h1 0 (nI hi) = _ := e2
        rw [e1', cl2_some, e2', cl2_some, if_neg (fun q => by have := nI_pos (n := p) (by omega); rw [q] at this; exact this (by decide)), gd_in (show p < 16 by omega) (by decide), nI_clamp (by omega)]
        rfl
      · obtain ⟨h1, e1, F1, S1, -⟩ := am h S
        obtain ⟨h2, e2, F2, y12, y9⟩ := bm h1 S1
        refine ⟨0, up2 h2 209 (b + p) (h2 209 (b + p)), ?_, (F1.c1012R.trans F2.c1012R).trans (FI.up2 _ _ (by unfold cRk; omega)), rfl, by rw [up2_n _ _ _ (by decide)]; exact y12⟩
        dsimp only
        unfold fX12_readAt fX12_placeTold
        have e1' : fX12_number h 0 15 = _ := e1
        have e2' : fX12_number h1 0 (nI hi) = _ := e2
        rw [e1', cl2_some, cl2_some, if_neg (nI_pos (n := p) (by omega)), nI_add]
        unfold fX12_readNumber
        rw [e2', cl2_some, if_neg (show ¬ (0 : Int32) ≤ -1 by decide), gd_in (show b + p < 2031 by omega) (by decide), cl9_some, gd_in (show b + p < 2031 by omega) (by decide), nI_clamp (by omega), lt9_e, if_pos (show (-1 : Int32) < 0 by decide), cl2_some, if_pos rfl]
  · refine ⟨.inl (skp T t e), a1, fun h S _ => ?_, fun h S _ => ?_⟩
    · obtain ⟨h1, e1, F1, L1⟩ := ac h S
      obtain ⟨h2, e2, F2, L2⟩ := takeNumber_f L1 (nI 0) (nI hi)
      refine ⟨h2, ?_, F1.c1345S.trans (F2.mono (fun k j q => by unfold cSk; omega)), L2⟩
      dsimp only
      unfold fX8_takePlaceValue
      have e1' : fX9_takeNumber h 0 15 = _ := e1
      have e2' : fX9_takeNumber h1 0 (nI hi) = _ := e2
      rw [e1', cl2_some, e2', cl2_some, if_pos rfl]
    · obtain ⟨h1, e1, F1, y12, y9⟩ := am h S
      refine ⟨0, h1, ?_, F1.c1012R, rfl, y12⟩
      dsimp only
      unfold fX12_readAt fX12_placeTold
      have e1' : fX12_number h 0 15 = _ := e1
      rw [e1', cl2_some, cl2_some, if_pos (show (-1 : Int32) < 0 by decide)]
/-- bare -/
theorem GW.setbare {w : Nat → Int32} (G : GW w) {S : Int32} (hS : S16 S) : GW (upd w 13 S) := by
  obtain ⟨g1, g2, g3, g4, g5, g6⟩ := G
  refine ⟨fun i hi hs => ?_, ?_, by rw [upd_s]; exact hS, fun p hp h => ?_, fun k hk h => ?_, ?_⟩
  · by_cases c : i = 13
    · subst c; exact absurd hs (by decide)
    · rw [upd_n _ _ c]; exact g1 i hi hs
  · rw [upd_n _ _ (by decide)]; exact g2
  · rw [upd_n _ _ (by decide)] at h; rw [upd_n _ _ (by omega)]; exact g4 p hp h
  · rw [upd_n _ _ (by decide)] at h; rw [upd_n _ _ (by omega)]; exact g5 k hk h
  · rw [upd_n _ _ (by decide)]; exact g6
theorem leaf_bare {T : Nat → Int32} {t : Nat} {w : Nat → Int32} (G : GW w) {e s : Nat} (he : e ≤ t) : LEAF T t w e s fX8_takeBare fX12_readBare := by
  rcases num_both (T := T) (w := w) he 0 15 (by decide) (by decide) with ⟨k, a1, a2, a3, a4, ac, am⟩ | ⟨k, a1, ac, am⟩
  · generalize hp : nmV T t (skp T t e) = p at a3 a4 ac am
    refine ⟨.inr (dnd T t (skp T t e), upd w 13 (w 13 ||| bit9 p)), ⟨a1, a2, G.setbare (S16_or G.bare (S16_bit (by omega))), keepW.up (by omega) _⟩, fun h S _ => ?_, fun h S _ => ?_⟩
    · obtain ⟨h1, e1, F1, S1, -⟩ := ac h S
      have e13 : h1 65 4 = w 13 := S1.2.2.2.get (i := 13) (c := 0) rfl (by decide) (by decide)
      refine ⟨up2 h1 65 4 (w 13 ||| bit9 p), ?_, F1.c1345S.trans (FI.up2 _ _ (by unfold cSk; omega)), S1.1.cSf (FI.up2 _ _ (by unfold cSk; omega)), ?_, ?_, S1.2.2.2.up (i := 13) (c := 0) rfl (by decide) _⟩
      · unfold fX8_takeBare
        have e1' : fX9_takeNumber h 0 15 = _ := e1
        rw [e1', cl2_some, if_neg (fun q => by have := nI_pos (n := p) (by omega); rw [q] at this; exact this (by decide)), e13, bit9_def]
        rfl
      · rw [up2_n _ _ _ (by omega)]; exact S1.2.1
      · rw [up2_n _ _ _ (by omega)]; exact S1.2.2.1
    · obtain ⟨h1, e1, F1, S1, -⟩ := am h S
      refine ⟨1, up2 h1 209 13 (w 13 ||| bit9 p), ?_, F1.c1012R.trans (FI.up2 _ _ (by unfold cRk; omega)), rfl, S1.1.cRf (FI.up2 _ _ (by unfold cRk; omega)), ?_, ?_⟩
      · unfold fX12_readBare fX12_placeTold
        have e1' : fX12_number h 0 15 = _ := e1
        rw [e1', cl2_some, cl2_some, if_neg (nI_pos (n := p) (by omega)), bit9_def, S1.2.2, gd_t (show inb 13 2031 by decide), lt9_e, cl9_some, if_neg (nI_pos (n := p) (by omega))]
        rfl
      · rw [up2_n _ _ _ (by decide)]; exact S1.2.1
      · rw [up2_s, S1.2.2]
  · refine ⟨.inl (skp T t e), a1, fun h S _ => ?_, fun h S _ => ?_⟩
    · obtain ⟨h1, e1, F1, L1⟩ := ac h S
      refine ⟨h1, ?_, F1.c1345S, L1⟩
      unfold fX8_takeBare
      have e1' : fX9_takeNumber h 0 15 = _ := e1
      rw [e1', cl2_some, if_pos rfl]
    · obtain ⟨h1, e1, F1, y12, y9⟩ := am h S
      refine ⟨0, h1, ?_, F1.c1012R, rfl, y12⟩
      unfold fX12_readBare fX12_placeTold
      have e1' : fX12_number h 0 15 = _ := e1
      rw [e1', cl2_some, cl2_some, if_pos (show (-1 : Int32) < 0 by decide), cl9_some, if_pos (show (-1 : Int32) < 0 by decide)]

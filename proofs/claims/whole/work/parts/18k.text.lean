/-! The sky's text, from its first byte. -/
theorem text_both {T : Nat → Int32} {t : Nat} {w : Nat → Int32} (G : GW w) (ht : t ≤ 400) : ∃ o : Out, okRO t w o ∧ (∀ h, CST T t w 0 h → ∃ r h', cl2 (fX9_atEnd h) (fun x26 h24 => if x26 = 0 then LX10_readS big h24 14 0 else some (-1, h24)) = some (r, h') ∧ FI cSk h h' ∧ okRC T t o r h') ∧ (∀ h, MST T t w 0 h → ∃ r h', cl9 (fX12_blanks h) (fun h16 => if (h16 208 10) = (h16 208 11) then some (0, h16) else LX12_readAll big h16 1 0) = some (r, h') ∧ FI cRk h h' ∧ okRM T t o r h') := by
  have h0 : 0 ≤ t := Nat.zero_le _
  have hs := skp_le (T := T) h0
  have cA : ∀ h, CST T t w 0 h → ∃ h1, fX9_atEnd h = some (bI (decide (skp T t 0 = t)), h1) ∧ FI cSk h h1 ∧ CST T t w (skp T t 0) h1 := fun h S => by
    obtain ⟨h1, e1, F1, y3⟩ := atEnd_x S.1 h0 S.2.1
    exact ⟨h1, e1, F1.mono (fun k j q => by unfold cSk; omega), S.1.fi F1 (fun k j q => by omega), y3, by rw [F1 1 5 (by omega)]; exact S.2.2.1, S.2.2.2.fi F1 (fun k j q => by omega)⟩
  have mA : ∀ h, MST T t w 0 h → ∃ h1, fX12_blanks h = some h1 ∧ FI cRk h h1 ∧ MST T t w (skp T t 0) h1 := fun h S => by
    obtain ⟨h1, e1, F1, y10, y12⟩ := blanks_m S.1 h0 S.2.1
    exact ⟨h1, e1, F1.c1012R, S.1.cRf F1.c1012R, y10, by rw [F1.cell (k := 209) (fun j q => by unfold c1012 at q; omega)]; exact S.2.2⟩
  by_cases c : skp T t 0 = t
  · refine ⟨.inr (skp T t 0, w), ⟨hs, G, keepW.refl w⟩, fun h S => ?_, fun h S => ?_⟩
    · obtain ⟨h1, e1, F1, S1⟩ := cA h S
      exact ⟨-1, h1, by rw [e1, cl2_some, decide_eq_true c, if_neg (show ¬ bI true = 0 by decide)], F1, rfl, S1⟩
    · obtain ⟨h1, e1, F1, S1⟩ := mA h S
      exact ⟨0, h1, by rw [e1, cl9_some, S1.2.1, S1.1.2.1, if_pos (congrArg nI c)], F1, by decide, S1⟩
  · obtain ⟨o, ho, lc, lm⟩ := lines_both (T := T) (t := t) 14 0 w (skp T t 0) (by decide) G hs
    refine ⟨o, ho, fun h S => ?_, fun h S => ?_⟩
    · obtain ⟨h1, e1, F1, S1⟩ := cA h S
      obtain ⟨r, h2, e2, F2, k2⟩ := lc 1000000 h1 (by decide) S1
      exact ⟨r, h2, by rw [e1, cl2_some, decide_eq_false c, if_pos (show bI false = 0 from rfl)]; exact e2, F1.trans F2, k2⟩
    · obtain ⟨h1, e1, F1, S1⟩ := mA h S
      obtain ⟨r, h2, e2, F2, k2⟩ := lm 1000000 h1 (by decide) S1
      exact ⟨r, h2, by rw [e1, cl9_some, S1.2.1, S1.1.2.1, if_neg (nI_ne (by omega) (by omega) c)]; exact e2, F1.trans F2, k2⟩
def c1x (k j : Nat) : Prop := (k = 1 ∧ 1 ≤ j ∧ j ≤ 5) ∨ (65 ≤ k ∧ k ≤ 73)
theorem readS_x {h : Hp} {T : Nat → Int32} {t : Nat} {w : Nat → Int32} {o : Out} (P : t ≤ 400 ∧ h 1 1 = nI t ∧ ∀ j, j < t → h 2 j = T j ∧ byteR (T j)) (H : SKs (SV h 65) w) (lc : ∀ h, CST T t w 0 h → ∃ r h', cl2 (fX9_atEnd h) (fun x26 h24 => if x26 = 0 then LX10_readS big h24 14 0 else some (-1, h24)) = some (r, h') ∧ FI cSk h h' ∧ okRC T t o r h') : ∃ r h', fX10_readS h 14 = some (r, h') ∧ FI c1x h h' ∧ okRC T t o r h' ∧ h' 1 1 = 0 := by
  have F1 : FI (fun k j => k = 1 ∧ 1 ≤ j ∧ j ≤ 5) h (up2 (up2 (up2 (up2 (up2 h 1 2 (h 1 1)) 1 1 0) 1 3 0) 1 4 0) 1 5 (-1)) := ((((FI.up2 (C := fun k j => k = 1 ∧ 1 ≤ j ∧ j ≤ 5) h _ (by omega)).trans (FI.up2 _ _ (by omega))).trans (FI.up2 _ _ (by omega))).trans (FI.up2 _ _ (by omega))).trans (FI.up2 _ _ (by omega))
  have e1 : fX9_open h = some (up2 (up2 (up2 (up2 (up2 h 1 2 (h 1 1)) 1 1 0) 1 3 0) 1 4 0) 1 5 (-1)) := rfl
  have r1 : ∀ j, up2 (up2 (up2 (up2 (up2 h 1 2 (h 1 1)) 1 1 0) 1 3 0) 1 4 0) 1 5 (-1) 1 j = upd (upd (upd (upd (upd (h 1) 2 (h 1 1)) 1 0) 3 0) 4 0) 5 (-1) j := fun j => by rw [up2_s, up2_s, up2_s, up2_s, up2_s]
  generalize up2 (up2 (up2 (up2 (up2 h 1 2 (h 1 1)) 1 1 0) 1 3 0) 1 4 0) 1 5 (-1) = h1 at F1 e1 r1
  obtain ⟨r, h2, e2, F2, k2⟩ := lc h1 ⟨⟨P.1, by rw [r1]; exact P.2.1, fun j hj => by rw [F1.cell (k := 2) (fun j q => by omega)]; exact P.2.2 j hj⟩, by rw [r1]; rfl, by rw [r1]; rfl, H.fi F1 (fun k j q => by omega)⟩
  refine ⟨r, h2, ?_, (F1.mono (fun k j q => by unfold c1x; omega)).trans (F2.mono (fun k j q => by unfold cSk at q; unfold c1x; omega)), k2, ?_⟩
  · unfold fX10_readS
    rw [e1, cl9_some]
    exact e2
  · rw [F2 1 1 (fun q => by unfold cSk at q; omega), r1]; rfl

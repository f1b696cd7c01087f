/-! The sky's lines: which word begins one. -/
def CHN (T : Nat → Int32) (t : Nat) (w : Nat → Int32) (s : Nat) (fc : Hp → Option Hp) (fm : Hp → Option (Int32 × Hp)) : Prop := ∃ o : Out, okO t w s o ∧ (∀ x h, x ≤ t → skp T t x = s → CST T t w x h → ∃ h', fc h = some h' ∧ FI cSk h h' ∧ okC T t o h') ∧ (∀ h, MST T t w (wnd T t s) h → h 208 12 = nI s → ∃ r h', fm h = some (r, h') ∧ FI cRk h h' ∧ okM T t o r h')
theorem okO.mono {t : Nat} {w : Nat → Int32} {x y : Nat} {o : Out} (h : okO t w y o) (hxy : x ≤ y) : okO t w x o := by
  cases o with
  | inl f => exact h
  | inr q => exact ⟨Nat.lt_of_le_of_lt hxy h.1, h.2⟩
theorem chn_step {T : Nat → Int32} {t : Nat} {w : Nat → Int32} {s : Nat} (hs : s ≤ t) (hss : skp T t s = s) {fc fc1 fc2 : Hp → Option Hp} {fm fm1 fm2 : Hp → Option (Int32 × Hp)} {wd : List Int32} (hw : okW wd = true) (hc : ∀ h, fc h = cl2 (fX9_takeWord h wd) (fun x h1 => if x = 0 then fc2 h1 else fc1 h1)) (hm : ∀ h, fm h = cl9 (fX12_isWord h wd) (fun x => if x = 0 then fm2 h else fm1 h)) (L1 : LEAF T t w (wnd T t s) s fc1 fm1) (L2 : CHN T t w s fc2 fm2) : CHN T t w s fc fm := by
  cases hW : isW T t wd s with
  | true =>
    obtain ⟨o, ho, lc, lm⟩ := L1
    refine ⟨o, ho.mono (wnd_ge hs), fun x h hx hxs S => ?_, fun h S y12 => ?_⟩
    · obtain ⟨h1, e1, F1, S1, y4⟩ := (word_both (T := T) (w := w) hx hw).1 h S
      rw [hxs] at e1 S1 y4
      rw [hW] at e1 S1
      obtain ⟨h2, e2, F2, r2⟩ := lc h1 S1 (y4 hW)
      exact ⟨h2, by rw [hc, e1, cl2_some, if_neg (show ¬ bI true = 0 by decide)]; exact e2, F1.c134S.trans F2, r2⟩
    · obtain ⟨r, h2, e2, F2, r2⟩ := lm h S y12
      exact ⟨r, h2, by rw [hm, isWord_m S.1 hs S.2.1 y12 hw, hW, cl9_some, if_neg (show ¬ bI true = 0 by decide)]; exact e2, F2, r2⟩
  | false =>
    obtain ⟨o, ho, lc, lm⟩ := L2
    refine ⟨o, ho, fun x h hx hxs S => ?_, fun h S y12 => ?_⟩
    · obtain ⟨h1, e1, F1, S1, -⟩ := (word_both (T := T) (w := w) hx hw).1 h S
      rw [hxs] at e1 S1
      rw [hW] at e1 S1
      obtain ⟨h2, e2, F2, r2⟩ := lc s h1 hs hss S1
      exact ⟨h2, by rw [hc, e1, cl2_some, if_pos (show bI false = 0 from rfl)]; exact e2, F1.c134S.trans F2, r2⟩
    · obtain ⟨r, h2, e2, F2, r2⟩ := lm h S y12
      exact ⟨r, h2, by rw [hm, isWord_m S.1 hs S.2.1 y12 hw, hW, cl9_some, if_pos (show bI false = 0 from rfl)]; exact e2, F2, r2⟩
theorem cl9_id {ρ : Type} (o : Option ρ) : cl9 o (fun x => some x) = o := by cases o <;> rfl
theorem okM.b {T : Nat → Int32} {t : Nat} {o : Out} {r : Int32} {h : Hp} (k : okM T t o r h) : r = 0 ∨ r = 1 := by
  cases o with
  | inl f => exact Or.inl k.1
  | inr q => exact Or.inr k.1
theorem LEAF.c {T : Nat → Int32} {t : Nat} {w : Nat → Int32} {e s : Nat} {fc fc' : Hp → Option Hp} {fm fm' : Hp → Option (Int32 × Hp)} (L : LEAF T t w e s fc fm) (hc : ∀ h, fc' h = cl9 (fc h) (fun x => some x)) (hm : ∀ h r h', fm h = some (r, h') → r = 0 ∨ r = 1 → fm' h = some (r, h')) : LEAF T t w e s fc' fm' := by
  obtain ⟨o, ho, lc, lm⟩ := L
  refine ⟨o, ho, fun h S y => ?_, fun h S y => ?_⟩
  · obtain ⟨h', e', F, k⟩ := lc h S y
    exact ⟨h', by rw [hc, cl9_id]; exact e', F, k⟩
  · obtain ⟨r, h', e', F, k⟩ := lm h S y
    exact ⟨r, h', hm h r h' e' k.b, F, k⟩
theorem LEAF.c2 {T : Nat → Int32} {t : Nat} {w : Nat → Int32} {e s : Nat} {fc : Hp → Option Hp} {fm fm' : Hp → Option (Int32 × Hp)} (L : LEAF T t w e s fc fm) (hm : ∀ h r h', fm h = some (r, h') → r = 0 ∨ r = 1 → fm' h = some (r, h')) : LEAF T t w e s fc fm' := by
  obtain ⟨o, ho, lc, lm⟩ := L
  refine ⟨o, ho, lc, fun h S y => ?_⟩
  obtain ⟨r, h', e', F, k⟩ := lm h S y
  exact ⟨r, h', hm h r h' e' k.b, F, k⟩
theorem CHN.c {T : Nat → Int32} {t : Nat} {w : Nat → Int32} {s : Nat} {fc fc' : Hp → Option Hp} {fm : Hp → Option (Int32 × Hp)} (L : CHN T t w s fc fm) (hc : ∀ h, fc' h = cl9 (fc h) (fun x => some x)) : CHN T t w s fc' fm := by
  obtain ⟨o, ho, lc, lm⟩ := L
  refine ⟨o, ho, fun x h hx hxs S => ?_, lm⟩
  obtain ⟨h', e', F, k⟩ := lc x h hx hxs S
  exact ⟨h', by rw [hc, cl9_id]; exact e', F, k⟩
theorem wrG {fm : Hp → Option (Int32 × Hp)} (h : Hp) (r : Int32) (h' : Hp) (e : fm h = some (r, h')) (k : r = 0 ∨ r = 1) : cl2 (fm h) (fun x h1 => gd (x = 0 ∨ x = 1) (some (x, h1))) = some (r, h') := by
  rw [e, cl2_some, gd_t k]
theorem wrI {fm : Hp → Option (Int32 × Hp)} (h : Hp) (r : Int32) (h' : Hp) (e : fm h = some (r, h')) (k : r = 0 ∨ r = 1) : cl2 (fm h) (fun x h1 => if x = 0 then some (0, h1) else some (1, h1)) = some (r, h') := by
  rw [e, cl2_some]
  rcases k with rfl | rfl
  · rw [if_pos rfl]
  · rw [if_neg (by decide)]
theorem skyLine {T : Nat → Int32} {t : Nat} {w : Nat → Int32} (G : GW w) {s : Nat} (hs : s ≤ t) (hss : skp T t s = s) : CHN T t w s fX8_takeLine fX12_readSkyLine := by
  have he := wnd_le (T := T) hs
  have l4 : ∀ {i j lo hi : Nat}, hi ≤ 999 → lo ≤ 999 → loc i = (0, j) → i < 93 → spc i = false → hi ≤ hiT i → (i < 93 ∧ i ≠ 1 ∧ i ≠ 2 ∧ i ≠ 3 ∧ i ≠ 10 ∧ i ≠ 11 ∧ i ≠ 12) → i ≠ 0 → (i = 4 → 0 < lo) → i < 14 → LEAF T t w (wnd T t s) s (fun h => cl2 (fX9_takeNumber h (nI lo) (nI hi)) (fun x h1 => lt9 (up2 h1 65 j x) (fun h2 => some h2))) (fun h => fX12_readNumber h (nI i) (nI lo) (nI hi)) := fun a b c d e f g h k l => leaf_num G he a b c d e f g h k l
  refine chn_step hs hss (wd := sw28) (by decide) (fun h => rfl) (fun h => rfl) ((leaf_pin G he).c (fun h => rfl) (wrG (fm := fX12_readPin))) ?_
  refine chn_step hs hss (wd := sw30) (by decide) (fun h => rfl) (fun h => rfl) ((leaf_at G he (hi := 9) (b := 14) (c := 1) (by decide) (fun p hp => loc_g hp) (by decide) (fun p hp => spc_n (by omega)) (fun p hp => by rw [hiT_g hp]; exact Nat.le_refl _) (by decide)).c (fun h => rfl) (wrG (fm := fun h => fX12_readAt h 14 9))) ?_
  refine chn_step hs hss (wd := sw31) (by decide) (fun h => rfl) (fun h => rfl) ((leaf_at G he (hi := 20) (b := 30) (c := 2) (by decide) (fun p hp => loc_d hp) (by decide) (fun p hp => spc_n (by omega)) (fun p hp => by rw [hiT_d hp]; exact Nat.le_refl _) (by decide)).c (fun h => rfl) (wrG (fm := fun h => fX12_readAt h 30 20))) ?_
  refine chn_step hs hss (wd := sw32) (by decide) (fun h => rfl) (fun h => rfl) ((leaf_at G he (hi := 9) (b := 46) (c := 3) (by decide) (fun p hp => loc_t hp) (by decide) (fun p hp => spc_n (by omega)) (fun p hp => by rw [hiT_t hp]; exact Nat.le_refl _) (by decide)).c (fun h => rfl) (wrG (fm := fun h => fX12_readAt h 46 9))) ?_
  refine chn_step hs hss (wd := sw33) (by decide) (fun h => rfl) (fun h => rfl) ((leaf_bare G he).c (fun h => rfl) (wrG (fm := fX12_readBare))) ?_
  refine chn_step hs hss (wd := sw34) (by decide) (fun h => rfl) (fun h => rfl) ((leaf_pinner G he hs).c (fun h => rfl) (wrG (fm := fX12_readPinner))) ?_
  refine CHN.c (fc := fX8_takeSkyValue) ?_ (fun h => rfl)
  refine chn_step hs hss (wd := sw37) (by decide) (fun h => rfl) (fun h => rfl) ((l4 (i := 4) (j := 8) (lo := 1) (hi := 40) (by decide) (by decide) rfl (by decide) rfl (by decide) (by decide) (by decide) (by decide) (by decide)).c2 (wrG (fm := fun h => fX12_readNumber h 4 1 40))) ?_
  refine chn_step hs hss (wd := sw38) (by decide) (fun h => rfl) (fun h => rfl) ((l4 (i := 5) (j := 9) (lo := 0) (hi := 9) (by decide) (by decide) rfl (by decide) rfl (by decide) (by decide) (by decide) (by decide) (by decide)).c2 (wrG (fm := fun h => fX12_readNumber h 5 0 9))) ?_
  refine chn_step hs hss (wd := sw39) (by decide) (fun h => rfl) (fun h => rfl) ((l4 (i := 8) (j := 10) (lo := 0) (hi := 100) (by decide) (by decide) rfl (by decide) rfl (by decide) (by decide) (by decide) (by decide) (by decide)).c2 (wrG (fm := fun h => fX12_readNumber h 8 0 100))) ?_
  refine chn_step hs hss (wd := sw40) (by decide) (fun h => rfl) (fun h => rfl) ((l4 (i := 9) (j := 11) (lo := 0) (hi := 100) (by decide) (by decide) rfl (by decide) rfl (by decide) (by decide) (by decide) (by decide) (by decide)).c2 (wrG (fm := fun h => fX12_readNumber h 9 0 100))) ?_
  refine chn_step hs hss (wd := sw41) (by decide) (fun h => rfl) (fun h => rfl) ((l4 (i := 6) (j := 12) (lo := 0) (hi := 999) (by decide) (by decide) rfl (by decide) rfl (by decide) (by decide) (by decide) (by decide) (by decide)).c2 (wrI (fm := fun h => fX12_readNumber h 6 0 999))) ?_
  refine ⟨.inl s, hs, fun x h hx hxs S => ?_, fun h S y12 => ⟨0, h, rfl, FI.refl _ _, rfl, y12⟩⟩
  obtain ⟨h', e', F, y3, y5⟩ := failNext_x S.1 hx S.2.1 S.2.2.1
  rw [hxs] at y3 y5
  exact ⟨h', by dsimp only; rw [e']; rfl, F.c1345S, S.1.cSf F.c1345S, ⟨_, hs, y3⟩, hs, y5⟩

/-! The sky's lines: pinner. -/
/-- a number behind a word -/
theorem FI.c5 {h h' : Hp} (F : FI c134 h h') : FI c1345 h h' := F.mono (fun k j q => by unfold c134 at q; unfold c1345; omega)
theorem behind_both {T : Nat → Int32} {t : Nat} {w : Nat → Int32} {x : Nat} (hx : x ≤ t) {wd : List Int32} (hw : okW wd = true) (lo hi : Nat) (hhi : hi ≤ 999) (hlo : lo ≤ 999) :
    (∃ v x', lo ≤ v ∧ v ≤ hi ∧ x < x' ∧ x' ≤ t ∧ (∀ h, CST T t w x h → ∃ h', fX9_takeNumberBehind h wd (nI lo) (nI hi) = some (nI v, h') ∧ FI c1345 h h' ∧ CST T t w x' h') ∧ (∀ h, MST T t w x h → ∃ h', fX12_after h wd (nI lo) (nI hi) = some (nI v, h') ∧ FI c1012 h h' ∧ MST T t w x' h')) ∨
    (∃ f, f ≤ t ∧ (∀ h, CST T t w x h → ∃ h', fX9_takeNumberBehind h wd (nI lo) (nI hi) = some (-1, h') ∧ FI c1345 h h' ∧ FLD T t f h') ∧ (∀ h, MST T t w x h → ∃ h', fX12_after h wd (nI lo) (nI hi) = some (-1, h') ∧ FI c1012 h h' ∧ h' 208 12 = nI f ∧ h' 209 = w)) := by
  obtain ⟨wc, -⟩ := word_both (T := T) (w := w) hx hw
  have hs := skp_le (T := T) hx
  have hg := skp_ge (T := T) hx
  have hwl := wnd_le (T := T) hs
  have hwg := wnd_ge (T := T) hs
  have lm : ∀ h, MST T t w x h → ∃ h1, fX12_letters h = some h1 ∧ FI c1012 h h1 ∧ MST T t w (wnd T t (skp T t x)) h1 ∧ h1 208 12 = nI (skp T t x) ∧ fX12_isWord h1 wd = some (bI (isW T t wd (skp T t x))) := fun h S => by
    obtain ⟨h1, e1, F1, y10, y12⟩ := letters_m S.1 hx S.2.1
    have S1 := S.1.cRf F1.c1012R
    exact ⟨h1, e1, F1, ⟨S1, y10, by rw [F1.cell (k := 209) (fun j q => by unfold c1012 at q; omega)]; exact S.2.2⟩, y12, isWord_m S1 hs y10 y12 hw⟩
  cases hW : isW T t wd (skp T t x) with
  | false =>
    right
    refine ⟨skp T t x, hs, fun h S => ?_, fun h S => ?_⟩
    · obtain ⟨h1, e1, F1, S1, -⟩ := wc h S
      rw [hW] at e1 S1
      have S1' : CST T t w (skp T t x) h1 := S1
      obtain ⟨h2, e2, F2, y3, y5⟩ := failNext_x S1'.1 hs S1'.2.1 S1'.2.2.1
      rw [skp_id hx] at y3 y5
      refine ⟨h2, ?_, F1.c5.trans F2, S1'.1.cSf F2.c1345S, ⟨_, hs, y3⟩, hs, y5⟩
      unfold fX9_takeNumberBehind
      rw [e1, cl2_some, if_pos (show bI false = 0 from rfl), e2, cl9_some]
    · obtain ⟨h1, e1, F1, S1, y12, eW⟩ := lm h S
      rw [hW] at eW
      refine ⟨h1, ?_, F1, y12, S1.2.2⟩
      unfold fX12_after
      rw [e1, cl9_some, eW, cl9_some, if_pos (show bI false = 0 from rfl)]
  | true =>
    have cW : ∀ h, CST T t w x h → ∃ h1, fX9_takeWord h wd = some (1, h1) ∧ FI c1345 h h1 ∧ CST T t w (wnd T t (skp T t x)) h1 := fun h S => by
      obtain ⟨h1, e1, F1, S1, -⟩ := wc h S
      rw [hW] at e1 S1
      exact ⟨h1, e1, F1.c5, S1⟩
    have hlt : skp T t x < wnd T t (skp T t x) ∨ x ≤ wnd T t (skp T t x) := by omega
    rcases num_both (T := T) (w := w) hwl lo hi hhi hlo with ⟨k', b1, b2, b3, b4, bc, bm⟩ | ⟨k', b1, bc, bm⟩
    · left
      refine ⟨_, _, b3, b4, by omega, b2, fun h S => ?_, fun h S => ?_⟩
      · obtain ⟨h1, e1, F1, S1⟩ := cW h S
        obtain ⟨h2, e2, F2, S2, -⟩ := bc h1 S1
        refine ⟨h2, ?_, F1.trans F2, S2⟩
        unfold fX9_takeNumberBehind
        rw [e1, cl2_some, if_neg (by decide), e2, cl2_some]
      · obtain ⟨h1, e1, F1, S1, y12, eW⟩ := lm h S
        rw [hW] at eW
        obtain ⟨h2, e2, F2, S2, -⟩ := bm h1 S1
        refine ⟨h2, ?_, F1.trans F2, S2⟩
        unfold fX12_after
        rw [e1, cl9_some, eW, cl9_some, if_neg (show ¬ bI true = 0 by decide), e2, cl2_some]
    · right
      refine ⟨_, b1, fun h S => ?_, fun h S => ?_⟩
      · obtain ⟨h1, e1, F1, S1⟩ := cW h S
        obtain ⟨h2, e2, F2, L2⟩ := bc h1 S1
        refine ⟨h2, ?_, F1.trans F2, L2⟩
        unfold fX9_takeNumberBehind
        rw [e1, cl2_some, if_neg (by decide), e2, cl2_some]
      · obtain ⟨h1, e1, F1, S1, y12, eW⟩ := lm h S
        rw [hW] at eW
        obtain ⟨h2, e2, F2, y12', y9⟩ := bm h1 S1
        refine ⟨h2, ?_, F1.trans F2, y12', y9⟩
        unfold fX12_after
        rw [e1, cl9_some, eW, cl9_some, if_neg (show ¬ bI true = 0 by decide), e2, cl2_some]
def addW (w : Nat → Int32) (n a q b : Nat) : Nat → Int32 := upd (upd (upd (upd w (78 + 3 * n) (nI a)) (79 + 3 * n) (nI q)) (80 + 3 * n) (nI b)) 0 (nI (n + 1))
theorem GW.addW {w : Nat → Int32} (G : GW w) {n a q b : Nat} (hn : n < 5) (en : w 0 = nI n) (ha : a ≤ 15) (hq : 1 ≤ q) (hq2 : q ≤ 9) (hb : b ≤ 30) : GW (addW w n a q b) := by
  have up : ∀ i, i ≠ 0 → i ≠ 78 + 3 * n → i ≠ 79 + 3 * n → i ≠ 80 + 3 * n → Jvm.Pilot.CPinnedSkyLaw_law_r9688_3432f8.addW w n a q b i = w i := fun i h0 h1 h2 h3 => by
    unfold Jvm.Pilot.CPinnedSkyLaw_law_r9688_3432f8.addW
    rw [upd_n _ _ h0, upd_n _ _ h3, upd_n _ _ h2, upd_n _ _ h1]
  have u0 : Jvm.Pilot.CPinnedSkyLaw_law_r9688_3432f8.addW w n a q b 0 = nI (n + 1) := upd_s _ _ _
  have u1 : Jvm.Pilot.CPinnedSkyLaw_law_r9688_3432f8.addW w n a q b (78 + 3 * n) = nI a := by
    unfold Jvm.Pilot.CPinnedSkyLaw_law_r9688_3432f8.addW
    rw [upd_n _ _ (by omega), upd_n _ _ (by omega), upd_n _ _ (by omega), upd_s]
  have u2 : Jvm.Pilot.CPinnedSkyLaw_law_r9688_3432f8.addW w n a q b (79 + 3 * n) = nI q := by
    unfold Jvm.Pilot.CPinnedSkyLaw_law_r9688_3432f8.addW
    rw [upd_n _ _ (by omega), upd_n _ _ (by omega), upd_s]
  have u3 : Jvm.Pilot.CPinnedSkyLaw_law_r9688_3432f8.addW w n a q b (80 + 3 * n) = nI b := by
    unfold Jvm.Pilot.CPinnedSkyLaw_law_r9688_3432f8.addW
    rw [upd_n _ _ (by omega), upd_s]
  obtain ⟨g1, g2, g3, g4, g5, g6⟩ := G
  refine ⟨fun i hi hs => ?_, ?_, ?_, fun p hp h => ?_, fun k hk h => ?_, ?_⟩
  · by_cases c0 : i = 0
    · subst c0; exact ⟨n + 1, by have : hiT 0 = 5 := rfl; omega, u0⟩
    · by_cases c1 : i = 78 + 3 * n
      · subst c1; exact ⟨a, by rw [hiT_at hn]; exact ha, u1⟩
      · by_cases c2 : i = 79 + 3 * n
        · subst c2; exact ⟨q, by rw [hiT_pa hn]; exact hq2, u2⟩
        · by_cases c3 : i = 80 + 3 * n
          · subst c3; exact ⟨b, by rw [hiT_br hn]; exact hb, u3⟩
          · rw [up i c0 c1 c2 c3]; exact g1 i hi hs
  · rw [up 7 (by omega) (by omega) (by omega) (by omega)]; exact g2
  · rw [up 13 (by omega) (by omega) (by omega) (by omega)]; exact g3
  · rw [up 7 (by omega) (by omega) (by omega) (by omega)] at h
    rw [up _ (by omega) (by omega) (by omega) (by omega)]; exact g4 p hp h
  · rw [u0] at h
    have hkn : k < n + 1 := (nI_ltI (by omega) (by omega)).mp h
    by_cases c : k = n
    · subst c; rw [u2]; exact nI_ne0 (by omega) (by omega)
    · rw [up _ (by omega) (by omega) (by omega) (by omega)]
      exact g5 k hk (by rw [en]; exact nI_lt (by omega) (by omega))
  · rw [up 4 (by omega) (by omega) (by omega) (by omega)]; exact g6
theorem add_up {h : Hp} {n : Nat} (hn : n < 5) (e : h 70 0 = nI n) (a q b : Int32) : fX0_add h 65 a q b = some (up2 (up2 (up2 (up2 h 71 n a) 72 n q) 73 n b) 70 0 (nI (n + 1))) := by
  unfold fX0_add
  have e' : h (65 + 5) 0 = nI n := e
  rw [e', if_neg (show ¬ (5 : Int32) ≤ nI n from le_n 5 rfl hn (by decide)), gd_in hn (by decide), lt9_e, up2_n _ _ _ (by decide), e', gd_in hn (by decide), lt9_e, up2_n _ _ _ (by decide), up2_n _ _ _ (by decide), e', gd_in hn (by decide), lt9_e, lt9_e, up2_n _ _ _ (by decide), up2_n _ _ _ (by decide), up2_n _ _ _ (by decide), e', nI_1, nI_clamp (by omega)]

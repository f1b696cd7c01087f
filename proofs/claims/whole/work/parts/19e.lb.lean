/-! The law's text: states while its conditions are read, and steps of both sides. -/
def cLk (k j : Nat) : Prop := (k = 1 ∧ (j = 3 ∨ j = 4 ∨ j = 5)) ∨ (k = 13 ∧ j = 5) ∨ k = 17
def cRl (k j : Nat) : Prop := (k = 208 ∧ (j = 10 ∨ j = 12 ∨ j = 13 ∨ j = 16)) ∨ (k = 209 ∧ 1231 ≤ j)
def CLS (T : Nat → Int32) (t x : Nat) (L : List Int32) (h : Hp) : Prop := PCS T t h ∧ h 1 3 = nI x ∧ h 1 5 = -1 ∧ h 13 5 = nI L.length ∧ ∀ i, i < L.length → h 17 i = L.getD i 0
def RLS (T : Nat → Int32) (t d x : Nat) (R : List (Int32 × Int32)) (h : Hp) : Prop := PMS T t h ∧ h 208 10 = nI x ∧ h 208 13 = nI d ∧ h 208 16 = nI R.length ∧ ∀ i, i < R.length → h 209 (1231 + 2 * i) = (R.getD i (0, 0)).1 ∧ h 209 (1231 + 2 * i + 1) = (R.getD i (0, 0)).2
def FLL (T : Nat → Int32) (t f : Nat) (h : Hp) : Prop := FLD T t f h ∧ ∃ m, m ≤ 400 ∧ h 13 5 = nI m
theorem FI.c1345L {h h' : Hp} (F : FI c1345 h h') : FI cLk h h' := F.mono (fun k j q => by unfold c1345 at q; unfold cLk; omega)
theorem FI.c134L {h h' : Hp} (F : FI c134 h h') : FI c1345 h h' := F.mono (fun k j q => by unfold c134 at q; unfold c1345; omega)
theorem FI.c13L {h h' : Hp} (F : FI c13 h h') : FI cLk h h' := F.mono (fun k j q => by unfold cLk; omega)
theorem FI.c1012L {h h' : Hp} (F : FI c1012 h h') : FI cRl h h' := F.mono (fun k j q => by unfold c1012 at q; unfold cRl; omega)
theorem CLS.tp {T : Nat → Int32} {t x y : Nat} {L : List Int32} {h h' : Hp} (S : CLS T t x L h) (F : FI c1345 h h') (e3 : h' 1 3 = nI y) (e5 : h' 1 5 = -1) : CLS T t y L h' :=
  ⟨S.1.fi F (fun k j q => by unfold c1345 at q; omega), e3, e5, by rw [F 13 5 (by unfold c1345; omega)]; exact S.2.2.2.1, fun i hi => by rw [F 17 i (by unfold c1345; omega)]; exact S.2.2.2.2 i hi⟩
theorem CLS.fl {T : Nat → Int32} {t x y f : Nat} {L : List Int32} {h h' : Hp} (S : CLS T t x L h) (hl : L.length ≤ 400) (F : FI c1345 h h') (hy : y ≤ t) (e3 : h' 1 3 = nI y) (hf : f ≤ t) (e5 : h' 1 5 = nI f) : FLL T t f h' :=
  ⟨⟨S.1.fi F (fun k j q => by unfold c1345 at q; omega), ⟨y, hy, e3⟩, hf, e5⟩, L.length, hl, by rw [F 13 5 (by unfold c1345; omega)]; exact S.2.2.2.1⟩
theorem RLS.tp {T : Nat → Int32} {t d x y : Nat} {R : List (Int32 × Int32)} {h h' : Hp} (S : RLS T t d x R h) (F : FI c1012 h h') (e : h' 208 10 = nI y) : RLS T t d y R h' :=
  ⟨S.1.fi F (fun k j q => by unfold c1012 at q; omega), e, by rw [F 208 13 (by unfold c1012; omega)]; exact S.2.2.1, by rw [F 208 16 (by unfold c1012; omega)]; exact S.2.2.2.1, fun i hi => by rw [F 209 _ (by unfold c1012; omega), F 209 _ (by unfold c1012; omega)]; exact S.2.2.2.2 i hi⟩
theorem FLL.tp {T : Nat → Int32} {t f : Nat} {h h' : Hp} (L : FLL T t f h) (F : FI c13 h h') (D : FLD T t f h') : FLL T t f h' := ⟨D, by
  obtain ⟨m, hm, e⟩ := L.2
  exact ⟨m, hm, by rw [F 13 5 (by omega)]; exact e⟩⟩
theorem gd_app {α : Type} (L : List α) (v d : α) {i : Nat} (h : i < L.length) : (L ++ [v]).getD i d = L.getD i d := by rw [List.getD_eq_getElem?_getD, List.getElem?_append_left h, ← List.getD_eq_getElem?_getD]
theorem gd_last {α : Type} (L : List α) (v d : α) : (L ++ [v]).getD L.length d = v := by rw [List.getD_eq_getElem?_getD, List.getElem?_append_right (Nat.le_refl _), Nat.sub_self]; rfl
theorem len1 {α : Type} (L : List α) (v : α) : (L ++ [v]).length = L.length + 1 := List.length_append
/-! single steps -/
theorem tw_n {T : Nat → Int32} {t x s : Nat} {L : List Int32} {h : Hp} (S : CLS T t x L h) (hx : x ≤ t) (hs : skp T t x = s) {w : List Int32} (hw : okW w = true) (hW : isW T t w s = false) : ∃ h1, fX9_takeWord h w = some (0, h1) ∧ FI cLk h h1 ∧ CLS T t s L h1 := by
  subst hs
  obtain ⟨h1, e1, F1, -, y⟩ := takeWord_x S.1 hx S.2.1 S.2.2.1 hw
  rw [hW] at e1
  exact ⟨h1, e1, F1.c134L.c1345L, S.tp F1.c134L (y hW) (by rw [F1 1 5 (by unfold c134; omega)]; exact S.2.2.1)⟩
theorem tw_y {T : Nat → Int32} {t x s : Nat} {L : List Int32} {h : Hp} (S : CLS T t x L h) (hx : x ≤ t) (hs : skp T t x = s) {w : List Int32} (hw : okW w = true) (hW : isW T t w s = true) : ∃ h1, fX9_takeWord h w = some (1, h1) ∧ FI cLk h h1 ∧ CLS T t (wnd T t s) L h1 ∧ h1 1 4 = nI s := by
  subst hs
  obtain ⟨h1, e1, F1, y, -⟩ := takeWord_x S.1 hx S.2.1 S.2.2.1 hw
  rw [hW] at e1
  exact ⟨h1, e1, F1.c134L.c1345L, S.tp F1.c134L (y hW).1 (by rw [F1 1 5 (by unfold c134; omega)]; exact S.2.2.1), (y hW).2⟩
theorem ts_n {T : Nat → Int32} {t x s : Nat} {L : List Int32} {h : Hp} (S : CLS T t x L h) (hx : x ≤ t) (hs : skp T t x = s) {c : Nat} (hc : c < 128) {c' : Int32} (ec : c' = nI c) (hW : isS T t c s = false) : ∃ h1, fX9_takeSign h c' = some (0, h1) ∧ FI cLk h h1 ∧ CLS T t s L h1 := by
  subst hs ec
  obtain ⟨h1, e1, F1, -, y⟩ := takeSign_x S.1 hx S.2.1 S.2.2.1 hc
  rw [hW] at e1
  exact ⟨h1, e1, F1.c134L.c1345L, S.tp F1.c134L (y hW) (by rw [F1 1 5 (by unfold c134; omega)]; exact S.2.2.1)⟩
theorem ts_y {T : Nat → Int32} {t x s : Nat} {L : List Int32} {h : Hp} (S : CLS T t x L h) (hx : x ≤ t) (hs : skp T t x = s) {c : Nat} (hc : c < 128) {c' : Int32} (ec : c' = nI c) (hW : isS T t c s = true) : ∃ h1, fX9_takeSign h c' = some (1, h1) ∧ FI cLk h h1 ∧ CLS T t (s + 1) L h1 ∧ h1 1 4 = nI s := by
  subst hs ec
  obtain ⟨h1, e1, F1, y, -⟩ := takeSign_x S.1 hx S.2.1 S.2.2.1 hc
  rw [hW] at e1
  exact ⟨h1, e1, F1.c134L.c1345L, S.tp F1.c134L (y hW).1 (by rw [F1 1 5 (by unfold c134; omega)]; exact S.2.2.1), (y hW).2⟩
theorem put_c {T : Nat → Int32} {t x : Nat} {L : List Int32} {h : Hp} (S : CLS T t x L h) (hl : L.length < 400) (v : Int32) : ∃ h1, fX2_put h 13 v = some h1 ∧ FI cLk h h1 ∧ CLS T t x (L ++ [v]) h1 := by
  obtain ⟨P, e3, e5, eL, el⟩ := S
  have F : FI cLk h (up2 (up2 h 17 L.length v) 13 5 (nI (L.length + 1))) := (FI.up2 _ _ (by unfold cLk; omega)).trans (FI.up2 _ _ (by unfold cLk; omega))
  refine ⟨up2 (up2 h 17 L.length v) 13 5 (nI (L.length + 1)), ?_, F, P.fi (F.mono (D := fun k j => k = 13 ∨ k = 17 ∨ (k = 1 ∧ j ≠ 2)) (fun k j q => by unfold cLk at q; omega)) (fun k j q => by omega), ?_, ?_, ?_, fun i hi => ?_⟩
  · unfold fX2_put
    rw [eL, if_neg (show ¬ (400 : Int32) ≤ nI L.length from le_n 400 rfl hl (by decide)), gd_in hl (by decide), nI_clamp (by omega), lt9_e, lt9_e, up2_n _ _ _ (by decide), eL, nI_1]
  · rw [up2_n _ _ _ (by decide), up2_n _ _ _ (by decide)]; exact e3
  · rw [up2_n _ _ _ (by decide), up2_n _ _ _ (by decide)]; exact e5
  · rw [up2_s, upd_s, len1]
  · rw [len1] at hi
    rw [up2_n _ _ _ (by decide), up2_s]
    by_cases c : i = L.length
    · rw [c, upd_s, gd_last]
    · rw [upd_n _ _ c, gd_app _ _ _ (by omega)]; exact el i (by omega)
theorem ps_n {T : Nat → Int32} {t d x s : Nat} {R : List (Int32 × Int32)} {h : Hp} (S : RLS T t d x R h) (hx : x ≤ t) (hs : skp T t x = s) {w : List Int32} (hw : okW w = true) (hW : isW T t w s = false) : ∃ h1, fX12_passes h w = some (0, h1) ∧ FI cRl h h1 ∧ RLS T t d s R h1 ∧ h1 208 12 = nI s := by
  subst hs
  obtain ⟨h1, e1, F1, y12, y10⟩ := passes_m S.1 hx S.2.1 hw
  rw [hW] at e1 y10
  exact ⟨h1, e1, F1.c1012L, S.tp F1 y10, y12⟩
theorem ps_y {T : Nat → Int32} {t d x s : Nat} {R : List (Int32 × Int32)} {h : Hp} (S : RLS T t d x R h) (hx : x ≤ t) (hs : skp T t x = s) {w : List Int32} (hw : okW w = true) (hW : isW T t w s = true) : ∃ h1, fX12_passes h w = some (1, h1) ∧ FI cRl h h1 ∧ RLS T t d (wnd T t s) R h1 ∧ h1 208 12 = nI s := by
  subst hs
  obtain ⟨h1, e1, F1, y12, y10⟩ := passes_m S.1 hx S.2.1 hw
  rw [hW] at e1 y10
  exact ⟨h1, e1, F1.c1012L, S.tp F1 y10, y12⟩
theorem sg_n {T : Nat → Int32} {t d x s : Nat} {R : List (Int32 × Int32)} {h : Hp} (S : RLS T t d x R h) (hx : x ≤ t) (hs : skp T t x = s) {c : Nat} {c' : Int32} (ec : c' = nI c) (hW : isS T t c s = false) : ∃ h1, fX12_sign h c' = some (0, h1) ∧ FI cRl h h1 ∧ RLS T t d s R h1 ∧ h1 208 12 = nI s := by
  subst hs ec
  obtain ⟨h1, e1, F1, y12, y10⟩ := sign_m S.1 hx S.2.1 c
  rw [hW] at e1 y10
  exact ⟨h1, e1, F1.c1012L, S.tp F1 y10, y12⟩
theorem sg_y {T : Nat → Int32} {t d x s : Nat} {R : List (Int32 × Int32)} {h : Hp} (S : RLS T t d x R h) (hx : x ≤ t) (hs : skp T t x = s) {c : Nat} {c' : Int32} (ec : c' = nI c) (hW : isS T t c s = true) : ∃ h1, fX12_sign h c' = some (1, h1) ∧ FI cRl h h1 ∧ RLS T t d (s + 1) R h1 ∧ h1 208 12 = nI s := by
  subst hs ec
  obtain ⟨h1, e1, F1, y12, y10⟩ := sign_m S.1 hx S.2.1 c
  rw [hW] at e1 y10
  exact ⟨h1, e1, F1.c1012L, S.tp F1 y10, y12⟩
theorem em_m {T : Nat → Int32} {t d x : Nat} {R : List (Int32 × Int32)} {h : Hp} (S : RLS T t d x R h) (hl : R.length < 400) (a b : Int32) : ∃ h1, fX12_emits h a b = some h1 ∧ FI cRl h h1 ∧ RLS T t d x (R ++ [(a, b)]) h1 ∧ h1 208 12 = h 208 12 := by
  obtain ⟨P, e10, e13, e16, eR⟩ := S
  have q0 : (1231 : Int32) + (2 : Int32) * nI R.length = nI (1231 + 2 * R.length) := by rw [i_1231, i_2, nI_mul, nI_add]
  have F : FI cRl h (up2 (up2 (up2 h 209 (1231 + 2 * R.length) a) 209 (1231 + 2 * R.length + 1) b) 208 16 (nI (R.length + 1))) := ((FI.up2 _ _ (by unfold cRl; omega)).trans (FI.up2 _ _ (by unfold cRl; omega))).trans (FI.up2 _ _ (by unfold cRl; omega))
  refine ⟨up2 (up2 (up2 h 209 (1231 + 2 * R.length) a) 209 (1231 + 2 * R.length + 1) b) 208 16 (nI (R.length + 1)), ?_, F, ⟨P.fi F (fun k j q => by unfold cRl at q; omega), ?_, ?_, ?_, fun i hi => ?_⟩, ?_⟩
  · unfold fX12_emits
    rw [e16, q0, gd_in (show 1231 + 2 * R.length < 2031 by omega) (by decide), nI_clamp (by omega), lt9_e, up2_n _ _ _ (by decide), e16, q0, nI_1, gd_in (show 1231 + 2 * R.length + 1 < 2031 by omega) (by decide), nI_clamp (by omega), lt9_e, lt9_e, up2_n _ _ _ (by decide), up2_n _ _ _ (by decide), e16, nI_1]
  · rw [up2_s, upd_n _ _ (by decide), up2_n _ _ _ (by decide), up2_n _ _ _ (by decide)]; exact e10
  · rw [up2_s, upd_n _ _ (by decide), up2_n _ _ _ (by decide), up2_n _ _ _ (by decide)]; exact e13
  · rw [up2_s, upd_s, len1]
  · rw [len1] at hi
    rw [up2_n _ _ _ (by decide), up2_s, up2_s]
    by_cases c : i = R.length
    · subst c
      rw [gd_last, upd_n _ _ (show 1231 + 2 * R.length ≠ 1231 + 2 * R.length + 1 by omega), upd_s, upd_s]
      exact ⟨rfl, rfl⟩
    · rw [gd_app _ _ _ (by omega), upd_n _ _ (by omega), upd_n _ _ (by omega), upd_n _ _ (by omega), upd_n _ _ (by omega)]
      exact eR i (by omega)
  · rw [up2_s, upd_n _ _ (by decide), up2_n _ _ _ (by decide), up2_n _ _ _ (by decide)]

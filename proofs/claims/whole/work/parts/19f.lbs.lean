/-! The law's text: an outcome that both sides follow. -/
def FF (T : Nat → Int32) (t : Nat) (fc : Hp → Option Hp) : Prop := ∀ f h, FLL T t f h → ∃ h', fc h = some h' ∧ FI cLk h h' ∧ FLL T t f h'
theorem FF.id {T : Nat → Int32} {t : Nat} : FF T t (fun h => some h) := fun _ h L => ⟨h, rfl, FI.refl _ _, L⟩
theorem FF.seq {T : Nat → Int32} {t : Nat} {f1 f2 : Hp → Option Hp} (a : FF T t f1) (b : FF T t f2) : FF T t (fun h => cl9 (f1 h) (fun h1 => f2 h1)) := fun f h L => by
  obtain ⟨h1, e1, F1, L1⟩ := a f h L
  obtain ⟨h2, e2, F2, L2⟩ := b f h1 L1
  exact ⟨h2, by dsimp only; rw [e1, cl9_some]; exact e2, F1.trans F2, L2⟩
theorem FF.word {T : Nat → Int32} {t : Nat} {f1 f2 : Hp → Option Hp} {w : List Int32} (b : FF T t f2) : FF T t (fun h => cl2 (fX9_takeWord h w) (fun r h1 => if r = (0 : Int32) then f2 h1 else f1 h1)) := fun f h L => by
  obtain ⟨h1, e1, F1, L1⟩ := takeWord_f L.1 w
  obtain ⟨h2, e2, F2, L2⟩ := b f h1 (L.tp F1 L1)
  exact ⟨h2, by dsimp only; rw [e1, cl2_some, if_pos rfl]; exact e2, F1.c13L.trans F2, L2⟩
theorem FF.sign {T : Nat → Int32} {t : Nat} {f1 f2 : Hp → Option Hp} {c : Int32} (b : FF T t f2) : FF T t (fun h => cl2 (fX9_takeSign h c) (fun r h1 => if r = (0 : Int32) then f2 h1 else f1 h1)) := fun f h L => by
  obtain ⟨h1, e1, F1, L1⟩ := takeSign_f L.1 c
  obtain ⟨h2, e2, F2, L2⟩ := b f h1 (L.tp F1 L1)
  exact ⟨h2, by dsimp only; rw [e1, cl2_some, if_pos rfl]; exact e2, F1.c13L.trans F2, L2⟩
theorem FF.num {T : Nat → Int32} {t : Nat} {K : Int32 → Hp → Option Hp} {lo hi : Int32} (b : FF T t (K (-1))) : FF T t (fun h => cl2 (fX9_takeNumber h lo hi) (fun r h1 => K r h1)) := fun f h L => by
  obtain ⟨h1, e1, F1, L1⟩ := takeNumber_f L.1 lo hi
  obtain ⟨h2, e2, F2, L2⟩ := b f h1 (L.tp F1 L1)
  exact ⟨h2, by dsimp only; rw [e1, cl2_some]; exact e2, F1.c13L.trans F2, L2⟩
theorem FF.dig {T : Nat → Int32} {t : Nat} {f1 f2 : Hp → Option Hp} (a : FF T t f1) (b : FF T t f2) : FF T t (fun h => cl2 (fX9_atDigit h) (fun r h1 => if r = (0 : Int32) then f2 h1 else f1 h1)) := fun f h L => by
  obtain ⟨q, h1, e1, F1, L1⟩ := atDigit_f L.1
  cases q with
  | true =>
    obtain ⟨h2, e2, F2, L2⟩ := a f h1 (L.tp F1 L1)
    exact ⟨h2, by dsimp only; rw [e1, cl2_some, if_neg (show ¬ bI true = 0 by decide)]; exact e2, F1.c13L.trans F2, L2⟩
  | false =>
    obtain ⟨h2, e2, F2, L2⟩ := b f h1 (L.tp F1 L1)
    exact ⟨h2, by dsimp only; rw [e1, cl2_some, if_pos (show bI false = 0 from rfl)]; exact e2, F1.c13L.trans F2, L2⟩
theorem FF.next {T : Nat → Int32} {t : Nat} : FF T t (fun h => fX9_failNext h) := fun f h L => by
  obtain ⟨h1, e1, F1, L1⟩ := failNext_f L.1
  exact ⟨h1, e1, F1.c13L, L.tp F1 L1⟩
theorem FF.put {T : Nat → Int32} {t : Nat} (v : Int32) : FF T t (fun h => fX2_put h 13 v) := fun f h L => by
  obtain ⟨D, m, hm, e⟩ := L
  dsimp only
  unfold fX2_put
  rw [e]
  by_cases c : m = 400
  · rw [if_pos (show (400 : Int32) ≤ nI m from le_p 400 rfl (by omega) (by omega))]
    exact ⟨h, rfl, FI.refl _ _, D, m, hm, e⟩
  · rw [if_neg (show ¬ (400 : Int32) ≤ nI m from le_n 400 rfl (by omega) (by decide)), gd_in (show m < 400 by omega) (by decide), nI_clamp (by omega), lt9_e, lt9_e]
    have F : FI (fun k j => k = 13 ∧ j = 5 ∨ k = 17) h (up2 (up2 h 17 m v) 13 5 (nI (m + 1))) := (FI.up2 _ _ (by omega)).trans (FI.up2 _ _ (by omega))
    refine ⟨up2 (up2 h 17 m v) 13 5 (nI (m + 1)), by rw [up2_n _ _ _ (by decide), e, nI_1], F.mono (fun k j q => by unfold cLk; omega), D.fi F (fun k j q => by omega), m + 1, by omega, by rw [up2_s, upd_s]⟩
theorem FF.ite {T : Nat → Int32} {t : Nat} {f1 f2 : Hp → Option Hp} {p : Prop} [Decidable p] (a : FF T t f1) (b : FF T t f2) : FF T t (fun h => if p then f1 h else f2 h) := fun f h L => by
  by_cases c : p
  · dsimp only; rw [if_pos c]; exact a f h L
  · dsimp only; rw [if_neg c]; exact b f h L
/-! outcomes -/
abbrev LOut : Type := Nat ⊕ (Nat × List Int32 × List (Int32 × Int32))
def okLO (Pr : List Int32 → List (Int32 × Int32) → Prop) (t x a a1 b b1 : Nat) (o : LOut) : Prop := match o with
  | .inl f => f ≤ t
  | .inr (y, cl, rl) => x ≤ y ∧ y ≤ t ∧ cl.length + x + a1 ≤ y + a ∧ rl.length + x + b1 ≤ y + b ∧ Pr cl rl
def okLC (T : Nat → Int32) (t : Nat) (L : List Int32) (o : LOut) (h : Hp) : Prop := match o with
  | .inl f => FLL T t f h
  | .inr (y, cl, _) => CLS T t y (L ++ cl) h
def okLM (T : Nat → Int32) (t d : Nat) (R : List (Int32 × Int32)) (o : LOut) (r : Int32) (h : Hp) : Prop := match o with
  | .inl f => r = 0 ∧ h 208 12 = nI f
  | .inr (y, _, rl) => r = 1 ∧ RLS T t d y (R ++ rl) h
def seqO (cl : List Int32) (rl : List (Int32 × Int32)) (o : LOut) : LOut := match o with
  | .inl f => .inl f
  | .inr (y, cl', rl') => .inr (y, cl ++ cl', rl ++ rl')
def CF (T : Nat → Int32) (t x a : Nat) (o : LOut) (fc : Hp → Option Hp) : Prop := ∀ L h, L.length + a ≤ x → CLS T t x L h → ∃ h', fc h = some h' ∧ FI cLk h h' ∧ okLC T t L o h'
def MF (T : Nat → Int32) (t d x b : Nat) (o : LOut) (fm : Hp → Option (Int32 × Hp)) : Prop := ∀ R h, R.length + b ≤ x → RLS T t d x R h → ∃ r h', fm h = some (r, h') ∧ FI cRl h h' ∧ okLM T t d R o r h'
def LB (Pr : List Int32 → List (Int32 × Int32) → Prop) (T : Nat → Int32) (t d x a a1 b b1 : Nat) (fc : Hp → Option Hp) (fm : Hp → Option (Int32 × Hp)) : Prop := ∃ o, okLO Pr t x a a1 b b1 o ∧ CF T t x a o fc ∧ MF T t d x b o fm
theorem okLO.seq {Pr1 Pr2 Pr : List Int32 → List (Int32 × Int32) → Prop} {t x y a a1 a2 b b1 b2 : Nat} {cl : List Int32} {rl : List (Int32 × Int32)} {o : LOut} (k1 : okLO Pr1 t x a a1 b b1 (.inr (y, cl, rl))) (k2 : okLO Pr2 t y a1 a2 b1 b2 o) (hP : ∀ c r, Pr2 c r → Pr (cl ++ c) (rl ++ r)) : okLO Pr t x a a2 b b2 (seqO cl rl o) := by
  obtain ⟨k3, k4, k5, k6, k7⟩ := k1
  cases o with
  | inl f => exact k2
  | inr q =>
    obtain ⟨z, cl2, rl2⟩ := q
    obtain ⟨j3, j4, j5, j6, j7⟩ := k2
    refine ⟨by omega, j4, ?_, ?_, hP _ _ j7⟩
    · rw [List.length_append]; omega
    · rw [List.length_append]; omega
theorem okLO.mono {Pr : List Int32 → List (Int32 × Int32) → Prop} {t x y a a1 b b1 a' a1' b' b1' : Nat} {o : LOut} (k : okLO Pr t y a a1 b b1 o) (hx : x ≤ y) (ha : a + a1' + x ≤ a' + a1 + y) (hb : b + b1' + x ≤ b' + b1 + y) : okLO Pr t x a' a1' b' b1' o := by
  cases o with
  | inl f => exact k
  | inr q =>
    obtain ⟨z, cl2, rl2⟩ := q
    obtain ⟨j3, j4, j5, j6, j7⟩ := k
    exact ⟨by omega, j4, by omega, by omega, j7⟩
theorem okLO.pr {Pr Pr' : List Int32 → List (Int32 × Int32) → Prop} {t x a a1 b b1 : Nat} {o : LOut} (k : okLO Pr t x a a1 b b1 o) (hP : ∀ c r, Pr c r → Pr' c r) : okLO Pr' t x a a1 b b1 o := by
  cases o with
  | inl f => exact k
  | inr q => exact ⟨k.1, k.2.1, k.2.2.1, k.2.2.2.1, hP _ _ k.2.2.2.2⟩
/-! the class's side -/
theorem CF.word_n {T : Nat → Int32} {t x s a : Nat} {o : LOut} {f1 f2 : Hp → Option Hp} {w : List Int32} (hx : x ≤ t) (hs : skp T t x = s) (hw : okW w = true) (hW : isW T t w s = false) (c : CF T t s a o f2) : CF T t x a o (fun h => cl2 (fX9_takeWord h w) (fun r h1 => if r = (0 : Int32) then f2 h1 else f1 h1)) := fun L h hl S => by
  obtain ⟨h1, e1, F1, S1⟩ := tw_n S hx hs hw hW
  have := skp_ge (T := T) hx
  obtain ⟨h2, e2, F2, k2⟩ := c L h1 (by omega) S1
  exact ⟨h2, by dsimp only; rw [e1, cl2_some, if_pos rfl]; exact e2, F1.trans F2, k2⟩
theorem CF.word_y {T : Nat → Int32} {t x s a a1 : Nat} {o : LOut} {f1 f2 : Hp → Option Hp} {w : List Int32} (hx : x ≤ t) (hs : skp T t x = s) (hw : okW w = true) (hW : isW T t w s = true) (c : CF T t (wnd T t s) a1 o f1) (ha : x + a1 ≤ wnd T t s + a) : CF T t x a o (fun h => cl2 (fX9_takeWord h w) (fun r h1 => if r = (0 : Int32) then f2 h1 else f1 h1)) := fun L h hl S => by
  obtain ⟨h1, e1, F1, S1, -⟩ := tw_y S hx hs hw hW
  obtain ⟨h2, e2, F2, k2⟩ := c L h1 (by omega) S1
  exact ⟨h2, by dsimp only; rw [e1, cl2_some, if_neg (by decide)]; exact e2, F1.trans F2, k2⟩
theorem CF.sign_n {T : Nat → Int32} {t x s a : Nat} {o : LOut} {f1 f2 : Hp → Option Hp} {c : Nat} {c' : Int32} (hx : x ≤ t) (hs : skp T t x = s) (hc : c < 128) (ec : c' = nI c) (hW : isS T t c s = false) (k : CF T t s a o f2) : CF T t x a o (fun h => cl2 (fX9_takeSign h c') (fun r h1 => if r = (0 : Int32) then f2 h1 else f1 h1)) := fun L h hl S => by
  obtain ⟨h1, e1, F1, S1⟩ := ts_n S hx hs hc ec hW
  have := skp_ge (T := T) hx
  obtain ⟨h2, e2, F2, k2⟩ := k L h1 (by omega) S1
  exact ⟨h2, by dsimp only; rw [e1, cl2_some, if_pos rfl]; exact e2, F1.trans F2, k2⟩
theorem CF.sign_y {T : Nat → Int32} {t x s a a1 : Nat} {o : LOut} {f1 f2 : Hp → Option Hp} {c : Nat} {c' : Int32} (hx : x ≤ t) (hs : skp T t x = s) (hc : c < 128) (ec : c' = nI c) (hW : isS T t c s = true) (k : CF T t (s + 1) a1 o f1) (ha : a1 ≤ a + 1) : CF T t x a o (fun h => cl2 (fX9_takeSign h c') (fun r h1 => if r = (0 : Int32) then f2 h1 else f1 h1)) := fun L h hl S => by
  obtain ⟨h1, e1, F1, S1, -⟩ := ts_y S hx hs hc ec hW
  have := skp_ge (T := T) hx
  obtain ⟨h2, e2, F2, k2⟩ := k L h1 (by omega) S1
  exact ⟨h2, by dsimp only; rw [e1, cl2_some, if_neg (by decide)]; exact e2, F1.trans F2, k2⟩
theorem CF.seq {T : Nat → Int32} {t x y a a1 : Nat} {cl : List Int32} {rl : List (Int32 × Int32)} {o : LOut} {f1 f2 : Hp → Option Hp} (c1 : CF T t x a (.inr (y, cl, rl)) f1) (c2 : CF T t y a1 o f2) (hb : cl.length + x + a1 ≤ y + a) : CF T t x a (seqO cl rl o) (fun h => cl9 (f1 h) (fun h1 => f2 h1)) := fun L h hl S => by
  obtain ⟨h1, e1, F1, S1⟩ := c1 L h hl S
  have S1' : CLS T t y (L ++ cl) h1 := S1
  obtain ⟨h2, e2, F2, k2⟩ := c2 (L ++ cl) h1 (by rw [List.length_append]; omega) S1'
  refine ⟨h2, by dsimp only; rw [e1, cl9_some]; exact e2, F1.trans F2, ?_⟩
  cases o with
  | inl f => exact k2
  | inr q =>
    have k3 : CLS T t q.1 ((L ++ cl) ++ q.2.1) h2 := k2
    rw [List.append_assoc] at k3
    exact k3
theorem CF.seqF {T : Nat → Int32} {t x a f : Nat} {f1 f2 : Hp → Option Hp} (c1 : CF T t x a (.inl f) f1) (ff : FF T t f2) : CF T t x a (.inl f) (fun h => cl9 (f1 h) (fun h1 => f2 h1)) := fun L h hl S => by
  obtain ⟨h1, e1, F1, S1⟩ := c1 L h hl S
  obtain ⟨h2, e2, F2, k2⟩ := ff f h1 S1
  exact ⟨h2, by dsimp only; rw [e1, cl9_some]; exact e2, F1.trans F2, k2⟩
theorem CF.put {T : Nat → Int32} {t x a : Nat} (hx : x ≤ t) (ha : 1 ≤ a) (v : Int32) (rl : List (Int32 × Int32)) : CF T t x a (.inr (x, [v], rl)) (fun h => fX2_put h 13 v) := fun L h hl S => by
  have := S.1.1
  exact put_c S (by omega) v
theorem CF.id {T : Nat → Int32} {t x a : Nat} (rl : List (Int32 × Int32)) : CF T t x a (.inr (x, [], rl)) (fun h => some h) := fun L h hl S => ⟨h, rfl, FI.refl _ _, by show CLS T t x (L ++ []) h; rw [List.append_nil]; exact S⟩
theorem CF.next {T : Nat → Int32} {t x s a : Nat} (hx : x ≤ t) (hs : skp T t x = s) : CF T t x a (.inl s) (fun h => fX9_failNext h) := fun L h hl S => by
  subst hs
  have := S.1.1
  obtain ⟨h1, e1, F1, y3, y5⟩ := failNext_x S.1 hx S.2.1 S.2.2.1
  exact ⟨h1, e1, F1.c1345L, S.fl (by omega) F1 (skp_le hx) y3 (skp_le hx) y5⟩
theorem CF.tail {T : Nat → Int32} {t x a : Nat} {o : LOut} {f1 : Hp → Option Hp} (c : CF T t x a o f1) : CF T t x a o (fun h => cl9 (f1 h) (fun h1 => some h1)) := fun L h hl S => by
  obtain ⟨h1, e1, F1, k⟩ := c L h hl S
  exact ⟨h1, by dsimp only; rw [e1, cl9_some], F1, k⟩
theorem CF.mono {T : Nat → Int32} {t x a a1 : Nat} {o : LOut} {f1 : Hp → Option Hp} (c : CF T t x a1 o f1) (h : a1 ≤ a) : CF T t x a o f1 := fun L h hl S => c L h (by omega) S
/-! the reference's side -/
theorem MF.word_n {T : Nat → Int32} {t d x s b : Nat} {o : LOut} {f1 f2 : Hp → Option (Int32 × Hp)} {w : List Int32} (hx : x ≤ t) (hs : skp T t x = s) (hw : okW w = true) (hW : isW T t w s = false) (c : MF T t d s b o f2) : MF T t d x b o (fun h => cl2 (fX12_passes h w) (fun r h1 => if r = (0 : Int32) then f2 h1 else f1 h1)) := fun R h hl S => by
  obtain ⟨h1, e1, F1, S1, -⟩ := ps_n S hx hs hw hW
  have := skp_ge (T := T) hx
  obtain ⟨r, h2, e2, F2, k2⟩ := c R h1 (by omega) S1
  exact ⟨r, h2, by dsimp only; rw [e1, cl2_some, if_pos rfl]; exact e2, F1.trans F2, k2⟩
theorem MF.word_y {T : Nat → Int32} {t d x s b b1 : Nat} {o : LOut} {f1 f2 : Hp → Option (Int32 × Hp)} {w : List Int32} (hx : x ≤ t) (hs : skp T t x = s) (hw : okW w = true) (hW : isW T t w s = true) (c : MF T t d (wnd T t s) b1 o f1) (hb : x + b1 ≤ wnd T t s + b) : MF T t d x b o (fun h => cl2 (fX12_passes h w) (fun r h1 => if r = (0 : Int32) then f2 h1 else f1 h1)) := fun R h hl S => by
  obtain ⟨h1, e1, F1, S1, -⟩ := ps_y S hx hs hw hW
  obtain ⟨r, h2, e2, F2, k2⟩ := c R h1 (by omega) S1
  exact ⟨r, h2, by dsimp only; rw [e1, cl2_some, if_neg (by decide)]; exact e2, F1.trans F2, k2⟩
theorem MF.sign_n {T : Nat → Int32} {t d x s b : Nat} {o : LOut} {f1 f2 : Hp → Option (Int32 × Hp)} {c : Nat} {c' : Int32} (hx : x ≤ t) (hs : skp T t x = s) (ec : c' = nI c) (hW : isS T t c s = false) (k : MF T t d s b o f2) : MF T t d x b o (fun h => cl2 (fX12_sign h c') (fun r h1 => if r = (0 : Int32) then f2 h1 else f1 h1)) := fun R h hl S => by
  obtain ⟨h1, e1, F1, S1, -⟩ := sg_n S hx hs ec hW
  have := skp_ge (T := T) hx
  obtain ⟨r, h2, e2, F2, k2⟩ := k R h1 (by omega) S1
  exact ⟨r, h2, by dsimp only; rw [e1, cl2_some, if_pos rfl]; exact e2, F1.trans F2, k2⟩
theorem MF.sign_f {T : Nat → Int32} {t d x s b : Nat} {f1 : Hp → Option (Int32 × Hp)} {c : Nat} {c' : Int32} (hx : x ≤ t) (hs : skp T t x = s) (ec : c' = nI c) (hW : isS T t c s = false) : MF T t d x b (.inl s) (fun h => cl2 (fX12_sign h c') (fun r h1 => if r = (0 : Int32) then some ((0 : Int32), h1) else f1 h1)) := fun R h hl S => by
  obtain ⟨h1, e1, F1, S1, y⟩ := sg_n S hx hs ec hW
  exact ⟨0, h1, by dsimp only; rw [e1, cl2_some, if_pos rfl], F1, rfl, y⟩
theorem MF.sign_y {T : Nat → Int32} {t d x s b b1 : Nat} {o : LOut} {f1 f2 : Hp → Option (Int32 × Hp)} {c : Nat} {c' : Int32} (hx : x ≤ t) (hs : skp T t x = s) (ec : c' = nI c) (hW : isS T t c s = true) (k : MF T t d (s + 1) b1 o f1) (hb : b1 ≤ b + 1) : MF T t d x b o (fun h => cl2 (fX12_sign h c') (fun r h1 => if r = (0 : Int32) then f2 h1 else f1 h1)) := fun R h hl S => by
  obtain ⟨h1, e1, F1, S1, -⟩ := sg_y S hx hs ec hW
  have := skp_ge (T := T) hx
  obtain ⟨r, h2, e2, F2, k2⟩ := k R h1 (by omega) S1
  exact ⟨r, h2, by dsimp only; rw [e1, cl2_some, if_neg (by decide)]; exact e2, F1.trans F2, k2⟩
theorem MF.seq {T : Nat → Int32} {t d x y b b1 : Nat} {cl : List Int32} {rl : List (Int32 × Int32)} {o : LOut} {f1 f2 : Hp → Option (Int32 × Hp)} (c1 : MF T t d x b (.inr (y, cl, rl)) f1) (c2 : MF T t d y b1 o f2) (hb : rl.length + x + b1 ≤ y + b) : MF T t d x b (seqO cl rl o) (fun h => cl2 (f1 h) (fun r h1 => if r = (0 : Int32) then some ((0 : Int32), h1) else f2 h1)) := fun R h hl S => by
  obtain ⟨r1, h1, e1, F1, S1⟩ := c1 R h hl S
  obtain ⟨rfl, S1'⟩ := (show r1 = 1 ∧ RLS T t d y (R ++ rl) h1 from S1)
  obtain ⟨r2, h2, e2, F2, k2⟩ := c2 (R ++ rl) h1 (by rw [List.length_append]; omega) S1'
  refine ⟨r2, h2, by dsimp only; rw [e1, cl2_some, if_neg (by decide)]; exact e2, F1.trans F2, ?_⟩
  cases o with
  | inl f => exact k2
  | inr q =>
    have k3 : r2 = 1 ∧ RLS T t d q.1 ((R ++ rl) ++ q.2.2) h2 := k2
    rw [List.append_assoc] at k3
    exact k3
theorem MF.seqF {T : Nat → Int32} {t d x b f : Nat} {f1 f2 : Hp → Option (Int32 × Hp)} (c1 : MF T t d x b (.inl f) f1) : MF T t d x b (.inl f) (fun h => cl2 (f1 h) (fun r h1 => if r = (0 : Int32) then some ((0 : Int32), h1) else f2 h1)) := fun R h hl S => by
  obtain ⟨r1, h1, e1, F1, S1⟩ := c1 R h hl S
  obtain ⟨rfl, S1'⟩ := (show r1 = 0 ∧ h1 208 12 = nI f from S1)
  exact ⟨0, h1, by dsimp only; rw [e1, cl2_some, if_pos rfl], F1, rfl, S1'⟩
theorem MF.emit {T : Nat → Int32} {t d x b b1 : Nat} {cl : List Int32} {o : LOut} {f2 : Hp → Option (Int32 × Hp)} {u v : Int32} (hx : x ≤ t) (c2 : MF T t d x b1 o f2) (hb : b1 + 1 ≤ b) : MF T t d x b (seqO cl [(u, v)] o) (fun h => cl9 (fX12_emits h u v) (fun h1 => f2 h1)) := fun R h hl S => by
  have := S.1.1
  obtain ⟨h1, e1, F1, S1, -⟩ := em_m S (by omega) u v
  obtain ⟨r2, h2, e2, F2, k2⟩ := c2 (R ++ [(u, v)]) h1 (by rw [len1]; omega) S1
  refine ⟨r2, h2, by dsimp only; rw [e1, cl9_some]; exact e2, F1.trans F2, ?_⟩
  cases o with
  | inl f => exact k2
  | inr q =>
    have k3 : r2 = 1 ∧ RLS T t d q.1 ((R ++ [(u, v)]) ++ q.2.2) h2 := k2
    rw [List.append_assoc] at k3
    exact k3
theorem MF.skip {T : Nat → Int32} {t d x b : Nat} {cl : List Int32} {o : LOut} {f : Hp → Option (Int32 × Hp)} (c : MF T t d x b o f) : MF T t d x b (seqO cl [] o) f := fun R h hl S => by
  obtain ⟨r, h1, e1, F1, k⟩ := c R h hl S
  refine ⟨r, h1, e1, F1, ?_⟩
  cases o with
  | inl f => exact k
  | inr q => exact k
theorem MF.one {T : Nat → Int32} {t d x b : Nat} (cl : List Int32) : MF T t d x b (.inr (x, cl, [])) (fun h => some ((1 : Int32), h)) := fun R h hl S => ⟨1, h, rfl, FI.refl _ _, rfl, by rw [List.append_nil]; exact S⟩
theorem MF.mono {T : Nat → Int32} {t d x b b1 : Nat} {o : LOut} {f1 : Hp → Option (Int32 × Hp)} (c : MF T t d x b1 o f1) (h : b1 ≤ b) : MF T t d x b o f1 := fun R h hl S => c R h (by omega) S
/-! both -/
theorem LB.seq {Pr1 Pr2 Pr : List Int32 → List (Int32 × Int32) → Prop} {T : Nat → Int32} {t d x a a1 a2 b b1 b2 : Nat} {fc1 fc2 : Hp → Option Hp} {fm1 fm2 : Hp → Option (Int32 × Hp)} (B1 : LB Pr1 T t d x a a1 b b1 fc1 fm1) (ff : FF T t fc2) (B2 : ∀ y, x ≤ y → y ≤ t → LB Pr2 T t d y a1 a2 b1 b2 fc2 fm2) (hP : ∀ c r c' r', Pr1 c r → Pr2 c' r' → Pr (c ++ c') (r ++ r')) : LB Pr T t d x a a2 b b2 (fun h => cl9 (fc1 h) (fun h1 => fc2 h1)) (fun h => cl2 (fm1 h) (fun r h1 => if r = (0 : Int32) then some ((0 : Int32), h1) else fm2 h1)) := by
  obtain ⟨o1, k1, c1, m1⟩ := B1
  cases o1 with
  | inl f => exact ⟨.inl f, k1, c1.seqF ff, m1.seqF⟩
  | inr q =>
    obtain ⟨y, cl, rl⟩ := q
    have k1' := k1
    obtain ⟨k3, k4, k5, k6, k7⟩ := k1
    obtain ⟨o2, k2, c2, m2⟩ := B2 y k3 k4
    exact ⟨seqO cl rl o2, k1'.seq k2 (fun c r p => hP _ _ _ _ k7 p), c1.seq c2 (by omega), m1.seq m2 (by omega)⟩

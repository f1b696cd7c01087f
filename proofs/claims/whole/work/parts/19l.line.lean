/-! The law's text: a line. -/
abbrev LD : Type := (Nat → Nat) × (Nat → Nat) × (Nat → Nat) × (Nat → Nat) × List Int32 × List (Int32 × Int32)
def prL (cl : List Int32) (rl : List (Int32 × Int32)) : Prop := (cl = [] ∧ rl = []) ∨ SEMC 15 cl rl
def okD (ln : Nat) (D : LD) : Prop := match D with
  | (kd, am, ce, re, L, R) => ce 0 = 0 ∧ re 0 = 0 ∧ ce ln = L.length ∧ re ln = R.length ∧ ∀ i, i < ln → kd i < 3 ∧ am i ≤ 30 ∧ (kd i = 2 → am i = 1) ∧ ∃ (cl : List Int32) (rl : List (Int32 × Int32)), ce (i + 1) = ce i + cl.length ∧ re (i + 1) = re i + rl.length ∧ ce (i + 1) ≤ L.length ∧ re (i + 1) ≤ R.length ∧ (∀ j, j < cl.length → L.getD (ce i + j) 0 = cl.getD j 0) ∧ (∀ j, j < rl.length → R.getD (re i + j) (0, 0) = rl.getD j (0, 0)) ∧ prL cl rl
def uN (f : Nat → Nat) (i v : Nat) : Nat → Nat := fun j => if j = i then v else f j
theorem uN_s (f : Nat → Nat) (i v : Nat) : uN f i v i = v := if_pos rfl
theorem uN_n (f : Nat → Nat) {i j : Nat} (v : Nat) (h : j ≠ i) : uN f i v j = f j := if_neg h
theorem gd_pre {α : Type} (L M : List α) (d : α) {i : Nat} (h : i < L.length) : (L ++ M).getD i d = L.getD i d := by rw [List.getD_eq_getElem?_getD, List.getElem?_append_left h, ← List.getD_eq_getElem?_getD]
theorem gd_suf {α : Type} (L M : List α) (d : α) (i : Nat) : (L ++ M).getD (L.length + i) d = M.getD i d := by rw [List.getD_eq_getElem?_getD, List.getElem?_append_right (by omega), Nat.add_sub_cancel_left, ← List.getD_eq_getElem?_getD]
def addD (ln k a : Nat) (cl : List Int32) (rl : List (Int32 × Int32)) (D : LD) : LD := match D with
  | (kd, am, ce, re, L, R) => (uN kd ln k, uN am ln a, uN ce (ln + 1) (L.length + cl.length), uN re (ln + 1) (R.length + rl.length), L ++ cl, R ++ rl)
theorem okD.add {ln k a : Nat} {cl : List Int32} {rl : List (Int32 × Int32)} {D : LD} (H : okD ln D) (hk : k < 3) (ha : a ≤ 30) (h2 : k = 2 → a = 1) (p : prL cl rl) : okD (ln + 1) (addD ln k a cl rl D) := by
  obtain ⟨kd, am, ce, re, L, R⟩ := D
  obtain ⟨c0, r0, c1, r1, H⟩ := H
  refine ⟨by rw [uN_n _ _ (by omega)]; exact c0, by rw [uN_n _ _ (by omega)]; exact r0, by rw [uN_s, List.length_append], by rw [uN_s, List.length_append], fun i hi => ?_⟩
  by_cases c : i = ln
  · subst c
    rw [uN_s, uN_s, uN_s, uN_s, uN_n _ _ (by omega), uN_n _ _ (by omega), c1, r1]
    refine ⟨hk, ha, h2, cl, rl, rfl, rfl, by rw [List.length_append]; omega, by rw [List.length_append]; omega, fun j hj => gd_suf _ _ _ _, fun j hj => gd_suf _ _ _ _, p⟩
  · obtain ⟨q1, q2, q3, cl', rl', q4, q5, q6, q7, q8, q9, q10⟩ := H i (by omega)
    rw [uN_n _ _ c, uN_n _ _ c, uN_n _ _ (by omega), uN_n _ _ (by omega), uN_n _ _ (by omega), uN_n _ _ (by omega)]
    refine ⟨q1, q2, q3, cl', rl', q4, q5, by rw [List.length_append]; omega, by rw [List.length_append]; omega, fun j hj => ?_, fun j hj => ?_, q10⟩
    · rw [gd_pre _ _ _ (by omega)]; exact q8 j hj
    · rw [gd_pre _ _ _ (by omega)]; exact q9 j hj
def LKC (ln : Nat) (D : LD) (h : Hp) : Prop := match D with
  | (kd, am, ce, _, _, _) => h 13 0 = nI ln ∧ ∀ i, i < ln → h 14 i = nI (kd i) ∧ (kd i ≠ 2 → h 15 i = nI (am i)) ∧ h 16 i = nI (ce (i + 1))
def LKM (ln : Nat) (D : LD) (h : Hp) : Prop := match D with
  | (kd, am, _, re, _, _) => ∀ i, i < ln → h 209 (1183 + 4 * i) = nI (kd i) ∧ h 209 (1183 + 4 * i + 1) = nI (am i) ∧ h 209 (1183 + 4 * i + 2) = nI (re i) ∧ h 209 (1183 + 4 * i + 3) = nI (re (i + 1))
theorem LKC.fi {ln : Nat} {D : LD} {h h' : Hp} {C : Nat → Nat → Prop} (H : LKC ln D h) (F : FI C h h') (c : ∀ k j, C k j → ¬ (k = 13 ∧ j = 0) ∧ k ≠ 14 ∧ k ≠ 15 ∧ k ≠ 16) : LKC ln D h' := by
  obtain ⟨kd, am, ce, re, L, R⟩ := D
  refine ⟨by rw [F 13 0 (fun q => (c _ _ q).1 ⟨rfl, rfl⟩)]; exact H.1, fun i hi => ?_⟩
  rw [F 14 i (fun q => (c _ _ q).2.1 rfl), F 15 i (fun q => (c _ _ q).2.2.1 rfl), F 16 i (fun q => (c _ _ q).2.2.2 rfl)]
  exact H.2 i hi
theorem LKM.fi {ln : Nat} {D : LD} {h h' : Hp} {C : Nat → Nat → Prop} (H : LKM ln D h) (F : FI C h h') (c : ∀ k j, C k j → k ≠ 209 ∨ 1183 + 4 * ln ≤ j) : LKM ln D h' := by
  obtain ⟨kd, am, ce, re, L, R⟩ := D
  intro i hi
  rw [F 209 _ (fun q => by have := c _ _ q; omega), F 209 _ (fun q => by have := c _ _ q; omega), F 209 _ (fun q => by have := c _ _ q; omega), F 209 _ (fun q => by have := c _ _ q; omega)]
  exact H i hi
/-! "if" and what stands behind it -/
def ifC (h6 : Hp) : Option Hp := cl2 (fX9_takeWord h6 sw3) (fun x15 h13 => if x15 = (0 : Int32) then some h13 else cl9 (fX3_takeCondition h13 (0 : Int32)) (fun h20 => some h20))
def ifM (h33 : Hp) : Option (Int32 × Hp) := cl2 (fX12_passes h33 sw44) (fun x36 h34 => if x36 = (0 : Int32) then some ((1 : Int32), h34) else cl2 (fX12_readCond h34) (fun r h1 => if r = (0 : Int32) then some ((0 : Int32), h1) else some ((1 : Int32), h1)))
theorem if_both {T : Nat → Int32} {t x : Nat} (ht : t ≤ 400) (hx : x ≤ t) : LB prL T t 0 x 1 1 1 1 ifC ifM := by
  have hg := skp_ge (T := T) hx
  have hs := skp_le (T := T) hx
  cases hI : isW T t sw3 (skp T t x) with
  | false =>
    exact ⟨.inr (skp T t x, [], []), ⟨hg, hs, by show 0 + x + 1 ≤ _; omega, by show 0 + x + 1 ≤ _; omega, Or.inl ⟨rfl, rfl⟩⟩, CF.word_n hx rfl (by decide) hI (CF.id _), MF.word_n hx rfl (w := sw44) (by decide) hI (MF.one _)⟩
  | true =>
    have hl := isW_len hs hI
    have hl2 : sw3.length = 2 := rfl
    have he := wnd_le (T := T) hs
    obtain ⟨o, k, c, m⟩ := (condition_both (T := T) ht he (by omega)).shift 1 2
    refine ⟨o, (k.pr (fun c r p => Or.inr p)).mono (by omega) (by omega) (by omega), CF.word_y hx rfl (by decide) hI (CF.tail c) (by omega), MF.word_y hx rfl (w := sw44) (by decide) hI (b1 := 3) ?_ (by omega)⟩
    cases o with
    | inl f => exact m.seqF
    | inr q =>
      intro R h hl S
      obtain ⟨r1, h1, e1, F1, S1⟩ := m R h hl S
      have S1' : r1 = 1 ∧ RLS T t 0 q.1 (R ++ q.2.2) h1 := S1
      have e1' : fX12_readCond h = some (r1, h1) := e1
      exact ⟨1, h1, by dsimp only; rw [e1', cl2_some, S1'.1, if_neg (by decide)], F1, rfl, S1'.2⟩
theorem FF.ifs {T : Nat → Int32} {t : Nat} : FF T t ifC := FF.word FF.id
theorem takeLine_s (h : Hp) : fX3_takeLine h = cl2 (fX3_takeKind h) (fun x3 h1 => (if x3 = (-1 : Int32) then some h1 else cl2 ((if x3 = (2 : Int32) then some ((0 : Int32), h1) else cl2 (fX9_takeNumber h1 (0 : Int32) (30 : Int32)) (fun x12 h10 => some (x12, h10))) : Option (Int32 × Hp)) (fun v5 h6 => cl9 (ifC h6) (fun h16 => cl9 (fX2_endLine h16 13 x3 v5) (fun h22 => some h22))))) := by
  unfold fX3_takeLine ifC
  simp only [cl92]
/-! the end of a line -/
theorem endLine_c {h : Hp} {ln : Nat} (hl : ln < 12) (e : h 13 0 = nI ln) (k v : Int32) : fX2_endLine h 13 k v = some (up2 (up2 (up2 (up2 h 14 ln k) 15 ln v) 16 ln (h 13 5)) 13 0 (nI (ln + 1))) := by
  have e1 : (up2 h 14 ln k) 13 = h 13 := up2_n _ _ _ (by decide)
  have e2 : (up2 (up2 h 14 ln k) 15 ln v) 13 = h 13 := by rw [up2_n _ _ _ (by decide), e1]
  have e3 : ∀ z, (up2 (up2 (up2 h 14 ln k) 15 ln v) 16 ln z) 13 = h 13 := fun z => by rw [up2_n _ _ _ (by decide), e2]
  unfold fX2_endLine
  rw [e, if_neg (nI_pos (by omega)), if_neg (show ¬ (12 : Int32) ≤ nI ln from le_n 12 rfl hl (by decide)), cl9_some, if_pos rfl, gd_in hl (by decide), nI_clamp (by omega), lt9_e]
  rw [show (up2 h (13 + 1) ln k) 13 = h 13 from e1, e, gd_in hl (by decide), nI_clamp (by omega), lt9_e]
  rw [show (up2 (up2 h (13 + 1) ln k) (13 + 2) ln v) 13 = h 13 from e2, e, gd_in hl (by decide), nI_clamp (by omega), lt9_e, lt9_e]
  rw [show ∀ z, (up2 (up2 (up2 h (13 + 1) ln k) (13 + 2) ln v) (13 + 3) ln z) 13 = h 13 from e3, e, nI_1]
def cLn (k j : Nat) : Prop := (k = 1 ∧ (j = 3 ∨ j = 4 ∨ j = 5)) ∨ (13 ≤ k ∧ k ≤ 17)
def cRn (k j : Nat) : Prop := (k = 208 ∧ (j = 10 ∨ j = 12 ∨ j = 13 ∨ j = 16)) ∨ (k = 209 ∧ 1182 ≤ j)
theorem FI.cLkn {h h' : Hp} (F : FI cLk h h') : FI cLn h h' := F.mono (fun k j q => by unfold cLk at q; unfold cLn; omega)
theorem FI.cRln {h h' : Hp} (F : FI cRl h h') : FI cRn h h' := F.mono (fun k j q => by unfold cRl at q; unfold cRn; omega)
theorem endLine_f {T : Nat → Int32} {t f : Nat} {h : Hp} (L : FLD T t f h) (k v : Int32) : ∃ h', fX2_endLine h 13 k v = some h' ∧ FI cLn h h' ∧ FLD T t f h' := by
  rcases pk_ix (h 13 0) (n := 12) (by decide) with c | c | ⟨n, hn, e⟩
  · refine ⟨h, ?_, FI.refl _ _, L⟩
    unfold fX2_endLine
    rw [if_pos c, cl9_some, if_neg (by decide)]
  · refine ⟨h, ?_, FI.refl _ _, L⟩
    unfold fX2_endLine
    by_cases d : h 13 0 < 0
    · rw [if_pos d, cl9_some, if_neg (by decide)]
    · rw [if_neg d, if_pos (show (12 : Int32) ≤ h 13 0 from c), cl9_some, if_neg (by decide)]
  · have F : FI (fun k j => 13 ≤ k ∧ k ≤ 17) h (up2 (up2 (up2 (up2 h 14 n k) 15 n v) 16 n (h 13 5)) 13 0 (nI (n + 1))) := (((FI.up2 _ _ (by omega)).trans (FI.up2 _ _ (by omega))).trans (FI.up2 _ _ (by omega))).trans (FI.up2 _ _ (by omega))
    exact ⟨_, endLine_c hn e k v, F.mono (fun k j q => by unfold cLn; omega), L.fi F (fun k j q => by omega)⟩
/-! the kind of a line -/
def kdOf (T : Nat → Int32) (t s : Nat) : Option Nat := if isW T t sw0 s then some 0 else if isW T t sw1 s then some 1 else if isW T t sw2 s then some 2 else none
def kindM (h : Hp) : Option Int32 := cl9 (fX12_isWord h sw42) (fun x2 => if x2 = (0 : Int32) then cl9 (fX12_isWord h sw29) (fun x8 => (if x8 = (0 : Int32) then cl9 (fX12_isWord h sw43) (fun x11 => (if x11 = (0 : Int32) then some (-1 : Int32) else some (2 : Int32))) else some (1 : Int32))) else some (0 : Int32))
theorem kdOf_lt {T : Nat → Int32} {t s k : Nat} (hs : s ≤ t) (h : kdOf T t s = some k) : k < 3 ∧ s + 4 ≤ wnd T t s := by
  unfold kdOf at h
  cases h0 : isW T t sw0 s with
  | true =>
    have := isW_len hs h0
    have h6 : sw0.length = 6 := rfl
    rw [h0, if_pos rfl] at h
    cases h
    omega
  | false =>
    rw [h0, if_neg (by decide)] at h
    cases h1 : isW T t sw1 s with
    | true =>
      have := isW_len hs h1
      have h6 : sw1.length = 4 := rfl
      rw [h1, if_pos rfl] at h
      cases h
      omega
    | false =>
      rw [h1, if_neg (by decide)] at h
      cases h2 : isW T t sw2 s with
      | true =>
        have := isW_len hs h2
        have h6 : sw2.length = 4 := rfl
        rw [h2, if_pos rfl] at h
        cases h
        omega
      | false => rw [h2, if_neg (by decide)] at h; cases h
theorem kind_m {T : Nat → Int32} {t s : Nat} {h : Hp} (P : PMS T t h) (hs : s ≤ t) (e10 : h 208 10 = nI (wnd T t s)) (e12 : h 208 12 = nI s) : kindM h = some (match kdOf T t s with | none => -1 | some k => nI k) := by
  unfold kindM kdOf
  rw [isWord_m P hs e10 e12 (w := sw42) (by decide), isWord_m P hs e10 e12 (w := sw29) (by decide), isWord_m P hs e10 e12 (w := sw43) (by decide), cl9_some, cl9_some, cl9_some]
  show (if bI (isW T t sw0 s) = 0 then if bI (isW T t sw1 s) = 0 then if bI (isW T t sw2 s) = 0 then some (-1) else some 2 else some 1 else some 0) = _
  cases isW T t sw0 s with
  | true => rfl
  | false =>
    cases isW T t sw1 s with
    | true => rfl
    | false => cases isW T t sw2 s <;> rfl
theorem kind_c {T : Nat → Int32} {t x s : Nat} {L : List Int32} {h : Hp} (S : CLS T t x L h) (hx : x ≤ t) (hl : L.length ≤ x) (hE : skp T t x = s) : ∃ h1, FI cLk h h1 ∧ match kdOf T t s with | none => fX3_takeKind h = some (-1, h1) ∧ FLL T t s h1 | some k => fX3_takeKind h = some (nI k, h1) ∧ CLS T t (wnd T t s) L h1 := by
  have ht := S.1.1
  have hs : s ≤ t := by rw [← hE]; exact skp_le hx
  have hg := skp_ge (T := T) hx
  have hss : skp T t s = s := by rw [← hE]; exact skp_id hx
  unfold kdOf fX3_takeKind
  cases h0 : isW T t sw0 s with
  | true =>
    obtain ⟨h1, e1, F1, S1, -⟩ := tw_y S hx hE (w := sw0) (by decide) h0
    refine ⟨h1, F1, ?_⟩
    rw [if_pos rfl]
    exact ⟨by rw [e1, cl2_some, if_neg (by decide)]; rfl, S1⟩
  | false =>
    obtain ⟨h1, e1, F1, S1⟩ := tw_n S hx hE (w := sw0) (by decide) h0
    rw [if_neg (by decide), e1, cl2_some, if_pos rfl]
    cases h2 : isW T t sw1 s with
    | true =>
      obtain ⟨h3, e3, F3, S3, -⟩ := tw_y S1 hs hss (w := sw1) (by decide) h2
      refine ⟨h3, F1.trans F3, ?_⟩
      rw [if_pos rfl]
      exact ⟨by rw [e3, cl2_some, if_neg (by decide)]; rfl, S3⟩
    | false =>
      obtain ⟨h3, e3, F3, S3⟩ := tw_n S1 hs hss (w := sw1) (by decide) h2
      rw [if_neg (by decide), e3, cl2_some, if_pos rfl]
      cases h4 : isW T t sw2 s with
      | true =>
        obtain ⟨h5, e5, F5, S5, -⟩ := tw_y S3 hs hss (w := sw2) (by decide) h4
        refine ⟨h5, (F1.trans F3).trans F5, ?_⟩
        rw [if_pos rfl]
        exact ⟨by rw [e5, cl2_some, if_neg (by decide)]; rfl, S5⟩
      | false =>
        obtain ⟨h5, e5, F5, S5⟩ := tw_n S3 hs hss (w := sw2) (by decide) h4
        obtain ⟨h6, e6, F6, L6⟩ := CF.next (a := 0) hs hss L h5 (by omega) S5
        have e6' : fX9_failNext h5 = some h6 := e6
        refine ⟨h6, ((F1.trans F3).trans F5).trans F6, ?_⟩
        rw [if_neg (by decide)]
        exact ⟨by rw [e5, cl2_some, if_pos rfl, e6', cl9_some], L6⟩

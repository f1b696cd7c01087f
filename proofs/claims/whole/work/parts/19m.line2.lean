/-! The law's text: a line, both sides. -/
theorem gdi {α : Type} {i n : Nat} (h : i < n) (hn : n < 2 ^ 31) (k : Option α) : gd (inb (nI i) n) k = k := gd_in h hn
theorem lawLine_0 {h : Hp} {ln : Nat} (hl : ln < 12) (ek : kindM h = some (-1)) : fX12_readLawLine h (nI ln) = some (0, up2 h 209 (1183 + 4 * ln) (-1)) := by
  have q0 : (1183 : Int32) + (4 : Int32) * nI ln = nI (1183 + 4 * ln) := by rw [i_1183, i_4, nI_mul, nI_add]
  have c0 : (nI (1183 + 4 * ln)).toNatClampNeg = 1183 + 4 * ln := nI_clamp (by omega)
  unfold fX12_readLawLine
  rw [q0, lt9_e, ← cl99, show cl9 (fX12_isWord h sw42) _ = some (-1 : Int32) from ek, cl9_some]
  simp only [c0, gdi (show 1183 + 4 * ln < 2031 by omega) (by decide), lt9_e, up2_s, upd_s]
  rw [if_neg (by decide)]
theorem lawLine_1 {h h20 : Hp} {ln k : Nat} (hl : ln < 12) (hk : k < 3) (ek : kindM h = some (nI k)) {a : Int32} (ea : (if nI k = (2 : Int32) then some ((1 : Int32), up2 h 209 (1183 + 4 * ln) (nI k)) else cl2 (fX12_number (up2 h 209 (1183 + 4 * ln) (nI k)) (0 : Int32) (30 : Int32)) (fun x26 h24 => some (x26, h24))) = some (a, h20)) : fX12_readLawLine h (nI ln) = if (0 : Int32) ≤ a then cl2 (ifM (up2 (up2 (up2 h20 209 (1183 + 4 * ln + 1) a) 209 (1183 + 4 * ln + 2) (h20 208 16)) 208 13 0)) (fun r h1 => if r = (0 : Int32) then some ((0 : Int32), h1) else some ((1 : Int32), up2 h1 209 (1183 + 4 * ln + 3) (h1 208 16))) else some (0, up2 h20 209 (1183 + 4 * ln + 1) a) := by
  have q0 : (1183 : Int32) + (4 : Int32) * nI ln = nI (1183 + 4 * ln) := by rw [i_1183, i_4, nI_mul, nI_add]
  have q1 : nI (1183 + 4 * ln) + 1 = nI (1183 + 4 * ln + 1) := nI_1 _
  have q2 : nI (1183 + 4 * ln) + 2 = nI (1183 + 4 * ln + 2) := by rw [i_2, nI_add]
  have q3 : nI (1183 + 4 * ln) + 3 = nI (1183 + 4 * ln + 3) := by rw [i_3, nI_add]
  have c0 : (nI (1183 + 4 * ln)).toNatClampNeg = 1183 + 4 * ln := nI_clamp (by omega)
  have c1 : (nI (1183 + 4 * ln + 1)).toNatClampNeg = 1183 + 4 * ln + 1 := nI_clamp (by omega)
  have c2 : (nI (1183 + 4 * ln + 2)).toNatClampNeg = 1183 + 4 * ln + 2 := nI_clamp (by omega)
  have c3 : (nI (1183 + 4 * ln + 3)).toNatClampNeg = 1183 + 4 * ln + 3 := nI_clamp (by omega)
  unfold fX12_readLawLine
  rw [q0, lt9_e, ← cl99, show cl9 (fX12_isWord h sw42) _ = some (nI k) from ek, cl9_some]
  simp only [q1, q2, q3, c0, c1, c2, c3, gdi (show 1183 + 4 * ln < 2031 by omega) (by decide), gdi (show 1183 + 4 * ln + 1 < 2031 by omega) (by decide), gdi (show 1183 + 4 * ln + 2 < 2031 by omega) (by decide), gdi (show 1183 + 4 * ln + 3 < 2031 by omega) (by decide), lt9_e, up2_s, upd_s]
  rw [if_pos (show (0 : Int32) ≤ nI k from nI_le (a := 0) (by omega) (by omega)), ea, cl2_some]
  by_cases c : (0 : Int32) ≤ a
  · rw [if_pos c, if_pos c, up2_n h20 _ _ (show (208 : Nat) ≠ 209 by decide)]
    unfold ifM
    rw [cl22]
    congr 1
    funext x36 h34
    by_cases c2 : x36 = 0
    · rw [if_pos c2, if_pos c2]; rfl
    · rw [if_neg c2, if_neg c2, cl22]
      congr 1
      funext x42 h40
      by_cases c3 : x42 = 0
      · rw [if_pos c3, if_pos c3]; rfl
      · rw [if_neg c3, if_neg c3]; rfl
  · rw [if_neg c, if_neg c]
/-! the amount -/
theorem amt_both {T : Nat → Int32} {t e k : Nat} (he : e ≤ t) (hk : k < 3) :
    (∃ a x1, e ≤ x1 ∧ x1 ≤ t ∧ a ≤ 30 ∧ (k = 2 → a = 1) ∧ (∀ (L : List Int32) h, CLS T t e L h → ∃ v h1, (if nI k = (2 : Int32) then some ((0 : Int32), h) else cl2 (fX9_takeNumber h (0 : Int32) (30 : Int32)) (fun x12 h10 => some (x12, h10))) = some (v, h1) ∧ FI cLk h h1 ∧ CLS T t x1 L h1 ∧ (k ≠ 2 → v = nI a)) ∧ (∀ h, PMS T t h → h 208 10 = nI e → ∃ h1, (if nI k = (2 : Int32) then some ((1 : Int32), h) else cl2 (fX12_number h (0 : Int32) (30 : Int32)) (fun x26 h24 => some (x26, h24))) = some (nI a, h1) ∧ FI c1012 h h1 ∧ h1 208 10 = nI x1)) ∨
    (∃ f, f ≤ t ∧ (∀ (L : List Int32) h, L.length ≤ e → CLS T t e L h → ∃ h1, (if nI k = (2 : Int32) then some ((0 : Int32), h) else cl2 (fX9_takeNumber h (0 : Int32) (30 : Int32)) (fun x12 h10 => some (x12, h10))) = some (-1, h1) ∧ FI cLk h h1 ∧ FLL T t f h1) ∧ (∀ h, PMS T t h → h 208 10 = nI e → ∃ h1, (if nI k = (2 : Int32) then some ((1 : Int32), h) else cl2 (fX12_number h (0 : Int32) (30 : Int32)) (fun x26 h24 => some (x26, h24))) = some (-1, h1) ∧ FI c1012 h h1 ∧ h1 208 12 = nI f)) := by
  have hs := skp_le (T := T) he
  have hg := skp_ge (T := T) he
  by_cases c2 : k = 2
  · subst c2
    left
    refine ⟨1, e, Nat.le_refl _, he, by decide, fun _ => rfl, fun L h S => ⟨0, h, by rw [if_pos (show nI 2 = 2 from rfl)], FI.refl _ _, S, fun q => absurd rfl q⟩, fun h P e10 => ⟨h, by rw [if_pos (show nI 2 = 2 from rfl)]; rfl, FI.refl _ _, e10⟩⟩
  · have n2 : ¬ nI k = (2 : Int32) := nI_ne (k := 2) (by omega) (by decide) c2
    cases kk : nmK T t 0 30 (skp T t e) with
    | true =>
      left
      obtain ⟨k1, k2, k3⟩ := nmK_t kk
      refine ⟨nmV T t (skp T t e), dnd T t (skp T t e), by omega, dnd_le hs, k3, fun q => absurd q c2, fun L h S => ?_, fun h P e10 => ?_⟩
      · obtain ⟨h1, e1, F1, y3, y4, y5⟩ := takeNumber_x S.1 he S.2.1 S.2.2.1 0 30 (by decide) (by decide)
        rw [nmR_t kk] at e1
        rw [kk] at y5
        have e1' : fX9_takeNumber h 0 30 = some (nI (nmV T t (skp T t e)), h1) := e1
        exact ⟨_, h1, by rw [if_neg n2, e1', cl2_some], F1.c1345L, S.tp F1 y3 y5, fun _ => rfl⟩
      · obtain ⟨h1, e1, F1, y12, y10⟩ := number_m P he e10 0 30 (by decide) (by decide)
        rw [nmR_t kk] at e1
        have e1' : fX12_number h 0 30 = some (nI (nmV T t (skp T t e)), h1) := e1
        exact ⟨h1, by rw [if_neg n2, e1', cl2_some], F1, y10⟩
    | false =>
      right
      refine ⟨skp T t e, hs, fun L h hl S => ?_, fun h P e10 => ?_⟩
      · have ht := S.1.1
        obtain ⟨h1, e1, F1, y3, y4, y5⟩ := takeNumber_x S.1 he S.2.1 S.2.2.1 0 30 (by decide) (by decide)
        rw [nmR_f kk] at e1
        rw [kk] at y5
        have e1' : fX9_takeNumber h 0 30 = some (-1, h1) := e1
        exact ⟨h1, by rw [if_neg n2, e1', cl2_some], F1.c1345L, S.fl (by omega) F1 (dnd_le hs) y3 hs y5⟩
      · obtain ⟨h1, e1, F1, y12, y10⟩ := number_m P he e10 0 30 (by decide) (by decide)
        rw [nmR_f kk] at e1
        have e1' : fX12_number h 0 30 = some (-1, h1) := e1
        exact ⟨h1, by rw [if_neg n2, e1', cl2_some], F1, y12⟩
/-! the line -/
def RST (R : List (Int32 × Int32)) (h : Hp) : Prop := h 208 16 = nI R.length ∧ ∀ i, i < R.length → h 209 (1231 + 2 * i) = (R.getD i (0, 0)).1 ∧ h 209 (1231 + 2 * i + 1) = (R.getD i (0, 0)).2
theorem RST.fi {R : List (Int32 × Int32)} {h h' : Hp} {C : Nat → Nat → Prop} (H : RST R h) (F : FI C h h') (c : ∀ k j, C k j → ¬ (k = 208 ∧ j = 16) ∧ (k ≠ 209 ∨ j < 1231)) : RST R h' := by
  refine ⟨by rw [F 208 16 (fun q => (c _ _ q).1 ⟨rfl, rfl⟩)]; exact H.1, fun i hi => ?_⟩
  rw [F 209 _ (fun q => by have := (c _ _ q).2; omega), F 209 _ (fun q => by have := (c _ _ q).2; omega)]
  exact H.2 i hi
abbrev LnO : Type := Nat ⊕ (Nat × LD)
def okLnO (t x ln : Nat) (o : LnO) : Prop := match o with
  | .inl f => f ≤ t
  | .inr (y, D) => x < y ∧ y ≤ t ∧ okD (ln + 1) D ∧ D.2.2.2.2.1.length ≤ y ∧ D.2.2.2.2.2.length ≤ y
def CLN (T : Nat → Int32) (t x ln : Nat) (D : LD) (h : Hp) : Prop := CLS T t x D.2.2.2.2.1 h ∧ LKC ln D h
def RLN (T : Nat → Int32) (t x ln : Nat) (D : LD) (h : Hp) : Prop := PMS T t h ∧ h 208 10 = nI x ∧ RST D.2.2.2.2.2 h ∧ LKM ln D h
def okLnC (T : Nat → Int32) (t ln : Nat) (o : LnO) (h : Hp) : Prop := match o with
  | .inl f => FLD T t f h
  | .inr (y, D) => CLN T t y (ln + 1) D h
def okLnM (T : Nat → Int32) (t ln : Nat) (o : LnO) (r : Int32) (h : Hp) : Prop := match o with
  | .inl f => r = 0 ∧ h 208 12 = nI f
  | .inr (y, D) => r = 1 ∧ RLN T t y (ln + 1) D h
theorem line_both {T : Nat → Int32} {t s ln : Nat} (ht : t ≤ 400) (hs : s ≤ t) (hl : ln < 12) {D : LD} (H : okD ln D) (hL : D.2.2.2.2.1.length ≤ s) (hR : D.2.2.2.2.2.length ≤ s) : ∃ o : LnO, okLnO t s ln o ∧ (∀ x h, x ≤ t → skp T t x = s → D.2.2.2.2.1.length ≤ x → CLN T t x ln D h → ∃ h', fX3_takeLine h = some h' ∧ FI cLn h h' ∧ okLnC T t ln o h') ∧ (∀ h, RLN T t (wnd T t s) ln D h → h 208 12 = nI s → ∃ r h', fX12_readLawLine h (nI ln) = some (r, h') ∧ FI cRn h h' ∧ okLnM T t ln o r h') := by
  have Kc : ∀ k j, cLk k j → ¬ (k = 13 ∧ j = 0) ∧ k ≠ 14 ∧ k ≠ 15 ∧ k ≠ 16 := fun k j q => by unfold cLk at q; omega
  cases hK : kdOf T t s with
  | none =>
    refine ⟨.inl s, hs, fun x h hx hE hx1 S => ?_, fun h S e12 => ?_⟩
    · obtain ⟨h1, F1, k1⟩ := kind_c S.1 hx hx1 hE
      rw [hK] at k1
      obtain ⟨e1, L1⟩ := k1
      exact ⟨h1, by rw [takeLine_s, e1, cl2_some, if_pos rfl], F1.cLkn, L1.1⟩
    · have ek := kind_m S.1 hs S.2.1 e12
      rw [hK] at ek
      exact ⟨0, _, lawLine_0 hl ek, FI.up2 _ _ (by unfold cRn; omega), rfl, by rw [up2_n _ _ _ (by decide)]; exact e12⟩
  | some k =>
    obtain ⟨hk, h4⟩ := kdOf_lt hs hK
    have he := wnd_le (T := T) hs
    have nk : ¬ nI k = (-1 : Int32) := no_m1 (by omega)
    have F15 : ∀ h : Hp, FI (fun k j => k = 209 ∧ j = 1183 + 4 * ln) h (up2 h 209 (1183 + 4 * ln) (nI k)) := fun h => FI.up2 _ _ ⟨rfl, rfl⟩
    rcases amt_both (T := T) he hk with ⟨a, x1, g1, g2, g3, g4, gc, gm⟩ | ⟨f, hf, gc, gm⟩
    · obtain ⟨o, ko, co, mo⟩ := if_both (T := T) ht g2
      -- the class up to the line's end
      have cls : ∀ x h, x ≤ t → skp T t x = s → D.2.2.2.2.1.length ≤ x → CLN T t x ln D h → ∃ v h2, (k ≠ 2 → v = nI a) ∧ FI cLk h h2 ∧ okLC T t D.2.2.2.2.1 o h2 ∧ LKC ln D h2 ∧ fX3_takeLine h = cl9 (fX2_endLine h2 13 (nI k) v) (fun h22 => some h22) := fun x h hx hE hx1 S => by
        obtain ⟨h1, F1, k1⟩ := kind_c S.1 hx hx1 hE
        rw [hK] at k1
        obtain ⟨e1, S1⟩ := k1
        obtain ⟨v, h2, e2, F2, S2, ev⟩ := gc _ h1 S1
        obtain ⟨h3, e3, F3, k3⟩ := co _ h2 (by omega) S2
        refine ⟨v, h3, ev, (F1.trans F2).trans F3, k3, S.2.fi ((F1.trans F2).trans F3) Kc, ?_⟩
        rw [takeLine_s, e1, cl2_some, if_neg nk, e2, cl2_some, e3, cl9_some]
      have mls : ∀ h, RLN T t (wnd T t s) ln D h → h 208 12 = nI s → ∃ h3 r h4, FI (fun k j => (k = 208 ∧ (j = 10 ∨ j = 12 ∨ j = 13)) ∨ (k = 209 ∧ 1183 + 4 * ln ≤ j ∧ j ≤ 1183 + 4 * ln + 2)) h h3 ∧ h3 209 (1183 + 4 * ln) = nI k ∧ h3 209 (1183 + 4 * ln + 1) = nI a ∧ h3 209 (1183 + 4 * ln + 2) = nI D.2.2.2.2.2.length ∧ FI cRl h3 h4 ∧ okLM T t 0 D.2.2.2.2.2 o r h4 ∧ fX12_readLawLine h (nI ln) = (if r = (0 : Int32) then some ((0 : Int32), h4) else some ((1 : Int32), up2 h4 209 (1183 + 4 * ln + 3) (h4 208 16))) := fun h S e12 => by
        have ek := kind_m S.1 hs S.2.1 e12
        rw [hK] at ek
        obtain ⟨h2, e2, F2, y10⟩ := gm (up2 h 209 (1183 + 4 * ln) (nI k)) (S.1.fi (F15 h) (fun k j q => by omega)) (by rw [up2_n _ _ _ (by decide)]; exact S.2.1)
        have F2' : FI (fun k j => (k = 208 ∧ (j = 10 ∨ j = 12 ∨ j = 13)) ∨ (k = 209 ∧ 1183 + 4 * ln ≤ j ∧ j ≤ 1183 + 4 * ln + 2)) h h2 := ((F15 h).mono (fun k j q => by omega)).trans (F2.mono (fun k j q => by unfold c1012 at q; omega))
        have F3 : FI (fun k j => (k = 208 ∧ (j = 10 ∨ j = 12 ∨ j = 13)) ∨ (k = 209 ∧ 1183 + 4 * ln ≤ j ∧ j ≤ 1183 + 4 * ln + 2)) h2 (up2 (up2 (up2 h2 209 (1183 + 4 * ln + 1) (nI a)) 209 (1183 + 4 * ln + 2) (h2 208 16)) 208 13 0) := ((FI.up2 _ _ (by omega)).trans (FI.up2 _ _ (by omega))).trans (FI.up2 _ _ (by omega))
        have F := F2'.trans F3
        have P3 := S.1.fi F (fun k j q => by omega)
        have R3 := S.2.2.1.fi F (fun k j q => by omega)
        have v16 : h2 208 16 = nI D.2.2.2.2.2.length := by rw [F2' 208 16 (by omega)]; exact S.2.2.1.1
        obtain ⟨r, h4, e4, F4, k4⟩ := mo D.2.2.2.2.2 _ (by omega) ⟨P3, by rw [up2_s, upd_n _ _ (by decide), up2_n _ _ _ (by decide), up2_n _ _ _ (by decide)]; exact y10, by rw [up2_s, upd_s]; rfl, R3.1, R3.2⟩
        refine ⟨_, r, h4, F, ?_, ?_, ?_, F4, k4, ?_⟩
        · rw [up2_n _ _ _ (by decide), up2_s, upd_n _ _ (by omega), up2_s, upd_n _ _ (by omega), F2 209 _ (fun q => by unfold c1012 at q; omega), up2_s, upd_s]
        · rw [up2_n _ _ _ (by decide), up2_s, upd_n _ _ (by omega), up2_s, upd_s]
        · rw [up2_n _ _ _ (by decide), up2_s, upd_s, v16]
        · rw [lawLine_1 hl hk ek e2, if_pos (show (0 : Int32) ≤ nI a from nI_le (a := 0) (by omega) (by omega)), e4, cl2_some]
      cases o with
      | inl f =>
        refine ⟨.inl f, ko, fun x h hx hE hx1 S => ?_, fun h S e12 => ?_⟩
        · obtain ⟨v, h2, ev, F2, k2, K2, e2⟩ := cls x h hx hE hx1 S
          obtain ⟨h3, e3, F3, L3⟩ := endLine_f (show FLL T t f h2 from k2).1 (nI k) v
          exact ⟨h3, by rw [e2, e3, cl9_some], F2.cLkn.trans F3, L3⟩
        · obtain ⟨h3, r, h4', F3, -, -, -, F4, k4, e4⟩ := mls h S e12
          obtain ⟨rfl, y⟩ := (show r = 0 ∧ h4' 208 12 = nI f from k4)
          exact ⟨0, h4', by rw [e4, if_pos rfl], (F3.mono (fun k j q => by unfold cRn; omega)).trans F4.cRln, rfl, y⟩
      | inr q =>
        obtain ⟨y, cl, rl⟩ := q
        obtain ⟨j1, j2, j3, j4, j5⟩ := ko
        obtain ⟨kd, am, ce, re, L, R⟩ := D
        have hL' : L.length ≤ s := hL
        have hR' : R.length ≤ s := hR
        refine ⟨.inr (y, addD ln k a cl rl (kd, am, ce, re, L, R)), ⟨by omega, j2, H.add hk g3 g4 j5, ?_, ?_⟩, fun x h hx hE hx1 S => ?_, fun h S e12 => ?_⟩
        · show (L ++ cl).length ≤ y
          rw [List.length_append]; omega
        · show (R ++ rl).length ≤ y
          rw [List.length_append]; omega
        · obtain ⟨v, h2, ev, F2, k2, K2, e2⟩ := cls x h hx hE hx1 S
          have S2 : CLS T t y (L ++ cl) h2 := k2
          have e5 := S2.2.2.2.1
          have F3 : FI (fun k j => (k = 13 ∧ j = 0) ∨ ((k = 14 ∨ k = 15 ∨ k = 16) ∧ j = ln)) h2 (up2 (up2 (up2 (up2 h2 14 ln (nI k)) 15 ln v) 16 ln (h2 13 5)) 13 0 (nI (ln + 1))) := (((FI.up2 _ _ (by omega)).trans (FI.up2 _ _ (by omega))).trans (FI.up2 _ _ (by omega))).trans (FI.up2 _ _ (by omega))
          refine ⟨_, by rw [e2, endLine_c hl K2.1, cl9_some], F2.cLkn.trans (F3.mono (fun k j q => by unfold cLn; omega)), ⟨S2.1.fi F3 (fun k j q => by omega), by rw [F3 1 3 (by omega)]; exact S2.2.1, by rw [F3 1 5 (by omega)]; exact S2.2.2.1, by rw [F3 13 5 (by omega)]; exact e5, fun i hi => by rw [F3 17 i (by omega)]; exact S2.2.2.2.2 i hi⟩, by rw [up2_s, upd_s], fun i hi => ?_⟩
          by_cases c : i = ln
          · subst c
            rw [uN_s, uN_s, uN_s]
            refine ⟨?_, fun q => ?_, ?_⟩
            · rw [up2_n _ _ _ (by decide), up2_n _ _ _ (by decide), up2_n _ _ _ (by decide), up2_s, upd_s]
            · rw [up2_n _ _ _ (by decide), up2_n _ _ _ (by decide), up2_s, upd_s]; exact ev q
            · rw [up2_n _ _ _ (by decide), up2_s, upd_s, e5, List.length_append]
          · rw [uN_n _ _ c, uN_n _ _ c, uN_n _ _ (by omega), F3 14 i (by omega), F3 15 i (by omega), F3 16 i (by omega)]
            exact K2.2 i (by omega)
        · obtain ⟨h3, r, h4', F3, v0, v1, v2, F4, k4, e4⟩ := mls h S e12
          obtain ⟨rfl, S4⟩ := (show r = 1 ∧ RLS T t 0 y (R ++ rl) h4' from k4)
          have F5 : FI (fun k j => k = 209 ∧ j = 1183 + 4 * ln + 3) h4' (up2 h4' 209 (1183 + 4 * ln + 3) (h4' 208 16)) := FI.up2 _ _ ⟨rfl, rfl⟩
          have F35 : FI (fun k j => k ≠ 209 ∨ 1183 + 4 * ln ≤ j) h (up2 h4' 209 (1183 + 4 * ln + 3) (h4' 208 16)) := ((F3.mono (fun k j q => by omega)).trans (F4.mono (fun k j q => by unfold cRl at q; omega))).trans (F5.mono (fun k j q => by omega))
          have K0 : LKM ln (kd, am, ce, re, L, R) _ := S.2.2.2.fi F35 (fun k j q => q)
          have hre : re ln = R.length := H.2.2.2.1
          refine ⟨1, _, by rw [e4, if_neg (by decide)], ((F3.mono (fun k j q => by unfold cRn; omega)).trans F4.cRln).trans (F5.mono (fun k j q => by unfold cRn; omega)), rfl, S4.1.fi F5 (fun k j q => by omega), by rw [F5 208 10 (by omega)]; exact S4.2.1, (show RST (R ++ rl) h4' from ⟨S4.2.2.2.1, S4.2.2.2.2⟩).fi F5 (fun k j q => by omega), fun i hi => ?_⟩
          by_cases c : i = ln
          · subst c
            rw [uN_s, uN_s, uN_s, uN_n _ _ (by omega)]
            refine ⟨?_, ?_, ?_, ?_⟩
            · rw [F5 209 _ (by omega), F4 209 _ (fun q => by unfold cRl at q; omega)]; exact v0
            · rw [F5 209 _ (by omega), F4 209 _ (fun q => by unfold cRl at q; omega)]; exact v1
            · rw [F5 209 _ (by omega), F4 209 _ (fun q => by unfold cRl at q; omega), hre]; exact v2
            · rw [up2_s, upd_s, S4.2.2.2.1, List.length_append]
          · rw [uN_n _ _ c, uN_n _ _ c, uN_n _ _ (by omega), uN_n _ _ (by omega)]
            exact K0 i (by omega)
    · refine ⟨.inl f, hf, fun x h hx hE hx1 S => ?_, fun h S e12 => ?_⟩
      · obtain ⟨h1, F1, k1⟩ := kind_c S.1 hx hx1 hE
        rw [hK] at k1
        obtain ⟨e1, S1⟩ := k1
        obtain ⟨h2, e2, F2, L2⟩ := gc _ h1 (by omega) S1
        obtain ⟨h3, e3, F3, L3⟩ := FF.ifs f h2 L2
        obtain ⟨h4', e4, F4, L4⟩ := endLine_f L3.1 (nI k) (-1)
        exact ⟨h4', by rw [takeLine_s, e1, cl2_some, if_neg nk, e2, cl2_some, e3, cl9_some, e4, cl9_some], ((F1.trans F2).trans F3).cLkn.trans F4, L4⟩
      · have ek := kind_m S.1 hs S.2.1 e12
        rw [hK] at ek
        obtain ⟨h2, e2, F2, y12⟩ := gm (up2 h 209 (1183 + 4 * ln) (nI k)) (S.1.fi (F15 h) (fun k j q => by omega)) (by rw [up2_n _ _ _ (by decide)]; exact S.2.1)
        refine ⟨0, _, by rw [lawLine_1 hl hk ek e2, if_neg (show ¬ (0 : Int32) ≤ -1 by decide)], (((F15 h).mono (fun k j q => by unfold cRn; omega)).trans (F2.mono (fun k j q => by unfold c1012 at q; unfold cRn; omega))).trans (FI.up2 _ _ (by unfold cRn; omega)), rfl, by rw [up2_n _ _ _ (by decide)]; exact y12⟩

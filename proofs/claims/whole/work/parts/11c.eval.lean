/-! A line of the law, as the class and as the reference work it off. E: 0 place, 1 tree, 2 rust, 3 ground, 4 gap, 5 day, 6 pinned, 7 laddered -/
theorem lt9_e {α β : Type} (v : α) (k : α → β) : lt9 v k = k v := Eq.trans (Eq.refl (k v)) (Eq.refl (k v))
def partC (E : Nat → Int32) (x : Int32) : Int32 := if x = -6 then E 4 else if x = -5 then E 3 else if x = -4 then E 2 else if x = -3 then E 1 else if x = -2 then E 0 else E 5
def stC (E : Nat → Int32) (x : Int32) (c : Int32 × Int32 × Int32) : Int32 × Int32 × Int32 :=
  if x < 0 then
    if x < -7 then
      if x = -8 then (c.1, c.2.2, 0)
      else if x = -9 then ((c.1 <<< ((1 : Int32) &&& 31)) ||| (if c.2.2 ≤ c.2.1 then 0 else 1), c.2.1, 0)
      else if x = -10 then ((c.1 <<< ((1 : Int32) &&& 31)) ||| (if c.2.1 ≤ c.2.2 then 0 else 1), c.2.1, 0)
      else if x = -11 then ((c.1 <<< ((1 : Int32) &&& 31)) ||| E 6, c.2.1, c.2.2)
      else if x = -12 then ((c.1 <<< ((1 : Int32) &&& 31)) ||| E 7, c.2.1, c.2.2)
      else (fX2_joined x c.1, c.2.1, c.2.2)
    else (c.1, c.2.1, c.2.2 + partC E x)
  else (c.1, c.2.1, c.2.2 + x)
def runC (E : Nat → Int32) (f : Nat → Int32) : Nat → Nat → Int32 × Int32 × Int32 → Int32 × Int32 × Int32
  | 0, _, c => c
  | m + 1, i, c => runC E f m (i + 1) (stC E (f i) c)
theorem runC_add (E : Nat → Int32) (f : Nat → Int32) : ∀ (m1 m2 i : Nat) (c : Int32 × Int32 × Int32), runC E f (m1 + m2) i c = runC E f m2 (i + m1) (runC E f m1 i c) := by
  intro m1
  induction m1 with
  | zero => intro m2 i c; rw [Nat.zero_add]; rfl
  | succ m1 ih =>
    intro m2 i c
    rw [show m1 + 1 + m2 = (m1 + m2) + 1 by omega]
    show runC E f (m1 + m2) (i + 1) (stC E (f i) c) = _
    rw [ih, show i + 1 + m1 = i + (m1 + 1) by omega]
    rfl
theorem runC_cong (E : Nat → Int32) {f g : Nat → Int32} : ∀ (m i : Nat) (c : Int32 × Int32 × Int32), (∀ j, i ≤ j → j < i + m → f j = g j) → runC E f m i c = runC E g m i c := by
  intro m
  induction m with
  | zero => intro i c h; rfl
  | succ m ih =>
    intro i c h
    show runC E f m (i + 1) (stC E (f i) c) = runC E g m (i + 1) (stC E (g i) c)
    rw [h i (Nat.le_refl _) (by omega), ih (i + 1) _ (fun j h1 h2 => h j (by omega) (by omega))]
/-- what the class's sky says of a place -/
def envX (h : Hp) (b : Nat) (p : Nat) (gap : Int32) (pin : Bool) : Nat → Int32 := fun k =>
  if k = 0 then nI p else if k = 1 then h (b + 3) p else if k = 2 then h (b + 4) p else if k = 3 then h (b + 1) p else if k = 4 then gap else if k = 5 then h b 13 else if k = 6 then bI pin else bI (!has9 (h b 4) p)
theorem partOf_x (h : Hp) (b : Nat) {p : Nat} (hp : p < 16) (gap : Int32) (pin : Bool) (x : Int32) : fX2_partOf h b x (nI p) gap = some (partC (envX h b p gap pin) x) := by
  unfold fX2_partOf partC
  simp only [gd_in hp (show 16 < 2 ^ 31 by decide), nI_clamp (show p < 2 ^ 31 by omega)]
  by_cases c6 : x = -6
  · rw [if_pos c6, if_pos c6]; rfl
  · rw [if_neg c6, if_neg c6]
    by_cases c5 : x = -5
    · rw [if_pos c5, if_pos c5]; rfl
    · rw [if_neg c5, if_neg c5]
      by_cases c4 : x = -4
      · rw [if_pos c4, if_pos c4]; rfl
      · rw [if_neg c4, if_neg c4]
        by_cases c3 : x = -3
        · rw [if_pos c3, if_pos c3]; rfl
        · rw [if_neg c3, if_neg c3]
          by_cases c2 : x = -2
          · rw [if_pos c2, if_pos c2]; rfl
          · rw [if_neg c2, if_neg c2]; rfl
theorem lineHolds_B (h : Hp) (b b2 : Nat) (rec : Int32 → Int32 → Int32 → Int32 → Int32 → Int32 → Int32 → Int32 → Option (Int32)) {ln p e i : Nat} (hl : ln < 12) (hp : p < 16) (gap : Int32) (pin : Bool) (he : h (b + 3) ln = nI e) (hi : i < e) (hE : e ≤ 400) (t l s : Int32) :
    BX2_lineHolds_0 h b b2 rec (nI ln) (nI p) gap (bI pin) t l s (nI i) = rec (nI ln) (nI p) gap (bI pin) (stC (envX h b2 p gap pin) (h (b + 4) i) (t, l, s)).1 (stC (envX h b2 p gap pin) (h (b + 4) i) (t, l, s)).2.1 (stC (envX h b2 p gap pin) (h (b + 4) i) (t, l, s)).2.2 (nI (i + 1)) := by
  unfold BX2_lineHolds_0
  rw [gd_in hl (by decide), nI_clamp (show ln < 2 ^ 31 by omega), he, if_neg (nI_ge hi (by omega)), gd_in (show i < 400 by omega) (by decide), nI_clamp (show i < 2 ^ 31 by omega)]
  simp only [partOf_x h b2 hp gap pin, cl9_some, lt9, nI_1]
  generalize h (b + 4) i = x
  unfold stC
  have e7 : envX h b2 p gap pin 7 = bI (!has9 (h b2 4) p) := rfl
  have e6 : envX h b2 p gap pin 6 = bI pin := rfl
  have eb : (ushr (h b2 4) (nI p) &&& 1) = bI (has9 (h b2 4) p) := by rw [and1, has9_ushr _ (by omega), Nat.add_zero]
  rw [eb, e7, e6]
  by_cases a1 : x < 0
  · by_cases a2 : x < -7
    · by_cases a3 : x = -8
      · subst a3; rfl
      · by_cases a4 : x = -9
        · subst a4
          by_cases a9 : s ≤ l
          · simp only [a9, if_true]; rfl
          · simp only [a9, if_false]; rfl
        · by_cases a5 : x = -10
          · subst a5
            by_cases a9 : l ≤ s
            · simp only [a9, if_true]; rfl
            · simp only [a9, if_false]; rfl
          · by_cases a6 : x = -11
            · subst a6
              cases pin <;> rfl
            · by_cases a7 : x = -12
              · subst a7
                cases has9 (h b2 4) p <;> rfl
              · simp only [a1, a2, a3, a4, a5, a6, a7, if_true, if_false]
    · simp only [a1, a2, if_true, if_false]
  · simp only [a1, if_false]
theorem lineHolds_L (h : Hp) (b b2 : Nat) {ln p e : Nat} (hl : ln < 12) (hp : p < 16) (gap : Int32) (pin : Bool) (he : h (b + 3) ln = nI e) (hE : e ≤ 400) : ∀ (m n i : Nat) (c : Int32 × Int32 × Int32), i + m = e → m < n → LX2_lineHolds h b b2 n (nI ln) (nI p) gap (bI pin) c.1 c.2.1 c.2.2 (nI i) = some (bI (has9 (runC (envX h b2 p gap pin) (h (b + 4)) m i c).1 0)) := by
  intro m
  induction m with
  | zero =>
    intro n i c hi hn
    obtain ⟨n, rfl⟩ : ∃ k, n = k + 1 := ⟨n - 1, by omega⟩
    obtain rfl : i = e := by omega
    rw [LX2_lineHolds]
    unfold BX2_lineHolds_0
    rw [gd_in hl (by decide), nI_clamp (show ln < 2 ^ 31 by omega), he, if_pos (nI_le (Nat.le_refl _) (by omega)), and1]
    show _ = some (bI (has9 c.1 0))
    cases has9 c.1 0 <;> rfl
  | succ m ih =>
    intro n i c hi hn
    obtain ⟨n, rfl⟩ : ∃ k, n = k + 1 := ⟨n - 1, by omega⟩
    rw [LX2_lineHolds, lineHolds_B h b b2 _ hl hp gap pin he (by omega) hE, ih n (i + 1) _ (by omega) (by omega)]
    rfl
theorem lineHolds_x (h : Hp) (b b2 : Nat) {ln p c0 e : Nat} (hl : ln < 12) (hp : p < 16) (gap : Int32) (pin : Bool) (he : h (b + 3) ln = nI e) (hE : e ≤ 400) (h0 : ln = 0 → c0 = 0) (h1 : 0 < ln → h (b + 3) (ln - 1) = nI c0) (hc : c0 ≤ e) : fX2_lineHolds h b b2 (nI ln) (nI p) gap (bI pin) = some (bI (has9 (runC (envX h b2 p gap pin) (h (b + 4)) (e - c0) c0 (1, 0, 0)).1 0)) := by
  unfold fX2_lineHolds
  by_cases c : ln = 0
  · subst c
    obtain rfl := h0 rfl
    rw [if_pos nI_0]
    exact lineHolds_L h b b2 hl hp gap pin he hE (e - 0) big 0 (1, 0, 0) (by omega) (by unfold big; omega)
  · rw [if_neg (fun h2 => c ((nI_n0 (by omega)).mp h2)), show (1 : Int32) = nI 1 from rfl, nI_subN (by omega), gd_in (by omega) (by decide), nI_clamp (by omega), h1 (by omega)]
    exact lineHolds_L h b b2 hl hp gap pin he hE (e - c0) big c0 (1, 0, 0) (by omega) (by unfold big; omega)
/-! the reference -/
def factM (E : Nat → Int32) (x n : Int32) : Int32 := if x = 0 then E 0 else if x = 1 then E 1 else if x = 2 then E 2 else if x = 3 then E 3 else if x = 4 then E 4 else if x = 5 then E 5 else if x = 6 then E 6 else if x = 7 then E 7 else n
def joinM (x a b : Int32) : Int32 := if x = 9 then a + b else if x = 10 then (if b ≤ a then 0 else 1) else if x = 11 then (if a ≤ b then 0 else 1) else if x = 13 then (if a + b = 2 then 1 else 0) else (if a + b ≤ 0 then 0 else 1)
def stR (E : Nat → Int32) (x n : Int32) (st : List Int32) : Option (List Int32) :=
  if 8 < x then
    if x = 12 then (match st with | [] => none | v :: r => some ((1 - v) :: r))
    else (match st with | b :: a :: r => some (joinM x a b :: r) | _ => none)
  else some (factM E x n :: st)
def runR (E : Nat → Int32) (f : Nat → Int32) : Nat → Nat → List Int32 → Option (List Int32)
  | 0, _, st => some st
  | m + 1, i, st => (stR E (f (2 * i)) (f (2 * i + 1)) st).bind (runR E f m (i + 1))
theorem runR_add (E : Nat → Int32) (f : Nat → Int32) : ∀ (m1 m2 i : Nat) (st : List Int32), runR E f (m1 + m2) i st = (runR E f m1 i st).bind (runR E f m2 (i + m1)) := by
  intro m1
  induction m1 with
  | zero => intro m2 i st; rw [Nat.zero_add]; rfl
  | succ m1 ih =>
    intro m2 i st
    rw [show m1 + 1 + m2 = (m1 + m2) + 1 by omega]
    show (stR E (f (2 * i)) (f (2 * i + 1)) st).bind (runR E f (m1 + m2) (i + 1)) = ((stR E (f (2 * i)) (f (2 * i + 1)) st).bind (runR E f m1 (i + 1))).bind _
    cases stR E (f (2 * i)) (f (2 * i + 1)) st with
    | none => rfl
    | some s1 =>
      show runR E f (m1 + m2) (i + 1) s1 = (runR E f m1 (i + 1) s1).bind _
      rw [ih, show i + 1 + m1 = i + (m1 + 1) by omega]
theorem runR_cong (E : Nat → Int32) {f g : Nat → Int32} : ∀ (m i : Nat) (st : List Int32), (∀ j, 2 * i ≤ j → j < 2 * (i + m) → f j = g j) → runR E f m i st = runR E g m i st := by
  intro m
  induction m with
  | zero => intro i st h; rfl
  | succ m ih =>
    intro i st h
    show (stR E (f (2 * i)) (f (2 * i + 1)) st).bind (runR E f m (i + 1)) = (stR E (g (2 * i)) (g (2 * i + 1)) st).bind (runR E g m (i + 1))
    rw [h (2 * i) (Nat.le_refl _) (by omega), h (2 * i + 1) (by omega) (by omega)]
    congr 1
    funext st'
    exact ih (i + 1) st' (fun j h1 h2 => h j (by omega) (by omega))
def resR : Option (List Int32) → Bool
  | some [] => true
  | some [v] => decide (v = 1)
  | _ => false
def envM (w : Nat → Int32) (T : Int32) (p : Nat) : Nat → Int32 := fun k =>
  if k = 0 then nI p else if k = 1 then w (46 + p) else if k = 2 then (if has9 (w 7) p && has9 T p then w (62 + p) else 0) else if k = 3 then w (14 + p) else if k = 4 then nI (gap9 T p) else if k = 5 then w 3 else if k = 6 then bI (has9 T p) else bI (!has9 (w 13) p)
theorem rustOf_m (h : Hp) {T : Int32} (hT : h 208 18 = T) {p : Nat} (hp : p < 16) : fX12_rustOf h (nI p) = some (if has9 (h 209 7) p && has9 T p then h 209 (62 + p) else 0) := by
  unfold fX12_rustOf fX12_hasPin fX12_pins
  rw [hT, has_m _ (by omega), has_m _ (by omega), show (62 : Int32) = nI 62 from rfl, nI_add, gd_in (by omega) (by decide), nI_clamp (by omega)]
  cases has9 (h 209 7) p <;> cases has9 T p <;> rfl
theorem factOf_m (h : Hp) {T : Int32} (hT : h 208 18 = T) (hS : S16 T) {p : Nat} (hp : p < 16) (x n : Int32) : fX12_factOf h x n (nI p) = some (factM (envM (h 209) T p) x n) := by
  unfold fX12_factOf factM
  rw [rustOf_m h hT hp, gapOf_m h hT hS hp, cl9_some, cl9_some, show (46 : Int32) = nI 46 from rfl, show (14 : Int32) = nI 14 from rfl, nI_add, nI_add, gd_in (by omega) (by decide), gd_in (by omega) (by decide), nI_clamp (by omega), nI_clamp (by omega), hT, has_m _ (by omega)]
  unfold fX12_hasLadder
  rw [has_m _ (by omega)]
  by_cases c0 : x = 0
  · rw [if_pos c0, if_pos c0]; rfl
  · rw [if_neg c0, if_neg c0]
    by_cases c1 : x = 1
    · rw [if_pos c1, if_pos c1]; rfl
    · rw [if_neg c1, if_neg c1]
      by_cases c2 : x = 2
      · rw [if_pos c2, if_pos c2]; rfl
      · rw [if_neg c2, if_neg c2]
        by_cases c3 : x = 3
        · rw [if_pos c3, if_pos c3]; rfl
        · rw [if_neg c3, if_neg c3]
          by_cases c4 : x = 4
          · rw [if_pos c4, if_pos c4]; rfl
          · rw [if_neg c4, if_neg c4]
            by_cases c5 : x = 5
            · rw [if_pos c5, if_pos c5]; rfl
            · rw [if_neg c5, if_neg c5]
              by_cases c6 : x = 6
              · rw [if_pos c6, if_pos c6]
                show _ = some (bI (has9 T p))
                cases has9 T p <;> rfl
              · rw [if_neg c6, if_neg c6]
                by_cases c7 : x = 7
                · rw [if_pos c7, if_pos c7]
                  show _ = some (bI (!has9 (h 209 13) p))
                  cases has9 (h 209 13) p <;> rfl
                · rw [if_neg c7, if_neg c7]
def VA (v : Nat → Int32) : List Int32 → Prop
  | [] => True
  | a :: r => v r.length = a ∧ VA v r
theorem VA.upd {v : Nat → Int32} {k : Nat} {x : Int32} : ∀ {st : List Int32}, st.length ≤ k → VA v st → VA (upd v k x) st
  | [], _, _ => trivial
  | a :: r, h, hv => ⟨by
      have h1 : (a :: r).length = r.length + 1 := rfl
      unfold Jvm.Pilot.CPinnedSkyLaw_law_r9688_3432f8.upd
      rw [if_neg (by omega)]; exact hv.1, VA.upd (by have h1 : (a :: r).length = r.length + 1 := rfl; omega) hv.2⟩
theorem nI_m1 (n : Nat) : nI (n + 1) + (-1) = nI n := by
  rw [← Int32.sub_eq_add_neg]
  exact nI_pred n
theorem holdsLine_B (rec : Hp → Int32 → Int32 → Int32 → Int32 → Option (Int32 × Hp)) (h : Hp) {T : Int32} (hT : h 208 18 = T) (hS : S16 T) {p k e i : Nat} (hp : p < 16) (hk : k + 3 < 2031) (he : h 209 (k + 3) = nI e) (hi : i < e) (hE : e ≤ 400) {st st' : List Int32} (hst : stR (envM (h 209) T p) (h 209 (382 + 2 * i)) (h 209 (382 + 2 * i + 1)) st = some st') (hv : VA (h 216) st) (hl : st.length < 400) :
    ∃ v' : Nat → Int32, VA v' st' ∧ st'.length ≤ st.length + 1 ∧ BX12_holdsLine_0 rec h (nI p) (nI st.length) (nI k) (nI i) = rec (upA h 216 v') (nI p) (nI st'.length) (nI k) (nI (i + 1)) := by
  have e1 : (382 : Int32) + (2 : Int32) * nI i = nI (382 + 2 * i) := by rw [i_382, i_2, nI_mul, nI_add]
  have e3 : nI k + 3 = nI (k + 3) := by rw [i_3, nI_add]
  unfold BX12_holdsLine_0
  simp only [lt9_e, factOf_m h hT hS hp]
  rw [e3, gd_in hk (by decide), nI_clamp (show k + 3 < 2 ^ 31 by omega), he, if_neg (nI_ge hi (by omega)), e1, nI_1 (382 + 2 * i), gd_in (show 382 + 2 * i < 2031 by omega) (by decide), nI_clamp (show 382 + 2 * i < 2 ^ 31 by omega), gd_in (show 382 + 2 * i + 1 < 2031 by omega) (by decide), nI_clamp (show 382 + 2 * i + 1 < 2 ^ 31 by omega), nI_1 i]
  generalize h 209 (382 + 2 * i) = x at hst ⊢
  generalize h 209 (382 + 2 * i + 1) = nn at hst ⊢
  unfold stR at hst
  by_cases a1 : 8 < x
  · rw [if_pos a1] at hst ⊢
    by_cases a2 : x = 12
    · rw [if_pos a2] at hst ⊢
      cases st with
      | nil => cases hst
      | cons v r =>
        cases hst
        have hl1 : (v :: r).length = r.length + 1 := rfl
        rw [hl1] at hl ⊢
        rw [nI_pred, gd_in (show r.length < 400 by omega) (by decide), gd_in (show r.length < 400 by omega) (by decide), nI_clamp (show r.length < 2 ^ 31 by omega), hv.1]
        exact ⟨Jvm.Pilot.CPinnedSkyLaw_law_r9688_3432f8.upd (h 216) r.length (1 - v), ⟨if_pos rfl, VA.upd (Nat.le_refl _) hv.2⟩, by simp, rfl⟩
    · rw [if_neg a2] at hst ⊢
      match st, hst, hv, hl with
      | b :: a :: r, hst, hv, hl =>
        cases hst
        have hl1 : (b :: a :: r).length = r.length + 2 := rfl
        rw [hl1] at hl ⊢
        have hb : h 216 (r.length + 1) = b := hv.1
        have ha : h 216 r.length = a := hv.2.1
        simp only [show r.length + 2 = (r.length + 1) + 1 from rfl, nI_m1, nI_pred, gd_in (show r.length < 400 by omega) (show 400 < 2 ^ 31 by decide), gd_in (show r.length + 1 < 400 by omega) (show 400 < 2 ^ 31 by decide), nI_clamp (show r.length < 2 ^ 31 by omega), nI_clamp (show r.length + 1 < 2 ^ 31 by omega), ha, hb]
        refine ⟨Jvm.Pilot.CPinnedSkyLaw_law_r9688_3432f8.upd (h 216) r.length (joinM x a b), ⟨if_pos rfl, VA.upd (Nat.le_refl _) hv.2.2⟩, by simp, ?_⟩
        have fin : ∀ v : Int32, v = joinM x a b → rec (up2 h 216 r.length v) (nI p) (nI (r.length + 1)) (nI k) (nI (i + 1)) = rec (upA h 216 (Jvm.Pilot.CPinnedSkyLaw_law_r9688_3432f8.upd (h 216) r.length (joinM x a b))) (nI p) (nI (joinM x a b :: r).length) (nI k) (nI (i + 1)) := fun v e => by rw [e]; rfl
        by_cases c9 : x = 9
        · have h10 : ¬ x = 10 := by rw [c9]; decide
          have h11 : ¬ x = 11 := by rw [c9]; decide
          have h13 : ¬ x = 13 := by rw [c9]; decide
          rw [if_neg h10, if_neg h11, if_neg h13]
          by_cases q : a + b ≤ 0
          · rw [if_pos q, cl9_some, if_pos c9]; exact fin _ (by unfold joinM; rw [if_pos c9])
          · rw [if_neg q, cl9_some, if_pos c9]; exact fin _ (by unfold joinM; rw [if_pos c9])
        · by_cases c10 : x = 10
          · rw [if_pos c10]
            by_cases q : b ≤ a
            · rw [if_pos q, cl9_some, if_neg c9, if_pos rfl]; exact fin _ (by unfold joinM; rw [if_neg c9, if_pos c10, if_pos q])
            · rw [if_neg q, cl9_some, if_neg c9, if_neg (by decide)]; exact fin _ (by unfold joinM; rw [if_neg c9, if_pos c10, if_neg q])
          · rw [if_neg c10]
            by_cases c11 : x = 11
            · rw [if_pos c11]
              by_cases q : a ≤ b
              · rw [if_pos q, cl9_some, if_neg c9, if_pos rfl]; exact fin _ (by unfold joinM; rw [if_neg c9, if_neg c10, if_pos c11, if_pos q])
              · rw [if_neg q, cl9_some, if_neg c9, if_neg (by decide)]; exact fin _ (by unfold joinM; rw [if_neg c9, if_neg c10, if_pos c11, if_neg q])
            · rw [if_neg c11]
              by_cases c13 : x = 13
              · rw [if_pos c13]
                by_cases q : a + b = 2
                · rw [if_pos q, cl9_some, if_neg c9, if_neg (by decide)]; exact fin _ (by unfold joinM; rw [if_neg c9, if_neg c10, if_neg c11, if_pos c13, if_pos q])
                · rw [if_neg q, cl9_some, if_neg c9, if_pos rfl]; exact fin _ (by unfold joinM; rw [if_neg c9, if_neg c10, if_neg c11, if_pos c13, if_neg q])
              · rw [if_neg c13]
                by_cases q : a + b ≤ 0
                · rw [if_pos q, cl9_some, if_neg c9, if_pos rfl]; exact fin _ (by unfold joinM; rw [if_neg c9, if_neg c10, if_neg c11, if_neg c13, if_pos q])
                · rw [if_neg q, cl9_some, if_neg c9, if_neg (by decide)]; exact fin _ (by unfold joinM; rw [if_neg c9, if_neg c10, if_neg c11, if_neg c13, if_neg q])
  · rw [if_neg a1] at hst ⊢
    cases hst
    rw [cl9_some, gd_in hl (by decide), nI_clamp (show st.length < 2 ^ 31 by omega), nI_1]
    exact ⟨Jvm.Pilot.CPinnedSkyLaw_law_r9688_3432f8.upd (h 216) st.length (factM (envM (h 209) T p) x nn), ⟨if_pos rfl, VA.upd (Nat.le_refl _) hv⟩, by simp, rfl⟩
theorem VA_last {v : Nat → Int32} : ∀ {st : List Int32} {x : Int32}, VA v (st ++ [x]) → v 0 = x
  | [], x, h => h.1
  | a :: r, x, h => VA_last (st := r) h.2
theorem holdsLine_L {T : Int32} (hS : S16 T) {w : Nat → Int32} {p k e : Nat} (hp : p < 16) (hk : k + 3 < 2031) (he : w (k + 3) = nI e) (hE : e ≤ 400) : ∀ (m n i : Nat) (h : Hp) (st : List Int32) (r : Option (List Int32)), h 209 = w → h 208 18 = T → i + m = e → m < n → VA (h 216) st → st.length + m ≤ 400 → runR (envM w T p) (fun j => w (382 + j)) m i st = r → (r = some [] ∨ ∃ v, r = some [v]) →
    ∃ v' : Nat → Int32, LX12_holdsLine n h (nI p) (nI st.length) (nI k) (nI i) = some (bI (resR r), upA h 216 v') := by
  intro m
  induction m with
  | zero =>
    intro n i h st r hw hT hi hn hv hl hr h1
    obtain ⟨n, rfl⟩ : ∃ k, n = k + 1 := ⟨n - 1, by omega⟩
    obtain rfl : i = e := by omega
    have hr2 : some st = r := hr
    subst hr2
    have e3 : nI k + 3 = nI (k + 3) := by rw [i_3, nI_add]
    refine ⟨h 216, ?_⟩
    have hh : upA h 216 (h 216) = h := by funext a; unfold upA; by_cases c : a = 216 <;> simp [c]
    rw [hh, LX12_holdsLine]
    unfold BX12_holdsLine_0
    rw [e3, gd_in hk (by decide), nI_clamp (show k + 3 < 2 ^ 31 by omega), hw, he, if_pos (nI_le (Nat.le_refl _) (by omega))]
    rcases h1 with h1 | ⟨v, h1⟩
    · cases h1; rfl
    · cases h1
      have hv1 : h 216 0 = v := hv.1
      rw [if_neg (show ¬ nI [v].length = 0 from by show ¬ nI 1 = 0; decide), hv1]
      show _ = some (bI (decide (v = 1)), h)
      by_cases c : v = 1
      · rw [if_pos c]; simp [c]; rfl
      · rw [if_neg c]; simp [c]; rfl
  | succ m ih =>
    intro n i h st r hw hT hi hn hv hl hr h1
    obtain ⟨n, rfl⟩ : ∃ k, n = k + 1 := ⟨n - 1, by omega⟩
    have hr2 : (stR (envM w T p) (w (382 + 2 * i)) (w (382 + 2 * i + 1)) st).bind (runR (envM w T p) (fun j => w (382 + j)) m (i + 1)) = r := hr
    cases hs : stR (envM w T p) (w (382 + 2 * i)) (w (382 + 2 * i + 1)) st with
    | none =>
      rw [hs] at hr2
      subst hr2
      rcases h1 with h1 | ⟨v, h1⟩ <;> cases h1
    | some st' =>
      rw [hs] at hr2
      obtain ⟨v', h2, h3, h4⟩ := holdsLine_B (LX12_holdsLine n) h hT hS hp hk (by rw [hw]; exact he) (show i < e by omega) hE (st := st) (st' := st') (by rw [hw]; exact hs) hv (by omega)
      rw [LX12_holdsLine, h4]
      obtain ⟨v2, h5⟩ := ih n (i + 1) (upA h 216 v') st' r (by rw [← hw]; rfl) (by rw [← hT]; rfl) (by omega) (by omega) h2 (by omega) hr2 h1
      refine ⟨v2, ?_⟩
      rw [h5]
      have : upA (upA h 216 v') 216 v2 = upA h 216 v2 := by funext a; unfold upA; by_cases c : a = 216 <;> simp [c]
      rw [this]
theorem holdsLine_m {T : Int32} (hS : S16 T) {h : Hp} (hT : h 208 18 = T) {ln p r0 e : Nat} (hl : ln < 12) (hp : p < 16) (h0 : h 209 (334 + 4 * ln + 2) = nI r0) (he : h 209 (334 + 4 * ln + 3) = nI e) (hE : e ≤ 400) (hr0 : r0 ≤ e) {r : Option (List Int32)} (hr : runR (envM (h 209) T p) (fun j => h 209 (382 + j)) (e - r0) r0 [] = r) (h1 : r = some [] ∨ ∃ v, r = some [v]) : ∃ v' : Nat → Int32, fX12_holdsLine h (nI ln) (nI p) = some (bI (resR r), upA h 216 v') := by
  unfold fX12_holdsLine
  have e1 : (334 : Int32) + (4 : Int32) * nI ln = nI (334 + 4 * ln) := by rw [i_334, i_4, nI_mul, nI_add]
  have e2 : nI (334 + 4 * ln) + 2 = nI (334 + 4 * ln + 2) := by rw [i_2, nI_add]
  rw [e1]
  simp only [lt9]
  rw [e2, gd_in (by omega) (by decide), nI_clamp (by omega), h0]
  exact holdsLine_L hS hp (show 334 + 4 * ln + 3 < 2031 by omega) he hE (e - r0) big r0 h [] r rfl hT (by omega) (by unfold big; omega) trivial (by simp; omega) hr h1

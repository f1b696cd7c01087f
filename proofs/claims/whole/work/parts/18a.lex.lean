/-! The texts: blanks and words, as both sides read them. -/
def scF (f : Nat → Bool) : Nat → Nat → Nat
  | 0, i => i
  | m + 1, i => if f i then scF f m (i + 1) else i
theorem scF_s (f : Nat → Bool) (m i : Nat) : scF f (m + 1) i = if f i then scF f m (i + 1) else i := rfl
def scn (f : Nat → Bool) (t a : Nat) : Nat := scF f (t - a) a
theorem scn_end {f : Nat → Bool} {t a : Nat} (h : t ≤ a) : scn f t a = a := by unfold scn; rw [show t - a = 0 by omega]; rfl
theorem scn_go {f : Nat → Bool} {t a : Nat} (h : a < t) (hf : f a = true) : scn f t a = scn f t (a + 1) := by
  unfold scn
  rw [show t - a = (t - (a + 1)) + 1 by omega, scF_s, hf, if_pos rfl]
theorem scn_no {f : Nat → Bool} {t a : Nat} (h : a < t) (hf : f a = false) : scn f t a = a := by
  unfold scn
  rw [show t - a = (t - (a + 1)) + 1 by omega, scF_s, hf, if_neg (by decide)]
theorem scn_spec (f : Nat → Bool) (t : Nat) : ∀ m a, a + m = t → a ≤ scn f t a ∧ scn f t a ≤ t ∧ (∀ i, a ≤ i → i < scn f t a → f i = true) ∧ (scn f t a < t → f (scn f t a) = false) := by
  intro m
  induction m with
  | zero =>
    intro a ha
    rw [scn_end (by omega)]
    exact ⟨Nat.le_refl _, by omega, fun i h1 h2 => by omega, fun h => by omega⟩
  | succ m ih =>
    intro a ha
    cases hf : f a with
    | true =>
      obtain ⟨q1, q2, q3, q4⟩ := ih (a + 1) (by omega)
      rw [scn_go (by omega) hf]
      refine ⟨by omega, q2, fun i h1 h2 => ?_, q4⟩
      by_cases c : i = a
      · rw [c]; exact hf
      · exact q3 i (by omega) h2
    | false =>
      rw [scn_no (by omega) hf]
      exact ⟨Nat.le_refl _, by omega, fun i h1 h2 => by omega, fun _ => hf⟩
theorem scn_ge {f : Nat → Bool} {t a : Nat} (h : a ≤ t) : a ≤ scn f t a := (scn_spec f t (t - a) a (by omega)).1
theorem scn_le {f : Nat → Bool} {t a : Nat} (h : a ≤ t) : scn f t a ≤ t := (scn_spec f t (t - a) a (by omega)).2.1
theorem scn_all {f : Nat → Bool} {t a : Nat} (h : a ≤ t) {i : Nat} (h1 : a ≤ i) (h2 : i < scn f t a) : f i = true := (scn_spec f t (t - a) a (by omega)).2.2.1 i h1 h2
theorem scn_stop {f : Nat → Bool} {t a : Nat} (h : a ≤ t) (h1 : scn f t a < t) : f (scn f t a) = false := (scn_spec f t (t - a) a (by omega)).2.2.2 h1
theorem scn_id {f : Nat → Bool} {t a : Nat} (h : a ≤ t) : scn f t (scn f t a) = scn f t a := by
  have := scn_le (f := f) h
  by_cases c : scn f t a = t
  · rw [c]; exact scn_end (Nat.le_refl _)
  · exact scn_no (by omega) (scn_stop h (by omega))
def spT (T : Nat → Int32) (i : Nat) : Bool := decide (T i = 32)
def rgT (a b : Int32) (T : Nat → Int32) (i : Nat) : Bool := !(decide (T i < a)) && !(decide (b < T i))
abbrev ltT : (Nat → Int32) → Nat → Bool := rgT 97 122
abbrev dgT : (Nat → Int32) → Nat → Bool := rgT 48 57
def skp (T : Nat → Int32) (t a : Nat) : Nat := scn (spT T) t a
def wnd (T : Nat → Int32) (t a : Nat) : Nat := scn (ltT T) t a
def dnd (T : Nat → Int32) (t a : Nat) : Nat := scn (dgT T) t a
theorem skp_le {T : Nat → Int32} {t a : Nat} (h : a ≤ t) : skp T t a ≤ t := scn_le h
theorem skp_ge {T : Nat → Int32} {t a : Nat} (h : a ≤ t) : a ≤ skp T t a := scn_ge h
theorem skp_id {T : Nat → Int32} {t a : Nat} (h : a ≤ t) : skp T t (skp T t a) = skp T t a := scn_id h
theorem wnd_le {T : Nat → Int32} {t a : Nat} (h : a ≤ t) : wnd T t a ≤ t := scn_le h
theorem wnd_ge {T : Nat → Int32} {t a : Nat} (h : a ≤ t) : a ≤ wnd T t a := scn_ge h
theorem dnd_le {T : Nat → Int32} {t a : Nat} (h : a ≤ t) : dnd T t a ≤ t := scn_le h
theorem dnd_ge {T : Nat → Int32} {t a : Nat} (h : a ≤ t) : a ≤ dnd T t a := scn_ge h
theorem rg_n {a b : Nat} (hb : b < 2 ^ 20) (hab : a ≤ b) {T : Nat → Int32} {i : Nat} (h : rgT (nI a) (nI b) T i = true) : ∃ k, a ≤ k ∧ k ≤ b ∧ T i = nI k := by
  unfold rgT at h
  rw [Bool.and_eq_true, Bool.not_eq_true', Bool.not_eq_true', decide_eq_false_iff_not, decide_eq_false_iff_not] at h
  rcases pk_ix (T i) (n := b + 1) (by omega) with c | c | ⟨n, hn, e⟩
  · exfalso
    apply h.1
    rw [Int32.lt_iff_toInt_lt, nI_toInt (by omega)]
    rw [Int32.lt_iff_toInt_lt] at c
    have : (0 : Int32).toInt = 0 := rfl
    omega
  · exfalso
    apply h.2
    rw [Int32.lt_iff_toInt_lt, nI_toInt (by omega)]
    rw [Int32.le_iff_toInt_le, nI_toInt (by omega)] at c
    omega
  · refine ⟨n, ?_, by omega, e⟩
    rcases Nat.lt_or_ge n a with q | q
    · exact absurd (by rw [e]; exact nI_lt q (by omega)) h.1
    · exact q
theorem and255 {k : Nat} (h : k ≤ 255) : nI k &&& 255 = nI k := by
  rw [show (255 : Int32) = nI 255 from rfl, nI_and]
  congr 1
  rw [show (255 : Nat) = 2 ^ 8 - 1 from rfl, Nat.and_two_pow_sub_one_eq_mod]
  omega
/-- the class's tape while a call reads it -/
def PCS (T : Nat → Int32) (t : Nat) (h : Hp) : Prop := t ≤ 400 ∧ h 1 2 = nI t ∧ ∀ j, j < t → h 2 j = T j ∧ byteR (T j)
def c134 (k j : Nat) : Prop := k = 1 ∧ (j = 3 ∨ j = 4)
theorem PCS.fi {T : Nat → Int32} {t : Nat} {h h' : Hp} {C : Nat → Nat → Prop} (P : PCS T t h) (F : FI C h h') (c : ∀ k j, C k j → (k = 1 ∧ j ≠ 2) ∨ (k ≠ 1 ∧ k ≠ 2)) : PCS T t h' := by
  refine ⟨P.1, ?_, fun j hj => ?_⟩
  · rw [F 1 2 (fun q => by have := c _ _ q; omega)]; exact P.2.1
  · rw [F 2 j (fun q => by have := c _ _ q; omega)]; exact P.2.2 j hj
theorem skip_x {T : Nat → Int32} {t : Nat} {h : Hp} (P : PCS T t h) {x : Nat} (hx : x ≤ t) (e : h 1 3 = nI x) : ∃ h', fX9_skipBlanks h = some h' ∧ FI (fun k j => k = 1 ∧ j = 3) h h' ∧ h' 1 3 = nI (skp T t x) := by
  have ht := P.1
  obtain ⟨r, e', q1, q2⟩ := loopI (σ := Hp) (ρ := Hp) t x (fun n _ s => LX9_skipBlanks n s) (fun i s => FI (fun k j => k = 1 ∧ j = 3) h s ∧ s 1 3 = nI i ∧ skp T t i = skp T t x) (fun r => FI (fun k j => k = 1 ∧ j = 3) h r ∧ r 1 3 = nI (skp T t x)) h hx (by omega) ⟨FI.refl _ _, e, rfl⟩ (by
    rintro n i s hi ⟨a1, a2, a3⟩
    have P1 := P.fi a1 (fun k j q => by omega)
    try dsimp only
    rw [LX9_skipBlanks, BX9_skipBlanks_0, P1.2.1, a2, if_neg (nI_ge hi (by omega)), gd_in (show i < 400 by omega) (by decide), nI_clamp (by omega), (P1.2.2 i hi).1]
    by_cases c : T i = 32
    · left
      refine ⟨up2 s 1 3 (nI (i + 1)), ⟨a1.trans (FI.up2 _ _ ⟨rfl, rfl⟩), by rw [up2_s, upd_s], ?_⟩, ?_⟩
      · rw [← a3]; exact (scn_go hi (decide_eq_true c)).symm
      · rw [if_pos c, cl9_some, if_pos rfl, nI_1]; rfl
    · right
      refine ⟨s, by rw [if_neg c, cl9_some, if_neg (by decide)], a1, ?_⟩
      rw [a2, ← a3]; exact congrArg nI (scn_no hi (decide_eq_false c)).symm) (by
    rintro n s ⟨a1, a2, a3⟩
    have P1 := P.fi a1 (fun k j q => by omega)
    refine ⟨s, ?_, a1, ?_⟩
    · try dsimp only
      rw [LX9_skipBlanks, BX9_skipBlanks_0, P1.2.1, a2, if_pos (nI_le (Nat.le_refl _) (by omega)), cl9_some, if_neg (by decide)]
    · rw [a2, ← a3]; exact congrArg nI (scn_end (Nat.le_refl _)).symm)
  exact ⟨r, e', q1, q2⟩
theorem wordLength_x {T : Nat → Int32} {t : Nat} {h : Hp} (P : PCS T t h) {x : Nat} (hx : x ≤ t) (e : h 1 3 = nI x) : fX9_wordLength h = some (nI (wnd T t x - x)) := by
  have ht := P.1
  unfold fX9_wordLength
  rw [e]
  obtain ⟨r, e', er⟩ := loopI (σ := Unit) (ρ := Int32) t x (fun n i _ => LX9_wordLength h n (nI i)) (fun i _ => wnd T t i = wnd T t x) (fun r => r = nI (wnd T t x - x)) () hx (by omega) rfl (by
    rintro n i - hi a3
    try dsimp only
    rw [LX9_wordLength, BX9_wordLength_0, P.2.1, if_neg (nI_ge hi (by omega)), gd_in (show i < 400 by omega) (by decide), gd_in (show i < 400 by omega) (by decide), nI_clamp (by omega), (P.2.2 i hi).1]
    cases c : ltT T i with
    | true =>
      left
      refine ⟨(), by rw [← a3]; exact (scn_go hi c).symm, ?_⟩
      unfold ltT rgT at c
      rw [Bool.and_eq_true, Bool.not_eq_true', Bool.not_eq_true', decide_eq_false_iff_not, decide_eq_false_iff_not] at c
      rw [if_neg c.1, if_neg c.2, cl9_some, if_pos rfl, nI_1]; rfl
    | false =>
      right
      have st : wnd T t x = i := by rw [← a3]; exact scn_no hi c
      have hxi := wnd_ge (T := T) hx
      refine ⟨_, ?_, rfl⟩
      unfold ltT rgT at c
      rw [e, st]
      by_cases c1 : T i < 97
      · rw [if_pos c1, cl9_some, if_neg (by decide), nI_subN (by omega)]
      · by_cases c2 : 122 < T i
        · rw [if_neg c1, if_pos c2, cl9_some, if_neg (by decide), nI_subN (by omega)]
        · rw [decide_eq_false c1, decide_eq_false c2] at c; cases c) (by
    rintro n - a3
    try dsimp only
    have st : wnd T t x = t := by rw [← a3]; exact scn_end (Nat.le_refl _)
    refine ⟨_, ?_, rfl⟩
    rw [LX9_wordLength, BX9_wordLength_0, P.2.1, if_pos (nI_le (Nat.le_refl _) (by omega)), cl9_some, if_neg (by decide), e, st, nI_subN hx])
  subst er
  exact e'
def okW (w : List Int32) : Bool := decide (w.length < 20) && w.all (fun c => decide (jch c = c))
theorem okW_len {w : List Int32} (h : okW w = true) : w.length < 20 := by
  unfold okW at h
  rw [Bool.and_eq_true] at h
  exact of_decide_eq_true h.1
theorem okW_j {w : List Int32} (h : okW w = true) {i : Nat} (hi : i < w.length) : jch (w.getD i 0) = w.getD i 0 := by
  unfold okW at h
  rw [Bool.and_eq_true] at h
  have := List.all_eq_true.mp h.2 (w.getD i 0) (by rw [List.getD_eq_getElem?_getD, List.getElem?_eq_getElem hi]; exact List.getElem_mem hi)
  exact of_decide_eq_true this
def isW (T : Nat → Int32) (t : Nat) (w : List Int32) (s : Nat) : Bool := decide (wnd T t s - s = w.length) && allB (fun i => decide (T (s + i) = w.getD i 0)) w.length
theorem takeWord_x {T : Nat → Int32} {t : Nat} {h : Hp} (P : PCS T t h) {x : Nat} (hx : x ≤ t) (e : h 1 3 = nI x) (e5 : h 1 5 = -1) {w : List Int32} (hw : okW w = true) : ∃ h', fX9_takeWord h w = some (bI (isW T t w (skp T t x)), h') ∧ FI c134 h h' ∧ (isW T t w (skp T t x) = true → h' 1 3 = nI (wnd T t (skp T t x)) ∧ h' 1 4 = nI (skp T t x)) ∧ (isW T t w (skp T t x) = false → h' 1 3 = nI (skp T t x)) := by
  have ht := P.1
  have hwl := okW_len hw
  obtain ⟨h1, e1, F1, x1⟩ := skip_x P hx e
  have F1' : FI c134 h h1 := F1.mono (fun k j q => by unfold c134; omega)
  have P1 := P.fi F1 (fun k j q => by omega)
  have hs := skp_le (T := T) hx
  have hg := wnd_ge (T := T) hs
  have hl := wnd_le (T := T) hs
  generalize hS : skp T t x = s at x1 hs hg hl
  unfold fX9_takeWord
  rw [e1, cl9_some]
  have f0 : fX9_failed h1 = 0 := by unfold fX9_failed; rw [F1 1 5 (by omega), e5, if_pos rfl]
  rw [if_pos f0, wordLength_x P1 hs x1, cl9_some]
  unfold isW
  by_cases c : wnd T t s - s = w.length
  · rw [decide_eq_true c, Bool.true_and, c, if_pos (show nI w.length = Int32.ofNat w.length from rfl)]
    obtain ⟨r, e', q1, q2, q3, q4⟩ := loop0 (σ := Unit) (ρ := Int32 × Hp) w.length (fun n i _ => LX9_takeWord w n h1 (nI i)) (fun i _ => allB (fun i => decide (T (s + i) = w.getD i 0)) i = true) (fun r => r.1 = bI (allB (fun i => decide (T (s + i) = w.getD i 0)) w.length) ∧ FI c134 h1 r.2 ∧ (allB (fun i => decide (T (s + i) = w.getD i 0)) w.length = true → r.2 1 3 = nI (wnd T t s) ∧ r.2 1 4 = nI s) ∧ (allB (fun i => decide (T (s + i) = w.getD i 0)) w.length = false → r.2 1 3 = nI s)) () (by omega) rfl (by
      rintro n i - hi a
      obtain ⟨k, k1, k2, ek⟩ := rg_n (a := 97) (b := 122) (by decide) (by decide) (scn_all (f := ltT T) hs (i := s + i) (by omega) (show s + i < wnd T t s by omega))
      try dsimp only
      rw [LX9_takeWord, BX9_takeWord_0, show Int32.ofNat w.length = nI w.length from rfl, if_neg (nI_ge hi (by omega)), x1, nI_add, byteAt_x P1.2.1 ht P1.2.2 (show s + i < t by omega), cl9_some, gd_in hi (by omega), nI_clamp (by omega), okW_j hw hi, ek, and255 (by omega), ← ek]
      by_cases d : T (s + i) = w.getD i 0
      · left
        exact ⟨(), by rw [allB_s, decide_eq_true d, a]; rfl, by rw [if_pos d, nI_1]; rfl⟩
      · right
        have z : allB (fun i => decide (T (s + i) = w.getD i 0)) w.length = false := allB_no hi (decide_eq_false d)
        refine ⟨(0, h1), by rw [if_neg d], ?_⟩
        rw [z]
        exact ⟨rfl, FI.refl _ _, fun q => absurd q (by decide), fun _ => x1⟩) (by
      rintro n - a
      refine ⟨(1, up2 (up2 h1 1 4 (nI s)) 1 3 (nI (wnd T t s))), ?_, ?_⟩
      · try dsimp only
        rw [LX9_takeWord, BX9_takeWord_0, show Int32.ofNat w.length = nI w.length from rfl, if_pos (nI_le (Nat.le_refl _) (by omega)), x1]
        simp only [lt9_e]
        rw [up2_s, upd_n _ _ (by decide), x1, nI_add, show s + w.length = wnd T t s by omega]
      · rw [a]
        dsimp only
        refine ⟨rfl, (FI.up2 _ _ (by unfold c134; omega)).trans (FI.up2 _ _ (by unfold c134; omega)), fun _ => ⟨by rw [up2_s, upd_s], ?_⟩, fun q => absurd q (by decide)⟩
        rw [up2_s, upd_n _ _ (by decide), up2_s, upd_s])
    obtain ⟨r1, r2⟩ := r
    obtain rfl : r1 = bI (allB (fun i => decide (T (s + i) = w.getD i 0)) w.length) := q1
    exact ⟨r2, e', F1'.trans q2, q3, q4⟩
  · rw [decide_eq_false c, Bool.false_and, show Int32.ofNat w.length = nI w.length from rfl, if_neg (nI_ne (by omega) (by omega) c)]
    exact ⟨h1, rfl, F1', fun q => absurd q (by decide), fun _ => x1⟩

/-- the reference's tape while a call reads it -/
def PMS (T : Nat → Int32) (t : Nat) (h : Hp) : Prop := t ≤ 400 ∧ h 208 11 = nI t ∧ ∀ j, j < t → h 214 j = T j
def c1012 (k j : Nat) : Prop := k = 208 ∧ (j = 10 ∨ j = 12)
theorem PMS.fi {T : Nat → Int32} {t : Nat} {h h' : Hp} {C : Nat → Nat → Prop} (P : PMS T t h) (F : FI C h h') (c : ∀ k j, C k j → (k = 208 ∧ j ≠ 11) ∨ (k ≠ 208 ∧ k ≠ 214)) : PMS T t h' := by
  refine ⟨P.1, ?_, fun j hj => ?_⟩
  · rw [F 208 11 (fun q => by have := c _ _ q; omega)]; exact P.2.1
  · rw [F 214 j (fun q => by have := c _ _ q; omega)]; exact P.2.2 j hj
theorem isAt_m {T : Nat → Int32} {t : Nat} {h : Hp} (P : PMS T t h) {x : Nat} (hx : x ≤ t) (e : h 208 10 = nI x) (a b : Int32) : fX12_isAt h a b = some (bI (decide (x < t) && rgT a b T x)) := by
  have ht := P.1
  unfold fX12_isAt
  rw [P.2.1, e]
  by_cases c : x < t
  · rw [if_neg (nI_ge c (by omega)), gd_in (show x < 400 by omega) (by decide), gd_in (show x < 400 by omega) (by decide), nI_clamp (by omega), P.2.2 x c, decide_eq_true c, Bool.true_and]
    unfold rgT
    by_cases c1 : T x < a
    · rw [if_pos c1, decide_eq_true c1]; rfl
    · by_cases c2 : b < T x
      · rw [if_neg c1, if_pos c2, decide_eq_true c2, decide_eq_false c1]; rfl
      · rw [if_neg c1, if_neg c2, decide_eq_false c2, decide_eq_false c1]; rfl
  · rw [if_pos (nI_le (by omega) (by omega)), decide_eq_false c]; rfl
theorem rg_one (T : Nat → Int32) (a : Int32) (i : Nat) : rgT a a T i = decide (T i = a) := by
  unfold rgT
  by_cases c : T i = a
  · rw [c, decide_eq_true rfl, decide_eq_false (show ¬ a < a from Int32.lt_irrefl)]; rfl
  · rw [decide_eq_false c]
    by_cases c1 : T i < a
    · rw [decide_eq_true c1]; rfl
    · have : a < T i := by
        rw [Int32.lt_iff_toInt_lt] at c1 ⊢
        have : (T i).toInt ≠ a.toInt := fun q => c (Int32.toInt_inj.mp q)
        omega
      rw [decide_eq_true this, Bool.not_true, Bool.and_false]
theorem blanks_m {T : Nat → Int32} {t : Nat} {h : Hp} (P : PMS T t h) {x : Nat} (hx : x ≤ t) (e : h 208 10 = nI x) : ∃ h', fX12_blanks h = some h' ∧ FI c1012 h h' ∧ h' 208 10 = nI (skp T t x) ∧ h' 208 12 = nI (skp T t x) := by
  have ht := P.1
  have lst : ∀ s, FI c1012 h s → s 208 10 = nI (skp T t x) → FI c1012 h (up2 s 208 12 (s 208 10)) ∧ up2 s 208 12 (s 208 10) 208 10 = nI (skp T t x) ∧ up2 s 208 12 (s 208 10) 208 12 = nI (skp T t x) := fun s a1 a2 => ⟨a1.trans (FI.up2 _ _ (by unfold c1012; omega)), by rw [up2_s, upd_n _ _ (by decide)]; exact a2, by rw [up2_s, upd_s]; exact a2⟩
  obtain ⟨r, e', q⟩ := loopI (σ := Hp) (ρ := Hp) t x (fun n _ s => LX12_blanks n s) (fun i s => FI c1012 h s ∧ s 208 10 = nI i ∧ skp T t i = skp T t x) (fun r => FI c1012 h r ∧ r 208 10 = nI (skp T t x) ∧ r 208 12 = nI (skp T t x)) h hx (by omega) ⟨FI.refl _ _, e, rfl⟩ (by
    rintro n i s hi ⟨a1, a2, a3⟩
    have P1 := P.fi a1 (fun k j q => by unfold c1012 at q; omega)
    try dsimp only
    rw [LX12_blanks, BX12_blanks_0, isAt_m P1 (by omega) a2, cl9_some, decide_eq_true hi, Bool.true_and, rg_one]
    cases c : decide (T i = 32) with
    | true =>
      left
      refine ⟨up2 s 208 10 (nI (i + 1)), ⟨a1.trans (FI.up2 _ _ (by unfold c1012; omega)), by rw [up2_s, upd_s], ?_⟩, ?_⟩
      · rw [← a3]; exact (scn_go hi c).symm
      · rw [if_neg (show ¬ bI true = 0 by decide), a2, nI_1]; rfl
    | false =>
      right
      exact ⟨up2 s 208 12 (s 208 10), by rw [if_pos (show bI false = 0 from rfl)]; rfl, lst s a1 (by rw [a2, ← a3]; exact congrArg nI (scn_no hi c).symm)⟩) (by
    rintro n s ⟨a1, a2, a3⟩
    have P1 := P.fi a1 (fun k j q => by unfold c1012 at q; omega)
    refine ⟨up2 s 208 12 (s 208 10), ?_, lst s a1 (by rw [a2, ← a3]; exact congrArg nI (scn_end (Nat.le_refl _)).symm)⟩
    try dsimp only
    rw [LX12_blanks, BX12_blanks_0, isAt_m P1 (Nat.le_refl _) a2, cl9_some, decide_eq_false (Nat.lt_irrefl _), Bool.false_and, if_pos (show bI false = 0 from rfl)]
    rfl)
  exact ⟨r, e', q⟩
theorem letters_m {T : Nat → Int32} {t : Nat} {h : Hp} (P : PMS T t h) {x : Nat} (hx : x ≤ t) (e : h 208 10 = nI x) : ∃ h', fX12_letters h = some h' ∧ FI c1012 h h' ∧ h' 208 10 = nI (wnd T t (skp T t x)) ∧ h' 208 12 = nI (skp T t x) := by
  have ht := P.1
  obtain ⟨h1, e1, F1, x1, b1⟩ := blanks_m P hx e
  have hs := skp_le (T := T) hx
  unfold fX12_letters
  rw [e1, cl9_some]
  generalize skp T t x = z at x1 b1 hs
  obtain ⟨r, e', q⟩ := loopI (σ := Hp) (ρ := Hp) t z (fun n _ s => LX12_letters n s) (fun i s => FI (fun k j => k = 208 ∧ j = 10) h1 s ∧ s 208 10 = nI i ∧ wnd T t i = wnd T t z) (fun r => FI (fun k j => k = 208 ∧ j = 10) h1 r ∧ r 208 10 = nI (wnd T t z)) h1 hs (by omega) ⟨FI.refl _ _, x1, rfl⟩ (by
    rintro n i s hi ⟨a1, a2, a3⟩
    have P1 := (P.fi F1 (fun k j q => by unfold c1012 at q; omega)).fi a1 (fun k j q => by omega)
    try dsimp only
    rw [LX12_letters, BX12_letters_0, isAt_m P1 (by omega) a2, cl9_some, decide_eq_true hi, Bool.true_and]
    cases c : rgT 97 122 T i with
    | true =>
      left
      refine ⟨up2 s 208 10 (nI (i + 1)), ⟨a1.trans (FI.up2 _ _ ⟨rfl, rfl⟩), by rw [up2_s, upd_s], ?_⟩, ?_⟩
      · rw [← a3]; exact (scn_go hi c).symm
      · rw [if_neg (show ¬ bI true = 0 by decide), a2, nI_1]; rfl
    | false =>
      right
      exact ⟨s, by rw [if_pos (show bI false = 0 from rfl)], a1, by rw [a2, ← a3]; exact congrArg nI (scn_no hi c).symm⟩) (by
    rintro n s ⟨a1, a2, a3⟩
    have P1 := (P.fi F1 (fun k j q => by unfold c1012 at q; omega)).fi a1 (fun k j q => by omega)
    refine ⟨s, ?_, a1, by rw [a2, ← a3]; exact congrArg nI (scn_end (Nat.le_refl _)).symm⟩
    try dsimp only
    rw [LX12_letters, BX12_letters_0, isAt_m P1 (Nat.le_refl _) a2, cl9_some, decide_eq_false (Nat.lt_irrefl _), Bool.false_and, if_pos (show bI false = 0 from rfl)])
  exact ⟨r, e', F1.trans (q.1.mono (fun k j c => by unfold c1012; omega)), q.2, by rw [q.1 208 12 (by omega)]; exact b1⟩
theorem isWord_m {T : Nat → Int32} {t : Nat} {h : Hp} (P : PMS T t h) {s : Nat} (hs : s ≤ t) (e10 : h 208 10 = nI (wnd T t s)) (e12 : h 208 12 = nI s) {w : List Int32} (hw : okW w = true) : fX12_isWord h w = some (bI (isW T t w s)) := by
  have ht := P.1
  have hwl := okW_len hw
  have hg := wnd_ge (T := T) hs
  have hl := wnd_le (T := T) hs
  unfold fX12_isWord isW
  rw [e10, e12, nI_subN hg]
  by_cases c : wnd T t s - s = w.length
  · rw [decide_eq_true c, Bool.true_and, c, if_pos (show nI w.length = Int32.ofNat w.length from rfl)]
    let ok : Nat → Bool := fun i => decide (T (s + i) = w.getD i 0)
    obtain ⟨r, e', er⟩ := loop0 (σ := Unit) (ρ := Int32) w.length (fun n i _ => LX12_isWord h w n (bI (allB ok i)) (nI i)) (fun i _ => True) (fun r => r = bI (allB ok w.length)) () (by omega) trivial (by
      rintro n i - hi -
      try dsimp only
      rw [LX12_isWord, BX12_isWord_0]
      cases a : allB ok i with
      | false =>
        right
        refine ⟨0, rfl, ?_⟩
        cases hm : allB ok w.length with
        | false => rfl
        | true => rw [allB_le hm (by omega)] at a; cases a
      | true =>
        left
        rw [if_neg (show ¬ bI true = 0 by decide), show Int32.ofNat w.length = nI w.length from rfl, if_neg (nI_ge hi (by omega)), e12, nI_add, gd_in (show s + i < 400 by omega) (by decide), gd_in hi (by omega), nI_clamp (by omega), nI_clamp (by omega), okW_j hw hi, P.2.2 _ (by omega), allB_s, a, Bool.and_true, nI_1]
        refine ⟨(), trivial, ?_⟩
        by_cases d : T (s + i) = w.getD i 0
        · rw [if_pos d, show ok i = true from decide_eq_true d]; rfl
        · rw [if_neg d, show ok i = false from decide_eq_false d]; rfl) (by
      rintro n - -
      try dsimp only
      refine ⟨_, ?_, rfl⟩
      rw [LX12_isWord, BX12_isWord_0]
      cases a : allB ok w.length with
      | false => rfl
      | true =>
        rw [if_neg (show ¬ bI true = 0 by decide), show Int32.ofNat w.length = nI w.length from rfl, if_pos (nI_le (Nat.le_refl _) (by omega)), gd_t (by decide)])
    subst er
    exact e'
  · rw [decide_eq_false c, Bool.false_and, show Int32.ofNat w.length = nI w.length from rfl, if_neg (nI_ne (by omega) (by omega) c)]
    rfl

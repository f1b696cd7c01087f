/-! The texts: the reference's numbers; what the class does once it has failed. -/
theorem number_m {T : Nat → Int32} {t : Nat} {h : Hp} (P : PMS T t h) {x : Nat} (hx : x ≤ t) (e : h 208 10 = nI x) (lo hi : Nat) (hhi : hi ≤ 999) (hlo : lo ≤ 999) : ∃ h', fX12_number h (nI lo) (nI hi) = some (nmR T t lo hi (skp T t x), h') ∧ FI c1012 h h' ∧ h' 208 12 = nI (skp T t x) ∧ h' 208 10 = nI (dnd T t (skp T t x)) := by
  have ht := P.1
  obtain ⟨h1, e1, F1, x1, b1⟩ := blanks_m P hx e
  have hs := skp_le (T := T) hx
  have P1 := P.fi F1 (fun k j q => by unfold c1012 at q; omega)
  generalize skp T t x = s at x1 b1 hs
  have hg := dnd_ge (T := T) hs
  have hl := dnd_le (T := T) hs
  have v9 := nmV_ok (T := T) hs
  unfold fX12_number
  rw [e1, cl9_some]
  have fin : ∀ sX : Hp, sX 208 10 = nI (dnd T t s) → sX 208 12 = nI s → (if sX 208 10 = sX 208 12 then some ((-1 : Int32), sX) else (if 3 < (sX 208 10) - (sX 208 12) then some ((-1 : Int32), sX) else (if nI (nmV T t s) < nI lo then some ((-1 : Int32), sX) else (if nI (nmV T t s) ≤ nI hi then some (nI (nmV T t s), sX) else some ((-1 : Int32), sX))))) = some (nmR T t lo hi s, sX) := by
    intro sX y10 y12
    rw [y10, y12, nI_subN hg]
    unfold nmR nmK
    by_cases c1 : dnd T t s - s = 0
    · rw [if_pos (congrArg nI (by omega)), decide_eq_true c1]; rfl
    · rw [if_neg (nI_ne (by omega) (by omega) (by omega)), decide_eq_false c1]
      by_cases c2 : dnd T t s - s ≤ 3
      · rw [if_neg (show ¬ (3 : Int32) < nI (dnd T t s - s) from nlt (a := 3) c2 (by decide)), decide_eq_true c2]
        by_cases c3 : lo ≤ nmV T t s
        · rw [if_neg (nlt c3 (by omega)), decide_eq_true c3]
          by_cases c4 : nmV T t s ≤ hi
          · rw [if_pos (nI_le c4 (by omega)), decide_eq_true c4]; rfl
          · rw [if_neg (nI_ge (by omega) (by omega)), decide_eq_false c4]; rfl
        · rw [if_pos (nI_lt (by omega) (by omega)), decide_eq_false c3]; rfl
      · rw [if_pos (show (3 : Int32) < nI (dnd T t s - s) from nI_lt (a := 3) (by omega) (by omega)), decide_eq_false c2]; rfl
  obtain ⟨r, e', q1, q2, q3, q4⟩ := loopI (σ := Hp) (ρ := Int32 × Hp) t s (fun n i sX => LX12_number n sX (nI lo) (nI hi) (nI (vD T s (i - s)))) (fun i sX => FI c1012 h sX ∧ sX 208 10 = nI i ∧ sX 208 12 = nI s ∧ s ≤ i ∧ dnd T t i = dnd T t s) (fun r => r.1 = nmR T t lo hi s ∧ FI c1012 h r.2 ∧ r.2 208 12 = nI s ∧ r.2 208 10 = nI (dnd T t s)) h1 hs (by omega) ⟨F1, x1, b1, Nat.le_refl _, rfl⟩ (by
    rintro n i sX hi' ⟨a1, a2, a3, a5, a6⟩
    have PX := P.fi a1 (fun k j q => by unfold c1012 at q; omega)
    try dsimp only
    rw [LX12_number, BX12_number_0, isAt_m PX (by omega) a2, cl9_some, decide_eq_true hi', Bool.true_and]
    cases c : rgT 48 57 T i with
    | false =>
      right
      have st : dnd T t s = i := by rw [← a6]; exact scn_no hi' c
      rw [if_pos (show bI false = 0 from rfl), show vD T s (i - s) = nmV T t s by unfold nmV; rw [st]]
      exact ⟨_, fin sX (by rw [st]; exact a2) a3, rfl, a1, a3, by dsimp only; rw [st]; exact a2⟩
    | true =>
      left
      have go : dnd T t (i + 1) = dnd T t s := by rw [← a6]; exact (scn_go hi' c).symm
      have gi := dnd_ge (T := T) (show i + 1 ≤ t by omega)
      obtain ⟨k, k1, k2, ek⟩ := rg_n (a := 48) (b := 57) (by decide) (by decide) c
      have vv := vD_ok (T := T) hs (k := i - s) (by omega)
      refine ⟨up2 sX 208 10 (nI (i + 1)), ⟨a1.trans (FI.up2 _ _ (by unfold c1012; omega)), by rw [up2_s, upd_s], by rw [up2_s, upd_n _ _ (by decide)]; exact a3, by omega, go⟩, ?_⟩
      rw [if_neg (show ¬ bI true = 0 by decide), a2, a3, nI_subN a5, gd_in (show i < 400 by omega) (by decide), nI_clamp (by omega), PX.2.2 i hi', nI_1, show i + 1 - s = (i - s) + 1 by omega, vD_s, show s + (i - s) = i by omega, ek, nI_clamp (by omega)]
      by_cases d : i - s < 3
      · rw [if_pos d, if_neg (show ¬ (3 : Int32) ≤ nI (i - s) from le_n 3 rfl (by omega) (by omega)), i_10, nI_mul, nI_add, i_48, nI_subN (by omega), show 10 * vD T s (i - s) + k - 48 = vD T s (i - s) * 10 + (k - 48) by omega]
        rfl
      · rw [if_neg d, if_pos (show (3 : Int32) ≤ nI (i - s) from le_p 3 rfl (by omega) (by omega))]
        rfl) (by
    rintro n sX ⟨a1, a2, a3, a5, a6⟩
    have PX := P.fi a1 (fun k j q => by unfold c1012 at q; omega)
    have st : dnd T t s = t := by rw [← a6]; exact scn_end (Nat.le_refl _)
    try dsimp only
    rw [LX12_number, BX12_number_0, isAt_m PX (Nat.le_refl _) a2, cl9_some, decide_eq_false (Nat.lt_irrefl _), Bool.false_and, if_pos (show bI false = 0 from rfl), show vD T s (t - s) = nmV T t s by unfold nmV; rw [st]]
    exact ⟨_, fin sX (by rw [st]; exact a2) a3, rfl, a1, a3, by dsimp only; rw [st]; exact a2⟩)
  obtain ⟨r1, r2⟩ := r
  obtain rfl : r1 = nmR T t lo hi s := q1
  have z : vD T s (s - s) = 0 := by rw [Nat.sub_self]; rfl
  try dsimp only at e'
  rw [z] at e'
  exact ⟨r2, e', q2, q3, q4⟩
theorem passes_m {T : Nat → Int32} {t : Nat} {h : Hp} (P : PMS T t h) {x : Nat} (hx : x ≤ t) (e : h 208 10 = nI x) {w : List Int32} (hw : okW w = true) : ∃ h', fX12_passes h w = some (bI (isW T t w (skp T t x)), h') ∧ FI c1012 h h' ∧ h' 208 12 = nI (skp T t x) ∧ h' 208 10 = nI (if isW T t w (skp T t x) then wnd T t (skp T t x) else skp T t x) := by
  obtain ⟨h1, e1, F1, x1, b1⟩ := letters_m P hx e
  have P1 := P.fi F1 (fun k j q => by unfold c1012 at q; omega)
  unfold fX12_passes
  rw [e1, cl9_some, isWord_m P1 (skp_le hx) x1 b1 hw, cl9_some]
  cases isW T t w (skp T t x) with
  | false =>
    refine ⟨up2 h1 208 10 (h1 208 12), rfl, F1.trans (FI.up2 _ _ (by unfold c1012; omega)), by rw [up2_s, upd_n _ _ (by decide)]; exact b1, by rw [up2_s, upd_s]; exact b1⟩
  | true => exact ⟨h1, rfl, F1, b1, x1⟩
theorem failNext_x {T : Nat → Int32} {t : Nat} {h : Hp} (P : PCS T t h) {x : Nat} (hx : x ≤ t) (e : h 1 3 = nI x) (e5 : h 1 5 = -1) : ∃ h', fX9_failNext h = some h' ∧ FI c1345 h h' ∧ h' 1 3 = nI (skp T t x) ∧ h' 1 5 = nI (skp T t x) := by
  obtain ⟨h1, e1, F1, x1⟩ := skip_x P hx e
  unfold fX9_failNext
  rw [e1, cl9_some]
  unfold fX9_fail
  rw [F1 1 5 (by omega), e5, if_pos rfl, x1]
  refine ⟨up2 h1 1 5 (nI (skp T t x)), rfl, (F1.mono (fun k j q => by unfold c1345; omega)).trans (FI.up2 _ _ (by unfold c1345; omega)), by rw [up2_s, upd_n _ _ (by decide)]; exact x1, by rw [up2_s, upd_s]⟩
theorem failLatest_x {h : Hp} {b : Nat} (e4 : h 1 4 = nI b) (e5 : h 1 5 = -1) : fX9_failLatest h = some (up2 h 1 5 (nI b)) := by
  unfold fX9_failLatest fX9_fail
  rw [e5, if_pos rfl, e4]
  rfl
theorem atEnd_x {T : Nat → Int32} {t : Nat} {h : Hp} (P : PCS T t h) {x : Nat} (hx : x ≤ t) (e : h 1 3 = nI x) : ∃ h', fX9_atEnd h = some (bI (decide (skp T t x = t)), h') ∧ FI (fun k j => k = 1 ∧ j = 3) h h' ∧ h' 1 3 = nI (skp T t x) := by
  have ht := P.1
  obtain ⟨h1, e1, F1, x1⟩ := skip_x P hx e
  have hs := skp_le (T := T) hx
  unfold fX9_atEnd
  rw [e1, cl9_some, x1, (P.fi F1 (fun k j q => by omega)).2.1]
  by_cases c : skp T t x = t
  · rw [if_neg (nlt (by omega) (by omega)), decide_eq_true c]; exact ⟨h1, rfl, F1, x1⟩
  · rw [if_pos (nI_lt (by omega) (by omega)), decide_eq_false c]; exact ⟨h1, rfl, F1, x1⟩
theorem atDigit_x {T : Nat → Int32} {t : Nat} {h : Hp} (P : PCS T t h) {x : Nat} (hx : x ≤ t) (e : h 1 3 = nI x) : ∃ h', fX9_atDigit h = some (bI (decide (skp T t x < t) && dgT T (skp T t x)), h') ∧ FI (fun k j => k = 1 ∧ j = 3) h h' ∧ h' 1 3 = nI (skp T t x) := by
  have ht := P.1
  obtain ⟨h1, e1, F1, x1⟩ := skip_x P hx e
  have hs := skp_le (T := T) hx
  have P1 := P.fi F1 (fun k j q => by omega)
  unfold fX9_atDigit
  rw [e1, cl9_some, x1]
  refine ⟨h1, ?_, F1, x1⟩
  by_cases c : skp T t x < t
  · rw [byteAt_x P1.2.1 ht P1.2.2 c, cl9_some, byte_dg (P1.2.2 _ c).2, decide_eq_true c, Bool.true_and]
  · rw [byteAt_o P1.2.1 ht (by omega) (by omega), cl9_some, decide_eq_false c]; rfl
/-- the class has failed -/
def FLD (T : Nat → Int32) (t : Nat) (f : Nat) (h : Hp) : Prop := PCS T t h ∧ (∃ x, x ≤ t ∧ h 1 3 = nI x) ∧ f ≤ t ∧ h 1 5 = nI f
abbrev c13 (k j : Nat) : Prop := k = 1 ∧ j = 3
theorem FLD.ne {T : Nat → Int32} {t f : Nat} {h : Hp} (L : FLD T t f h) : ¬ h 1 5 = -1 := fun c => by
  have h1 := L.1.1
  have h2 := L.2.2.1
  have := nI_pos (n := f) (by omega)
  rw [← L.2.2.2, c] at this
  exact this (by decide)
theorem FLD.fi {T : Nat → Int32} {t f : Nat} {h h' : Hp} {C : Nat → Nat → Prop} (L : FLD T t f h) (F : FI C h h') (c : ∀ k j, C k j → k ≠ 1 ∧ k ≠ 2) : FLD T t f h' := by
  obtain ⟨P, ⟨x, hx, e⟩, hf, e5⟩ := L
  exact ⟨P.fi F (fun k j q => by have := c k j q; omega), ⟨x, hx, by rw [F 1 3 (fun q => (c _ _ q).1 rfl)]; exact e⟩, hf, by rw [F 1 5 (fun q => (c _ _ q).1 rfl)]; exact e5⟩
theorem skip_f {T : Nat → Int32} {t f : Nat} {h : Hp} (L : FLD T t f h) : ∃ h', fX9_skipBlanks h = some h' ∧ FI c13 h h' ∧ FLD T t f h' := by
  obtain ⟨P, ⟨x, hx, e⟩, hf, e5⟩ := L
  obtain ⟨h1, e1, F1, x1⟩ := skip_x P hx e
  exact ⟨h1, e1, F1, P.fi F1 (fun k j q => by omega), ⟨_, skp_le hx, x1⟩, hf, by rw [F1 1 5 (by omega)]; exact e5⟩
theorem failed_f {T : Nat → Int32} {t f : Nat} {h : Hp} (L : FLD T t f h) : fX9_failed h = 1 := by unfold fX9_failed; rw [if_neg L.ne]
theorem takeWord_f {T : Nat → Int32} {t f : Nat} {h : Hp} (L : FLD T t f h) (w : List Int32) : ∃ h', fX9_takeWord h w = some (0, h') ∧ FI c13 h h' ∧ FLD T t f h' := by
  obtain ⟨h1, e1, F1, L1⟩ := skip_f L
  refine ⟨h1, ?_, F1, L1⟩
  unfold fX9_takeWord
  rw [e1, cl9_some, failed_f L1, if_neg (by decide)]
theorem takeSign_f {T : Nat → Int32} {t f : Nat} {h : Hp} (L : FLD T t f h) (c : Int32) : ∃ h', fX9_takeSign h c = some (0, h') ∧ FI c13 h h' ∧ FLD T t f h' := by
  obtain ⟨h1, e1, F1, L1⟩ := skip_f L
  refine ⟨h1, ?_, F1, L1⟩
  unfold fX9_takeSign
  rw [e1, cl9_some, failed_f L1, if_neg (by decide), cl9_some, if_pos rfl]
theorem takeNumber_f {T : Nat → Int32} {t f : Nat} {h : Hp} (L : FLD T t f h) (a b : Int32) : ∃ h', fX9_takeNumber h a b = some (-1, h') ∧ FI c13 h h' ∧ FLD T t f h' := by
  obtain ⟨h1, e1, F1, L1⟩ := skip_f L
  refine ⟨h1, ?_, F1, L1⟩
  unfold fX9_takeNumber
  rw [e1, cl9_some, failed_f L1, if_neg (by decide)]
theorem failNext_f {T : Nat → Int32} {t f : Nat} {h : Hp} (L : FLD T t f h) : ∃ h', fX9_failNext h = some h' ∧ FI c13 h h' ∧ FLD T t f h' := by
  obtain ⟨h1, e1, F1, L1⟩ := skip_f L
  refine ⟨h1, ?_, F1, L1⟩
  unfold fX9_failNext fX9_fail
  rw [e1, cl9_some, if_neg L1.ne]
  rfl
theorem failLatest_f {T : Nat → Int32} {t f : Nat} {h : Hp} (L : FLD T t f h) : fX9_failLatest h = some h := by
  unfold fX9_failLatest fX9_fail
  rw [if_neg L.ne]
  rfl
theorem atEnd_f {T : Nat → Int32} {t f : Nat} {h : Hp} (L : FLD T t f h) : ∃ b h', fX9_atEnd h = some (bI b, h') ∧ FI c13 h h' ∧ FLD T t f h' := by
  obtain ⟨P, ⟨x, hx, e⟩, hf, e5⟩ := L
  obtain ⟨h1, e1, F1, x1⟩ := atEnd_x P hx e
  exact ⟨_, h1, e1, F1, P.fi F1 (fun k j q => by omega), ⟨_, skp_le hx, x1⟩, hf, by rw [F1 1 5 (by omega)]; exact e5⟩
theorem atDigit_f {T : Nat → Int32} {t f : Nat} {h : Hp} (L : FLD T t f h) : ∃ b h', fX9_atDigit h = some (bI b, h') ∧ FI c13 h h' ∧ FLD T t f h' := by
  obtain ⟨P, ⟨x, hx, e⟩, hf, e5⟩ := L
  obtain ⟨h1, e1, F1, x1⟩ := atDigit_x P hx e
  exact ⟨_, h1, e1, F1, P.fi F1 (fun k j q => by omega), ⟨_, skp_le hx, x1⟩, hf, by rw [F1 1 5 (by omega)]; exact e5⟩
theorem behind_f {T : Nat → Int32} {t f : Nat} {h : Hp} (L : FLD T t f h) (w : List Int32) (a b : Int32) : ∃ h', fX9_takeNumberBehind h w a b = some (-1, h') ∧ FI c13 h h' ∧ FLD T t f h' := by
  obtain ⟨h1, e1, F1, L1⟩ := takeWord_f L w
  obtain ⟨h2, e2, F2, L2⟩ := failNext_f L1
  refine ⟨h2, ?_, F1.trans F2, L2⟩
  unfold fX9_takeNumberBehind
  rw [e1, cl2_some, if_pos rfl, e2, cl9_some]

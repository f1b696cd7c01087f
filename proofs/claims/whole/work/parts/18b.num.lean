/-! The texts: signs and numbers, and the class's failing. -/
theorem byte_rng {x : Int32} (h : byteR x) : (∃ k, k < 128 ∧ x = nI k ∧ x &&& 255 = nI k) ∨ (x < 0 ∧ ∃ k, 128 ≤ k ∧ k < 256 ∧ x &&& 255 = nI k) := by
  have key : ∀ k : Fin 256, ((Int8.ofNat k.val).toInt32 = nI k.val ∧ k.val < 128 ∧ (Int8.ofNat k.val).toInt32 &&& 255 = nI k.val) ∨ ((Int8.ofNat k.val).toInt32 < 0 ∧ 128 ≤ k.val ∧ (Int8.ofNat k.val).toInt32 &&& 255 = nI k.val) := by decide +kernel
  have e : x = (Int8.ofNat x.toInt8.toBitVec.toNat).toInt32 := by
    have : Int8.ofNat x.toInt8.toBitVec.toNat = x.toInt8 := by
      apply Int8.toBitVec_inj.mp
      show BitVec.ofNat 8 x.toInt8.toBitVec.toNat = x.toInt8.toBitVec
      rw [BitVec.ofNat_toNat, BitVec.setWidth_eq]
    rw [this]; exact h.symm
  have hk := x.toInt8.toBitVec.isLt
  have := key ⟨x.toInt8.toBitVec.toNat, hk⟩
  dsimp only at this
  rw [← e] at this
  rcases this with ⟨h1, h2, h3⟩ | ⟨h1, h2, h3⟩
  · exact Or.inl ⟨_, h2, h1, h3⟩
  · exact Or.inr ⟨h1, _, h2, hk, h3⟩
theorem neg_ne {x : Int32} (h : x < 0) {k : Nat} (hk : k < 2 ^ 31) : x ≠ nI k := fun c => by rw [c] at h; exact nI_pos hk h
theorem byte_eq {x : Int32} (h : byteR x) {c : Nat} (hc : c < 128) : (x &&& 255 = nI c) ↔ x = nI c := by
  rcases byte_rng h with ⟨k, hk, e1, e2⟩ | ⟨hn, k, hk, hk2, e2⟩
  · rw [e2, e1]
  · rw [e2]
    constructor
    · intro q
      have := (nI_eq (by omega) (by omega)).mp q
      omega
    · intro q; exact absurd q (neg_ne hn (by omega))
theorem byte_dg {T : Nat → Int32} {i : Nat} (h : byteR (T i)) : fX9_isDigit (T i &&& 255) = bI (dgT T i) := by
  unfold fX9_isDigit dgT rgT
  rcases byte_rng h with ⟨k, hk, e1, e2⟩ | ⟨hn, k, hk, hk2, e2⟩
  · rw [e2, e1]
    by_cases c1 : nI k < 48
    · rw [if_pos c1, decide_eq_true c1]; rfl
    · by_cases c2 : (57 : Int32) < nI k
      · rw [if_neg c1, if_pos c2, decide_eq_true c2, decide_eq_false c1]; rfl
      · rw [if_neg c1, if_neg c2, decide_eq_false c2, decide_eq_false c1]; rfl
  · have c3 : T i < 48 := by
      rw [Int32.lt_iff_toInt_lt] at hn ⊢
      have : (0 : Int32).toInt = 0 := rfl
      have : (48 : Int32).toInt = 48 := rfl
      omega
    rw [e2, decide_eq_true c3, if_neg (show ¬ nI k < (48 : Int32) from nlt (b := 48) (by omega) (by omega)), if_pos (show (57 : Int32) < nI k from nI_lt (a := 57) (by omega) (by omega))]
    rfl
/-- how a sign is read -/
def isS (T : Nat → Int32) (t c s : Nat) : Bool := decide (s < t) && decide (T s = nI c)
theorem byteAt_o {h : Hp} {t : Nat} (e2 : h 1 2 = nI t) (ht : t ≤ 400) {j : Nat} (hj : t ≤ j) (hj2 : j < 1000) : fX9_byteAt h (nI j) = some (-1) := by
  unfold fX9_byteAt
  rw [e2, if_neg (nI_pos (by omega)), if_pos (nI_le hj (by omega)), cl9_some, if_neg (by decide)]
theorem takeSign_x {T : Nat → Int32} {t : Nat} {h : Hp} (P : PCS T t h) {x : Nat} (hx : x ≤ t) (e : h 1 3 = nI x) (e5 : h 1 5 = -1) {c : Nat} (hc : c < 128) : ∃ h', fX9_takeSign h (nI c) = some (bI (isS T t c (skp T t x)), h') ∧ FI c134 h h' ∧ (isS T t c (skp T t x) = true → h' 1 3 = nI (skp T t x + 1) ∧ h' 1 4 = nI (skp T t x)) ∧ (isS T t c (skp T t x) = false → h' 1 3 = nI (skp T t x)) := by
  have ht := P.1
  obtain ⟨h1, e1, F1, x1⟩ := skip_x P hx e
  have F1' : FI c134 h h1 := F1.mono (fun k j q => by unfold c134; omega)
  have P1 := P.fi F1 (fun k j q => by omega)
  have hs := skp_le (T := T) hx
  generalize skp T t x = s at x1 hs
  have f0 : fX9_failed h1 = 0 := by unfold fX9_failed; rw [F1 1 5 (by omega), e5, if_pos rfl]
  unfold fX9_takeSign
  rw [e1, cl9_some, if_pos f0, x1]
  unfold isS
  by_cases q : s < t
  · rw [byteAt_x P1.2.1 ht P1.2.2 q, cl9_some, decide_eq_true q, Bool.true_and]
    by_cases d : T s = nI c
    · rw [if_pos ((byte_eq (P1.2.2 s q).2 hc).mpr d), cl9_some, if_neg (by decide), decide_eq_true d]
      refine ⟨up2 (up2 h1 1 4 (nI s)) 1 3 (nI (s + 1)), ?_, F1'.trans ((FI.up2 _ _ (by unfold c134; omega)).trans (FI.up2 _ _ (by unfold c134; omega))), fun _ => ⟨by rw [up2_s, upd_s], ?_⟩, fun q => absurd q (by decide)⟩
      · simp only [lt9_e]
        rw [up2_s, upd_n _ _ (by decide), x1, nI_1]
        rfl
      · rw [up2_s, upd_n _ _ (by decide), up2_s, upd_s]
    · rw [if_neg (fun z => d ((byte_eq (P1.2.2 s q).2 hc).mp z)), cl9_some, if_pos rfl, decide_eq_false d]
      exact ⟨h1, rfl, F1', fun q => absurd q (by decide), fun _ => x1⟩
  · rw [byteAt_o P1.2.1 ht (by omega) (by omega), cl9_some, if_neg (fun z => by have := nI_pos (n := c) (by omega); rw [← z] at this; exact this (by decide)), cl9_some, if_pos rfl, decide_eq_false q, Bool.false_and]
    exact ⟨h1, rfl, F1', fun q => absurd q (by decide), fun _ => x1⟩
theorem sign_m {T : Nat → Int32} {t : Nat} {h : Hp} (P : PMS T t h) {x : Nat} (hx : x ≤ t) (e : h 208 10 = nI x) (c : Nat) : ∃ h', fX12_sign h (nI c) = some (bI (isS T t c (skp T t x)), h') ∧ FI c1012 h h' ∧ h' 208 12 = nI (skp T t x) ∧ h' 208 10 = nI (if isS T t c (skp T t x) then skp T t x + 1 else skp T t x) := by
  obtain ⟨h1, e1, F1, x1, b1⟩ := blanks_m P hx e
  have hs := skp_le (T := T) hx
  have P1 := P.fi F1 (fun k j q => by unfold c1012 at q; omega)
  generalize skp T t x = s at x1 b1 hs
  unfold fX12_sign
  rw [e1, cl9_some, isAt_m P1 hs x1, cl9_some, rg_one]
  show ∃ h', (if bI (isS T t c s) = 0 then some (0, h1) else _) = _ ∧ _
  cases isS T t c s with
  | false => exact ⟨h1, rfl, F1, b1, x1⟩
  | true =>
    refine ⟨up2 h1 208 10 (nI (s + 1)), ?_, F1.trans (FI.up2 _ _ (by unfold c1012; omega)), by rw [up2_s, upd_n _ _ (by decide)]; exact b1, by rw [up2_s, upd_s]; rfl⟩
    rw [if_neg (show ¬ bI true = 0 by decide), x1, nI_1]
    rfl
/-- the number's value: its first three digits -/
def vD (T : Nat → Int32) (s : Nat) : Nat → Nat
  | 0 => 0
  | k + 1 => if k < 3 then vD T s k * 10 + ((T (s + k)).toNatClampNeg - 48) else vD T s k
theorem vD_s (T : Nat → Int32) (s k : Nat) : vD T s (k + 1) = if k < 3 then vD T s k * 10 + ((T (s + k)).toNatClampNeg - 48) else vD T s k := rfl
theorem vD_big {T : Nat → Int32} {s : Nat} : ∀ k, (∀ i, i < k → (T (s + i)).toNatClampNeg ≤ 57) → vD T s k ≤ 999 ∧ (k = 0 → vD T s k = 0) ∧ (k = 1 → vD T s k ≤ 9) ∧ (k = 2 → vD T s k ≤ 99)
  | 0, _ => ⟨Nat.zero_le _, fun _ => rfl, fun h => by omega, fun h => by omega⟩
  | k + 1, h => by
    obtain ⟨a1, a2, a3, a4⟩ := vD_big k (fun i hi => h i (by omega))
    have := h k (by omega)
    rw [vD_s]
    by_cases c : k < 3
    · rw [if_pos c]
      refine ⟨?_, fun q => by omega, fun q => ?_, fun q => ?_⟩
      · rcases (show k = 0 ∨ k = 1 ∨ k = 2 by omega) with q | q | q
        · have := a2 q; omega
        · have := a3 q; omega
        · have := a4 q; omega
      · have := a2 (by omega); omega
      · have := a3 (by omega); omega
    · rw [if_neg c]
      exact ⟨a1, fun q => by omega, fun q => by omega, fun q => by omega⟩
def nmV (T : Nat → Int32) (t s : Nat) : Nat := vD T s (dnd T t s - s)
def nmK (T : Nat → Int32) (t lo hi s : Nat) : Bool := !decide (dnd T t s - s = 0) && (decide (dnd T t s - s ≤ 3) && (decide (lo ≤ nmV T t s) && decide (nmV T t s ≤ hi)))
def nmR (T : Nat → Int32) (t lo hi s : Nat) : Int32 := if nmK T t lo hi s then nI (nmV T t s) else -1
theorem dg_all {T : Nat → Int32} {t s : Nat} (hs : s ≤ t) {i : Nat} (hi : i < dnd T t s - s) : ∃ k, 48 ≤ k ∧ k ≤ 57 ∧ T (s + i) = nI k := rg_n (a := 48) (b := 57) (by decide) (by decide) (scn_all (f := dgT T) hs (i := s + i) (by omega) (show s + i < dnd T t s by omega))
theorem vD_ok {T : Nat → Int32} {t s : Nat} (hs : s ≤ t) {k : Nat} (hk : k ≤ dnd T t s - s) : vD T s k ≤ 999 := (vD_big k (fun i hi => by
  obtain ⟨q, h1, h2, e⟩ := dg_all (T := T) hs (i := i) (by omega)
  rw [e, nI_clamp (by omega)]; exact h2)).1
theorem nmV_ok {T : Nat → Int32} {t s : Nat} (hs : s ≤ t) : nmV T t s ≤ 999 := vD_ok hs (Nat.le_refl _)
def c1345 (k j : Nat) : Prop := k = 1 ∧ (j = 3 ∨ j = 4 ∨ j = 5)
theorem takeNumber_x {T : Nat → Int32} {t : Nat} {h : Hp} (P : PCS T t h) {x : Nat} (hx : x ≤ t) (e : h 1 3 = nI x) (e5 : h 1 5 = -1) (lo hi : Nat) (hhi : hi ≤ 999) (hlo : lo ≤ 999) : ∃ h', fX9_takeNumber h (nI lo) (nI hi) = some (nmR T t lo hi (skp T t x), h') ∧ FI c1345 h h' ∧ h' 1 3 = nI (dnd T t (skp T t x)) ∧ h' 1 4 = nI (skp T t x) ∧ h' 1 5 = if nmK T t lo hi (skp T t x) then -1 else nI (skp T t x) := by
  have ht := P.1
  obtain ⟨h1, e1, F1, x1⟩ := skip_x P hx e
  have F1' : FI c1345 h h1 := F1.mono (fun k j q => by unfold c1345; omega)
  have P1 := P.fi F1 (fun k j q => by omega)
  have hs := skp_le (T := T) hx
  generalize skp T t x = s at x1 hs
  have hg := dnd_ge (T := T) hs
  have hl := dnd_le (T := T) hs
  have f0 : fX9_failed h1 = 0 := by unfold fX9_failed; rw [F1 1 5 (by omega), e5, if_pos rfl]
  have e15 : h1 1 5 = -1 := by rw [F1 1 5 (by omega), e5]
  unfold fX9_takeNumber
  rw [e1, cl9_some, if_pos f0, x1]
  simp only [lt9_e]
  have v9 := nmV_ok (T := T) hs
  -- behind the digits
  have fin : ∀ n sX, FI c1345 (up2 h1 1 4 (nI s)) sX → sX 1 3 = nI (dnd T t s) → sX 1 4 = nI s → sX 1 5 = -1 → ∃ r : Int32 × Hp, LX9_takeNumber (n + 1) 1 sX (nI lo) (nI hi) (nI (nmV T t s)) = some r ∧ r.1 = nmR T t lo hi s ∧ FI c1345 h r.2 ∧ r.2 1 3 = nI (dnd T t s) ∧ r.2 1 4 = nI s ∧ r.2 1 5 = if nmK T t lo hi s then -1 else nI s := by
    intro n sX FX y3 y4 y5
    have FH : FI c1345 h sX := (F1'.trans (FI.up2 _ _ (by unfold c1345; omega))).trans FX
    have bad : nmK T t lo hi s = false → ∃ r : Int32 × Hp, (cl9 (fX9_fail sX (nI s)) (fun h22 => some ((-1 : Int32), h22)) = some r) ∧ r.1 = nmR T t lo hi s ∧ FI c1345 h r.2 ∧ r.2 1 3 = nI (dnd T t s) ∧ r.2 1 4 = nI s ∧ r.2 1 5 = if nmK T t lo hi s then -1 else nI s := by
      intro k
      unfold fX9_fail nmR
      rw [k, y5, if_pos rfl]
      refine ⟨(-1, up2 sX 1 5 (nI s)), rfl, rfl, FH.trans (FI.up2 _ _ (by unfold c1345; omega)), ?_, ?_, ?_⟩
      · dsimp only; rw [up2_s, upd_n _ _ (by decide), y3]
      · dsimp only; rw [up2_s, upd_n _ _ (by decide), y4]
      · dsimp only; rw [up2_s, upd_s]; rfl
    rw [LX9_takeNumber, if_neg (by decide), if_pos rfl, BX9_takeNumber_1, y3, y4, nI_subN hg]
    simp only [lt9_e]
    by_cases c1 : dnd T t s - s = 0
    · rw [c1, if_pos (show nI 0 = 0 from rfl), cl9_some, if_pos rfl]
      exact bad (by unfold nmK; rw [decide_eq_true c1]; rfl)
    · rw [if_neg (nI_ne0 (by omega) (by omega))]
      by_cases c2 : dnd T t s - s ≤ 3
      · rw [if_neg (show ¬ (3 : Int32) < nI (dnd T t s - s) from nlt (a := 3) c2 (by decide))]
        by_cases c3 : lo ≤ nmV T t s
        · rw [if_neg (nlt c3 (by omega))]
          by_cases c4 : nmV T t s ≤ hi
          · have k : nmK T t lo hi s = true := by unfold nmK; rw [decide_eq_false c1, decide_eq_true c2, decide_eq_true c3, decide_eq_true c4]; rfl
            rw [if_pos (nI_le c4 (by omega)), cl9_some, if_neg (by decide)]
            unfold nmR
            rw [k]
            exact ⟨_, rfl, rfl, FH, y3, y4, y5⟩
          · rw [if_neg (nI_ge (by omega) (by omega)), cl9_some, if_pos rfl]
            exact bad (by unfold nmK; rw [decide_eq_false c4]; simp)
        · rw [if_pos (nI_lt (by omega) (by omega)), cl9_some, if_pos rfl]
          exact bad (by unfold nmK; rw [decide_eq_false c3]; simp)
      · rw [if_pos (show (3 : Int32) < nI (dnd T t s - s) from nI_lt (a := 3) (by omega) (by omega)), cl9_some, if_pos rfl]
        exact bad (by unfold nmK; rw [decide_eq_false c2]; simp)
  obtain ⟨r, e', q⟩ := loopN (σ := Hp) (ρ := Int32 × Hp) t (fun n i sX => LX9_takeNumber (n + 1) 0 sX (nI lo) (nI hi) (nI (vD T s (i - s)))) (fun i sX => FI c1345 (up2 h1 1 4 (nI s)) sX ∧ sX 1 3 = nI i ∧ sX 1 4 = nI s ∧ sX 1 5 = -1 ∧ s ≤ i ∧ dnd T t i = dnd T t s) (fun r => r.1 = nmR T t lo hi s ∧ FI c1345 h r.2 ∧ r.2 1 3 = nI (dnd T t s) ∧ r.2 1 4 = nI s ∧ r.2 1 5 = if nmK T t lo hi s then -1 else nI s) (by
    rintro n i sX hi' ⟨a1, a2, a3, a4, a5, a6⟩
    have PX : PCS T t sX := (P1.fi (FI.up2 (C := c1345) _ _ (by unfold c1345; omega)) (fun k j q => by unfold c1345 at q; omega)).fi a1 (fun k j q => by unfold c1345 at q; omega)
    try dsimp only
    rw [LX9_takeNumber, if_pos rfl, BX9_takeNumber_0, PX.2.1, a2, if_neg (nI_ge hi' (by omega)), byteAt_x PX.2.1 ht PX.2.2 hi', cl9_some, cl9_some, byte_dg (PX.2.2 i hi').2, a3, nI_subN a5]
    cases c : dgT T i with
    | false =>
      right
      have st : dnd T t s = i := by rw [← a6]; exact scn_no hi' c
      rw [if_pos (show bI false = 0 from rfl), show vD T s (i - s) = nmV T t s by unfold nmV; rw [st]]
      exact fin n sX a1 (by rw [st]; exact a2) a3 a4
    | true =>
      left
      have go : dnd T t (i + 1) = dnd T t s := by rw [← a6]; exact (scn_go hi' c).symm
      have gi := dnd_ge (T := T) (show i + 1 ≤ t by omega)
      obtain ⟨k, k1, k2, ek⟩ := rg_n (a := 48) (b := 57) (by decide) (by decide) c
      have vv := vD_ok (T := T) hs (k := i - s) (by omega)
      refine ⟨up2 sX 1 3 (nI (i + 1)), ⟨a1.trans (FI.up2 _ _ (by unfold c1345; omega)), by rw [up2_s, upd_s], by rw [up2_s, upd_n _ _ (by decide)]; exact a3, by rw [up2_s, upd_n _ _ (by decide)]; exact a4, by omega, go⟩, ?_⟩
      rw [if_neg (show ¬ bI true = 0 by decide), nI_1, show i + 1 - s = (i - s) + 1 by omega, vD_s, show s + (i - s) = i by omega, ek, nI_clamp (by omega), and255 (by omega)]
      by_cases d : i - s < 3
      · rw [if_pos d, if_neg (show ¬ (3 : Int32) ≤ nI (i - s) from le_n 3 rfl (by omega) (by omega)), i_10, nI_mul, nI_add, i_48, nI_subN (by omega), show vD T s (i - s) * 10 + k - 48 = vD T s (i - s) * 10 + (k - 48) by omega]
        rfl
      · rw [if_neg d, if_pos (show (3 : Int32) ≤ nI (i - s) from le_p 3 rfl (by omega) (by omega))]
        rfl) (by
    rintro n sX ⟨a1, a2, a3, a4, a5, a6⟩
    have PX : PCS T t sX := (P1.fi (FI.up2 (C := c1345) _ _ (by unfold c1345; omega)) (fun k j q => by unfold c1345 at q; omega)).fi a1 (fun k j q => by unfold c1345 at q; omega)
    have st : dnd T t s = t := by rw [← a6]; exact scn_end (Nat.le_refl _)
    try dsimp only
    rw [LX9_takeNumber, if_pos rfl, BX9_takeNumber_0, PX.2.1, a2, if_pos (nI_le (Nat.le_refl _) (by omega)), show vD T s (t - s) = nmV T t s by unfold nmV; rw [st]]
    exact fin n sX a1 (by rw [st]; exact a2) a3 a4) (t - s) 999999 s (up2 h1 1 4 (nI s)) (by omega) (by omega) ⟨FI.refl _ _, by rw [up2_s, upd_n _ _ (by decide)]; exact x1, by rw [up2_s, upd_s], by rw [up2_s, upd_n _ _ (by decide)]; exact e15, Nat.le_refl _, rfl⟩
  obtain ⟨r1, r2⟩ := r
  obtain rfl : r1 = nmR T t lo hi s := q.1
  refine ⟨r2, ?_, q.2⟩
  have z : vD T s (s - s) = 0 := by rw [Nat.sub_self]; rfl
  try dsimp only at e'
  rw [z] at e'
  exact e'

/-! goes: the call -/
theorem byte_cases {x : Int32} (h : byteR x) : (∃ q, q < 16 ∧ x = nI q ∧ x &&& 255 = nI q ∧ fX12_noPlace x = 0) ∨ (fX12_noPlace x = 1 ∧ ¬ (x &&& 255) ≤ 15 ∧ (x &&& 255) ≥ 0) := by
  have key : ∀ k : Fin 256, ((Int8.ofNat k.val).toInt32 &&& 255 ≤ 15 ∧ (Int8.ofNat k.val).toInt32 = nI ((Int8.ofNat k.val).toInt32.toNatClampNeg) ∧ (Int8.ofNat k.val).toInt32.toNatClampNeg < 16 ∧ (Int8.ofNat k.val).toInt32 &&& 255 = (Int8.ofNat k.val).toInt32 ∧ fX12_noPlace (Int8.ofNat k.val).toInt32 = 0) ∨ (fX12_noPlace (Int8.ofNat k.val).toInt32 = 1 ∧ ¬ ((Int8.ofNat k.val).toInt32 &&& 255) ≤ 15 ∧ (0 : Int32) ≤ ((Int8.ofNat k.val).toInt32 &&& 255)) := by decide +kernel
  have e : x = (Int8.ofNat x.toInt8.toBitVec.toNat).toInt32 := by
    have : Int8.ofNat x.toInt8.toBitVec.toNat = x.toInt8 := by
      apply Int8.toBitVec_inj.mp
      show BitVec.ofNat 8 x.toInt8.toBitVec.toNat = x.toInt8.toBitVec
      rw [BitVec.ofNat_toNat, BitVec.setWidth_eq]
    rw [this]; exact h.symm
  have := key ⟨x.toInt8.toBitVec.toNat, x.toInt8.toBitVec.isLt⟩
  dsimp only at this
  rw [← e] at this
  rcases this with ⟨h1, h2, h3, h4, h5⟩ | ⟨h1, h2, h3⟩
  · exact Or.inl ⟨_, h3, h2, h4.trans h2, h5⟩
  · exact Or.inr ⟨h1, h2, h3⟩
/-- the tape used up -/
def useT (σ : St) : St := match σ with
  | (w, s, P, g, I, _, T, F) => (w, s, P, g, I, 0, T, F)
theorem useT_1 (σ : St) : (useT σ).1 = σ.1 := by obtain ⟨w, s, P, g, I, t, T, Fa⟩ := σ; rfl
theorem open_x {h : Hp} {σ : St} (C : RC h σ) : ∃ h1, fX9_open h = some h1 ∧ RC h1 (useT σ) ∧ FR (fun k => k = 1) h h1 ∧ h1 1 2 = nI σ.2.2.2.2.2.1 ∧ h1 1 3 = 0 ∧ h1 1 4 = 0 ∧ h1 1 5 = -1 ∧ σ.2.2.2.2.2.1 ≤ 400 ∧ ∀ j, j < σ.2.2.2.2.2.1 → h1 2 j = σ.2.2.2.2.2.2.1 j ∧ byteR (σ.2.2.2.2.2.2.1 j) := by
  obtain ⟨w, s, P, g, I, t, T, Fa⟩ := σ
  obtain ⟨h1, h2, h3, h4, h5, ⟨ht, et, hT⟩, h7⟩ := C
  have F1 : FR (fun k => k = 1) h (up2 (up2 (up2 (up2 (up2 h 1 2 (nI t)) 1 1 0) 1 3 0) 1 4 0) 1 5 (-1)) := ((((FR.up2 (C := fun k => k = 1) h _ _ rfl).trans (FR.up2 _ _ _ rfl)).trans (FR.up2 _ _ _ rfl)).trans (FR.up2 _ _ _ rfl)).trans (FR.up2 _ _ _ rfl)
  have r : ∀ j, (up2 (up2 (up2 (up2 (up2 h 1 2 (nI t)) 1 1 0) 1 3 0) 1 4 0) 1 5 (-1)) 1 j = upd (upd (upd (upd (upd (h 1) 2 (nI t)) 1 0) 3 0) 4 0) 5 (-1) j := fun j => by rw [up2_s, up2_s, up2_s, up2_s, up2_s]
  refine ⟨_, ?_, ⟨h1.fr F1 (fun j hj q => by omega), h2, h3.fr F1 (fun j hj q => by omega), h4.fr F1 (fun k q => by omega), h5.fr F1 (fun k q => by omega), ⟨Nat.zero_le _, by rw [r]; rfl, fun j hj => by omega⟩, by rw [F1 0 (by omega)]; exact h7⟩, F1, by rw [r]; rfl, by rw [r]; rfl, by rw [r]; rfl, by rw [r]; rfl, ht, fun j hj => ?_⟩
  · unfold fX9_open
    simp only [lt9_e]
    rw [et]
  · rw [F1 2 (by omega)]; exact hT j hj
theorem uses_m {h : Hp} {σ : St} (M : RM h σ) : ∃ h1, fX12_uses h = some h1 ∧ RM h1 (useT σ) ∧ FI (fun k j => k = 208 ∧ (j = 0 ∨ j = 9 ∨ j = 10 ∨ j = 11)) h h1 ∧ h1 208 11 = nI σ.2.2.2.2.2.1 ∧ h1 208 10 = 0 ∧ h1 208 0 = 0 ∧ ∀ j, j < σ.2.2.2.2.2.1 → h1 214 j = σ.2.2.2.2.2.2.1 j := by
  obtain ⟨w, s, P, g, I, t, T, Fa⟩ := σ
  obtain ⟨m1, m2, m3, ⟨m4, m4'⟩, m5⟩ := M
  have F1 : FI (fun k j => k = 208 ∧ (j = 0 ∨ j = 9 ∨ j = 10 ∨ j = 11)) h (up2 (up2 (up2 (up2 h 208 0 0) 208 11 (nI t)) 208 9 0) 208 10 0) := (((FI.up2 (C := fun k j => k = 208 ∧ (j = 0 ∨ j = 9 ∨ j = 10 ∨ j = 11)) h _ (by omega)).trans (FI.up2 _ _ (by omega))).trans (FI.up2 _ _ (by omega))).trans (FI.up2 _ _ (by omega))
  have r : ∀ j, (up2 (up2 (up2 (up2 h 208 0 0) 208 11 (nI t)) 208 9 0) 208 10 0) 208 j = upd (upd (upd (upd (h 208) 0 0) 11 (nI t)) 9 0) 10 0 j := fun j => by rw [up2_s, up2_s, up2_s, up2_s]
  refine ⟨_, ?_, ⟨?_, ?_, ?_, ⟨by rw [r]; rfl, fun j hj => by omega⟩, ?_⟩, F1, by rw [r]; rfl, by rw [r]; rfl, by rw [r]; rfl, fun j hj => ?_⟩
  · unfold fX12_uses
    simp only [lt9_e]
    rw [up2_s, upd_n _ _ (by decide), m4]
  · rw [F1.cell (fun j q => by omega)]; exact m1
  · unfold pastM
    rw [F1 208 7 (by omega), F1.cell (k := 213) (fun j q => by omega)]; exact m2
  · unfold imgM
    rw [F1 208 6 (by omega), F1.cell (k := 210) (fun j q => by omega)]; exact m3
  · rw [F1 208 14 (by omega)]; exact m5
  · rw [F1.cell (k := 214) (fun j q => by omega)]; exact m4' j hj
theorem byteAt_x {h : Hp} {t : Nat} {T : Nat → Int32} (e2 : h 1 2 = nI t) (ht : t ≤ 400) (hb : ∀ j, j < t → h 2 j = T j ∧ byteR (T j)) {j : Nat} (hj : j < t) : fX9_byteAt h (nI j) = some (T j &&& 255) := by
  unfold fX9_byteAt
  rw [e2, if_neg (nI_pos (by omega)), if_neg (nI_ge hj (by omega)), cl9_some, if_pos rfl, gd_in (by omega) (by decide), nI_clamp (by omega), (hb j hj).1]
/-- all told bytes are places -/
def allP (T : Nat → Int32) (n : Nat) : Bool := allB (fun i => decide (fX12_noPlace (T i) = 0)) n
theorem take_x {h : Hp} {w : Nat → Int32} (H : CS h 32 w) {t n : Nat} {T : Nat → Int32} (hn : n ≤ 5) (en : w 0 = nI n) (e2 : h 1 2 = nI t) (ht : t ≤ 400) (hb : ∀ j, j < t → h 2 j = T j ∧ byteR (T j)) : ∃ h', fX6_take h 32 = some (bI (decide (t = n) && allP T n), h') ∧ FR (fun k => k = 21) h h' ∧ (t = n → allP T n = true → ∀ i, i < n → h' 21 i = T i) := by
  have e5 : h (32 + 5) 0 = nI n := by rw [H.f0, en]
  unfold fX6_take
  rw [e2, e5]
  by_cases c : t = n
  · subst c
    rw [if_pos rfl]
    obtain ⟨r, e, q1, q2, q3⟩ := loop0 (σ := Hp) (ρ := Int32 × Hp) t (fun m i s => LX6_take 32 m s (nI i)) (fun i s => FR (fun k => k = 21) h s ∧ allP T i = true ∧ ∀ j, j < i → s 21 j = T j) (fun r => r.1 = bI (allP T t) ∧ FR (fun k => k = 21) h r.2 ∧ (allP T t = true → ∀ i, i < t → r.2 21 i = T i)) h (by omega) ⟨FR.refl _ _, rfl, fun j hj => by omega⟩ (by
      rintro m i s hi ⟨a1, a2, a3⟩
      have s1 : s 1 2 = nI t := by rw [a1 1 (by omega)]; exact e2
      have s5 : s (32 + 5) 0 = nI t := by rw [a1 (32 + 5) (by omega)]; exact e5
      have sb : ∀ j, j < t → s 2 j = T j ∧ byteR (T j) := fun j hj => by rw [a1 2 (by omega)]; exact hb j hj
      try dsimp only
      rw [LX6_take, BX6_take_0, s5, if_neg (nI_ge hi (by omega)), byteAt_x s1 ht sb hi, cl9_some]
      simp only [gd_in (show i < 5 by omega) (show 5 < 2 ^ 31 by decide), nI_clamp (show i < 2 ^ 31 by omega), lt9_e]
      rw [up2_s, upd_s]
      have F2 : FR (fun k => k = 21) h (up2 s 21 i (T i &&& 255)) := a1.trans (FR.up2 (C := fun k => k = 21) _ _ _ rfl)
      rcases byte_cases (hb i hi).2 with ⟨q, hq, eq, eq2, np⟩ | ⟨np, nl, -⟩
      · left
        refine ⟨up2 s 21 i (T i &&& 255), ⟨F2, ?_, fun j hj => ?_⟩, ?_⟩
        · unfold allP at a2 ⊢
          rw [allB_s, a2, decide_eq_true np]; rfl
        · rw [up2_s]
          by_cases d : j = i
          · subst d; rw [upd_s, eq2, eq]
          · rw [upd_n _ _ d]; exact a3 j (by omega)
        · rw [eq2, i_15, if_pos (nI_le (by omega) (by decide)), nI_1]
      · right
        refine ⟨(0, up2 s 21 i (T i &&& 255)), by rw [if_neg nl], ?_, F2, fun q => ?_⟩
        · have : allP T t = false := by
            unfold allP
            exact allB_no (i := i) hi (decide_eq_false (by rw [np]; decide))
          rw [this]; rfl
        · have := allB_of q i hi
          rw [np] at this
          cases this) (by
      rintro m s ⟨a1, a2, a3⟩
      have s5 : s (32 + 5) 0 = nI t := by rw [a1 (32 + 5) (by omega)]; exact e5
      refine ⟨(1, s), ?_, by rw [a2]; rfl, a1, fun _ => a3⟩
      try dsimp only
      rw [LX6_take, BX6_take_0, s5, if_pos (nI_le (Nat.le_refl _) (by omega))])
    refine ⟨r.2, ?_, q2, fun _ => q3⟩
    rw [decide_eq_true rfl, Bool.true_and, ← q1]
    exact e
  · rw [if_neg (nI_ne (by omega) (by omega) c), decide_eq_false c]
    exact ⟨h, rfl, FR.refl _ _, fun q => absurd q c⟩
theorem LL9_small {w T : Nat → Int32} {n : Nat} (G : GWT w T n) : ∀ r p tk, p + r = n → tk < 32 → cntB (fun i => tk.testBit i) n ≤ p → LL9 (dys w T) n r p tk ≤ 15 := by
  intro r
  induction r with
  | zero => intro p tk _ _ _; exact Nat.zero_le _
  | succ r ih =>
    intro p tk hp ht hc
    have h5 := G.1
    have fr : ∃ i, i < n ∧ tk.testBit i = false := by
      apply Classical.byContradiction
      intro q
      have : ∀ m, m ≤ n → cntB (fun i => tk.testBit i) m = m := by
        intro m
        induction m with
        | zero => intro _; rfl
        | succ m ih2 =>
          intro hm
          rw [cntB_s, ih2 (by omega)]
          cases b : tk.testBit m with
          | true => rfl
          | false => exact absurd ⟨m, by omega, b⟩ q
      have := this n (Nat.le_refl _)
      omega
    obtain ⟨i, hi, bi⟩ := fr
    have h1 := minI_le (ok := fun i => !tk.testBit i) (f := fun i => max (dys w T p i) (LL9 (dys w T) n r (p + 1) (tk ||| 2 ^ i))) hi (by rw [bi]; rfl)
    have h2 := dys_le G (show p < n by omega) hi
    have h3 := ih (p + 1) (tk ||| 2 ^ i) (by omega) (or_lt5 ht (by omega)) (by
      have e : ∀ q, (tk ||| 2 ^ i).testBit q = (tk.testBit q || decide (i = q)) := fun q => by rw [Nat.testBit_or, Nat.testBit_two_pow]
      have := cntB_add (f := fun q => tk.testBit q) (g := fun q => (tk ||| 2 ^ i).testBit q) (q := i) bi (by (try dsimp only); rw [e]; simp) (fun q hq => by rw [e]; simp [show ¬ i = q from fun x => hq x.symm]) n
      rw [this, if_pos hi]; omega)
    rw [LL9_s]
    omega
theorem settle_x {w T : Nat → Int32} {n : Nat} (G : GWT w T n) {h : Hp} (W : CRW w T n h) : ∃ h', fX6_settle h 32 = some h' ∧ FR c2023 h h' ∧ h' 20 3 = nI (LL9 (dys w T) n n 0 0) ∧ ∀ q, q < n → h' 23 q = nI (GR (dys w T) n (LL9 (dys w T) n n 0 0) n 0 0 q) := by
  have W1 : CRW w T n (up2 h 20 3 16) := W.fr (FR.up2 (C := c2023) h _ _ (Or.inl rfl))
  obtain ⟨h', e', F', -, S⟩ := send_x G n 0 0 0 16 64 (up2 h 20 3 16) (by omega) (by have := G.1; omega) (by decide) (by decide) (Nat.le_refl _) W1 (by rw [up2_s, upd_s]; rfl)
  have sm := LL9_small G n 0 0 (by omega) (by decide) (by
    have : ∀ m, cntB (fun i => (0 : Nat).testBit i) m = 0 := by
      intro m
      induction m with
      | zero => rfl
      | succ m ih => rw [cntB_s, ih]; simp
    rw [this]; exact Nat.le_refl _)
  have mx : max 0 (LL9 (dys w T) n n 0 0) = LL9 (dys w T) n n 0 0 := by omega
  rw [mx] at S
  have e'' : fX6_send (up2 h 20 3 16) 32 0 0 0 = some h' := e'
  refine ⟨h', ?_, (FR.up2 (C := c2023) h _ _ (Or.inl rfl)).trans F', ?_⟩
  · unfold fX6_settle
    simp only [lt9_e]
    rw [e'', cl9_some]
  · rcases S with ⟨q1, q2, -, q4⟩ | ⟨q1, -, -⟩
    · exact ⟨q2, fun q hq => q4 q (Nat.zero_le _) hq⟩
    · omega
theorem goes_x {h : Hp} {σ : St} (C : RC h σ) (x : Int32) {n : Nat} (hn : n ≤ 5) (en : σ.1 0 = nI n) : ∃ r k h', fX11_goes h x = some (r, k, h') ∧ RC h' (useT σ) ∧ FR cX h h' ∧
    (((x ≠ -1 ∧ ∀ q, q < n → x ≠ nI q) ∧ k = 1) ∨ ((x = -1 ∨ ∃ q, q < n ∧ x = nI q) ∧ (decide (σ.2.2.2.2.2.1 = n) && allP σ.2.2.2.2.2.2.1 n) = false ∧ k = 3) ∨ ((decide (σ.2.2.2.2.2.1 = n) && allP σ.2.2.2.2.2.2.1 n) = true ∧ k = 0 ∧ ((x = -1 ∧ r = nI (LL9 (dys σ.1 σ.2.2.2.2.2.2.1) n n 0 0)) ∨ ∃ q, q < n ∧ x = nI q ∧ r = nI (GR (dys σ.1 σ.2.2.2.2.2.2.1) n (LL9 (dys σ.1 σ.2.2.2.2.2.2.1) n n 0 0) n 0 0 q)))) := by
  obtain ⟨h1, e1, C1, F1, l1, -, -, -, ht, hb⟩ := open_x C
  have H1 : CS h1 32 σ.1 := by have := C1.cs; rw [useT_1] at this; exact this
  obtain ⟨h4, e4, F4, pl⟩ := take_x H1 hn en l1 ht hb
  have C4 : RC h4 (useT σ) := C1.sc (F4.mono (fun k q => by unfold sc; omega))
  have F14 : FR cX h h4 := (F1.mono (D := cX) (fun k q => by unfold cX; omega)).trans (F4.mono (fun k q => by unfold cX; omega))
  have H4 : CS h4 32 σ.1 := by have := C4.cs; rw [useT_1] at this; exact this
  have neg : ∀ q : Nat, q < 2 ^ 30 → nI q ≠ -1 := fun q hq c => by have := nI_pos (n := q) (by omega); rw [c] at this; exact this (by decide)
  have main : (x = -1 ∨ ∃ q, q < n ∧ x = nI q) → fX11_goes h x = cl2 (fX6_take h1 32) (fun x6 h4 => (if x6 = 0 then some (0, 3, h4) else cl9 (fX6_settle h4 32) (fun h8 => (if x = -1 then some ((h8 20 3), 0, h8) else gd (inb x 5) (some ((h8 23 x.toNatClampNeg), 0, h8)))))) := by
    intro q
    unfold fX11_goes
    rw [e1, cl9_some]
    rcases q with q | ⟨q, hq, rfl⟩
    · rw [if_pos q]
    · have cp : fX11_checkPinner h1 (nI q) = 0 := by
        rcases pinner_cases (nI q) hn (h := h1) (by rw [← en]; exact H1.f0) with ⟨c, -⟩ | ⟨-, -, -, c, -⟩
        · exfalso
          unfold fX11_checkPinner at c
          have e5 : h1 (32 + 5) 0 = nI n := by rw [← en]; exact H1.f0
          rw [e5, if_neg (nI_pos (by omega)), if_pos (nI_lt hq (by omega))] at c
          cases c
        · exact c
      rw [if_neg (neg q (by omega)), cp, if_pos rfl]
  by_cases cx : x = -1 ∨ ∃ q, q < n ∧ x = nI q
  · rw [main cx, e4, cl2_some]
    cases b : (decide (σ.2.2.2.2.2.1 = n) && allP σ.2.2.2.2.2.2.1 n) with
    | false => exact ⟨0, 3, h4, by rw [if_pos (show bI false = 0 from rfl)], C4, F14, Or.inr (Or.inl ⟨cx, rfl, rfl⟩)⟩
    | true =>
      rw [Bool.and_eq_true, decide_eq_true_eq] at b
      have G : GWT σ.1 σ.2.2.2.2.2.2.1 n := ⟨hn, H4.2.1, en, fun i hi => by
        rcases byte_cases (hb i (by omega)).2 with ⟨q, hq, eq, -⟩ | ⟨np, -⟩
        · exact ⟨q, hq, eq⟩
        · have := allB_of b.2 i hi
          rw [np] at this; cases this⟩
      have W : CRW σ.1 σ.2.2.2.2.2.2.1 n h4 := ⟨by rw [← en]; exact H4.f0, fun p hp => H4.spot (by omega), fun p hp => H4.pace (by omega), pl b.1 b.2⟩
      obtain ⟨h8, e8, F8, r1, r2⟩ := settle_x G W
      have C8 : RC h8 (useT σ) := C4.sc (F8.mono (fun k q => by unfold c2023 at q; unfold sc; omega))
      have F18 : FR cX h h8 := F14.trans (F8.mono (fun k q => by unfold c2023 at q; unfold cX; omega))
      rw [if_neg (by decide), e8, cl9_some]
      rcases cx with rfl | ⟨q, hq, rfl⟩
      · exact ⟨_, 0, h8, by rw [if_pos rfl], C8, F18, Or.inr (Or.inr ⟨rfl, rfl, Or.inl ⟨rfl, r1⟩⟩)⟩
      · refine ⟨_, 0, h8, ?_, C8, F18, Or.inr (Or.inr ⟨rfl, rfl, Or.inr ⟨q, hq, rfl, r2 q hq⟩⟩)⟩
        rw [if_neg (neg q (by omega)), gd_in (by omega) (by decide), nI_clamp (by omega)]
  · have c1 : x ≠ -1 := fun q => cx (Or.inl q)
    have c2 : ∀ q, q < n → x ≠ nI q := fun q hq e => cx (Or.inr ⟨q, hq, e⟩)
    have cp : fX11_checkPinner h1 x = 1 := by
      rcases pinner_cases x hn (h := h1) (by rw [← en]; exact H1.f0) with ⟨c, -⟩ | ⟨k, hk, e, -⟩
      · exact c
      · exact absurd e (c2 k hk)
    refine ⟨0, 1, h1, ?_, C1, F1.mono (fun k q => by unfold cX; omega), Or.inl ⟨⟨c1, c2⟩, rfl⟩⟩
    unfold fX11_goes
    rw [e1, cl9_some, if_neg c1, cp]; rfl
/-! the reference -/
def cV (k _j : Nat) : Prop := k = 217
def TBG (D : Nat → Nat → Nat) (n p : Nat) (tk : Nat) (h : Hp) : Prop := ∀ p' t', p' ≤ n → t' < 32 → (p < p' ∨ (p' = p ∧ t' < tk)) → h 217 (32 * p' + t') = nI (LL9 D n (n - p') p' t')
theorem shl5 {p : Nat} (hp : p ≤ 5) : nI p <<< ((5 : Int32) &&& 31) = nI (32 * p) := by
  rw [pk_shlN ((5 : Int32) &&& 31) 5 (by decide) (by omega)]
  exact congrArg nI (by omega)
theorem leastOf_m {h : Hp} {p tk : Nat} (hp : p ≤ 5) (ht : tk < 32) : fX12_leastOf h (nI p) (nI tk) = some (h 217 (32 * p + tk)) := by
  unfold fX12_leastOf
  rw [shl5 hp, nI_add, gd_in (by omega) (by decide), nI_clamp (by omega)]
theorem leastBy_m {w T : Nat → Int32} {n : Nat} (G : GWT w T n) {h : Hp} (hw : h 209 = w) (hT : ∀ j, j < n → h 214 j = T j) {p tk i r : Nat} (hp : p + r + 1 = n) (ht : tk < 32) (hi : i < n) (hl : h 217 (32 * (p + 1) + (tk ||| 2 ^ i)) = nI (LL9 (dys w T) n r (p + 1) (tk ||| 2 ^ i))) : fX12_leastBy h (nI p) (nI tk) (nI i) = some (nI (max (dys w T p i) (LL9 (dys w T) n r (p + 1) (tk ||| 2 ^ i)))) := by
  have h5 := G.1
  obtain ⟨a, q, ha, hq, h0, ea, eq⟩ := G.pos (show p < n by omega)
  obtain ⟨t, ht2, et⟩ := G.2.2.2 i hi
  have dl := dys_le G (show p < n by omega) hi
  have ll := LL9_big (dys w T) n r (p + 1) (tk ||| 2 ^ i)
  have ed : (adif a t + q - 1) / q = dys w T p i := by unfold dys; rw [ea, eq, et, nI_clamp (by omega), nI_clamp (by omega), nI_clamp (by omega)]
  unfold fX12_leastBy
  rw [gd_in (show i < 400 by omega) (by decide), nI_clamp (by omega), hT i hi, et, daysOf_m hw (by omega) (by omega) ea eq ha hq h0, cl9_some, ed, nI_1, bit9_def, set_or (by omega), leastOf_m (by omega) (or_lt5 ht (by omega)), cl9_some, hl, jmax_n (by omega) (by omega)]
theorem laysLeast_m {w T : Nat → Int32} {n : Nat} (G : GWT w T n) {h : Hp} (hw : h 209 = w) (hT : ∀ j, j < n → h 214 j = T j) : ∃ h', fX12_laysLeast h = some h' ∧ FI cV h h' ∧ ∀ p t, p ≤ n → t < 32 → h' 217 (32 * p + t) = nI (LL9 (dys w T) n (n - p) p t) := by
  have h5 := G.1
  have en := G.2.2.1
  have pn : ∀ s : Hp, FI cV h s → fX12_pinners s = nI n := fun s F => by unfold fX12_pinners; rw [F 209 0 (by unfold cV; omega), hw, en]
  obtain ⟨s0, ⟨a1, a2⟩, e0⟩ := rchN (σ := Hp) (ρ := Hp) (α := Hp × Int32) (fun f a => LX12_laysLeast f 0 a.1 a.2 0 0 0) (fun i s => (s, nI i)) 32 1 (fun i s => FI cV h s ∧ TBG (dys w T) n n i s) (by
    rintro i s hi ⟨b1, b2⟩
    refine ⟨up2 s 217 (32 * n + i) 0, ⟨b1.trans (FI.up2 _ _ rfl), fun p' t' h1 h2 h3 => ?_⟩, fun f => ?_⟩
    · rw [up2_s]
      by_cases c : 32 * p' + t' = 32 * n + i
      · rw [c, upd_s]
        have : p' = n := by omega
        subst this
        rw [Nat.sub_self]; rfl
      · rw [upd_n _ _ c]
        exact b2 p' t' h1 h2 (by omega)
    · try dsimp only
      rw [LX12_laysLeast, if_pos rfl, BX12_laysLeast_0, i_32, if_neg (nI_ge hi (by decide)), pn s b1, shl5 h5, nI_add, gd_in (by omega) (by decide), nI_clamp (by omega), nI_1]
      rfl) 32 0 h rfl ⟨FI.refl _ _, fun p' t' _ _ h3 => by omega⟩
  have row : ∀ p s, p < n → FI cV h s → TBG (dys w T) n p 0 s → ∃ s' K, K ≤ 300 ∧ FI cV h s' ∧ TBG (dys w T) n p 32 s' ∧ ∀ f, LX12_laysLeast (f + K) 2 s (nI p) 0 0 0 = LX12_laysLeast f 2 s' (nI p) (nI 32) 0 0 := by
    intro p s hp F T0
    obtain ⟨r, hr⟩ : ∃ r, p + r + 1 = n := ⟨n - p - 1, by omega⟩
    obtain ⟨s', ⟨c1, c2⟩, e⟩ := rchN (σ := Hp) (ρ := Hp) (α := Hp × Int32) (fun f a => LX12_laysLeast f 2 a.1 (nI p) a.2 0 0) (fun i s => (s, nI i)) 32 (n + 2) (fun i s => FI cV h s ∧ TBG (dys w T) n p i s) (by
      rintro tk s ht ⟨b1, b2⟩
      have hw1 : s 209 = w := by rw [b1.cell (fun j q => by unfold cV at q; omega)]; exact hw
      have hT1 : ∀ j, j < n → s 214 j = T j := fun j hj => by rw [b1 214 j (by unfold cV; omega)]; exact hT j hj
      obtain ⟨m, hm, em⟩ := rchN (σ := Nat) (ρ := Hp) (α := Int32 × Int32) (fun f a => LX12_laysLeast f 3 s (nI p) (nI tk) a.1 a.2) (fun i m => (nI m, nI i)) n 1 (fun i m => m = minI (fun i => !tk.testBit i) (fun i => max (dys w T p i) (LL9 (dys w T) n r (p + 1) (tk ||| 2 ^ i))) i) (by
        rintro i m hi rfl
        refine ⟨_, rfl, fun f => ?_⟩
        have lb := leastBy_m G hw1 hT1 hr ht hi (by
          have := b2 (p + 1) (tk ||| 2 ^ i) (by omega) (or_lt5 ht (by omega)) (Or.inl (by omega))
          rw [show n - (p + 1) = r by omega] at this
          exact this)
        have b1' := minI_big (fun i => !tk.testBit i) (fun i => max (dys w T p i) (LL9 (dys w T) n r (p + 1) (tk ||| 2 ^ i))) i
        have dl := dys_le G hp hi
        have ll := LL9_big (dys w T) n r (p + 1) (tk ||| 2 ^ i)
        try dsimp only
        rw [LX12_laysLeast, if_neg (by decide), if_neg (by decide), if_neg (by decide), if_pos rfl, BX12_laysLeast_3, pn s b1, if_neg (nI_ge hi (by omega)), has_m _ (by omega), has9_tb (by omega), lb, cl9_some, nI_1, minI_s]
        simp only [bI_eq0, lt9_e]
        cases tk.testBit i with
        | true => rfl
        | false =>
          rw [if_pos rfl, jmin_n (by omega) (by omega)]
          rfl) n 0 1000000 (by omega) rfl
      have mL : m = LL9 (dys w T) n (n - p) p tk := by rw [hm, show n - p = r + 1 by omega, LL9_s]
      refine ⟨up2 s 217 (32 * p + tk) (nI m), ⟨b1.trans (FI.up2 _ _ rfl), fun p' t' h1 h2 h3 => ?_⟩, fun f => ?_⟩
      · rw [up2_s]
        by_cases c : 32 * p' + t' = 32 * p + tk
        · rw [c, upd_s, mL]
          have : p' = p := by omega
          have : t' = tk := by omega
          subst p' t'
          rfl
        · rw [upd_n _ _ c]
          exact b2 p' t' h1 h2 (by omega)
      · try dsimp only
        have s2 := em (f + 1)
        dsimp only at s2
        have s1 : LX12_laysLeast (f + (n + 2)) 2 s (nI p) (nI tk) 0 0 = LX12_laysLeast (f + 1 + 1 * n) 3 s (nI p) (nI tk) (nI 1000000) (nI 0) := by
          rw [show f + (n + 2) = (f + 1 + 1 * n) + 1 by omega, LX12_laysLeast, if_neg (by decide), if_neg (by decide), if_pos rfl, BX12_laysLeast_2, i_32, if_neg (nI_ge ht (by decide))]
          rfl
        rw [s1, s2, LX12_laysLeast, if_neg (by decide), if_neg (by decide), if_neg (by decide), if_pos rfl, BX12_laysLeast_3, pn s b1, if_pos (nI_le (Nat.le_refl _) (by omega)), shl5 (by omega), nI_add, gd_in (by omega) (by decide), nI_clamp (by omega), nI_1]
        rfl) 32 0 s rfl ⟨F, T0⟩
    exact ⟨s', (n + 2) * 32, by omega, c1, c2, fun f => e f⟩
  have rows : ∀ p s, p ≤ n → FI cV h s → TBG (dys w T) n p 32 s → ∃ s' K, K ≤ 310 * p ∧ FI cV h s' ∧ (∀ p' t', p' ≤ n → t' < 32 → s' 217 (32 * p' + t') = nI (LL9 (dys w T) n (n - p') p' t')) ∧ ∀ f, LX12_laysLeast (f + 1 + K) 1 s (nI p - 1) 0 0 0 = some s' := by
    intro p
    induction p with
    | zero =>
      intro s _ F T0
      refine ⟨s, 0, Nat.le_refl _, F, fun p' t' h1 h2 => T0 p' t' h1 h2 (by omega), fun f => ?_⟩
      rw [Nat.add_zero, LX12_laysLeast, if_neg (by decide), if_pos rfl, BX12_laysLeast_1, if_pos (by decide)]
    | succ p ih =>
      intro s hp F T0
      obtain ⟨s1, K1, k1, F1, T1, e1⟩ := row p s (by omega) F (fun p' t' h1 h2 h3 => T0 p' t' h1 h2 (by omega))
      obtain ⟨s2, K2, k2, F2, T2, e2⟩ := ih s1 (by omega) F1 T1
      refine ⟨s2, K2 + K1 + 2, by omega, F2, T2, fun f => ?_⟩
      have em : nI p + (-1) = nI p - 1 := (Int32.sub_eq_add_neg _ _).symm
      rw [show f + 1 + (K2 + K1 + 2) = (f + 1 + K2 + 1 + K1) + 1 by omega, nI_pred, LX12_laysLeast, if_neg (by decide), if_pos rfl, BX12_laysLeast_1, if_neg (nI_pos (by omega)), e1 (f + 1 + K2 + 1), LX12_laysLeast, if_neg (by decide), if_neg (by decide), if_pos rfl, BX12_laysLeast_2, i_32, if_pos (nI_le (Nat.le_refl _) (by decide)), em]
      exact e2 f
  obtain ⟨s1, K, hK, F1, T1, e1⟩ := rows n s0 (Nat.le_refl _) a1 a2
  refine ⟨s1, ?_, F1, T1⟩
  unfold fX12_laysLeast
  obtain ⟨r, hr⟩ : ∃ r, 1000000 = (r + 1 + K) + 1 + 1 * 32 := ⟨1000000 - (1 + K + 1 + 32), by omega⟩
  have q0 := e0 ((r + 1 + K) + 1)
  dsimp only at q0
  show LX12_laysLeast 1000000 0 h (nI 0) 0 0 0 = _
  rw [hr, q0, LX12_laysLeast, if_pos rfl, BX12_laysLeast_0, i_32, if_pos (nI_le (Nat.le_refl _) (by decide)), pn s0 a1]
  exact e1 r
theorem fstI_sp {f : Nat → Bool} : ∀ m j, (∃ i, j ≤ i ∧ i < j + m ∧ f i = true) → fstI f m j < j + m ∧ f (fstI f m j) = true ∧ j ≤ fstI f m j ∧ ∀ q, j ≤ q → q < fstI f m j → f q = false
  | 0, j, h => by obtain ⟨i, h1, h2, -⟩ := h; omega
  | m + 1, j, h => by
    unfold fstI
    cases c : f j with
    | true => simp only [if_true]; exact ⟨by omega, c, Nat.le_refl _, fun q h1 h2 => by omega⟩
    | false =>
      simp only [Bool.false_eq_true, if_false]
      obtain ⟨i, h1, h2, h3⟩ := h
      have ne : i ≠ j := fun q => by rw [q, c] at h3; cases h3
      obtain ⟨a1, a2, a3, a4⟩ := fstI_sp (f := f) m (j + 1) ⟨i, by omega, by omega, h3⟩
      refine ⟨by omega, a2, by omega, fun q h4 h5 => ?_⟩
      by_cases d : q = j
      · rw [d]; exact c
      · exact a4 q (by omega) h5
def tkS (D : Nat → Nat → Nat) (n v : Nat) : Nat → Nat
  | 0 => 0
  | p + 1 => tkS D n v p ||| 2 ^ fstI (okG D n (n - p - 1) p (tkS D n v p) v) n 0
theorem tkS_s (D : Nat → Nat → Nat) (n v p : Nat) : tkS D n v (p + 1) = tkS D n v p ||| 2 ^ fstI (okG D n (n - p - 1) p (tkS D n v p) v) n 0 := rfl
theorem GR_tk (D : Nat → Nat → Nat) (n v q : Nat) (hq : q < n) : ∀ m p, p + m = q → GR D n v (n - p) p (tkS D n v p) q = fstI (okG D n (n - q - 1) q (tkS D n v q) v) n 0 := by
  intro m
  induction m with
  | zero =>
    intro p hp
    obtain rfl : p = q := by omega
    rw [show n - p = (n - p - 1) + 1 by omega, GR_s, if_pos rfl, show n - p - 1 + 1 - 1 = n - p - 1 by omega]
  | succ m ih =>
    intro p hp
    rw [show n - p = (n - p - 1) + 1 by omega, GR_s, if_neg (by omega), ← tkS_s, show n - p - 1 = n - (p + 1) by omega]
    exact ih (p + 1) (by omega)
theorem okG_t {D : Nat → Nat → Nat} {n r p tk v i : Nat} (h : okG D n r p tk v i = true) : tk.testBit i = false ∧ max (D p i) (LL9 D n r (p + 1) (tk ||| 2 ^ i)) ≤ v := by
  unfold okG at h
  rw [Bool.and_eq_true, decide_eq_true_eq] at h
  exact ⟨by simpa using h.1, h.2⟩
theorem okG_f {D : Nat → Nat → Nat} {n r p tk v i : Nat} (h : okG D n r p tk v i = false) (hb : tk.testBit i = false) : ¬ max (D p i) (LL9 D n r (p + 1) (tk ||| 2 ^ i)) ≤ v := by
  unfold okG at h
  rw [hb] at h
  simpa using h
theorem tkS_ok {w T : Nat → Int32} {n : Nat} (G : GWT w T n) {v : Nat} (hv : v ≤ 15) (h0 : LL9 (dys w T) n n 0 0 ≤ v) : ∀ p, p < n → tkS (dys w T) n v p < 32 ∧ LL9 (dys w T) n (n - p) p (tkS (dys w T) n v p) ≤ v ∧ fstI (okG (dys w T) n (n - p - 1) p (tkS (dys w T) n v p) v) n 0 < n ∧ okG (dys w T) n (n - p - 1) p (tkS (dys w T) n v p) v (fstI (okG (dys w T) n (n - p - 1) p (tkS (dys w T) n v p) v) n 0) = true ∧ ∀ q, q < fstI (okG (dys w T) n (n - p - 1) p (tkS (dys w T) n v p) v) n 0 → okG (dys w T) n (n - p - 1) p (tkS (dys w T) n v p) v q = false := by
  have h5 := G.1
  have fin : ∀ p, p < n → tkS (dys w T) n v p < 32 → LL9 (dys w T) n (n - p) p (tkS (dys w T) n v p) ≤ v → fstI (okG (dys w T) n (n - p - 1) p (tkS (dys w T) n v p) v) n 0 < n ∧ okG (dys w T) n (n - p - 1) p (tkS (dys w T) n v p) v (fstI (okG (dys w T) n (n - p - 1) p (tkS (dys w T) n v p) v) n 0) = true ∧ ∀ q, q < fstI (okG (dys w T) n (n - p - 1) p (tkS (dys w T) n v p) v) n 0 → okG (dys w T) n (n - p - 1) p (tkS (dys w T) n v p) v q = false := by
    intro p hp ht hl
    rw [show n - p = (n - p - 1) + 1 by omega, LL9_s] at hl
    obtain ⟨i, hi, oi, ei⟩ := minI_at (ok := fun i => !(tkS (dys w T) n v p).testBit i) (f := fun i => max (dys w T p i) (LL9 (dys w T) n (n - p - 1) (p + 1) (tkS (dys w T) n v p ||| 2 ^ i))) (k := n) (by omega)
    obtain ⟨a1, a2, -, a4⟩ := fstI_sp (f := okG (dys w T) n (n - p - 1) p (tkS (dys w T) n v p) v) n 0 ⟨i, Nat.zero_le _, by omega, by
      unfold okG
      try dsimp only at oi ei
      rw [oi, decide_eq_true (by omega)]; rfl⟩
    exact ⟨by omega, a2, fun q hq => a4 q (Nat.zero_le _) hq⟩
  intro p
  induction p with
  | zero =>
    intro hp
    have t0 : tkS (dys w T) n v 0 < 32 := by show 0 < 32; decide
    have := fin 0 hp t0 h0
    exact ⟨t0, h0, this⟩
  | succ p ih =>
    intro hp
    obtain ⟨b1, b2, b3, b4, -⟩ := ih (by omega)
    have c1 : tkS (dys w T) n v (p + 1) < 32 := by rw [tkS_s]; exact or_lt5 b1 (by omega)
    have c2 : LL9 (dys w T) n (n - (p + 1)) (p + 1) (tkS (dys w T) n v (p + 1)) ≤ v := by
      rw [tkS_s, show n - (p + 1) = n - p - 1 by omega]
      have := (okG_t b4).2
      omega
    exact ⟨c1, c2, fin (p + 1) hp c1 c2⟩
theorem goes_mL {w T : Nat → Int32} {n : Nat} (G : GWT w T n) {h : Hp} (hw : h 209 = w) (hT : ∀ j, j < n → h 214 j = T j) (tb : ∀ p t, p ≤ n → t < 32 → h 217 (32 * p + t) = nI (LL9 (dys w T) n (n - p) p t)) {v : Nat} (ev : v = LL9 (dys w T) n n 0 0) (hv : v ≤ 15) {q : Nat} (hq : q < n) : ∃ K, K ≤ 100 ∧ ∀ f, LX12_goes (f + 1 + K) 2 h (nI q) 0 (nI v) 0 0 0 = some (nI (GR (dys w T) n v n 0 0 q), h) := by
  have h5 := G.1
  obtain ⟨g, K, hK, hg, e⟩ := rchV (σ := Int32) (ρ := Int32 × Hp) (α := Int32 × Int32 × Int32) (fun f a => LX12_goes f 2 h (nI q) 0 (nI v) a.1 a.2.1 a.2.2) (fun p g => (nI (tkS (dys w T) n v p), g, nI p)) (q + 1) 10 (fun p g => ∀ p', p = p' + 1 → g = nI (fstI (okG (dys w T) n (n - p' - 1) p' (tkS (dys w T) n v p') v) n 0)) (by
    rintro p g hp hg
    obtain ⟨b1, b2, b3, b4, b5⟩ := tkS_ok G hv (by omega) p (by omega)
    have inner : ∀ m i f, i + m = fstI (okG (dys w T) n (n - p - 1) p (tkS (dys w T) n v p) v) n 0 → LX12_goes (f + m + 1) 3 h (nI q) 0 (nI v) (nI (tkS (dys w T) n v p)) (nI i) (nI p) = LX12_goes f 2 h (nI q) 0 (nI v) (nI (tkS (dys w T) n v (p + 1))) (nI (fstI (okG (dys w T) n (n - p - 1) p (tkS (dys w T) n v p) v) n 0)) (nI (p + 1)) := by
      intro m
      induction m with
      | zero =>
        intro i f hi
        obtain rfl : i = fstI (okG (dys w T) n (n - p - 1) p (tkS (dys w T) n v p) v) n 0 := by omega
        have lb := leastBy_m G hw hT (p := p) (r := n - p - 1) (by omega) b1 b3 (by
          have := tb (p + 1) (tkS (dys w T) n v p ||| 2 ^ fstI (okG (dys w T) n (n - p - 1) p (tkS (dys w T) n v p) v) n 0) (by omega) (or_lt5 b1 (by omega))
          rw [show n - (p + 1) = n - p - 1 by omega] at this
          exact this)
        obtain ⟨bt, bl⟩ := okG_t b4
        rw [Nat.add_zero, LX12_goes, if_neg (by decide), if_neg (by decide), if_neg (by decide), if_pos rfl, BX12_goes_3, has_m _ (by omega), has9_tb (by omega), bt, if_pos (show bI false = 0 from rfl), lb, cl9_some, if_pos (nI_le bl (by omega)), cl9_some]
        simp only [Bool.false_eq_true, if_false, lt9_e]
        rw [bit9_def, set_or (by omega), nI_1, tkS_s]
      | succ m ih =>
        intro i f hi
        have nf := b5 i (by omega)
        have lb := leastBy_m G hw hT (p := p) (r := n - p - 1) (i := i) (by omega) b1 (by omega) (by
          have := tb (p + 1) (tkS (dys w T) n v p ||| 2 ^ i) (by omega) (or_lt5 b1 (by omega))
          rw [show n - (p + 1) = n - p - 1 by omega] at this
          exact this)
        have dl := dys_le G (show p < n by omega) (show i < n by omega)
        have ll := LL9_big (dys w T) n (n - p - 1) (p + 1) (tkS (dys w T) n v p ||| 2 ^ i)
        rw [show f + (m + 1) + 1 = (f + m + 1) + 1 by omega, LX12_goes, if_neg (by decide), if_neg (by decide), if_neg (by decide), if_pos rfl, BX12_goes_3, has_m _ (by omega), has9_tb (by omega)]
        cases bt : (tkS (dys w T) n v p).testBit i with
        | true =>
          rw [if_neg (by decide), cl9_some]
          simp only [if_true, lt9_e]
          rw [nI_1]
          exact ih (i + 1) f (by omega)
        | false =>
          have gt := okG_f nf bt
          rw [if_pos (show bI false = 0 from rfl), lb, cl9_some, if_neg (nI_ge (by omega) (by omega)), cl9_some]
          simp only [if_true, lt9_e]
          rw [nI_1]
          exact ih (i + 1) f (by omega)
    refine ⟨nI (fstI (okG (dys w T) n (n - p - 1) p (tkS (dys w T) n v p) v) n 0), fstI (okG (dys w T) n (n - p - 1) p (tkS (dys w T) n v p) v) n 0 + 2, by omega, fun p' hp' => by rw [show p' = p by omega], fun f => ?_⟩
    try dsimp only
    rw [show f + (fstI (okG (dys w T) n (n - p - 1) p (tkS (dys w T) n v p) v) n 0 + 2) = (f + fstI (okG (dys w T) n (n - p - 1) p (tkS (dys w T) n v p) v) n 0 + 1) + 1 by omega, LX12_goes, if_neg (by decide), if_neg (by decide), if_pos rfl, BX12_goes_2, if_neg (nI_nlt (by omega) (by omega))]
    exact inner _ 0 f (by omega)) (q + 1) 0 0 (by omega) (fun p' hp' => by omega)
  refine ⟨K, by omega, fun f => ?_⟩
  have e1 := e (f + 1)
  dsimp only at e1
  show LX12_goes (f + 1 + K) 2 h (nI q) 0 (nI v) (nI (tkS (dys w T) n v 0)) 0 (nI 0) = _
  rw [e1, LX12_goes, if_neg (by decide), if_neg (by decide), if_pos rfl, BX12_goes_2, if_pos (nI_lt (by omega) (by omega)), hg q rfl]
  have := GR_tk (dys w T) n v q hq q 0 (by omega)
  rw [Nat.sub_zero] at this
  have e3 : GR (dys w T) n v n 0 0 q = _ := this
  rw [e3]
theorem goes_T {h : Hp} {σ : St} (C : RC h σ) (x : Int32) : OpT h σ [(1, 1), (3, 2)] (fX11_goes h x) (fun ha => fX12_goes ha x) := by
  obtain ⟨n, hn, en⟩ := C.cs.2.1.n0
  obtain ⟨h1, -, -, -, -, -, -, -, ht, hbT⟩ := open_x C
  obtain ⟨r, k, h', e', C', F', R⟩ := goes_x C x hn en
  have neg : ∀ q : Nat, q < 2 ^ 30 → nI q ≠ -1 := fun q hq c => by have := nI_pos (n := q) (by omega); rw [c] at this; exact this (by decide)
  have e37 : h 37 0 = nI n := by rw [← en]; exact C.cs.f0
  have chk : ∀ hm : Hp, hm 208 11 = nI σ.2.2.2.2.2.1 → (∀ j, j < σ.2.2.2.2.2.1 → hm 214 j = σ.2.2.2.2.2.2.1 j) → ∃ K, K ≤ 500 ∧ ∀ f, LX12_goes (f + K) 0 hm x (bI (decide (σ.2.2.2.2.2.1 = n))) 0 0 0 0 = LX12_goes f 1 hm x (bI (decide (σ.2.2.2.2.2.1 = n) && allP σ.2.2.2.2.2.2.1 n)) 0 0 0 0 := by
    intro hm e11 hT
    by_cases c : σ.2.2.2.2.2.1 = n
    · rw [decide_eq_true c, Bool.true_and]
      have key : ∀ m i, i + m = n → allP σ.2.2.2.2.2.2.1 i = true → ∃ K, K ≤ m + 2 ∧ ∀ f, LX12_goes (f + K) 0 hm x 1 (nI i) 0 0 0 = LX12_goes f 1 hm x (bI (allP σ.2.2.2.2.2.2.1 n)) 0 0 0 0 := by
        intro m
        induction m with
        | zero =>
          intro i hi ha
          obtain rfl : i = n := by omega
          refine ⟨1, by omega, fun f => ?_⟩
          rw [LX12_goes, if_pos rfl, BX12_goes_0, e11, c, if_pos (nI_le (Nat.le_refl _) (by omega)), ha]
          rfl
        | succ m ih =>
          intro i hi ha
          have st : ∀ f, LX12_goes (f + 1) 0 hm x 1 (nI i) 0 0 0 = if fX12_noPlace (σ.2.2.2.2.2.2.1 i) = 0 then LX12_goes f 0 hm x 1 (nI (i + 1)) 0 0 0 else LX12_goes f 0 hm x 0 (nI (i + 1)) 0 0 0 := by
            intro f
            rw [LX12_goes, if_pos rfl, BX12_goes_0, e11, c, if_neg (nI_ge (by omega) (by omega)), if_neg (by decide), gd_in (show i < 400 by omega) (by decide), nI_clamp (by omega), hT i (by omega), nI_1]
            rfl
          by_cases d : fX12_noPlace (σ.2.2.2.2.2.2.1 i) = 0
          · obtain ⟨K, hK, eK⟩ := ih (i + 1) (by omega) (by unfold allP at ha ⊢; rw [allB_s, ha, decide_eq_true d]; rfl)
            refine ⟨K + 1, by omega, fun f => ?_⟩
            rw [← Nat.add_assoc, st, if_pos d, eK]
          · have z : allP σ.2.2.2.2.2.2.1 n = false := by
              unfold allP
              exact allB_no (i := i) (by omega) (decide_eq_false d)
            refine ⟨2, by omega, fun f => ?_⟩
            rw [show f + 2 = (f + 1) + 1 by omega, st, if_neg d, LX12_goes, if_pos rfl, BX12_goes_0, z]
            by_cases d2 : hm 208 11 ≤ nI (i + 1)
            · rw [if_pos d2]; rfl
            · rw [if_neg d2, if_pos rfl]; rfl
      obtain ⟨K, hK, eK⟩ := key n 0 (by omega) rfl
      exact ⟨K, by omega, eK⟩
    · rw [decide_eq_false c, Bool.false_and]
      refine ⟨1, by omega, fun f => ?_⟩
      rw [LX12_goes, if_pos rfl, BX12_goes_0]
      by_cases d2 : hm 208 11 ≤ 0
      · rw [if_pos d2]
      · rw [if_neg d2, if_pos (show bI false = 0 from rfl)]
  refine ⟨r, k, if k = 0 then 0 else if k = 1 then 1 else 2, h', useT σ, e', ?_, C', F', fun ha M => ?_⟩
  · rcases R with ⟨-, rfl⟩ | ⟨-, -, rfl⟩ | ⟨-, rfl, -⟩ <;> simp
  · obtain ⟨h2, e2, M2, F2, u11, -, u0, uT⟩ := uses_m M
    have w2 : h2 209 = σ.1 := by have := M2.w; rw [useT_1] at this; exact this
    have F2M : FI cM ha h2 := F2.mono (fun k j q => by unfold cM; omega)
    have np : ∀ q, q < n → x = nI q → fX12_noPinner h2 x = 0 := by
      intro q hq eq
      rcases pinner_cases x hn e37 with ⟨c, -⟩ | ⟨-, -, -, -, c⟩
      · exfalso
        subst eq
        unfold fX11_checkPinner at c
        have e5 : h (32 + 5) 0 = nI n := e37
        rw [e5, if_neg (nI_pos (by omega)), if_pos (nI_lt hq (by omega))] at c
        cases c
      · exact c h2 (by rw [w2]; exact en)
    have start : (x = -1 ∨ ∃ q, q < n ∧ x = nI q) → fX12_goes ha x = LX12_goes big 0 h2 x (bI (decide (σ.2.2.2.2.2.1 = n))) 0 0 0 0 := by
      intro cx
      unfold fX12_goes
      rw [e2, cl9_some]
      have cond : (if x = -1 then some false else if fX12_noPinner h2 x = 0 then some false else some true : Option Bool) = some false := by
        rcases cx with c | ⟨q, hq, eq⟩
        · rw [if_pos c]
        · rw [np q hq eq, if_pos rfl]
          by_cases c : x = -1
          · rw [if_pos c]
          · rw [if_neg c]
      rw [cond, cl9_some]
      simp only [Bool.false_eq_true, if_false]
      rw [cl9_some, throws_0, cl2_some, if_pos rfl, u11]
      unfold fX12_pinners
      rw [w2, en]
      by_cases c : σ.2.2.2.2.2.1 = n
      · rw [c, if_pos rfl, decide_eq_true rfl]; rfl
      · rw [if_neg (nI_ne (by omega) (by omega) c), decide_eq_false c]; rfl
    rcases R with ⟨⟨c1, c2⟩, rfl⟩ | ⟨cx, bf, rfl⟩ | ⟨bt, rfl, R⟩
    · have np1 : fX12_noPinner h2 x = 1 := by
        rcases pinner_cases x hn e37 with ⟨-, c⟩ | ⟨q, hq, e, -⟩
        · exact c h2 (by rw [w2]; exact en)
        · exact absurd e (c2 q hq)
      refine ⟨0, up2 h2 208 0 1, ?_, M2.sm (t0s (j := 0) h2 1 (by omega)), F2M.trans (t0M h2 0 1), by rw [up2_s, upd_s]; rfl, fun q => by cases q⟩
      show fX12_goes ha x = _
      unfold fX12_goes
      rw [e2, cl9_some, if_neg c1, np1]; rfl
    · obtain ⟨K, hK, eK⟩ := chk h2 u11 uT
      obtain ⟨m, hm⟩ : ∃ m, 1000000 = (m + 1) + K := ⟨1000000 - 1 - K, by omega⟩
      refine ⟨0, up2 h2 208 0 2, ?_, M2.sm (t0s (j := 0) h2 2 (by omega)), F2M.trans (t0M h2 0 2), by rw [up2_s, upd_s]; rfl, fun q => by cases q⟩
      show fX12_goes ha x = _
      rw [start cx, show big = 1000000 from rfl, hm, eK, bf, LX12_goes, if_neg (by decide), if_pos rfl, BX12_goes_1]
      rfl
    · have bt' := bt
      rw [Bool.and_eq_true, decide_eq_true_eq] at bt'
      have cx : x = -1 ∨ ∃ q, q < n ∧ x = nI q := by
        rcases R with ⟨c, -⟩ | ⟨q, hq, e, -⟩
        · exact Or.inl c
        · exact Or.inr ⟨q, hq, e⟩
      have G : GWT σ.1 σ.2.2.2.2.2.2.1 n := ⟨hn, C.cs.2.1, en, fun i hi => by
        rcases byte_cases (hbT i (by omega)).2 with ⟨q, hq, eq, -⟩ | ⟨npl, -⟩
        · exact ⟨q, hq, eq⟩
        · have := allB_of bt'.2 i hi
          rw [npl] at this; cases this⟩
      obtain ⟨h3, e3, F3, tb⟩ := laysLeast_m G w2 (fun j hj => uT j (by omega))
      have w3 : h3 209 = σ.1 := by rw [F3.cell (fun j q => by unfold cV at q; omega)]; exact w2
      have T3 : ∀ j, j < n → h3 214 j = σ.2.2.2.2.2.2.1 j := fun j hj => by rw [F3 214 j (by unfold cV; omega)]; exact uT j (by omega)
      have l0 : fX12_leastOf h3 0 0 = some (nI (LL9 (dys σ.1 σ.2.2.2.2.2.2.1) n n 0 0)) := by
        have := leastOf_m (h := h3) (p := 0) (tk := 0) (by decide) (by decide)
        have t0 := tb 0 0 (Nat.zero_le _) (by decide)
        rw [Nat.sub_zero] at t0
        rw [t0] at this
        exact this
      have sm15 : LL9 (dys σ.1 σ.2.2.2.2.2.2.1) n n 0 0 ≤ 15 := LL9_small G n 0 0 (by omega) (by decide) (by
        have : ∀ m, cntB (fun i => (0 : Nat).testBit i) m = 0 := by
          intro m
          induction m with
          | zero => rfl
          | succ m ih => rw [cntB_s, ih]; simp
        rw [this]; exact Nat.le_refl _)
      obtain ⟨K, hK, eK⟩ := chk h2 u11 uT
      have F3s : FI sm h2 h3 := F3.mono (fun k j q => by unfold cV at q; unfold sm; omega)
      have F23 : FI cM ha h3 := F2M.trans (F3.mono (fun k j q => by unfold cV at q; unfold cM; omega))
      have z3 : h3 208 0 = 0 := by rw [F3 208 0 (by unfold cV; omega)]; exact u0
      have lab1 : ∀ f, LX12_goes (f + 1) 1 h2 x (bI true) 0 0 0 0 = if x = -1 then some (nI (LL9 (dys σ.1 σ.2.2.2.2.2.2.1) n n 0 0), h3) else LX12_goes f 2 h3 x 0 (nI (LL9 (dys σ.1 σ.2.2.2.2.2.2.1) n n 0 0)) 0 0 0 := by
        intro f
        rw [LX12_goes, if_neg (by decide), if_pos rfl, BX12_goes_1, if_neg (by decide), cl9_some, throws_0, cl2_some, if_pos rfl, e3, cl9_some, l0, cl9_some]
      refine ⟨r, h3, ?_, M2.sm F3s, F23, z3, fun _ => rfl⟩
      show fX12_goes ha x = _
      rcases R with ⟨rfl, er⟩ | ⟨q, hq, rfl, er⟩
      · obtain ⟨m, hm⟩ : ∃ m, 1000000 = (m + 1) + K := ⟨1000000 - 1 - K, by omega⟩
        rw [start cx, show big = 1000000 from rfl, hm, eK, bt, lab1, if_pos rfl, er]
      · obtain ⟨K2, hK2, eK2⟩ := goes_mL G w3 T3 tb rfl sm15 hq
        obtain ⟨m, hm⟩ : ∃ m, 1000000 = (m + 1 + K2 + 1) + K := ⟨1000000 - (1 + K2 + 1) - K, by omega⟩
        rw [start cx, show big = 1000000 from rfl, hm, eK, bt, lab1, if_neg (neg q (by omega)), eK2, er]

/-! span, round, before -/
theorem cntB_sum {f g k : Nat → Bool} : ∀ n, (∀ p, p < n → (if f p then 1 else 0) + (if g p then 1 else 0) = (if k p then 1 else 0 : Nat)) → cntB f n + cntB g n = cntB k n
  | 0, _ => rfl
  | n + 1, h => by
    have h1 := cntB_sum n (fun p hp => h p (by omega))
    have h2 := h n (by omega)
    rw [cntB_s, cntB_s, cntB_s]
    omega
theorem LC.trans {a b c : Nat → Int32} (x : LC a b) (y : LC b c) : LC a c := by
  refine ⟨fun p hp h => x.1 p hp (y.1 p hp h), ?_⟩
  rw [y.2, x.2, Int32.add_assoc, nI_add]
  congr 2
  refine cntB_sum 16 (fun p hp => ?_)
  have h1 := x.1 p hp
  have h2 := y.1 p hp
  cases ha : has9 (a 7) p <;> cases hb : has9 (b 7) p <;> cases hc : has9 (c 7) p <;> simp_all
theorem days_LC (wind : Bool) (w : Nat → Int32) : ∀ n, LC w (daysW wind n w)
  | 0 => LC.refl w
  | n + 1 => (days_LC wind w n).trans (dayW_LC wind _)
theorem lost_n (wind : Bool) (w : Nat → Int32) (n : Nat) : ∃ c, c ≤ 16 ∧ daysW wind n w 10 - w 10 = nI c := by
  have h := (days_LC wind w n).2
  refine ⟨cntB (fun p => has9 (w 7) p && !has9 (daysW wind n w 7) p) 16, cntB_le _ 16, ?_⟩
  rw [h, Int32.add_comm, Int32.add_sub_cancel]
def spV (w : Nat → Int32) (n i : Nat) : Int32 := daysW true n (upd w 12 (nI (i + 1))) 10 - w 10
theorem spV_n (w : Nat → Int32) (n i : Nat) : ∃ c, c ≤ 16 ∧ spV w n i = nI c := by
  obtain ⟨c, hc, e⟩ := lost_n true (upd w 12 (nI (i + 1))) n
  refine ⟨c, hc, ?_⟩
  rw [upd_n _ _ (by decide)] at e
  exact e
def fewF (w : Nat → Int32) (n i : Nat) (a : Int32) : Int32 := jmin a (spV w n i)
def mosF (w : Nat → Int32) (n i : Nat) (a : Int32) : Int32 := jmax a (spV w n i)
theorem span_x {h : Hp} {σ : St} (C : RC h σ) (z : Int32) {n : Nat} (hn : n ≤ 60) : ∃ h', LX11_span big h (nI n) z 16 0 1 = some (if z = 0 then foldN (fewF σ.1 n) 6 16 else foldN (mosF σ.1 n) 6 0, 0, h') ∧ FR aX h h' := by
  obtain ⟨r, e, q0, q1⟩ := loop0 (σ := Hp × Int32 × Int32) (ρ := Int32 × Nat × Hp) 6 (fun m i s => LX11_span m s.1 (nI n) z s.2.1 s.2.2 (nI (i + 1))) (fun i s => s.2.1 = foldN (fewF σ.1 n) i 16 ∧ s.2.2 = foldN (mosF σ.1 n) i 0 ∧ FR aX h s.1) (fun r => ∃ h', r = (if z = 0 then foldN (fewF σ.1 n) 6 16 else foldN (mosF σ.1 n) 6 0, 0, h') ∧ FR aX h h') (h, 16, 0) (by decide) ⟨rfl, rfl, FR.refl _ _⟩ (by
    rintro m i ⟨h1, s1, s2⟩ hi ⟨a1, a2, a3⟩
    left
    dsimp only at a1 a2 a3 ⊢
    have C1 : RC h1 σ := C.sc (a3.mono (fun k c => c.1))
    obtain ⟨h3, e3, C3, F3⟩ := draft_x C1
    have F5 : FR (cS 43) h3 (up2 h3 43 14 (nI (i + 1))) := FR.up2 _ _ _ (by unfold cS; omega)
    have C5 : CSK (up2 h3 43 14 (nI (i + 1))) 43 (upd σ.1 12 (nI (i + 1))) := C3.set (C3.1.up (i := 12) (c := 0) rfl (by decide) (by decide) (by decide) (C3.1.2.1.any (Or.inr rfl) _)) F5 (KEEP.upd _ _ (by decide) (by decide))
    obtain ⟨h6, e6, C6, F6⟩ := daysMore_x C5 true hn
    have e6' : fX1_daysMore (up2 h3 43 14 (nI (i + 1))) 43 (nI n) 1 = some (spV σ.1 n i, h6) := by
      have : fX1_daysMore (up2 h3 43 14 (nI (i + 1))) 43 (nI n) 1 = _ := e6
      rw [this]
      unfold spV
      rw [upd_n σ.1 _ (show (10 : Nat) ≠ 12 by decide)]
    refine ⟨(h6, foldN (fewF σ.1 n) (i + 1) 16, foldN (mosF σ.1 n) (i + 1) 0), ⟨rfl, rfl, ((a3.trans F3).trans (cS43 F5)).trans (cS43 F6)⟩, ?_⟩
    rw [LX11_span, BX11_span_0, i_6, if_neg (nI_nlt (by omega) (by omega)), e3, cl9_some]
    simp only [lt9_e]
    rw [e6', cl2_some, nI_1, a1, a2]
    rfl) (by
    rintro m ⟨h1, s1, s2⟩ ⟨a1, a2, a3⟩
    dsimp only at a1 a2 a3
    refine ⟨_, ?_, h1, rfl, a3⟩
    try dsimp only
    rw [LX11_span, BX11_span_0, i_6, if_pos (nI_lt (by omega) (by omega)), a1, a2]
    by_cases cz : z = 0
    · rw [if_pos cz, if_pos cz]
    · rw [if_neg cz, if_neg cz])
  refine ⟨q0, ?_, q1.2⟩
  rw [← q1.1]
  exact e
def spB (w : Nat → Int32) (n : Nat) (z : Int32) (i : Nat) : Int32 := if i = 0 then -1 else if z = 0 then foldN (fewF w n) i 16 else foldN (mosF w n) i 0
theorem spF_n (w : Nat → Int32) (n : Nat) : ∀ i, ∃ c d, c ≤ 16 ∧ d ≤ 16 ∧ foldN (fewF w n) i 16 = nI c ∧ foldN (mosF w n) i 0 = nI d
  | 0 => ⟨16, 0, by decide, by decide, rfl, rfl⟩
  | i + 1 => by
    obtain ⟨c, d, hc, hd, ec, ed⟩ := spF_n w n i
    obtain ⟨v, hv, ev⟩ := spV_n w n i
    refine ⟨min c v, max d v, by omega, by omega, ?_, ?_⟩
    · show fewF w n i (foldN (fewF w n) i 16) = _
      unfold fewF
      rw [ev]
      show jmin (foldN (fewF w n) i 16) (nI v) = _
      rw [ec, jmin_n (by omega) (by omega)]
    · show mosF w n i (foldN (mosF w n) i 0) = _
      unfold mosF
      rw [ev]
      show jmax (foldN (mosF w n) i 0) (nI v) = _
      rw [ed, jmax_n (by omega) (by omega)]
theorem span_m {w : Nat → Int32} (G : GW w) (HM : lawM w) (z : Int32) {n : Nat} (hn : n ≤ 60) {h0 : Hp} {f : Nat → Int32} (hf : ∀ k, k < 333 → f k = w k) (w0 : (upA h0 212 f) 209 = w) : ∃ s', LX12_span big 0 (upA h0 212 f) (nI n) z (-1) 1 0 = some (spB w n z 6, s') ∧ s' 209 = w ∧ FI cD (upA h0 212 f) s' := by
  obtain ⟨⟨s, b⟩, ⟨a1, a2, a3⟩, e⟩ := rchN (σ := Hp × Int32) (ρ := Int32 × Hp) (α := Hp × Int32 × Int32) (fun m a => LX12_span m 0 a.1 (nI n) z a.2.1 a.2.2 0) (fun i s => (s.1, s.2, nI (i + 1))) 6 (n + 2) (fun i s => s.1 209 = w ∧ FI cD (upA h0 212 f) s.1 ∧ s.2 = spB w n z i) (by
    rintro i ⟨s, b⟩ hi ⟨a1, a2, a3⟩
    dsimp only at a1 a2 a3
    have w1 : (up2 s 209 12 (nI (i + 1))) 209 = upd w 12 (nI (i + 1)) := by rw [up2_s, a1]
    have G1 : GW (upd w 12 (nI (i + 1))) := G.any (Or.inr rfl) _
    have K1 : KEEP w (upd w 12 (nI (i + 1))) := KEEP.upd _ _ (by decide) (by decide)
    have M1 : lawM (upd w 12 (nI (i + 1))) := HM.out K1.1 (fun i hi _ => K1.2 i hi)
    obtain ⟨t, ⟨b1, b2⟩, eb⟩ := rchN (σ := Hp) (ρ := Int32 × Hp) (α := Hp × Int32) (fun m a => LX12_span m 1 a.1 (nI n) z b (nI (i + 1)) a.2) (fun j s => (s, nI j)) n 1 (fun j s => s 209 = daysW true j (upd w 12 (nI (i + 1))) ∧ FI cD (upA h0 212 f) s) (by
      rintro j s2 hj ⟨c1, c2⟩
      obtain ⟨h2, e2, w2, F2⟩ := run_m G1 M1 true c1
      have e2' : fX12_oneDay s2 0 = some h2 := e2
      refine ⟨h2, ⟨w2, c2.trans F2⟩, fun m => ?_⟩
      try dsimp only
      rw [LX12_span, if_neg (by decide), if_pos rfl, BX12_span_1, if_neg (nI_ge hj (by omega)), e2', cl9_some, nI_1]
      rfl) n 0 (up2 s 209 12 (nI (i + 1))) (by omega) ⟨w1, a2.trans (FI.up2 _ _ (Or.inl rfl))⟩
    have t12 : ∀ k, k < 333 → t 212 k = w k := fun k hk => by
      rw [b2 212 k (by unfold cD cT; omega), upA_s]; exact hf k hk
    have bb : fX12_bringsBack t = some (upA t 209 w) := bringsBack_m t12 (fun k hk => by
      rw [b1]
      exact (K1.trans (daysW_keep true _ n)).2 k hk)
    obtain ⟨c, d, hc, hd, ec, ed⟩ := spF_n w n i
    obtain ⟨v, hv, ev⟩ := spV_n w n i
    refine ⟨(upA t 209 w, spB w n z (i + 1)), ⟨upA_s t 209 w, b2.trans (FI.upA _ _ (fun j => Or.inl rfl)), rfl⟩, fun m => ?_⟩
    try dsimp only
    have s1 : LX12_span (m + (n + 2)) 0 s (nI n) z b (nI (i + 1)) 0 = LX12_span (m + 1 + 1 * n) 1 (up2 s 209 12 (nI (i + 1))) (nI n) z b (nI (i + 1)) (nI 0) := by
      rw [show m + (n + 2) = (m + 1 + 1 * n) + 1 by omega, LX12_span, if_pos rfl, BX12_span_0, i_6, if_neg (nI_nlt (by omega) (by omega)), i_12, gd_in (by decide) (by decide)]
      rfl
    have s2 := eb (m + 1)
    dsimp only at s2
    rw [s1, s2, LX12_span, if_neg (by decide), if_pos rfl, BX12_span_1, if_pos (nI_le (Nat.le_refl _) (by omega)), b1, t12 10 (by decide), bb]
    simp only [lt9_e, cl9_some, nI_1]
    show (if 0 ≤ b then _ else _) = _
    have spv : daysW true n (upd w 12 (nI (i + 1))) 10 - w 10 = spV w n i := rfl
    rw [spv, a3]
    unfold spB
    rw [if_neg (show ¬ i + 1 = 0 by omega)]
    by_cases c0 : i = 0
    · subst c0
      rw [if_pos rfl, if_neg (by decide)]
      refine congrArg (fun b => LX12_span m 0 (upA t 209 w) (nI n) z b (nI (0 + 1 + 1)) 0) ?_
      by_cases cz : z = 0
      · rw [if_pos cz]
        show spV w n 0 = jmin 16 (spV w n 0)
        rw [ev, i_16, jmin_n (by decide) (by omega), Nat.min_eq_right hv]
      · rw [if_neg cz]
        show spV w n 0 = jmax 0 (spV w n 0)
        rw [ev, i_0, jmax_n (by decide) (by omega), Nat.max_eq_right (Nat.zero_le _)]
    · rw [if_neg c0]
      by_cases cz : z = 0
      · rw [if_pos cz, if_pos cz, if_pos cz, ec, if_pos (nI_pos' (by omega)), ← ec]; rfl
      · rw [if_neg cz, if_neg cz, if_neg cz, ed, if_pos (nI_pos' (by omega)), ← ed]; rfl) 6 0 (upA h0 212 f, -1) rfl ⟨w0, FI.refl _ _, rfl⟩
  dsimp only at a1 a2 a3 e
  refine ⟨s, ?_, a1, a2⟩
  have e1 := e (1000000 - (n + 2) * 6)
  rw [show 1000000 - (n + 2) * 6 + (n + 2) * 6 = 1000000 by omega] at e1
  show LX12_span 1000000 0 (upA h0 212 f) (nI n) z (-1) (nI (0 + 1)) 0 = _
  rw [e1]
  obtain ⟨k, hk⟩ : ∃ k, 1000000 - (n + 2) * 6 = k + 1 := ⟨1000000 - (n + 2) * 6 - 1, by omega⟩
  rw [hk, LX12_span, if_pos rfl, BX12_span_0, i_6, if_pos (nI_lt (by omega) (by omega)), a3]
theorem span_T {h : Hp} {σ : St} (C : RC h σ) (x z : Int32) : OpT h σ [(3, 1)] (fX11_span h x z) (fun ha => fX12_span ha x z) := by
  rcases num_cases x 0 60 (by decide) (by decide) with ⟨c1, c2⟩ | ⟨n, -, hn, rfl, c1, c2⟩
  · have c1' : fX11_checkNumber x 0 60 = 3 := c1
    have c2' : fX12_in x 0 60 = 0 := c2
    exact thr_T C 3 1 (by simp) (by decide) (by unfold fX11_span; rw [c1']; rfl) (fun ha w => by unfold fX12_span; rw [c2']; rfl)
  · have c1' : fX11_checkNumber (nI n) 0 60 = 0 := c1
    have c2' : fX12_in (nI n) 0 60 = 1 := c2
    obtain ⟨h1, e1, F1⟩ := span_x C z hn
    refine opT_ask C (r := spB σ.1 n z 6) (k := 0) (c := 0) (h1 := h1) ?_ (by simp) F1 (fun ha M => ?_)
    · unfold fX11_span
      rw [c1', if_pos rfl, e1]; rfl
    · obtain ⟨f, ek, hf⟩ := keepsAll_m (w00 M 0 0)
      have w1 : (upA (up2 ha 208 0 0) 212 f) 209 = σ.1 := by rw [upA_n _ _ (by decide)]; exact w00 M 0 0
      obtain ⟨s', e3, w3, F3⟩ := span_m C.cs.2.1 C.cs.2.2.1 z hn hf w1
      have F5 : FI cB (up2 ha 208 0 0) s' := (FI.upA (C := cB) _ f (fun j => Or.inl rfl)).trans (cDB F3)
      refine ⟨_, s', ?_, fix_209 M.w F5 w3, by rw [cB_0 F5]; exact z00 ha, fun _ => rfl⟩
      unfold fX12_span
      simp only [lt9_e]
      rw [c2', if_neg (by decide), cl9_some, throws_0, cl2_some, if_pos rfl, ek, cl9_some]
      exact e3
/-! before -/
def anyB (f : Nat → Bool) : Nat → Bool
  | 0 => false
  | n + 1 => anyB f n || f n
theorem anyB_s (f : Nat → Bool) (n : Nat) : anyB f (n + 1) = (anyB f n || f n) := rfl
def befC (w : Nat → Int32) (n k p : Nat) : Bool := decide (adif (w (78 + 3 * k)).toNatClampNeg p ≤ (w (79 + 3 * k)).toNatClampNeg * n)
theorem before_x {h : Hp} {w : Nat → Int32} (H : CS h 32 w) {n m : Nat} (hn : n ≤ 20) (hm : m ≤ 5) (em : w 0 = nI m) : LX11_before big 0 h (nI n) 0 0 0 = some (mkB (fun p => anyB (fun k => befC w n k p) m) 16, 0, h) := by
  obtain ⟨S, hS, e⟩ := rchN (σ := Int32) (ρ := Int32 × Nat × Hp) (α := Int32 × Int32) (fun f a => LX11_before f 0 h (nI n) a.1 a.2 0) (fun i s => (s, nI i)) 16 (m + 2) (fun i s => s = mkB (fun p => anyB (fun k => befC w n k p) m) i) (by
    rintro i s hi rfl
    obtain ⟨S, hS, eS⟩ := rchN (σ := Int32) (ρ := Int32 × Nat × Hp) (α := Int32 × Int32) (fun f a => LX11_before f 1 h (nI n) a.1 (nI i) a.2) (fun j s => (s, nI j)) m 1 (fun j s => s = if anyB (fun k => befC w n k i) j then mkB (fun p => anyB (fun k => befC w n k p) m) i ||| bit9 i else mkB (fun p => anyB (fun k => befC w n k p) m) i) (by
      rintro j s hj rfl
      refine ⟨_, rfl, fun f => ?_⟩
      try dsimp only
      obtain ⟨a, ha, ea⟩ := H.2.1.spot (k := j) (by omega)
      obtain ⟨q, hq, eq⟩ := H.2.1.pace (k := j) (by omega)
      have hb : q * n ≤ 9 * 20 := Nat.mul_le_mul hq hn
      have ha2 : adif a i < 2 ^ 30 := by unfold adif; omega
      rw [LX11_before, if_neg (by decide), if_pos rfl, BX11_before_1, H.f0, em, if_neg (nI_ge hj (by omega)), gd_in (show j < 5 by omega) (by decide), gd_in (show j < 5 by omega) (by decide), nI_clamp (by omega), H.spot (by omega), H.pace (by omega), ea, eq, nI_mul, jabs_n (by omega) (by omega), nI_1, bit9_def, anyB_s]
      simp only [lt9_e, nI_ltI (show q * n < 2 ^ 31 by omega) (show adif a i < 2 ^ 31 by omega)]
      have eB : befC w n j i = decide (adif a i ≤ q * n) := by unfold befC; rw [ea, eq, nI_clamp (by omega), nI_clamp (by omega)]
      rw [eB]
      by_cases c : q * n < adif a i
      · rw [if_pos c, decide_eq_false (by omega), Bool.or_false]
      · rw [if_neg c, decide_eq_true (by omega), Bool.or_true, if_pos rfl]
        cases anyB (fun k => befC w n k i) j with
        | false => rfl
        | true =>
          simp only [if_true]
          rw [or_bit_self (by omega) (by rw [has9_or, has9_bit (by omega)]; simp)]) m 0 (mkB (fun p => anyB (fun k => befC w n k p) m) i) (by omega) rfl
    refine ⟨_, rfl, fun f => ?_⟩
    try dsimp only
    have s2 := eS (f + 1)
    dsimp only at s2
    have s1 : LX11_before (f + (m + 2)) 0 h (nI n) (mkB (fun p => anyB (fun k => befC w n k p) m) i) (nI i) 0 = LX11_before (f + 1 + 1 * m) 1 h (nI n) (mkB (fun p => anyB (fun k => befC w n k p) m) i) (nI i) (nI 0) := by
      rw [show f + (m + 2) = (f + 1 + 1 * m) + 1 by omega, LX11_before, if_pos rfl, BX11_before_0, if_neg (c16n hi)]
      rfl
    rw [s1, s2, LX11_before, if_neg (by decide), if_pos rfl, BX11_before_1, H.f0, em, if_pos (nI_le (Nat.le_refl _) (by omega)), nI_1, hS, mkB_s]
    rfl) 16 0 0 rfl rfl
  dsimp only at e
  have e1 := e (1000000 - (m + 2) * 16)
  rw [show 1000000 - (m + 2) * 16 + (m + 2) * 16 = 1000000 by omega] at e1
  show LX11_before 1000000 0 h (nI n) 0 (nI 0) 0 = _
  rw [e1]
  obtain ⟨k, hk⟩ : ∃ k, 1000000 - (m + 2) * 16 = k + 1 := ⟨1000000 - (m + 2) * 16 - 1, by omega⟩
  rw [hk, LX11_before, if_pos rfl, BX11_before_0, if_pos c16p, hS]
theorem div_le_iff9 {s q n : Nat} (hq : 0 < q) : (s + q - 1) / q ≤ n ↔ s ≤ q * n := by
  constructor
  · intro h
    have h1 := Nat.div_add_mod (s + q - 1) q
    have h2 : (s + q - 1) % q < q := Nat.mod_lt _ hq
    have h3 : q * ((s + q - 1) / q) ≤ q * n := Nat.mul_le_mul_left q h
    omega
  · intro h
    have : (s + q - 1) / q < n + 1 := (Nat.div_lt_iff_lt_mul hq).mpr (by rw [Nat.mul_comm, Nat.mul_succ]; omega)
    omega
theorem daysOf_m {h : Hp} {w : Nat → Int32} (hw : h 209 = w) {k p a q : Nat} (hk : k < 5) (hp : p < 128) (ea : w (78 + 3 * k) = nI a) (eq : w (79 + 3 * k) = nI q) (ha : a ≤ 15) (hq : q ≤ 9) (h0 : 0 < q) : fX12_daysOf h (nI k) (nI p) = some (nI ((adif a p + q - 1) / q)) := by
  have hb : adif a p < 2 ^ 20 := by unfold adif; omega
  unfold fX12_daysOf
  rw [of_0 hw hk, cl9_some, of_1 hw hk, cl9_some, cl9_some, ea, eq, gd_t (nI_ne0 h0 (by omega)), jabs_n (by omega) (by omega), nI_add, i_1, nI_subN (by omega), pk_div (by omega) h0 (by omega)]
theorem before_m {h : Hp} {w : Nat → Int32} (G : GW w) (hw : h 209 = w) {n m : Nat} (hn : n ≤ 20) (hm : m ≤ 5) (em : w 0 = nI m) : LX12_before big 0 h (nI n) 0 0 0 = some (mkB (fun p => anyB (fun k => befC w n k p) m) 16, h) := by
  obtain ⟨S, ⟨hS, hS2⟩, e⟩ := rchN (σ := Int32) (ρ := Int32 × Hp) (α := Int32 × Int32) (fun f a => LX12_before f 0 h (nI n) a.1 a.2 0) (fun i s => (s, nI i)) m 18 (fun i s => S16 s ∧ ∀ p, p < 16 → has9 s p = anyB (fun k => befC w n k p) i) (by
    rintro i s hi ⟨a1, a2⟩
    obtain ⟨a, ha, ea⟩ := G.spot (k := i) (by omega)
    obtain ⟨q, hq, eq⟩ := G.pace (k := i) (by omega)
    have h0 : 0 < q := by
      have := G.2.2.2.2.1 i (by omega) (by rw [em]; exact nI_lt hi (by omega))
      rcases Nat.eq_zero_or_pos q with c | c
      · rw [eq, c] at this; exact absurd rfl this
      · exact c
    obtain ⟨S, ⟨hS, hS2⟩, eS⟩ := rchN (σ := Int32) (ρ := Int32 × Hp) (α := Int32 × Int32) (fun f a => LX12_before f 1 h (nI n) a.1 (nI i) a.2) (fun j s => (s, nI j)) 16 1 (fun j s => S16 s ∧ ∀ p, p < 16 → has9 s p = (anyB (fun k => befC w n k p) i || (decide (p < j) && befC w n i p))) (by
      rintro j s hj ⟨b1, b2⟩
      have hb : q * n ≤ 9 * 20 := Nat.mul_le_mul hq hn
      have ha2 : adif a j < 2 ^ 20 := by unfold adif; omega
      have hd : (adif a j + q - 1) / q ≤ adif a j + q - 1 := Nat.div_le_self _ _
      have eB : befC w n i j = decide (adif a j ≤ q * n) := by unfold befC; rw [ea, eq, nI_clamp (by omega), nI_clamp (by omega)]
      have eL : ∀ f, LX12_before (f + 1) 1 h (nI n) s (nI i) (nI j) = if n < (adif a j + q - 1) / q then LX12_before f 1 h (nI n) s (nI i) (nI (j + 1)) else LX12_before f 1 h (nI n) (s ||| bit9 j) (nI i) (nI (j + 1)) := by
        intro f
        rw [LX12_before, if_neg (by decide), if_pos rfl, BX12_before_1, if_neg (c16n hj), daysOf_m hw (by omega) (by omega) ea eq ha hq h0, cl9_some, nI_1, or_zero, bit9_def]
        simp only [lt9_e, nI_ltI (show n < 2 ^ 31 by omega) (show (adif a j + q - 1) / q < 2 ^ 31 by omega)]
      by_cases c : adif a j ≤ q * n
      · refine ⟨s ||| bit9 j, ⟨S16_or b1 (S16_bit hj), fun p hp => ?_⟩, fun f => ?_⟩
        · rw [has9_or, has9_bit (by omega), b2 p hp]
          by_cases d : p = j
          · subst d
            rw [eB, decide_eq_true c]; simp
          · by_cases d2 : p < j
            · simp [d, d2, show p < j + 1 by omega]
            · simp [d, d2, show ¬ p < j + 1 by omega]
        · try dsimp only
          rw [eL, if_neg (by rw [Nat.not_lt]; exact (div_le_iff9 h0).mpr c)]
      · refine ⟨s, ⟨b1, fun p hp => ?_⟩, fun f => ?_⟩
        · rw [b2 p hp]
          by_cases d : p = j
          · subst d
            rw [eB, decide_eq_false c]; simp
          · by_cases d2 : p < j
            · simp [d2, show p < j + 1 by omega]
            · simp [d2, show ¬ p < j + 1 by omega]
        · try dsimp only
          rw [eL, if_pos (by apply Nat.lt_of_not_le; intro x; exact c ((div_le_iff9 h0).mp x))]) 16 0 s rfl ⟨a1, fun p hp => by rw [a2 p hp]; simp⟩
    refine ⟨S, ⟨hS, fun p hp => ?_⟩, fun f => ?_⟩
    · rw [hS2 p hp, anyB_s]; simp [hp]
    · try dsimp only
      have s2 := eS (f + 1)
      dsimp only at s2
      have s1 : LX12_before (f + 18) 0 h (nI n) s (nI i) 0 = LX12_before (f + 1 + 1 * 16) 1 h (nI n) s (nI i) (nI 0) := by
        rw [show f + 18 = (f + 1 + 1 * 16) + 1 by omega, LX12_before, if_pos rfl, BX12_before_0]
        unfold fX12_pinners
        rw [hw, em, if_neg (nI_ge hi (by omega))]
        rfl
      rw [s1, s2, LX12_before, if_neg (by decide), if_pos rfl, BX12_before_1, if_pos c16p, nI_1]
      rfl) m 0 0 (by omega) ⟨S16_0, fun p hp => has9_0 p⟩
  dsimp only at e
  have e1 := e (1000000 - 18 * m)
  rw [show 1000000 - 18 * m + 18 * m = 1000000 by omega] at e1
  show LX12_before 1000000 0 h (nI n) 0 (nI 0) 0 = _
  rw [e1]
  obtain ⟨k, hk⟩ : ∃ k, 1000000 - 18 * m = k + 1 := ⟨1000000 - 18 * m - 1, by omega⟩
  rw [hk, LX12_before, if_pos rfl, BX12_before_0]
  unfold fX12_pinners
  rw [hw, em, if_pos (nI_le (Nat.le_refl _) (by omega)), mkB_ext hS hS2]
theorem before_T {h : Hp} {σ : St} (C : RC h σ) (x : Int32) : OpT h σ [(3, 1)] (fX11_before h x) (fun ha => fX12_before ha x) := by
  rcases num_cases x 0 20 (by decide) (by decide) with ⟨c1, c2⟩ | ⟨n, -, hn, rfl, c1, c2⟩
  · have c1' : fX11_checkNumber x 0 20 = 3 := c1
    have c2' : fX12_in x 0 20 = 0 := c2
    exact thr_T C 3 1 (by simp) (by decide) (by unfold fX11_before; rw [c1']; rfl) (fun ha w => by unfold fX12_before; rw [c2']; rfl)
  · have c1' : fX11_checkNumber (nI n) 0 20 = 0 := c1
    have c2' : fX12_in (nI n) 0 20 = 1 := c2
    obtain ⟨m, hm, em⟩ := C.cs.2.1.n0
    refine opT_ask C (r := mkB (fun p => anyB (fun k => befC σ.1 n k p) m) 16) (k := 0) (c := 0) (h1 := h) ?_ (by simp) (FR.refl _ _) (fun ha M => ⟨_, up2 ha 208 0 0, ?_, a0 (j := 0) ha 0 (by omega), z00 ha, fun _ => rfl⟩)
    · unfold fX11_before
      rw [c1', if_pos rfl, before_x C.cs hn hm em]
    · unfold fX12_before
      simp only [lt9_e]
      rw [c2', if_neg (by decide), cl9_some, throws_0, cl2_some, if_pos rfl, before_m C.cs.2.1 (w00 M 0 0) hn hm em]

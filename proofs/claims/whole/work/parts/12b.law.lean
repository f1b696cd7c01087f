/-! What the law sums up, as the reference's row tells it. -/
def gE (E : Nat → Int32) : Prop := (E 6 = 0 ∨ E 6 = 1) ∧ (E 7 = 0 ∨ E 7 = 1)
def lnV (w : Nat → Int32) (ln : Nat) (E : Nat → Int32) : Bool := resR (runR E (fun j => w (382 + j)) ((w (334 + 4 * ln + 3)).toNatClampNeg - (w (334 + 4 * ln + 2)).toNatClampNeg) (w (334 + 4 * ln + 2)).toNatClampNeg [])
def sumV (w : Nat → Int32) (kd : Int32) (E : Nat → Int32) : Nat → Int32
  | 0 => 0
  | n + 1 => if w (334 + 4 * n) = kd ∧ lnV w n E = true then sumV w kd E n + w (334 + 4 * n + 1) else sumV w kd E n
theorem sumV_s (w : Nat → Int32) (kd : Int32) (E : Nat → Int32) (n : Nat) : sumV w kd E (n + 1) = if w (334 + 4 * n) = kd ∧ lnV w n E = true then sumV w kd E n + w (334 + 4 * n + 1) else sumV w kd E n := rfl
def sumR (w : Nat → Int32) (kd : Int32) (E : Nat → Int32) : Int32 := if w 2 = 1 then sumV w kd E (w 333).toNatClampNeg else 0
def lineM (w : Nat → Int32) (ln : Nat) : Prop := ∃ k a r0 r1 : Nat, k < 3 ∧ a ≤ 30 ∧ w (334 + 4 * ln) = nI k ∧ w (334 + 4 * ln + 1) = nI a ∧ (k = 2 → a = 1) ∧ w (334 + 4 * ln + 2) = nI r0 ∧ w (334 + 4 * ln + 3) = nI r1 ∧ r0 ≤ r1 ∧ r1 ≤ 400 ∧ ∀ E, gE E → (runR E (fun j => w (382 + j)) (r1 - r0) r0 [] = some [] ∨ ∃ v, runR E (fun j => w (382 + j)) (r1 - r0) r0 [] = some [v])
def lawM (w : Nat → Int32) : Prop := w 2 = 0 ∨ (w 2 = 1 ∧ ∃ n, n ≤ 12 ∧ w 333 = nI n ∧ ∀ ln, ln < n → lineM w ln)
def lineC (h : Hp) (b : Nat) (w : Nat → Int32) (ln : Nat) : Prop := ∃ c0 c1 : Nat, h (b + 1) ln = w (334 + 4 * ln) ∧ (w (334 + 4 * ln) ≠ 2 → h (b + 2) ln = w (334 + 4 * ln + 1)) ∧ h (b + 3) ln = nI c1 ∧ (ln = 0 → c0 = 0) ∧ (0 < ln → h (b + 3) (ln - 1) = nI c0) ∧ c0 ≤ c1 ∧ c1 ≤ 400 ∧ ∀ E, gE E → has9 (runC E (h (b + 4)) (c1 - c0) c0 (1, 0, 0)).1 0 = lnV w ln E
def lawC (h : Hp) (b : Nat) (w : Nat → Int32) : Prop := (w 2 = 0 ∧ h b 0 = -1) ∨ (w 2 = 1 ∧ h b 0 = w 333 ∧ ∀ ln, ln < (w 333).toNatClampNeg → lineC h b w ln)
theorem lawC.fr {C : Nat → Prop} {h h' : Hp} {b : Nat} {w : Nat → Int32} (H : lawC h b w) (F : FR C h h') (hc : ∀ j, j ≤ 4 → ¬ C (b + j)) : lawC h' b w := by
  have e0 : h' b = h b := F b (hc 0 (by decide))
  have e1 : h' (b + 1) = h (b + 1) := F _ (hc 1 (by decide))
  have e2 : h' (b + 2) = h (b + 2) := F _ (hc 2 (by decide))
  have e3 : h' (b + 3) = h (b + 3) := F _ (hc 3 (by decide))
  have e4 : h' (b + 4) = h (b + 4) := F _ (hc 4 (by decide))
  unfold lawC lineC at H ⊢
  rw [e0, e1, e2, e3, e4]
  exact H
theorem lnV_out {w w' : Nat → Int32} (e : ∀ i, 333 ≤ i → i < 1182 → w' i = w i) {ln : Nat} (hl : ln < 12) {r0 r1 : Nat} (h0 : w (334 + 4 * ln + 2) = nI r0) (h1 : w (334 + 4 * ln + 3) = nI r1) (hr : r1 ≤ 400) (hr0 : r0 ≤ r1) (E : Nat → Int32) : lnV w' ln E = lnV w ln E := by
  unfold lnV
  rw [e (334 + 4 * ln + 2) (by omega) (by omega), e (334 + 4 * ln + 3) (by omega) (by omega), h0, h1, nI_clamp (by omega), nI_clamp (by omega)]
  congr 1
  exact runR_cong E _ _ _ (fun j h2 h3 => e _ (by omega) (by omega))
theorem lawM.out {w w' : Nat → Int32} (H : lawM w) (e2 : w' 2 = w 2) (e : ∀ i, 333 ≤ i → i < 1182 → w' i = w i) : lawM w' := by
  rcases H with H | ⟨H, n, hn, h3, hl⟩
  · exact Or.inl (by rw [e2]; exact H)
  · refine Or.inr ⟨by rw [e2]; exact H, n, hn, by rw [e 333 (by decide) (by decide)]; exact h3, fun ln hln => ?_⟩
    obtain ⟨k, a, r0, r1, hk, ha, e3, e4, h5, e6, e7, h8, h9, h10⟩ := hl ln hln
    refine ⟨k, a, r0, r1, hk, ha, by rw [e _ (by omega) (by omega)]; exact e3, by rw [e _ (by omega) (by omega)]; exact e4, h5, by rw [e _ (by omega) (by omega)]; exact e6, by rw [e _ (by omega) (by omega)]; exact e7, h8, h9, fun E hE => ?_⟩
    rw [runR_cong E (f := fun j => w' (382 + j)) (g := fun j => w (382 + j)) _ _ _ (fun j h2 h3 => e _ (by omega) (by omega))]
    exact h10 E hE
theorem lawC.out {h : Hp} {b : Nat} {w w' : Nat → Int32} (HM : lawM w) (H : lawC h b w) (e2 : w' 2 = w 2) (e : ∀ i, 333 ≤ i → i < 1182 → w' i = w i) : lawC h b w' := by
  rcases H with ⟨H, H2⟩ | ⟨H, H2, H3⟩
  · exact Or.inl ⟨by rw [e2]; exact H, H2⟩
  · rcases HM with HM | ⟨-, n, hn, h3, hl⟩
    · rw [H] at HM; cases HM
    · refine Or.inr ⟨by rw [e2]; exact H, by rw [e 333 (by decide) (by decide)]; exact H2, fun ln hln => ?_⟩
      rw [e 333 (by decide) (by decide)] at hln
      have hln2 : ln < n := by rw [h3, nI_clamp (by omega)] at hln; exact hln
      obtain ⟨k, a, r0, r1, hk, ha, e3, e4, h5, e6, e7, h8, h9, h10⟩ := hl ln hln2
      obtain ⟨c0, c1, a1, a2, a3, a4, a5, a6, a7, a8⟩ := H3 ln hln
      refine ⟨c0, c1, ?_, ?_, a3, a4, a5, a6, a7, fun E hE => ?_⟩
      · rw [e (334 + 4 * ln) (by omega) (by omega)]; exact a1
      · rw [e (334 + 4 * ln) (by omega) (by omega), e (334 + 4 * ln + 1) (by omega) (by omega)]; exact a2
      · rw [lnV_out e (by omega) e6 e7 h9 h8]; exact a8 E hE
theorem sumR_out {w w' : Nat → Int32} (HM : lawM w) (e2 : w' 2 = w 2) (e : ∀ i, 333 ≤ i → i < 1182 → w' i = w i) (kd : Int32) (E : Nat → Int32) : sumR w' kd E = sumR w kd E := by
  unfold sumR
  rw [e2]
  rcases HM with HM | ⟨H, n, hn, h3, hl⟩
  · rw [HM, if_neg (by decide), if_neg (by decide)]
  · rw [if_pos H, if_pos H, e 333 (by decide) (by decide), h3, nI_clamp (by omega)]
    have : ∀ m, m ≤ n → sumV w' kd E m = sumV w kd E m := by
      intro m
      induction m with
      | zero => intro _; rfl
      | succ m ih =>
        intro hm
        obtain ⟨k, a, r0, r1, hk, ha, e3, e4, h5, e6, e7, h8, h9, h10⟩ := hl m (by omega)
        rw [sumV_s, sumV_s, ih (by omega), lnV_out e (by omega) e6 e7 h9 h8, e (334 + 4 * m) (by omega) (by omega), e (334 + 4 * m + 1) (by omega) (by omega)]
    exact this n (Nat.le_refl _)
theorem sumV_le {w : Nat → Int32} {n : Nat} (hl : ∀ ln, ln < n → lineM w ln) (kd : Int32) (E : Nat → Int32) : ∀ m, m ≤ n → ∃ k, k ≤ 30 * m ∧ sumV w kd E m = nI k := by
  intro m
  induction m with
  | zero => intro _; exact ⟨0, by omega, rfl⟩
  | succ m ih =>
    intro hm
    obtain ⟨k, hk, e⟩ := ih (by omega)
    obtain ⟨_, a, _, _, _, ha, _, e4, _⟩ := hl m (by omega)
    rw [sumV_s]
    by_cases c : w (334 + 4 * m) = kd ∧ lnV w m E = true
    · rw [if_pos c, e, e4, nI_add]; exact ⟨k + a, by omega, rfl⟩
    · rw [if_neg c]; exact ⟨k, by omega, e⟩
theorem sumR_le {w : Nat → Int32} (HM : lawM w) (kd : Int32) (E : Nat → Int32) : ∃ k, k ≤ 360 ∧ sumR w kd E = nI k := by
  unfold sumR
  rcases HM with HM | ⟨H, n, hn, h3, hl⟩
  · rw [HM]; exact ⟨0, by omega, rfl⟩
  · rw [if_pos H, h3, nI_clamp (by omega)]
    obtain ⟨k, hk, e⟩ := sumV_le hl kd E n (Nat.le_refl _)
    exact ⟨k, by omega, e⟩
theorem gE_M (w : Nat → Int32) (T : Int32) (p : Nat) : gE (envM w T p) := ⟨bI_01 (has9 T p), bI_01 (!has9 (w 13) p)⟩
theorem gE_X (h : Hp) (b p : Nat) (g : Int32) (pin : Bool) : gE (envX h b p g pin) := ⟨bI_01 pin, bI_01 (!has9 (h b 4) p)⟩
/-! the reference's sum -/
theorem holdsLine_w {T : Int32} (hS : S16 T) {w : Nat → Int32} {ln p : Nat} (hl : ln < 12) (hp : p < 16) (H : lineM w ln) {h : Hp} (hw : h 209 = w) (hT : h 208 18 = T) : ∃ v' : Nat → Int32, fX12_holdsLine h (nI ln) (nI p) = some (bI (lnV w ln (envM w T p)), upA h 216 v') := by
  subst hw
  obtain ⟨k, a, r0, r1, hk, ha, e3, e4, h5, e6, e7, h8, h9, h10⟩ := H
  have := holdsLine_m hS hT hl hp e6 e7 h9 h8 rfl (h10 _ (gE_M _ T p))
  unfold lnV
  rw [e6, e7, nI_clamp (by omega), nI_clamp (by omega)]
  exact this
theorem sumOf_m {T : Int32} (hS : S16 T) {w : Nat → Int32} {p : Nat} (hp : p < 16) (HM : lawM w) (kd : Int32) {h : Hp} (hw : h 209 = w) (hT : h 208 18 = T) : ∃ v' : Nat → Int32, fX12_sumOf h kd (nI p) = some (sumR w kd (envM w T p), upA h 216 v') := by
  unfold sumR
  rcases HM with HM | ⟨H, n, hn, h3, hl⟩
  · rw [HM]
    refine ⟨h 216, ?_⟩
    unfold fX12_sumOf
    rw [show big = 999999 + 1 from rfl, LX12_sumOf, BX12_sumOf_0, upA_id]
    unfold fX12_hasLaw
    rw [hw, HM]
    rfl
  · rw [if_pos H, h3, nI_clamp (by omega)]
    obtain ⟨r, e, v', q⟩ := loop0 (σ := Hp × Int32) (ρ := Int32 × Hp) n (fun m i s => LX12_sumOf m s.1 kd (nI p) s.2 (nI i)) (fun i s => ∃ v', s = (upA h 216 v', sumV w kd (envM w T p) i)) (fun r => ∃ v', r = (sumV w kd (envM w T p) n, upA h 216 v')) (h, 0) (by omega) ⟨h 216, by rw [upA_id]; rfl⟩ (by
      rintro m i s hi ⟨v', rfl⟩
      left
      have w1 : (upA h 216 v') 209 = w := by rw [upA_n _ _ (by decide)]; exact hw
      have t1 : (upA h 216 v') 208 18 = T := by rw [upA_n _ _ (by decide)]; exact hT
      obtain ⟨v2, e2⟩ := holdsLine_w hS (show i < 12 by omega) hp (hl i hi) w1 t1
      have e5 : fX12_hasLaw (upA h 216 v') = 1 := by unfold fX12_hasLaw; rw [w1]; exact if_pos H
      have e6 : (334 : Int32) + (4 : Int32) * nI i = nI (334 + 4 * i) := by rw [i_334, i_4, nI_mul, nI_add]
      show ∃ s', (∃ v', s' = (upA h 216 v', sumV w kd (envM w T p) (i + 1))) ∧ LX12_sumOf (m + 1) (upA h 216 v') kd (nI p) (sumV w kd (envM w T p) i) (nI i) = LX12_sumOf m s'.1 kd (nI p) s'.2 (nI (i + 1))
      rw [LX12_sumOf, BX12_sumOf_0, e5, if_neg (by decide), w1, h3, if_neg (nI_ge hi (by omega)), e6, gd_in (show 334 + 4 * i < 2031 by omega) (by decide), nI_clamp (show 334 + 4 * i < 2 ^ 31 by omega), nI_1 (334 + 4 * i), nI_1 i, e2, cl2_some]
      simp only [lt9_e]
      rw [sumV_s]
      by_cases c : w (334 + 4 * i) = kd
      · rw [if_pos c]
        cases b : lnV w i (envM w T p) with
        | false =>
          refine ⟨(upA h 216 v2, sumV w kd (envM w T p) i), ⟨v2, by simp⟩, ?_⟩
          rw [if_pos (by rfl), upA_upA]
        | true =>
          refine ⟨(upA h 216 v2, sumV w kd (envM w T p) i + w (334 + 4 * i + 1)), ⟨v2, by simp [c]⟩, ?_⟩
          rw [if_neg (by decide), gd_in (show 334 + 4 * i + 1 < 2031 by omega) (by decide), nI_clamp (show 334 + 4 * i + 1 < 2 ^ 31 by omega), upA_upA, upA_n _ _ (by decide), hw]
      · rw [if_neg c]
        exact ⟨(upA h 216 v', sumV w kd (envM w T p) i), ⟨v', by simp [c]⟩, rfl⟩) (by
      rintro m s ⟨v', rfl⟩
      refine ⟨(sumV w kd (envM w T p) n, upA h 216 v'), ?_, v', rfl⟩
      have w1 : (upA h 216 v') 209 = w := by rw [upA_n _ _ (by decide)]; exact hw
      show LX12_sumOf (m + 1) (upA h 216 v') kd (nI p) (sumV w kd (envM w T p) n) (nI n) = _
      rw [LX12_sumOf, BX12_sumOf_0, w1, h3, if_pos (nI_le (Nat.le_refl n) (by omega))]
      exact ite_self _)
    exact ⟨v', by rw [← q]; exact e⟩
/-! the class's sums -/
theorem lineHolds_w (h : Hp) {b b2 : Nat} {w : Nat → Int32} {ln p : Nat} (hl : ln < 12) (hp : p < 16) (gap : Int32) (pin : Bool) (H : lineC h b w ln) {E : Nat → Int32} (hE : envX h b2 p gap pin = E) : fX2_lineHolds h b b2 (nI ln) (nI p) gap (bI pin) = some (bI (lnV w ln E)) := by
  obtain ⟨c0, c1, a1, a2, a3, a4, a5, a6, a7, a8⟩ := H
  rw [lineHolds_x h b b2 hl hp gap pin a3 a7 a4 a5 a6, hE, a8 E (by rw [← hE]; exact gE_X _ _ _ _ _)]
theorem total_x (h : Hp) {b b2 : Nat} {w : Nat → Int32} {p : Nat} (hp : p < 16) (gap : Int32) (pin : Bool) (HM : lawM w) (HC : lawC h b w) {E : Nat → Int32} (hE : envX h b2 p gap pin = E) {kd : Int32} (hk : kd ≠ 2) : fX2_total h b b2 kd (nI p) gap (bI pin) = some (sumR w kd E) := by
  unfold sumR fX2_total
  rcases HC with ⟨H, H2⟩ | ⟨H, H2, H3⟩
  · rw [H, show big = 999999 + 1 from rfl, LX2_total, BX2_total_0, H2]
    rfl
  · rcases HM with HM | ⟨-, n, hn, h3, hl⟩
    · rw [H] at HM; cases HM
    · rw [if_pos H]
      rw [h3, nI_clamp (by omega)] at H3 ⊢
      obtain ⟨r, e, q⟩ := loop0 (σ := Int32) (ρ := Int32) n (fun m i s => LX2_total h b b2 m kd (nI p) gap (bI pin) s (nI i)) (fun i s => s = sumV w kd E i) (fun r => r = sumV w kd E n) 0 (by omega) rfl (by
        rintro m i s hi rfl
        left
        show ∃ s', s' = sumV w kd E (i + 1) ∧ LX2_total h b b2 (m + 1) kd (nI p) gap (bI pin) (sumV w kd E i) (nI i) = LX2_total h b b2 m kd (nI p) gap (bI pin) s' (nI (i + 1))
        have LC := H3 i hi
        rw [LX2_total, BX2_total_0, H2, h3, if_neg (nI_ge hi (by omega)), gd_in (show i < 12 by omega) (by decide), gd_in (show i < 12 by omega) (by decide), nI_clamp (show i < 2 ^ 31 by omega), nI_1 i, lineHolds_w h (show i < 12 by omega) hp gap pin LC hE, cl9_some]
        simp only [lt9_e]
        obtain ⟨c0, c1, a1, a2, -⟩ := LC
        refine ⟨_, rfl, ?_⟩
        rw [a1]
        rw [sumV_s]
        by_cases c : w (334 + 4 * i) = kd
        · rw [if_pos c]
          cases b : lnV w i E with
          | false => rw [if_pos (show bI false = 0 from rfl), cl9_some]; simp
          | true => rw [if_neg (show ¬ bI true = 0 by decide), cl9_some, a2 (by rw [c]; exact hk)]; simp [c]
        · rw [if_neg c, cl9_some]; simp [c]) (by
        rintro m s rfl
        refine ⟨_, ?_, rfl⟩
        show LX2_total h b b2 (m + 1) kd (nI p) gap (bI pin) (sumV w kd E n) (nI n) = _
        rw [LX2_total, BX2_total_0, H2, h3, if_pos (nI_le (Nat.le_refl n) (by omega))])
      rw [← q]; exact e
theorem some_x (h : Hp) {b b2 : Nat} {w : Nat → Int32} {p : Nat} (hp : p < 16) (gap : Int32) (pin : Bool) (HM : lawM w) (HC : lawC h b w) {E : Nat → Int32} (hE : envX h b2 p gap pin = E) : fX2_some h b b2 2 (nI p) gap (bI pin) = some (bI (decide (0 < sumR w 2 E))) := by
  unfold sumR fX2_some
  rcases HC with ⟨H, H2⟩ | ⟨H, H2, H3⟩
  · rw [H, show big = 999999 + 1 from rfl, LX2_some, BX2_some_0, H2]
    rfl
  · rcases HM with HM | ⟨-, n, hn, h3, hl⟩
    · rw [H] at HM; cases HM
    · rw [if_pos H]
      rw [h3, nI_clamp (by omega)] at H3 ⊢
      have mono : ∀ m k, m + k ≤ n → 0 < sumV w 2 E m → 0 < sumV w 2 E (m + k) := by
        intro m k
        induction k with
        | zero => intro _ h; exact h
        | succ k ih =>
          intro hk h
          have h1 := ih (by omega) h
          obtain ⟨x, hx, ex⟩ := sumV_le hl 2 E (m + k) (by omega)
          obtain ⟨_, a, _, _, _, ha, _, e4, _⟩ := hl (m + k) (by omega)
          rw [ex] at h1
          have h2 := (nI_ltI (a := 0) (by decide) (by omega)).mp h1
          show 0 < sumV w 2 E (m + k + 1)
          rw [sumV_s]
          by_cases c : w (334 + 4 * (m + k)) = 2 ∧ lnV w (m + k) E = true
          · rw [if_pos c, ex, e4, nI_add]; exact (nI_ltI (a := 0) (by decide) (by omega)).mpr (by omega)
          · rw [if_neg c, ex]; exact h1
      obtain ⟨r, e, q⟩ := loop0 (σ := Unit) (ρ := Int32) n (fun m i s => LX2_some h b b2 m 2 (nI p) gap (bI pin) (nI i)) (fun i s => sumV w 2 E i = 0) (fun r => r = bI (decide (0 < sumV w 2 E n))) () (by omega) rfl (by
        rintro m i s hi hz
        show (∃ s', sumV w 2 E (i + 1) = 0 ∧ LX2_some h b b2 (m + 1) 2 (nI p) gap (bI pin) (nI i) = LX2_some h b b2 m 2 (nI p) gap (bI pin) (nI (i + 1))) ∨ ∃ r, LX2_some h b b2 (m + 1) 2 (nI p) gap (bI pin) (nI i) = some r ∧ r = bI (decide (0 < sumV w 2 E n))
        have LC := H3 i hi
        rw [LX2_some, BX2_some_0, H2, h3, if_neg (nI_ge hi (by omega)), gd_in (show i < 12 by omega) (by decide), nI_clamp (show i < 2 ^ 31 by omega), nI_1 i, lineHolds_w h (show i < 12 by omega) hp gap pin LC hE, cl9_some]
        simp only [lt9_e]
        obtain ⟨c0, c1, a1, a2, -⟩ := LC
        obtain ⟨k, a, _, _, _, ha, k3, e4, k5, _⟩ := hl i hi
        rw [a1]
        have un : sumV w 2 E (i + 1) = if w (334 + 4 * i) = 2 ∧ lnV w i E = true then sumV w 2 E i + w (334 + 4 * i + 1) else sumV w 2 E i := rfl
        by_cases c : w (334 + 4 * i) = 2
        · rw [if_pos c]
          cases b : lnV w i E with
          | false =>
            left
            refine ⟨(), ?_, by rw [if_pos (show bI false = 0 from rfl)]⟩
            rw [un, if_neg (by simp [b]), hz]
          | true =>
            right
            rw [if_neg (show ¬ bI true = 0 by decide)]
            refine ⟨1, rfl, ?_⟩
            have k2 : k = 2 := by
              rw [k3] at c
              exact (nI_eq (b := 2) (by omega) (by decide)).mp c
            have p1 : 0 < sumV w 2 E (i + 1) := by
              rw [un, if_pos ⟨c, b⟩, hz, e4, k5 k2]; decide
            have p2 := mono (i + 1) (n - (i + 1)) (by omega) p1
            rw [show i + 1 + (n - (i + 1)) = n by omega] at p2
            simp [p2]; rfl
        · left
          rw [if_neg c]
          exact ⟨(), by rw [un, if_neg (fun q => c q.1), hz], rfl⟩) (by
        rintro m s hz
        refine ⟨0, ?_, ?_⟩
        · show LX2_some h b b2 (m + 1) 2 (nI p) gap (bI pin) (nI n) = _
          rw [LX2_some, BX2_some_0, H2, h3, if_pos (nI_le (Nat.le_refl n) (by omega))]
        · rw [hz]; decide)
      rw [← q]; exact e

/-! Calls that ask: low, held, longest, weakest, key, spare, first. -/
theorem low_N {h : Hp} {σ : St} (C : RC h σ) : OpN h σ (fX11_low h) fX12_low := by
  obtain ⟨h1, e1, F1, -⟩ := standing_n C.cs
  refine opN_ask C (r := (65535 : Int32) &&& (stNow σ.1 (σ.1 7) ^^^ (-1))) (h1 := h1) (by unfold fX11_low; rw [e1, cl2_some]) (a45 F1) (fun ha M => ?_)
  obtain ⟨h2, e2, F2, -⟩ := standingNow_m C.cs.2.1 C.cs.2.2.1 (w00 M 0 0)
  exact ⟨h2, by unfold fX12_low; simp only [lt9_e]; rw [e2, cl2_some], (a0 ha 0 (by omega)).trans (aT F2)⟩
theorem held_N {h : Hp} {σ : St} (C : RC h σ) : OpN h σ (fX11_held h) fX12_held := by
  obtain ⟨h1, e1, F1, -⟩ := holding_x C.cs
  refine opN_ask C (r := hold9 σ.1 (σ.1 7)) (h1 := h1) (by unfold fX11_held; rw [e1, cl2_some]) (a45 F1) (fun ha M => ?_)
  obtain ⟨h2, e2, F2, -⟩ := holdingNow_m C.cs.2.1 C.cs.2.2.1 (w00 M 0 0)
  exact ⟨h2, by unfold fX12_held; simp only [lt9_e]; rw [e2, cl2_some], (a0 ha 0 (by omega)).trans (aT F2)⟩
def lngF (S : Int32) (i : Nat) (a : Int32 × Int32) : Int32 × Int32 := (jmax a.1 (if has9 S i then 0 else a.2 + 1), if has9 S i then 0 else a.2 + 1)
theorem longest_xL (h : Hp) (S : Int32) : LX11_longest big h S 0 0 0 = some ((foldN (lngF S) 16 (0, 0)).1, h) := by
  obtain ⟨r, e, q⟩ := loop0 (σ := Int32 × Int32) (ρ := Int32 × Hp) 16 (fun m i s => LX11_longest m h S s.1 s.2 (nI i)) (fun i s => s = foldN (lngF S) i (0, 0)) (fun r => r = ((foldN (lngF S) 16 (0, 0)).1, h)) (0, 0) (by decide) rfl (by
    rintro m i s hi rfl
    left
    refine ⟨_, rfl, ?_⟩
    try dsimp only
    rw [LX11_longest, BX11_longest_0, if_neg (c16n hi), has_x S (by omega), nI_1]
    simp only [lt9_e, bI_eq0, foldN, lngF]
    cases has9 S i <;> rfl) (by
    rintro m s rfl
    refine ⟨_, ?_, rfl⟩
    try dsimp only
    rw [LX11_longest, BX11_longest_0, if_pos c16p])
  rw [← q]; exact e
theorem longest_mL (h : Hp) (S : Int32) : LX12_longest big h S 0 0 0 = some ((foldN (lngF S) 16 (0, 0)).1, h) := by
  obtain ⟨r, e, q⟩ := loop0 (σ := Int32 × Int32) (ρ := Int32 × Hp) 16 (fun m i s => LX12_longest m h S s.1 s.2 (nI i)) (fun i s => s = foldN (lngF S) i (0, 0)) (fun r => r = ((foldN (lngF S) 16 (0, 0)).1, h)) (0, 0) (by decide) rfl (by
    rintro m i s hi rfl
    left
    refine ⟨_, rfl, ?_⟩
    try dsimp only
    rw [LX12_longest, BX12_longest_0, if_neg (c16n hi), has_m S (by omega), nI_1]
    simp only [lt9_e, bI_eq0, foldN, lngF]
    cases has9 S i <;> rfl) (by
    rintro m s rfl
    refine ⟨_, ?_, rfl⟩
    try dsimp only
    rw [LX12_longest, BX12_longest_0, if_pos c16p])
  rw [← q]; exact e
theorem longest_N {h : Hp} {σ : St} (C : RC h σ) : OpN h σ (fX11_longest h) fX12_longest := by
  obtain ⟨h1, e1, F1, -⟩ := holding_x C.cs
  refine opN_ask C (r := _) (h1 := h1) (by unfold fX11_longest; rw [e1, cl2_some]; exact longest_xL h1 _) (a45 F1) (fun ha M => ?_)
  obtain ⟨h2, e2, F2, -⟩ := holdingNow_m C.cs.2.1 C.cs.2.2.1 (w00 M 0 0)
  exact ⟨h2, by unfold fX12_longest; simp only [lt9_e]; rw [e2, cl2_some]; exact longest_mL h2 _, (a0 ha 0 (by omega)).trans (aT F2)⟩
/-! the first of the greatest -/
def argF (v : Nat → Int32) (i : Nat) (a : Int32 × Int32) : Int32 × Int32 := if v i ≤ a.2 then a else (nI i, v i)
theorem argF_ge {v : Nat → Int32} {b : Int32} : ∀ n, (-1 : Int32) ≤ (foldN (argF v) n (b, -1)).2
  | 0 => Int32.le_refl _
  | n + 1 => by
    have ih := argF_ge (v := v) (b := b) n
    show (-1 : Int32) ≤ (argF v n (foldN (argF v) n (b, -1))).2
    generalize foldN (argF v) n (b, -1) = s at ih ⊢
    unfold argF
    by_cases c : v n ≤ s.2
    · rw [if_pos c]; exact ih
    · rw [if_neg c]; exact Int32.le_trans ih (Int32.le_of_lt (Int32.not_le.mp c))
theorem argF_jmax (v : Nat → Int32) (i : Nat) (a : Int32 × Int32) : (if v i ≤ a.2 then a.1 else nI i, jmax a.2 (v i)) = argF v i a := by
  unfold argF jmax
  by_cases c : v i ≤ a.2
  · rw [if_pos c, if_pos c, if_neg (Int32.not_lt.mpr c)]
  · rw [if_neg c, if_neg c, if_pos (Int32.not_le.mp c)]
theorem strainAt_x {h : Hp} {b : Nat} {w : Nat → Int32} (H : CS h b w) {p : Nat} (hp : p < 16) : fX1_strainAt h b (nI p) = some (w (46 + p) + sumR w 0 (envM w (w 7) p)) := by
  unfold fX1_strainAt fX7_hasPin
  rw [gd_in hp (by decide), H.f7, gap_x h _ hp, cl9_some, has_x _ (by omega), total_x h hp _ _ H.2.2.1 H.2.2.2.1 (envX_P H hp) (by decide), cl9_some, nI_clamp (by omega), H.tree hp]
theorem strainOf_m {w : Nat → Int32} {p : Nat} (hp : p < 16) (G : GW w) (HM : lawM w) {h : Hp} (hw : h 209 = w) (hT : h 208 18 = w 7) : ∃ v', fX12_strainOf h (nI p) = some (w (46 + p) + sumR w 0 (envM w (w 7) p), upA h 216 v') := by
  obtain ⟨v1, e1⟩ := sumOf_m G.pins hp HM 0 hw hT
  refine ⟨v1, ?_⟩
  unfold fX12_strainOf
  rw [i_46, nI_add, gd_in (by omega) (by decide), e1, cl2_some, nI_clamp (by omega), hw]
theorem rustNow_m {w : Nat → Int32} {p : Nat} (hp : p < 16) (G : GW w) {h : Hp} (hw : h 209 = w) (hT : h 208 18 = w 7) : fX12_rustOf h (nI p) = some (w (62 + p)) := by
  rw [rustOf_m h hT hp, hw]
  cases c : has9 (w 7) p with
  | true => rfl
  | false => rw [G.norust hp c]; rfl
def weakV (w : Nat → Int32) (p : Nat) : Int32 := if has9 (w 7) p then w (62 + p) + (w (46 + p) + sumR w 0 (envM w (w 7) p)) else -1
theorem weakest_x {h : Hp} {w : Nat → Int32} (H : CS h 32 w) : fX11_weakest h = some (foldN (argF (weakV w)) 16 (-1, -1)).1 := by
  obtain ⟨r, e, q⟩ := loop0 (σ := Int32 × Int32) (ρ := Int32) 16 (fun m i s => LX11_weakest h m s.1 s.2 (nI i)) (fun i s => s = foldN (argF (weakV w)) i (-1, -1)) (fun r => r = (foldN (argF (weakV w)) 16 (-1, -1)).1) (-1, -1) (by decide) rfl (by
    rintro m i s hi rfl
    left
    refine ⟨_, rfl, ?_⟩
    try dsimp only
    have hg := argF_ge (v := weakV w) (b := -1) i
    rw [LX11_weakest, BX11_weakest_0, if_neg (c16n hi)]
    unfold fX7_hasPin
    rw [H.f7, has_x _ (by omega), gd_in hi (by decide), strainAt_x H hi, cl9_some, nI_clamp (by omega), H.rust hi, nI_1]
    simp only [lt9_e, bI_eq0, foldN]
    generalize foldN (argF (weakV w)) i (-1, -1) = s at hg ⊢
    unfold argF weakV
    cases has9 (w 7) i with
    | false => simp [hg]
    | true =>
      simp only [Bool.true_eq_false, if_false, if_true]
      by_cases c : w (62 + i) + (w (46 + i) + sumR w 0 (envM w (w 7) i)) ≤ s.2
      · rw [if_pos c, if_pos c]
      · rw [if_neg c, if_neg c]) (by
    intro m s hs
    refine ⟨s.1, ?_, by rw [hs]⟩
    try dsimp only
    rw [LX11_weakest, BX11_weakest_0, if_pos c16p])
  rw [← q]; exact e
theorem weakest_mL {h : Hp} {w : Nat → Int32} (G : GW w) (HM : lawM w) (hw : h 209 = w) (hT : h 208 18 = w 7) : ∃ v, LX12_weakest big h (-1) (-1) 0 = some ((foldN (argF (weakV w)) 16 (-1, -1)).1, upA h 216 v) := by
  obtain ⟨r, e, v, q⟩ := loop0 (σ := Hp × Int32 × Int32) (ρ := Int32 × Hp) 16 (fun m i s => LX12_weakest m s.1 s.2.1 s.2.2 (nI i)) (fun i s => s.2 = foldN (argF (weakV w)) i (-1, -1) ∧ ∃ v, s.1 = upA h 216 v) (fun r => ∃ v, r = ((foldN (argF (weakV w)) 16 (-1, -1)).1, upA h 216 v)) (h, -1, -1) (by decide) ⟨rfl, _, (upA_id h 216).symm⟩ (by
    rintro m i ⟨h1, s⟩ hi ⟨a1, v, a2⟩
    left
    dsimp only at a1 a2 ⊢
    subst a1 a2
    have w1 : (upA h 216 v) 209 = w := by rw [upA_n _ _ (by decide)]; exact hw
    have t1 : (upA h 216 v) 208 18 = w 7 := by rw [upA_n _ _ (by decide)]; exact hT
    obtain ⟨v2, e2⟩ := strainOf_m hi G HM w1 t1
    rw [LX12_weakest, BX12_weakest_0, if_neg (c16n hi)]
    unfold fX12_hasPin fX12_pins
    rw [w1, has_m _ (by omega), rustNow_m hi G w1 t1, cl9_some, e2, cl2_some, upA_upA, nI_1]
    simp only [lt9_e, bI_eq0, foldN]
    generalize foldN (argF (weakV w)) i (-1, -1) = s
    have ar := argF_jmax (weakV w) i s
    unfold weakV at ar
    cases c : has9 (w 7) i with
    | false =>
      rw [c] at ar
      simp only [Bool.false_eq_true, if_false] at ar
      refine ⟨(upA h 216 v, argF (weakV w) i s), ⟨rfl, v, rfl⟩, ?_⟩
      rw [if_pos rfl, cl2_some]
      have e5 : argF (weakV w) i s = (if (-1 : Int32) ≤ s.2 then s.1 else nI i, jmax s.2 (-1)) := by rw [ar]; rfl
      rw [e5]
      by_cases d : (-1 : Int32) ≤ s.2
      · rw [if_pos d, cl9_some, if_pos d]
      · rw [if_neg d, cl9_some, if_neg d]
    | true =>
      rw [c] at ar
      simp only [if_true] at ar
      refine ⟨(upA h 216 v2, argF (weakV w) i s), ⟨rfl, v2, rfl⟩, ?_⟩
      rw [if_neg (by simp), cl2_some]
      have e5 : argF (weakV w) i s = (if w (62 + i) + (w (46 + i) + sumR w 0 (envM w (w 7) i)) ≤ s.2 then s.1 else nI i, jmax s.2 (w (62 + i) + (w (46 + i) + sumR w 0 (envM w (w 7) i)))) := by rw [ar]; rfl
      rw [e5]
      by_cases d : w (62 + i) + (w (46 + i) + sumR w 0 (envM w (w 7) i)) ≤ s.2
      · rw [if_pos d, cl9_some, if_pos d]
      · rw [if_neg d, cl9_some, if_neg d]) (by
    rintro m ⟨h1, s⟩ ⟨a1, v, a2⟩
    dsimp only at a1 a2 ⊢
    refine ⟨(s.1, h1), ?_, v, by rw [a1, a2]⟩
    rw [LX12_weakest, BX12_weakest_0, if_pos c16p])
  exact ⟨v, by rw [← q]; exact e⟩
theorem weakest_m {ha : Hp} {σ : St} (M : RM ha σ) (G : GW σ.1) (HM : lawM σ.1) : ∃ h2, fX12_weakest ha = some ((foldN (argF (weakV σ.1)) 16 (-1, -1)).1, h2) ∧ FI aM ha h2 := by
  have w1 : (up2 (up2 ha 208 0 0) 208 18 (σ.1 7)) 209 = σ.1 := by rw [up2_n _ _ _ (by decide)]; exact w00 M 0 0
  obtain ⟨v, e⟩ := weakest_mL G HM w1 (by rw [up2_s, upd_s])
  refine ⟨upA (up2 (up2 ha 208 0 0) 208 18 (σ.1 7)) 216 v, ?_, ((a0 (j := 0) ha 0 (by omega)).trans (a0 (j := 18) _ _ (by omega))).trans (aT (FI.upA _ v (fun j => Or.inr rfl)))⟩
  unfold fX12_weakest fX12_pins
  simp only [lt9_e]
  rw [w00 M 0 0]
  exact e
/-! key, spare -/
def keyV (w : Nat → Int32) (p : Nat) : Bool := has9 (w 7) p && decide (¬ fJ_bitCount (stNow w (w 7)) ≤ fJ_bitCount (stNow w (wo9 (w 7) p)))
def spareV (w : Nat → Int32) (p : Nat) : Bool := has9 (w 7) p && decide (stNow w (w 7) &&& (stNow w (wo9 (w 7) p) ^^^ (-1)) = 0)
theorem spareV_t {w : Nat → Int32} {p : Nat} (c : has9 (w 7) p = true) : spareV w p = decide (stNow w (w 7) &&& (stNow w (wo9 (w 7) p) ^^^ (-1)) = 0) := by unfold spareV; rw [c, Bool.true_and]
theorem wo9_def (S : Int32) (p : Nat) : S &&& (bit9 p ^^^ (-1)) = wo9 S p := rfl
theorem without_x {h : Hp} {w : Nat → Int32} (H : CS h 32 w) (V : CV h w) (p : Nat) : ∃ h', fX11_standingWithout h (nI p) = some (stNow w (wo9 (w 7) p), h') ∧ FR c45 h h' ∧ CV h' w := by
  obtain ⟨h1, e1, F1, V1⟩ := standingWith_x H V (wo9 (w 7) p)
  refine ⟨h1, ?_, F1, V1⟩
  unfold fX11_standingWithout
  rw [H.f7, bit9_def, wo9_def, e1, cl2_some]
theorem key_x {h : Hp} {w : Nat → Int32} (H : CS h 32 w) : ∃ h', fX11_key h = some (mkB (keyV w) 16, h') ∧ FR c45 h h' := by
  obtain ⟨h0, e0, F0, V0⟩ := standing_n H
  obtain ⟨r, e, q1, q2⟩ := loop0 (σ := Hp × Int32) (ρ := Int32 × Hp) 16 (fun m i s => LX11_key m s.1 (fJ_bitCount (stNow w (w 7))) s.2 (nI i)) (fun i s => s.2 = mkB (keyV w) i ∧ FR c45 h s.1 ∧ CV s.1 w) (fun r => r.1 = mkB (keyV w) 16 ∧ FR c45 h r.2) (h0, 0) (by decide) ⟨rfl, F0, V0⟩ (by
    rintro m i ⟨h1, S⟩ hi ⟨a1, a2, a3⟩
    left
    dsimp only at a1 a2 a3 ⊢
    subst a1
    have H1 := H.f45 a2
    obtain ⟨h2, e2, b2, b3⟩ := without_x H1 a3 i
    rw [LX11_key, BX11_key_0, if_neg (c16n hi)]
    unfold fX7_hasPin
    rw [H1.f7, has_x _ (by omega), e2, cl2_some, nI_1, bit9_def]
    simp only [lt9_e, bI_eq0]
    cases c : has9 (w 7) i with
    | false => exact ⟨(h1, mkB (keyV w) (i + 1)), ⟨rfl, a2, a3⟩, by simp [mkB_s, keyV, c]⟩
    | true =>
      refine ⟨(h2, mkB (keyV w) (i + 1)), ⟨rfl, a2.trans b2, b3⟩, ?_⟩
      by_cases d : fJ_bitCount (stNow w (w 7)) ≤ fJ_bitCount (stNow w (wo9 (w 7) i)) <;> simp [mkB_s, keyV, c, d]) (by
    rintro m ⟨h1, S⟩ ⟨a1, a2, a3⟩
    refine ⟨(S, h1), ?_, a1, a2⟩
    show LX11_key (m + 1) h1 _ S (nI 16) = _
    rw [LX11_key, BX11_key_0, if_pos c16p])
  refine ⟨r.2, ?_, q2⟩
  unfold fX11_key
  rw [e0, cl2_some, ← q1]
  exact e
theorem spare_x {h : Hp} {w : Nat → Int32} (H : CS h 32 w) : ∃ h', fX11_spare h = some (mkB (spareV w) 16, h') ∧ FR c45 h h' := by
  obtain ⟨h0, e0, F0, V0⟩ := standing_n H
  obtain ⟨r, e, q1, q2⟩ := loop0 (σ := Hp × Int32) (ρ := Int32 × Hp) 16 (fun m i s => LX11_spare m s.1 (stNow w (w 7)) s.2 (nI i)) (fun i s => s.2 = mkB (spareV w) i ∧ FR c45 h s.1 ∧ CV s.1 w) (fun r => r.1 = mkB (spareV w) 16 ∧ FR c45 h r.2) (h0, 0) (by decide) ⟨rfl, F0, V0⟩ (by
    rintro m i ⟨h1, S⟩ hi ⟨a1, a2, a3⟩
    left
    dsimp only at a1 a2 a3 ⊢
    subst a1
    have H1 := H.f45 a2
    obtain ⟨h2, e2, b2, b3⟩ := without_x H1 a3 i
    rw [LX11_spare, BX11_spare_0, if_neg (c16n hi)]
    unfold fX7_hasPin
    rw [H1.f7, has_x _ (by omega), e2, cl2_some, nI_1, bit9_def]
    simp only [lt9_e, bI_eq0]
    cases c : has9 (w 7) i with
    | false => exact ⟨(h1, mkB (spareV w) (i + 1)), ⟨rfl, a2, a3⟩, by simp [mkB_s, spareV, c]⟩
    | true =>
      refine ⟨(h2, mkB (spareV w) (i + 1)), ⟨rfl, a2.trans b2, b3⟩, ?_⟩
      by_cases d : stNow w (w 7) &&& (stNow w (wo9 (w 7) i) ^^^ (-1)) = 0
      · rw [if_neg (by simp), if_pos d, mkB_s, spareV_t c, decide_eq_true d]; all_goals rfl
      · rw [if_neg (by simp), if_neg d, mkB_s, spareV_t c, decide_eq_false d]; all_goals rfl) (by
    rintro m ⟨h1, S⟩ ⟨a1, a2, a3⟩
    refine ⟨(S, h1), ?_, a1, a2⟩
    show LX11_spare (m + 1) h1 _ S (nI 16) = _
    rw [LX11_spare, BX11_spare_0, if_pos c16p])
  refine ⟨r.2, ?_, q2⟩
  unfold fX11_spare
  rw [e0, cl2_some, ← q1]
  exact e
theorem key_mL {h : Hp} {w : Nat → Int32} (G : GW w) (HM : lawM w) (hw : h 209 = w) : ∃ h', LX12_key big h (fJ_bitCount (stNow w (w 7))) 0 0 = some (mkB (keyV w) 16, h') ∧ FI cT h h' := by
  obtain ⟨r, e, q1, q2⟩ := loop0 (σ := Hp × Int32) (ρ := Int32 × Hp) 16 (fun m i s => LX12_key m s.1 (fJ_bitCount (stNow w (w 7))) s.2 (nI i)) (fun i s => s.2 = mkB (keyV w) i ∧ FI cT h s.1) (fun r => r.1 = mkB (keyV w) 16 ∧ FI cT h r.2) (h, 0) (by decide) ⟨rfl, FI.refl _ _⟩ (by
    rintro m i ⟨h1, S⟩ hi ⟨a1, a2⟩
    left
    dsimp only at a1 a2 ⊢
    subst a1
    have w1 : h1 209 = w := by rw [cT_209 a2]; exact hw
    obtain ⟨h2, e2, b2, b3⟩ := standingWith_m (S16_wo (p := i) G.pins) G HM w1
    rw [LX12_key, BX12_key_0, if_neg (c16n hi)]
    unfold fX12_hasPin fX12_pins
    rw [w1, has_m _ (by omega), bit9_def, wo9_def, e2, cl2_some, nI_1, or_zero]
    simp only [lt9_e, bI_eq0]
    cases c : has9 (w 7) i with
    | false => exact ⟨(h1, mkB (keyV w) (i + 1)), ⟨rfl, a2⟩, by simp [mkB_s, keyV, c]⟩
    | true =>
      refine ⟨(h2, mkB (keyV w) (i + 1)), ⟨rfl, a2.trans b2⟩, ?_⟩
      by_cases d : fJ_bitCount (stNow w (w 7)) ≤ fJ_bitCount (stNow w (wo9 (w 7) i)) <;> simp [mkB_s, keyV, c, d]) (by
    rintro m ⟨h1, S⟩ ⟨a1, a2⟩
    refine ⟨(S, h1), ?_, a1, a2⟩
    show LX12_key (m + 1) h1 _ S (nI 16) = _
    rw [LX12_key, BX12_key_0, if_pos c16p])
  refine ⟨r.2, ?_, q2⟩
  rw [← q1]
  exact e
theorem spare_mL {h : Hp} {w : Nat → Int32} (G : GW w) (HM : lawM w) (hw : h 209 = w) : ∃ h', LX12_spare big h (stNow w (w 7)) 0 0 = some (mkB (spareV w) 16, h') ∧ FI cT h h' := by
  obtain ⟨r, e, q1, q2⟩ := loop0 (σ := Hp × Int32) (ρ := Int32 × Hp) 16 (fun m i s => LX12_spare m s.1 (stNow w (w 7)) s.2 (nI i)) (fun i s => s.2 = mkB (spareV w) i ∧ FI cT h s.1) (fun r => r.1 = mkB (spareV w) 16 ∧ FI cT h r.2) (h, 0) (by decide) ⟨rfl, FI.refl _ _⟩ (by
    rintro m i ⟨h1, S⟩ hi ⟨a1, a2⟩
    left
    dsimp only at a1 a2 ⊢
    subst a1
    have w1 : h1 209 = w := by rw [cT_209 a2]; exact hw
    obtain ⟨h2, e2, b2, b3⟩ := standingWith_m (S16_wo (p := i) G.pins) G HM w1
    rw [LX12_spare, BX12_spare_0, if_neg (c16n hi)]
    unfold fX12_hasPin fX12_pins
    rw [w1, has_m _ (by omega), bit9_def, wo9_def, e2, cl2_some, nI_1, or_zero]
    simp only [lt9_e, bI_eq0]
    cases c : has9 (w 7) i with
    | false => exact ⟨(h1, mkB (spareV w) (i + 1)), ⟨rfl, a2⟩, by simp [mkB_s, spareV, c]⟩
    | true =>
      refine ⟨(h2, mkB (spareV w) (i + 1)), ⟨rfl, a2.trans b2⟩, ?_⟩
      by_cases d : stNow w (w 7) &&& (stNow w (wo9 (w 7) i) ^^^ (-1)) = 0
      · rw [if_neg (by simp), if_pos d, mkB_s, spareV_t c, decide_eq_true d]; all_goals rfl
      · rw [if_neg (by simp), if_neg d, mkB_s, spareV_t c, decide_eq_false d]; all_goals rfl) (by
    rintro m ⟨h1, S⟩ ⟨a1, a2⟩
    refine ⟨(S, h1), ?_, a1, a2⟩
    show LX12_spare (m + 1) h1 _ S (nI 16) = _
    rw [LX12_spare, BX12_spare_0, if_pos c16p])
  refine ⟨r.2, ?_, q2⟩
  rw [← q1]
  exact e
theorem key_N {h : Hp} {σ : St} (C : RC h σ) : OpN h σ (fX11_key h) fX12_key := by
  obtain ⟨h1, e1, F1⟩ := key_x C.cs
  refine opN_ask C e1 (a45 F1) (fun ha M => ?_)
  obtain ⟨h2, e2, F2, -⟩ := standingNow_m C.cs.2.1 C.cs.2.2.1 (w00 M 0 0)
  obtain ⟨h3, e3, F3⟩ := key_mL C.cs.2.1 C.cs.2.2.1 (h := h2) (by rw [cT_209 F2]; exact w00 M 0 0)
  exact ⟨h3, by unfold fX12_key; simp only [lt9_e]; rw [e2, cl2_some]; exact e3, ((a0 ha 0 (by omega)).trans (aT F2)).trans (aT F3)⟩
theorem spare_N {h : Hp} {σ : St} (C : RC h σ) : OpN h σ (fX11_spare h) fX12_spare := by
  obtain ⟨h1, e1, F1⟩ := spare_x C.cs
  refine opN_ask C e1 (a45 F1) (fun ha M => ?_)
  obtain ⟨h2, e2, F2, -⟩ := standingNow_m C.cs.2.1 C.cs.2.2.1 (w00 M 0 0)
  obtain ⟨h3, e3, F3⟩ := spare_mL C.cs.2.1 C.cs.2.2.1 (h := h2) (by rw [cT_209 F2]; exact w00 M 0 0)
  exact ⟨h3, by unfold fX12_spare; simp only [lt9_e]; rw [e2, cl2_some]; exact e3, ((a0 ha 0 (by omega)).trans (aT F2)).trans (aT F3)⟩
/-! first -/
def free9 (w : Nat → Int32) : Int32 := ((65535 : Int32) &&& (w 13 ^^^ (-1))) &&& (w 7 ^^^ (-1))
def firstV (w : Nat → Int32) (p : Nat) : Int32 := if has9 (free9 w) p then fJ_bitCount (stNow w (w 7 ||| bit9 p)) else -1
theorem free_x {h : Hp} {w : Nat → Int32} (H : CS h 32 w) : fX7_free h 32 = free9 w := by
  unfold fX7_free free9
  rw [H.f13, H.f7]
theorem free_m {h : Hp} {w : Nat → Int32} (hw : h 209 = w) : fX12_openPlaces h = free9 w := by
  unfold fX12_openPlaces fX12_pins free9
  rw [hw]
theorem first_x {h : Hp} {w : Nat → Int32} (H : CS h 32 w) : ∃ h', fX11_first h = some ((foldN (argF (firstV w)) 16 (-1, -1)).1, h') ∧ FR c45 h h' := by
  obtain ⟨h0, e0, F0, V0⟩ := startOver_x h w
  obtain ⟨r, e, q1, q2⟩ := loop0 (σ := Hp × Int32 × Int32) (ρ := Int32 × Hp) 16 (fun m i s => LX11_first m s.1 (free9 w) s.2.1 s.2.2 (nI i)) (fun i s => s.2 = foldN (argF (firstV w)) i (-1, -1) ∧ FR c45 h s.1 ∧ CV s.1 w) (fun r => r.1 = (foldN (argF (firstV w)) 16 (-1, -1)).1 ∧ FR c45 h r.2) (h0, -1, -1) (by decide) ⟨rfl, F0, V0⟩ (by
    rintro m i ⟨h1, s⟩ hi ⟨a1, a2, a3⟩
    left
    dsimp only at a1 a2 a3 ⊢
    subst a1
    have H1 := H.f45 a2
    have hg := argF_ge (v := firstV w) (b := -1) i
    obtain ⟨h2, e2, b2, b3⟩ := standingWith_x H1 a3 (w 7 ||| bit9 i)
    rw [LX11_first, BX11_first_0, if_neg (c16n hi), has_x _ (by omega), H1.f7, nI_1, bit9_def, e2, cl2_some]
    simp only [lt9_e, bI_eq0, foldN]
    generalize foldN (argF (firstV w)) i (-1, -1) = s at hg ⊢
    unfold argF firstV
    cases c : has9 (free9 w) i with
    | false => exact ⟨(h1, s), ⟨by simp [hg], a2, a3⟩, by simp⟩
    | true =>
      by_cases d : fJ_bitCount (stNow w (w 7 ||| bit9 i)) ≤ s.2
      · exact ⟨(h2, s), ⟨by simp [d], a2.trans b2, b3⟩, by simp [d]⟩
      · exact ⟨(h2, nI i, fJ_bitCount (stNow w (w 7 ||| bit9 i))), ⟨by simp [d], a2.trans b2, b3⟩, by simp [d]⟩) (by
    rintro m ⟨h1, s⟩ ⟨a1, a2, a3⟩
    dsimp only at a1 a2 a3
    refine ⟨(s.1, h1), ?_, by rw [a1], a2⟩
    show LX11_first (m + 1) h1 _ _ _ (nI 16) = _
    rw [LX11_first, BX11_first_0, if_pos c16p])
  refine ⟨r.2, ?_, q2⟩
  unfold fX11_first
  rw [e0, cl9_some, free_x (H.f45 F0), ← q1]
  exact e
theorem first_mL {h : Hp} {w : Nat → Int32} (G : GW w) (HM : lawM w) (hw : h 209 = w) : ∃ h', LX12_first big h (-1) (-1) 0 = some ((foldN (argF (firstV w)) 16 (-1, -1)).1, h') ∧ FI cT h h' := by
  obtain ⟨r, e, q1, q2⟩ := loop0 (σ := Hp × Int32 × Int32) (ρ := Int32 × Hp) 16 (fun m i s => LX12_first m s.1 s.2.1 s.2.2 (nI i)) (fun i s => s.2 = foldN (argF (firstV w)) i (-1, -1) ∧ FI cT h s.1) (fun r => r.1 = (foldN (argF (firstV w)) 16 (-1, -1)).1 ∧ FI cT h r.2) (h, -1, -1) (by decide) ⟨rfl, FI.refl _ _⟩ (by
    rintro m i ⟨h1, s⟩ hi ⟨a1, a2⟩
    left
    dsimp only at a1 a2 ⊢
    subst a1
    have w1 : h1 209 = w := by rw [cT_209 a2]; exact hw
    obtain ⟨h2, e2, b2, b3⟩ := standingWith_m (T := w 7 ||| bit9 i) (S16_or G.pins (S16_bit hi)) G HM w1
    rw [LX12_first, BX12_first_0, if_neg (c16n hi), free_m w1, has_m _ (by omega)]
    unfold fX12_pins
    rw [w1, nI_1, bit9_def, e2, cl2_some]
    simp only [lt9_e, bI_eq0, foldN]
    generalize foldN (argF (firstV w)) i (-1, -1) = s
    have ar := argF_jmax (firstV w) i s
    cases c : has9 (free9 w) i with
    | false =>
      refine ⟨(h1, argF (firstV w) i s), ⟨rfl, a2⟩, ?_⟩
      rw [← ar]
      unfold firstV
      rw [c, if_pos rfl, cl2_some]
      simp only [Bool.false_eq_true, if_false]
      by_cases d : (-1 : Int32) ≤ s.2
      · rw [if_pos d, cl9_some, if_pos d]
      · rw [if_neg d, cl9_some, if_neg d]
    | true =>
      refine ⟨(h2, argF (firstV w) i s), ⟨rfl, a2.trans b2⟩, ?_⟩
      rw [← ar]
      unfold firstV
      rw [c, if_neg (by simp), cl2_some]
      simp only [if_true]
      by_cases d : fJ_bitCount (stNow w (w 7 ||| bit9 i)) ≤ s.2
      · rw [if_pos d, cl9_some, if_pos d]
      · rw [if_neg d, cl9_some, if_neg d]) (by
    rintro m ⟨h1, s⟩ ⟨a1, a2⟩
    dsimp only at a1 a2
    refine ⟨(s.1, h1), ?_, by rw [a1], a2⟩
    show LX12_first (m + 1) h1 _ _ (nI 16) = _
    rw [LX12_first, BX12_first_0, if_pos c16p])
  refine ⟨r.2, ?_, q2⟩
  rw [← q1]
  exact e
theorem first_N {h : Hp} {σ : St} (C : RC h σ) : OpN h σ (fX11_first h) fX12_first := by
  obtain ⟨h1, e1, F1⟩ := first_x C.cs
  refine opN_ask C e1 (a45 F1) (fun ha M => ?_)
  obtain ⟨h3, e3, F3⟩ := first_mL C.cs.2.1 C.cs.2.2.1 (w00 M 0 0)
  exact ⟨h3, by unfold fX12_first; simp only [lt9_e]; exact e3, (a0 ha 0 (by omega)).trans (aT F3)⟩

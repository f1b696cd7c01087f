/-! days, needs, ahead, trial, gives, lasts, span -/
theorem keepsAll_m {h : Hp} {w : Nat → Int32} (hw : h 209 = w) : ∃ f, fX12_keepsAll h = some (upA h 212 f) ∧ ∀ k, k < 333 → f k = w k := by
  obtain ⟨r, e, f, q, qf⟩ := loop0 (σ := Hp) (ρ := Hp) 333 (fun m i x => LX12_keepsAll m x (nI i)) (fun i x => ∃ f, x = upA h 212 f ∧ ∀ k, k < i → f k = w k) (fun r => ∃ f, r = upA h 212 f ∧ ∀ k, k < 333 → f k = w k) h (by decide) ⟨_, (upA_id _ _).symm, fun k hk => by omega⟩ (by
    rintro m i x hi ⟨f, rfl, hf⟩
    left
    refine ⟨upA h 212 (upd f i (w i)), ⟨_, rfl, fun k hk => ?_⟩, ?_⟩
    · by_cases c : k = i
      · subst c; rw [upd_s]
      · rw [upd_n _ _ c]; exact hf k (by omega)
    · try dsimp only
      rw [LX12_keepsAll, BX12_keepsAll_0, i_333, if_neg (nI_ge hi (by decide)), gd_in (show i < 2031 by omega) (by decide), gd_in hi (by decide), nI_clamp (by omega), nI_1, upA_n _ _ (by decide), hw]
      simp only [lt9_e]
      unfold up2
      rw [upA_s, upA_upA]) (by
    rintro m x ⟨f, rfl, hf⟩
    refine ⟨_, ?_, f, rfl, hf⟩
    try dsimp only
    rw [LX12_keepsAll, BX12_keepsAll_0, i_333, if_pos (nI_le (Nat.le_refl _) (by decide))])
  exact ⟨f, by rw [← q]; exact e, qf⟩
theorem bringsBack_m {h : Hp} {w : Nat → Int32} (h12 : ∀ k, k < 333 → h 212 k = w k) (h9 : ∀ k, 333 ≤ k → h 209 k = w k) : fX12_bringsBack h = some (upA h 209 w) := by
  obtain ⟨r, e, q⟩ := loop0 (σ := Hp) (ρ := Hp) 333 (fun m i x => LX12_bringsBack m x (nI i)) (fun i x => x = upA h 209 (fun k => if k < i then w k else h 209 k)) (fun r => r = upA h 209 w) h (by decide) (by
      rw [show (fun k => if k < 0 then w k else h 209 k) = h 209 from by funext k; rw [if_neg (by omega)], upA_id]) (by
    rintro m i x hi rfl
    left
    refine ⟨_, rfl, ?_⟩
    try dsimp only
    rw [LX12_bringsBack, BX12_bringsBack_0, i_333, if_neg (nI_ge hi (by decide)), gd_in hi (by decide), gd_in (show i < 2031 by omega) (by decide), nI_clamp (by omega), nI_1, upA_n _ _ (by decide), h12 i hi]
    simp only [lt9_e]
    congr 1
    unfold up2
    rw [upA_s, upA_upA]
    congr 1
    funext j
    by_cases d : j = i
    · subst d; rw [upd_s, if_pos (by omega)]
    · rw [upd_n _ _ d]
      by_cases d2 : j < i
      · rw [if_pos d2, if_pos (by omega)]
      · rw [if_neg d2, if_neg (by omega)]) (by
    intro m x hx
    refine ⟨x, ?_, ?_⟩
    · try dsimp only
      rw [LX12_bringsBack, BX12_bringsBack_0, i_333, if_pos (nI_le (Nat.le_refl _) (by decide))]
    · rw [hx]
      congr 1
      funext k
      by_cases c : k < 333
      · rw [if_pos c]
      · rw [if_neg c, h9 k (by omega)])
  rw [← q]; exact e
def cB (k j : Nat) : Prop := k = 212 ∨ cD k j
theorem cDB {h h' : Hp} (F : FI cD h h') : FI cB h h' := F.mono (fun _ _ c => Or.inr c)
/-- what tries days and brings all back leaves the row as it was -/
theorem fix_209 {ha h' : Hp} {w : Nat → Int32} (wa : ha 209 = w) (F : FI cB (up2 ha 208 0 0) h') (e : h' 209 = w) : FI aM ha h' := by
  intro k j q
  by_cases c : k = 209
  · subst c; rw [e, wa]
  · have : h' k j = (up2 ha 208 0 0) k j := F k j (fun x => q (by unfold cB cD cT at x; unfold aM sm; omega))
    rw [this]
    exact a0 (j := 0) ha 0 (by omega) k j q
theorem cB_0 {h h' : Hp} (F : FI cB h h') : h' 208 0 = h 208 0 := F 208 0 (fun c => by unfold cB cD cT at c; omega)
theorem draft_x {h : Hp} {σ : St} (C : RC h σ) : ∃ h1, fX7_become h 43 32 = some h1 ∧ CSK h1 43 σ.1 ∧ FR aX h h1 := by
  obtain ⟨h1, e1, H1⟩ := become_x h 43 32 (by omega)
  refine ⟨h1, e1, ⟨H1.sky C.sky, C.cs.2.2.1, C.cs.2.2.2.1.fr H1.2 (fun j hj q => by omega), by decide⟩, H1.2.mono (fun k q => by unfold aX sc; omega)⟩
theorem cS43 {h h' : Hp} (F : FR (cS 43) h h') : FR aX h h' := F.mono (fun k q => by unfold cS at q; unfold aX sc; omega)
theorem a45' {h h' : Hp} (F : FR c45 h h') : FR aX h h' := a45 F
/-- a run of days of the reference, one after the other -/
theorem run_m {w : Nat → Int32} (G : GW w) (HM : lawM w) (wind : Bool) {i : Nat} {s : Hp} (hs : s 209 = daysW wind i w) : ∃ h', fX12_oneDay s (bI (!wind)) = some h' ∧ h' 209 = daysW wind (i + 1) w ∧ FI cD s h' :=
  oneDay_m (GW_days G HM wind i) (daysW_M HM wind i) hs wind
theorem goes_m {h : Hp} {w : Nat → Int32} (G : GW w) (HM : lawM w) (hw : h 209 = w) {n : Nat} (hn : n ≤ 60) : ∃ f h', fX12_goesAhead h (nI n) = some (daysW false n w 10 - w 10, h') ∧ h' 209 = daysW false n w ∧ FI cD (upA h 212 f) h' ∧ (∀ k, k < 333 → f k = w k) := by
  obtain ⟨f, e1, hf⟩ := keepsAll_m hw
  have w1 : (upA h 212 f) 209 = w := by rw [upA_n _ _ (by decide)]; exact hw
  obtain ⟨r, e, q0, q1, q2⟩ := loop0 (σ := Hp) (ρ := Int32 × Hp) n (fun m i s => LX12_goesAhead m s (nI n) (nI i)) (fun i s => s 209 = daysW false i w ∧ FI cD (upA h 212 f) s) (fun r => r.1 = daysW false n w 10 - w 10 ∧ r.2 209 = daysW false n w ∧ FI cD (upA h 212 f) r.2) (upA h 212 f) (by omega) ⟨w1, FI.refl _ _⟩ (by
    rintro m i s hi ⟨b1, b2⟩
    left
    obtain ⟨h2, e2, w2, F2⟩ := run_m G HM false b1
    have e2' : fX12_oneDay s 1 = some h2 := e2
    refine ⟨h2, ⟨w2, b2.trans F2⟩, ?_⟩
    try dsimp only
    rw [LX12_goesAhead, BX12_goesAhead_0, if_neg (nI_ge hi (by omega)), e2', cl9_some, nI_1]
    rfl) (by
    rintro m s ⟨b1, b2⟩
    have s12 : s 212 10 = w 10 := by
      rw [b2 212 10 (by unfold cD cT; omega), upA_s]
      exact hf 10 (by decide)
    refine ⟨(daysW false n w 10 - w 10, s), ?_, rfl, b1, b2⟩
    try dsimp only
    rw [LX12_goesAhead, BX12_goesAhead_0, if_pos (nI_le (Nat.le_refl _) (by omega)), b1, s12])
  refine ⟨f, r.2, ?_, q1, q2, hf⟩
  unfold fX12_goesAhead
  rw [e1, cl9_some, ← q0]
  exact e
theorem bb_m {h s : Hp} {w : Nat → Int32} {f : Nat → Int32} {wind : Bool} {n : Nat} (hf : ∀ k, k < 333 → f k = w k) (F : FI cD (upA h 212 f) s) (ws : s 209 = daysW wind n w) : fX12_bringsBack s = some (upA s 209 w) := by
  refine bringsBack_m (fun k hk => ?_) (fun k hk => ?_)
  · rw [F 212 k (by unfold cD cT; omega), upA_s]; exact hf k hk
  · rw [ws]; exact (daysW_keep wind w n).2 k hk
theorem needs_T {h : Hp} {σ : St} (C : RC h σ) (x : Int32) : OpT h σ [(3, 1)] (fX11_needs h x) (fun ha => fX12_needs ha x) := by
  rcases num_cases x 0 60 (by decide) (by decide) with ⟨c1, c2⟩ | ⟨n, -, hn, rfl, c1, c2⟩
  · have c1' : fX11_checkNumber x 0 60 = 3 := c1
    have c2' : fX12_in x 0 60 = 0 := c2
    exact thr_T C 3 1 (by simp) (by decide) (by unfold fX11_needs; rw [c1']; rfl) (fun ha w => by unfold fX12_needs; rw [c2']; rfl)
  · have c1' : fX11_checkNumber (nI n) 0 60 = 0 := c1
    have c2' : fX12_in (nI n) 0 60 = 1 := c2
    obtain ⟨h1, e1, C1, F1⟩ := draft_x C
    obtain ⟨h2, e2, C2, F2⟩ := daysMore_x C1 false hn
    have e2' : fX1_daysMore h1 43 (nI n) 0 = some (daysW false n σ.1 10 - σ.1 10, h2) := e2
    refine opT_ask C (r := daysW false n σ.1 10 - σ.1 10) (k := 0) (c := 0) (h1 := h2) ?_ (by simp) (F1.trans (cS43 F2)) (fun ha M => ?_)
    · unfold fX11_needs
      rw [c1', if_pos rfl, e1, cl9_some, e2', cl2_some]
    · obtain ⟨f, h3, e3, w3, F3, hf⟩ := goes_m C.cs.2.1 C.cs.2.2.1 (w00 M 0 0) hn
      have F4 : FI cB (up2 ha 208 0 0) (upA h3 209 σ.1) := ((FI.upA (C := cB) _ f (fun j => Or.inl rfl)).trans (cDB F3)).trans (FI.upA _ _ (fun j => Or.inr (Or.inl rfl)))
      refine ⟨_, upA h3 209 σ.1, ?_, fix_209 M.w F4 (upA_s _ _ _), by rw [cB_0 F4]; exact z00 ha, fun _ => rfl⟩
      unfold fX12_needs
      simp only [lt9_e]
      rw [c2', if_neg (by decide), cl9_some, throws_0, cl2_some, if_pos rfl, e3, cl2_some, bb_m hf F3 w3, cl9_some]
theorem ahead_T {h : Hp} {σ : St} (C : RC h σ) (x y z : Int32) : OpT h σ [(1, 1), (3, 2)] (fX11_ahead h x y z) (fun ha => fX12_ahead ha x y z) := by
  rcases place_cases x with ⟨p1, p2⟩ | ⟨p, hp, rfl, p1, p2⟩
  · exact thr_T C 1 1 (by simp) (by decide) (by unfold fX11_ahead; rw [p1]; rfl) (fun ha w => by unfold fX12_ahead; rw [p2]; rfl)
  · rcases num_cases y 0 60 (by decide) (by decide) with ⟨c1, c2⟩ | ⟨n, -, hn, rfl, c1, c2⟩
    · have c1' : fX11_checkNumber y 0 60 = 3 := c1
      have c2' : fX12_in y 0 60 = 0 := c2
      exact thr_T C 3 2 (by simp) (by decide) (by unfold fX11_ahead; rw [p1, c1']; rfl) (fun ha w => by unfold fX12_ahead; rw [p2, c2']; rfl)
    · have c1' : fX11_checkNumber (nI n) 0 60 = 0 := c1
      have c2' : fX12_in (nI n) 0 60 = 1 := c2
      obtain ⟨h1, e1, C1, F1⟩ := draft_x C
      obtain ⟨h2, e2, C2, F2⟩ := daysMore_x C1 false hn
      have e2' : fX1_daysMore h1 43 (nI n) 0 = some (daysW false n σ.1 10 - σ.1 10, h2) := e2
      have ex : fX11_ahead h (nI p) (nI n) z = if z = 0 then cl2 (fX1_holding h2 43) (fun x11 h9 => cl9 (fX7_skyAt h9 43 (nI p) x11 (h9 43 8) (h9 43 9)) (fun x12 => some (x12, 0, h9))) else some (daysW false n σ.1 (62 + p), 0, h2) := by
        unfold fX11_ahead
        rw [p1, if_pos rfl, c1', if_pos rfl, e1, cl9_some, e2', cl2_some, gd_in hp (by decide), nI_clamp (by omega), C2.cs.rust hp]
      have em : ∀ ha, RM ha σ → ∃ f h3, h3 209 = daysW false n σ.1 ∧ FI cD (upA (up2 ha 208 0 0) 212 f) h3 ∧ (∀ k, k < 333 → f k = σ.1 k) ∧ fX12_ahead ha (nI p) (nI n) z = cl2 (if z = 0 then cl2 (fX12_holdingNow h3) (fun x24 h22 => cl9 (fX12_skyBy h22 x24 (nI p)) (fun x25 => some (x25, h22))) else some (daysW false n σ.1 (62 + p), h3)) (fun v17 h18 => cl9 (fX12_bringsBack h18) (fun h28 => some (v17, h28))) := by
        intro ha M
        obtain ⟨f, h3, e3, w3, F3, hf⟩ := goes_m C.cs.2.1 C.cs.2.2.1 (w00 M 0 0) hn
        refine ⟨f, h3, w3, F3, hf, ?_⟩
        have e62 : (62 : Int32) + nI p = nI (62 + p) := by rw [i_62, nI_add]
        unfold fX12_ahead
        simp only [lt9_e]
        rw [p2, throws_0, cl2_some, if_pos rfl, c2', if_neg (by decide), cl9_some, throws_0, cl2_some, if_pos rfl, e3, cl2_some, e62, gd_in (by omega) (by decide), nI_clamp (by omega), w3]
      have G2 := GW_days C.cs.2.1 C.cs.2.2.1 false n
      by_cases cz : z = 0
      · obtain ⟨h9, e9, F9, -⟩ := holding_x C2.cs
        have C9 := C2.f45 F9
        obtain ⟨a, ha1, ea⟩ := G2.n4
        obtain ⟨t, ht, et⟩ := G2.n5
        obtain ⟨g, hg, eg⟩ := G2.tree hp
        refine opT_ask C (r := nI (sky9 (hold9 (daysW false n σ.1) (daysW false n σ.1 7)) a t g p)) (k := 0) (c := 0) (h1 := h9) ?_ (by simp) ((F1.trans (cS43 F2)).trans (a45 F9)) (fun ha M => ?_)
        · rw [ex, if_pos cz, e9, cl2_some, C9.cs.f4, C9.cs.f5, ea, et, skyAt_x h9 _ hp (by rw [C9.cs.tree hp, eg]) ha1 ht hg, cl9_some]
        · obtain ⟨f, h3, w3, F3, hf, e3⟩ := em ha M
          obtain ⟨h4, e4, F4, -⟩ := holdingNow_m G2 (daysW_M C.cs.2.2.1 false n) w3
          have w4 : h4 209 = daysW false n σ.1 := by rw [cT_209 F4]; exact w3
          have F34 := F3.trans (cTD F4)
          have F5 : FI cB (up2 ha 208 0 0) (upA h4 209 σ.1) := ((FI.upA (C := cB) _ f (fun j => Or.inl rfl)).trans (cDB F34)).trans (FI.upA _ _ (fun j => Or.inr (Or.inl rfl)))
          refine ⟨_, upA h4 209 σ.1, ?_, fix_209 M.w F5 (upA_s _ _ _), by rw [cB_0 F5]; exact z00 ha, fun _ => rfl⟩
          rw [e3, if_pos cz, e4, cl2_some, skyBy_m h4 (hold9_S16 _ _) (by rw [w4, ea]) (by rw [w4, et]) (by rw [w4, eg]) ha1 ht hg hp, cl9_some, cl2_some, bb_m hf F34 w4, cl9_some]
      · refine opT_ask C (r := daysW false n σ.1 (62 + p)) (k := 0) (c := 0) (h1 := h2) ?_ (by simp) (F1.trans (cS43 F2)) (fun ha M => ?_)
        · rw [ex, if_neg cz]
        · obtain ⟨f, h3, w3, F3, hf, e3⟩ := em ha M
          have F4 : FI cB (up2 ha 208 0 0) (upA h3 209 σ.1) := ((FI.upA (C := cB) _ f (fun j => Or.inl rfl)).trans (cDB F3)).trans (FI.upA _ _ (fun j => Or.inr (Or.inl rfl)))
          refine ⟨_, upA h3 209 σ.1, ?_, fix_209 M.w F4 (upA_s _ _ _), by rw [cB_0 F4]; exact z00 ha, fun _ => rfl⟩
          rw [e3, if_neg cz, cl2_some, bb_m hf F3 w3, cl9_some]
theorem trial_T {h : Hp} {σ : St} (C : RC h σ) (x z : Int32) : OpT h σ [(3, 1)] (fX11_trial h x z) (fun ha => fX12_trial ha x z) := by
  rcases num_cases x 0 60 (by decide) (by decide) with ⟨c1, c2⟩ | ⟨n, -, hn, rfl, c1, c2⟩
  · have c1' : fX11_checkNumber x 0 60 = 3 := c1
    have c2' : fX12_in x 0 60 = 0 := c2
    exact thr_T C 3 1 (by simp) (by decide) (by unfold fX11_trial; rw [c1']; rfl) (fun ha w => by unfold fX12_trial; rw [c2']; rfl)
  · have c1' : fX11_checkNumber (nI n) 0 60 = 0 := c1
    have c2' : fX12_in (nI n) 0 60 = 1 := c2
    have G := C.cs.2.1
    have HM := C.cs.2.2.1
    obtain ⟨h1, e1, C1, F1⟩ := draft_x C
    obtain ⟨h2, e2, C2, F2⟩ := daysMore_x C1 true hn
    have e2' : fX1_daysMore h1 43 (nI n) 1 = some (daysW true n σ.1 10 - σ.1 10, h2) := e2
    obtain ⟨h8, e8, F8, -⟩ := standing_n C2.cs
    have em : ∀ ha, RM ha σ → ∃ h', fX12_trial ha (nI n) z = some (if z = 0 then daysW true n σ.1 10 - σ.1 10 else fJ_bitCount (stNow (daysW true n σ.1) (daysW true n σ.1 7)), h') ∧ FI aM ha h' ∧ h' 208 0 = 0 := by
      intro ha M
      obtain ⟨f, ek, hf⟩ := keepsAll_m (w00 M 0 0)
      have w1 : (upA (up2 ha 208 0 0) 212 f) 209 = σ.1 := by rw [upA_n _ _ (by decide)]; exact w00 M 0 0
      obtain ⟨r, e, q0, q1, q2⟩ := loop0 (σ := Hp) (ρ := Int32 × Hp) n (fun m i s => LX12_trial m s (nI n) z (nI i)) (fun i s => s 209 = daysW true i σ.1 ∧ FI cD (upA (up2 ha 208 0 0) 212 f) s) (fun r => r.1 = (if z = 0 then daysW true n σ.1 10 - σ.1 10 else fJ_bitCount (stNow (daysW true n σ.1) (daysW true n σ.1 7))) ∧ FI aM ha r.2 ∧ r.2 208 0 = 0) (upA (up2 ha 208 0 0) 212 f) (by omega) ⟨w1, FI.refl _ _⟩ (by
        rintro m i s hi ⟨b1, b2⟩
        left
        obtain ⟨h2, e2, w2, F2⟩ := run_m G HM true b1
        have e2' : fX12_oneDay s 0 = some h2 := e2
        refine ⟨h2, ⟨w2, b2.trans F2⟩, ?_⟩
        try dsimp only
        rw [LX12_trial, BX12_trial_0, if_neg (nI_ge hi (by omega)), e2', cl9_some, nI_1]
        rfl) (by
        rintro m s ⟨b1, b2⟩
        have s12 : s 212 10 = σ.1 10 := by
          rw [b2 212 10 (by unfold cD cT; omega), upA_s]
          exact hf 10 (by decide)
        have fin : ∀ s', FI cD s s' → s' 209 = daysW true n σ.1 → fX12_bringsBack s' = some (upA s' 209 σ.1) ∧ FI aM ha (upA s' 209 σ.1) ∧ (upA s' 209 σ.1) 208 0 = 0 := by
          intro s' F' w'
          have F5 : FI cB (up2 ha 208 0 0) (upA s' 209 σ.1) := ((FI.upA (C := cB) _ f (fun j => Or.inl rfl)).trans (cDB (b2.trans F'))).trans (FI.upA _ _ (fun j => Or.inr (Or.inl rfl)))
          exact ⟨bb_m hf (b2.trans F') w', fix_209 M.w F5 (upA_s _ _ _), by rw [cB_0 F5]; exact z00 ha⟩
        try dsimp only
        rw [LX12_trial, BX12_trial_0, if_pos (nI_le (Nat.le_refl _) (by omega)), b1, s12]
        by_cases cz : z = 0
        · obtain ⟨f1, f2, f3⟩ := fin s (FI.refl _ _) b1
          refine ⟨(daysW true n σ.1 10 - σ.1 10, upA s 209 σ.1), ?_, by rw [if_pos cz], f2, f3⟩
          rw [if_pos cz, cl2_some, f1, cl9_some]
        · obtain ⟨h7, e7, F7, -⟩ := standingNow_m (GW_days G HM true n) (daysW_M HM true n) b1
          obtain ⟨f1, f2, f3⟩ := fin h7 (cTD F7) (by rw [cT_209 F7]; exact b1)
          refine ⟨(fJ_bitCount (stNow (daysW true n σ.1) (daysW true n σ.1 7)), upA h7 209 σ.1), ?_, by rw [if_neg cz], f2, f3⟩
          rw [if_neg cz, e7, cl2_some, cl2_some, f1, cl9_some])
      refine ⟨r.2, ?_, q1, q2⟩
      unfold fX12_trial
      simp only [lt9_e]
      rw [c2', if_neg (by decide), cl9_some, throws_0, cl2_some, if_pos rfl, ek, cl9_some, ← q0]
      exact e
    have ex : fX11_trial h (nI n) z = if z = 0 then some (daysW true n σ.1 10 - σ.1 10, 0, h2) else some (fJ_bitCount (stNow (daysW true n σ.1) (daysW true n σ.1 7)), 0, h8) := by
      unfold fX11_trial
      rw [c1', if_pos rfl, e1, cl9_some, e2', cl2_some, e8, cl2_some]
    by_cases cz : z = 0
    · refine opT_ask C (r := daysW true n σ.1 10 - σ.1 10) (k := 0) (c := 0) (h1 := h2) (by rw [ex, if_pos cz]) (by simp) (F1.trans (cS43 F2)) (fun ha M => ?_)
      obtain ⟨h', e', F', z'⟩ := em ha M
      exact ⟨_, h', e', F', z', fun _ => if_pos cz⟩
    · refine opT_ask C (r := fJ_bitCount (stNow (daysW true n σ.1) (daysW true n σ.1 7))) (k := 0) (c := 0) (h1 := h8) (by rw [ex, if_neg cz]) (by simp) ((F1.trans (cS43 F2)).trans (a45 F8)) (fun ha M => ?_)
      obtain ⟨h', e', F', z'⟩ := em ha M
      exact ⟨_, h', e', F', z', fun _ => if_neg cz⟩
theorem RC.set45 {h h' : Hp} {σ : St} (C : RC h σ) {w' : Nat → Int32} (S : SKY h' 32 w') (F : FR (cS 32) h h') (K : KEEP σ.1 w') : RC h' (setW σ w') := by
  obtain ⟨w, s, P, g, I, t, T, Fa⟩ := σ
  obtain ⟨h1, h2, h3, h4, h5, h6, h7⟩ := C
  refine ⟨S, h2.out K.1 (fun i hi _ => K.2 i hi), (h3.out h2 K.1 (fun i hi _ => K.2 i hi)).fr F (fun j hj q => by unfold cS at q; omega), ?_, h5.fr F (fun k q => by unfold cS at q; omega), h6.fr F (fun k q => by unfold cS at q; omega), by rw [F 0 (by unfold cS; omega)]; exact h7⟩
  have := h4.fr F (fun k q => by unfold cS at q; omega)
  unfold pastC at this ⊢
  have e2 : w' 2 = w 2 := K.1
  rw [e2]
  exact this
theorem days_T {h : Hp} {σ : St} (C : RC h σ) (x : Int32) : OpT h σ [(3, 1)] (fX11_days h x) (fun ha => fX12_days ha x) := by
  rcases num_cases x 1 60 (by decide) (by decide) with ⟨c1, c2⟩ | ⟨n, -, hn, rfl, c1, c2⟩
  · have c1' : fX11_checkNumber x 1 60 = 3 := c1
    have c2' : fX12_in x 1 60 = 0 := c2
    exact thr_T C 3 1 (by simp) (by decide) (by unfold fX11_days; rw [c1']; rfl) (fun ha w => by unfold fX12_days; rw [c2']; rfl)
  · have c1' : fX11_checkNumber (nI n) 1 60 = 0 := c1
    have c2' : fX12_in (nI n) 1 60 = 1 := c2
    have G := C.cs.2.1
    have HM := C.cs.2.2.1
    obtain ⟨h1, e1, C1, F1⟩ := remember_x C
    have S1 : SKY h1 32 σ.1 := by have := C1.sky; rw [rem9_1] at this; exact this
    have K1 : CSK h1 32 σ.1 := ⟨S1, HM, by have := C1.cs.2.2.2.1; rw [rem9_1] at this; exact this, by decide⟩
    obtain ⟨h2, e2, C2, F2⟩ := daysMore_x K1 true hn
    have e2' : fX1_daysMore h1 32 (nI n) 1 = some (daysW true n σ.1 10 - σ.1 10, h2) := e2
    have KK := daysW_keep true σ.1 n
    refine ⟨daysW true n σ.1 10 - σ.1 10, 0, 0, h2, setW (rem9 σ) (daysW true n σ.1), ?_, by simp, C1.set45 C2.1 F2 (by rw [rem9_1]; exact KK), (F1.mono (D := cX) (fun k q => by unfold cX; omega)).trans (F2.mono (fun k q => by unfold cS at q; unfold cX; omega)), fun ha M => ?_⟩
    · unfold fX11_days
      rw [c1', if_pos rfl, e1, cl9_some, e2', cl2_some]
    · obtain ⟨hb, eb, Mb, Fb⟩ := remembers_m (M.sm (t0s (j := 0) ha 0 (by omega))) C.s12
      have wb : hb 209 = σ.1 := by have := Mb.w; rw [rem9_1] at this; exact this
      obtain ⟨r, e, q0, q1, q2⟩ := loop0 (σ := Hp) (ρ := Int32 × Hp) n (fun m i s => LX12_days m s (nI n) (σ.1 10) (nI i)) (fun i s => s 209 = daysW true i σ.1 ∧ FI cD hb s) (fun r => r.1 = daysW true n σ.1 10 - σ.1 10 ∧ r.2 209 = daysW true n σ.1 ∧ FI cD hb r.2) hb (by omega) ⟨wb, FI.refl _ _⟩ (by
        rintro m i s hi ⟨b1, b2⟩
        left
        obtain ⟨h2, e2, w2, F2⟩ := run_m G HM true b1
        have e2' : fX12_oneDay s 0 = some h2 := e2
        refine ⟨h2, ⟨w2, b2.trans F2⟩, ?_⟩
        try dsimp only
        rw [LX12_days, BX12_days_0, if_neg (nI_ge hi (by omega)), e2', cl9_some, nI_1]
        rfl) (by
        rintro m s ⟨b1, b2⟩
        refine ⟨(daysW true n σ.1 10 - σ.1 10, s), ?_, rfl, b1, b2⟩
        try dsimp only
        rw [LX12_days, BX12_days_0, if_pos (nI_le (Nat.le_refl _) (by omega)), b1])
      refine ⟨_, r.2, ?_, RM_setw Mb (q2.mono (fun k j q => by unfold cD cT at q; unfold sm; omega)) q1, ((t0M ha 0 0).trans (Fb.mono (D := cM) (fun k j q => by unfold cM; omega))).trans (q2.mono (D := cM) (fun k j q => by unfold cD cT at q; unfold cM; omega)), ?_, fun _ => rfl⟩
      · unfold fX12_days
        simp only [lt9_e]
        rw [c2', if_neg (by decide), cl9_some, throws_0, cl2_some, if_pos rfl, eb, cl9_some, wb, ← q0]
        exact e
      · rw [q2 208 0 (by unfold cD cT; omega), Fb 208 0 (by omega)]
        exact z00 ha
/-! gives, lasts -/
def givV (w : Nat → Int32) : Nat → Nat → Int32 × Int32
  | 0, _ => (-1, 0)
  | m + 1, i => if daysW false (i + 1) w 7 = w 7 then givV w m (i + 1) else (nI (i + 1), w 7 &&& (daysW false (i + 1) w 7 ^^^ (-1)))
theorem givV_s (w : Nat → Int32) (m i : Nat) : givV w (m + 1) i = if daysW false (i + 1) w 7 = w 7 then givV w m (i + 1) else (nI (i + 1), w 7 &&& (daysW false (i + 1) w 7 ^^^ (-1))) := rfl
theorem and_cpl_0 {S T : Int32} (hS : S16 S) (hT : S16 T) (sub : ∀ p, p < 16 → has9 T p = true → has9 S p = true) : (S &&& (T ^^^ (-1)) = 0) ↔ T = S := by
  constructor
  · intro h
    rw [and_zero_iff] at h
    refine S16_ext hT hS (fun p hp => ?_)
    have := h p (by omega)
    rw [has9_cpl _ (by omega)] at this
    cases c : has9 T p with
    | true => exact (sub p hp c).symm
    | false => rw [c] at this; simpa using this.symm
  · intro h
    rw [h]; exact and_cpl S
theorem gives_xL {w : Nat → Int32} (z : Int32) : ∀ (m n i : Nat) (h : Hp), i + m = 60 → m < n → CSK h 43 (daysW false i w) → daysW false i w 7 = w 7 → ∃ h', LX11_gives n h z (nI (i + 1)) = some (if z = 0 then (givV w m i).1 else (givV w m i).2, h') ∧ FR (cS 43) h h' := by
  intro m
  induction m with
  | zero =>
    intro n i h hi hn H e7
    obtain ⟨n, rfl⟩ : ∃ k, n = k + 1 := ⟨n - 1, by omega⟩
    refine ⟨h, ?_, FR.refl _ _⟩
    rw [LX11_gives, BX11_gives_0, i_60, if_pos (nI_lt (by omega) (by omega))]
    by_cases cz : z = 0
    · rw [if_pos cz, if_pos cz]; rfl
    · rw [if_neg cz, if_neg cz]; rfl
  | succ m ih =>
    intro n i h hi hn H e7
    obtain ⟨n, rfl⟩ : ∃ k, n = k + 1 := ⟨n - 1, by omega⟩
    obtain ⟨h2, e2, C2, F2⟩ := dayMore_x H false
    have e2' : fX1_dayMore h 43 0 = some (daysW false i w 7 &&& (daysW false (i + 1) w 7 ^^^ (-1)), h2) := e2
    have C2' : CSK h2 43 (daysW false (i + 1) w) := C2
    have L := dayW_LC false (daysW false i w)
    have key := and_cpl_0 (S := w 7) (T := daysW false (i + 1) w 7) (by rw [← e7]; exact H.1.2.1.pins) C2'.1.2.1.pins (fun p hp c => by rw [← e7]; exact L.1 p hp c)
    rw [LX11_gives, BX11_gives_0, i_60, if_neg (nI_nlt (by omega) (by omega)), e2', cl2_some, e7, nI_1, givV_s]
    simp only [lt9_e]
    by_cases c : daysW false (i + 1) w 7 = w 7
    · rw [if_pos c, if_pos (key.mpr c)]
      obtain ⟨h3, e3, F3⟩ := ih n (i + 1) h2 (by omega) (by omega) C2' c
      exact ⟨h3, e3, F2.trans F3⟩
    · rw [if_neg c, if_neg (fun q => c (key.mp q))]
      refine ⟨h2, ?_, F2⟩
      by_cases cz : z = 0
      · rw [if_pos cz, if_pos cz]
      · rw [if_neg cz, if_neg cz]
theorem gives_mL {w : Nat → Int32} (G : GW w) (HM : lawM w) (z : Int32) {h0 : Hp} {f : Nat → Int32} (hf : ∀ k, k < 333 → f k = w k) : ∀ (m n i : Nat) (s : Hp), i + m = 60 → m + 5 < n → s 209 = daysW false i w → daysW false i w 7 = w 7 → FI cD (upA h0 212 f) s → ∃ s', LX12_gives n 0 s z (w 7) (-1) (nI (i + 1)) = some (if z = 0 then (givV w m i).1 else (givV w m i).2, upA s' 209 w) ∧ FI cD (upA h0 212 f) s' := by
  have fin : ∀ (n j : Nat) (s : Hp) (y3 : Int32), s 209 = daysW false j w → FI cD (upA h0 212 f) s → LX12_gives (n + 1) 1 s z (w 7) y3 0 = some (if z = 0 then y3 else w 7 &&& (daysW false j w 7 ^^^ (-1)), upA s 209 w) := by
    intro n j s y3 ws F
    rw [LX12_gives, if_neg (by decide), if_pos rfl, BX12_gives_1]
    unfold fX12_pins
    simp only [lt9_e]
    rw [ws, bb_m hf F ws, cl9_some]
    by_cases cz : z = 0
    · rw [if_pos cz, if_pos cz]
    · rw [if_neg cz, if_neg cz]
  intro m
  induction m with
  | zero =>
    intro n i s hi hn ws e7 F
    obtain ⟨n, rfl⟩ : ∃ k, n = k + 1 + 1 := ⟨n - 2, by omega⟩
    refine ⟨s, ?_, F⟩
    rw [LX12_gives, if_pos rfl, BX12_gives_0, i_60, if_pos (nI_lt (by omega) (by omega)), cl9_some]
    simp only [Bool.false_eq_true, if_false]
    rw [fin n i s (-1) ws F, e7, and_cpl]
    rfl
  | succ m ih =>
    intro n i s hi hn ws e7 F
    obtain ⟨n, rfl⟩ : ∃ k, n = k + 1 + 1 + 1 := ⟨n - 3, by omega⟩
    obtain ⟨h2, e2, w2, F2⟩ := run_m G HM false ws
    have e2' : fX12_oneDay s 1 = some h2 := e2
    rw [LX12_gives, if_pos rfl, BX12_gives_0, i_60, if_neg (nI_nlt (by omega) (by omega)), if_neg (by decide), cl9_some, if_pos rfl, e2', cl9_some]
    unfold fX12_pins
    rw [w2, nI_1, givV_s]
    simp only [lt9_e]
    by_cases c : daysW false (i + 1) w 7 = w 7
    · rw [if_pos c, if_pos c]
      exact ih (n + 1 + 1) (i + 1) h2 (by omega) (by omega) w2 c (F.trans F2)
    · rw [if_neg c, if_neg c]
      refine ⟨h2, ?_, F.trans F2⟩
      have np : (0 : Int32) ≤ nI (i + 1) := nI_pos' (by omega)
      rw [LX12_gives, if_pos rfl, BX12_gives_0]
      have lt : (if nI 60 < nI (i + 1 + 1) then some false else if 0 ≤ nI (i + 1) then some false else some true : Option Bool) = some false := by
        by_cases d : nI 60 < nI (i + 1 + 1)
        · rw [if_pos d]
        · rw [if_neg d, if_pos np]
      rw [i_60, lt, cl9_some]
      simp only [Bool.false_eq_true, if_false]
      rw [fin n (i + 1) h2 (nI (i + 1)) w2 (F.trans F2)]
theorem gives_N {h : Hp} {σ : St} (C : RC h σ) (z : Int32) : OpN h σ (fX11_gives h z) (fun ha => fX12_gives ha z) := by
  obtain ⟨h1, e1, C1, F1⟩ := draft_x C
  obtain ⟨h2, e2, F2⟩ := gives_xL (w := σ.1) z 60 big 0 h1 rfl (by decide) C1 rfl
  refine opN_ask C (r := if z = 0 then (givV σ.1 60 0).1 else (givV σ.1 60 0).2) (h1 := h2) ?_ (F1.trans (cS43 F2)) (fun ha M => ?_)
  · unfold fX11_gives
    rw [e1, cl9_some]; exact e2
  · obtain ⟨f, ek, hf⟩ := keepsAll_m (w00 M 0 0)
    have w1 : (upA (up2 ha 208 0 0) 212 f) 209 = σ.1 := by rw [upA_n _ _ (by decide)]; exact w00 M 0 0
    obtain ⟨s', e3, F3⟩ := gives_mL C.cs.2.1 C.cs.2.2.1 z hf 60 big 0 _ rfl (by decide) w1 rfl (FI.refl _ _)
    have F5 : FI cB (up2 ha 208 0 0) (upA s' 209 σ.1) := ((FI.upA (C := cB) _ f (fun j => Or.inl rfl)).trans (cDB F3)).trans (FI.upA _ _ (fun j => Or.inr (Or.inl rfl)))
    refine ⟨upA s' 209 σ.1, ?_, fix_209 M.w F5 (upA_s _ _ _)⟩
    unfold fX12_gives fX12_pins
    simp only [lt9_e]
    rw [ek, cl9_some, w00 M 0 0]
    exact e3
def lasC (w : Nat → Int32) (i : Nat) : Int32 := stNow w (w 7) &&& (stNow (daysW false i w) (daysW false i w 7) ^^^ (-1))
def lasV (w : Nat → Int32) : Nat → Nat → Int32
  | 0, _ => -1
  | m + 1, i => if lasC w (i + 1) = 0 then lasV w m (i + 1) else nI (i + 1)
theorem lasV_s (w : Nat → Int32) (m i : Nat) : lasV w (m + 1) i = if lasC w (i + 1) = 0 then lasV w m (i + 1) else nI (i + 1) := rfl
theorem lasts_xL {w : Nat → Int32} : ∀ (m n i : Nat) (h : Hp), i + m = 60 → m < n → CSK h 43 (daysW false i w) → ∃ h', LX11_lasts n h (stNow w (w 7)) (nI (i + 1)) = some (lasV w m i, h') ∧ FR (cS 43) h h' := by
  intro m
  induction m with
  | zero =>
    intro n i h hi hn H
    obtain ⟨n, rfl⟩ : ∃ k, n = k + 1 := ⟨n - 1, by omega⟩
    refine ⟨h, ?_, FR.refl _ _⟩
    rw [LX11_lasts, BX11_lasts_0, i_60, if_pos (nI_lt (by omega) (by omega))]; rfl
  | succ m ih =>
    intro n i h hi hn H
    obtain ⟨n, rfl⟩ : ∃ k, n = k + 1 := ⟨n - 1, by omega⟩
    obtain ⟨h2, e2, C2, F2⟩ := dayMore_x H false
    have e2' : fX1_dayMore h 43 0 = some (daysW false i w 7 &&& (daysW false (i + 1) w 7 ^^^ (-1)), h2) := e2
    have C2' : CSK h2 43 (daysW false (i + 1) w) := C2
    obtain ⟨h5, e5, F5, -⟩ := standing_n C2'.cs
    have F25 := F2.trans (c45S (b := 43) F5)
    rw [LX11_lasts, BX11_lasts_0, i_60, if_neg (nI_nlt (by omega) (by omega)), e2', cl2_some, e5, cl2_some, nI_1, lasV_s]
    simp only [lt9_e]
    by_cases c : lasC w (i + 1) = 0
    · have c' : stNow w (w 7) &&& (stNow (daysW false (i + 1) w) (daysW false (i + 1) w 7) ^^^ (-1)) = 0 := c
      rw [if_pos c, if_pos c']
      obtain ⟨h3, e3, F3⟩ := ih n (i + 1) h5 (by omega) (by omega) (C2'.f45 F5)
      exact ⟨h3, e3, F25.trans F3⟩
    · have c' : ¬ stNow w (w 7) &&& (stNow (daysW false (i + 1) w) (daysW false (i + 1) w 7) ^^^ (-1)) = 0 := c
      rw [if_neg c, if_neg c']
      exact ⟨h5, rfl, F25⟩
theorem lasts_mL {w : Nat → Int32} (G : GW w) (HM : lawM w) {h0 : Hp} {f : Nat → Int32} (hf : ∀ k, k < 333 → f k = w k) : ∀ (m n i : Nat) (s : Hp), i + m = 60 → m + 5 < n → s 209 = daysW false i w → FI cD (upA h0 212 f) s → ∃ s', LX12_lasts n 0 s (stNow w (w 7)) (-1) (nI (i + 1)) = some (lasV w m i, upA s' 209 w) ∧ FI cD (upA h0 212 f) s' := by
  have fin : ∀ (n j : Nat) (s : Hp) (y1 y2 : Int32), s 209 = daysW false j w → FI cD (upA h0 212 f) s → LX12_lasts (n + 1) 1 s y1 y2 0 = some (y2, upA s 209 w) := by
    intro n j s y1 y2 ws F
    rw [LX12_lasts, if_neg (by decide), if_pos rfl, BX12_lasts_1, bb_m hf F ws, cl9_some]
  intro m
  induction m with
  | zero =>
    intro n i s hi hn ws F
    obtain ⟨n, rfl⟩ : ∃ k, n = k + 1 + 1 := ⟨n - 2, by omega⟩
    refine ⟨s, ?_, F⟩
    rw [LX12_lasts, if_pos rfl, BX12_lasts_0, i_60, if_pos (nI_lt (by omega) (by omega)), cl9_some]
    simp only [Bool.false_eq_true, if_false]
    rw [fin n i s _ (-1) ws F]
    rfl
  | succ m ih =>
    intro n i s hi hn ws F
    obtain ⟨n, rfl⟩ : ∃ k, n = k + 1 + 1 + 1 := ⟨n - 3, by omega⟩
    obtain ⟨h2, e2, w2, F2⟩ := run_m G HM false ws
    have e2' : fX12_oneDay s 1 = some h2 := e2
    obtain ⟨h9, e9, F9, -⟩ := standingNow_m (GW_days G HM false (i + 1)) (daysW_M HM false (i + 1)) w2
    have w9 : h9 209 = daysW false (i + 1) w := by rw [cT_209 F9]; exact w2
    have F29 := (F.trans F2).trans (cTD F9)
    rw [LX12_lasts, if_pos rfl, BX12_lasts_0, i_60, if_neg (nI_nlt (by omega) (by omega)), if_neg (by decide), cl9_some, if_pos rfl, e2', cl9_some, e9, cl2_some, nI_1, lasV_s]
    simp only [lt9_e]
    by_cases c : lasC w (i + 1) = 0
    · have c' : stNow w (w 7) &&& (stNow (daysW false (i + 1) w) (daysW false (i + 1) w 7) ^^^ (-1)) = 0 := c
      rw [if_pos c, if_pos c']
      exact ih (n + 1 + 1) (i + 1) h9 (by omega) (by omega) w9 F29
    · have c' : ¬ stNow w (w 7) &&& (stNow (daysW false (i + 1) w) (daysW false (i + 1) w 7) ^^^ (-1)) = 0 := c
      rw [if_neg c, if_neg c']
      refine ⟨h9, ?_, F29⟩
      have np : (0 : Int32) ≤ nI (i + 1) := nI_pos' (by omega)
      rw [LX12_lasts, if_pos rfl, BX12_lasts_0]
      have lt : (if nI 60 < nI (i + 1 + 1) then some false else if 0 ≤ nI (i + 1) then some false else some true : Option Bool) = some false := by
        by_cases d : nI 60 < nI (i + 1 + 1)
        · rw [if_pos d]
        · rw [if_neg d, if_pos np]
      rw [i_60, lt, cl9_some]
      simp only [Bool.false_eq_true, if_false]
      rw [fin n (i + 1) h9 _ (nI (i + 1)) w9 F29]
theorem lasts_N {h : Hp} {σ : St} (C : RC h σ) : OpN h σ (fX11_lasts h) fX12_lasts := by
  obtain ⟨h0, e0, F0, -⟩ := standing_n C.cs
  have C0 := C.f45 F0
  obtain ⟨h1, e1, C1, F1⟩ := draft_x C0
  obtain ⟨h2, e2, F2⟩ := lasts_xL (w := σ.1) 60 big 0 h1 rfl (by decide) C1
  refine opN_ask C (r := lasV σ.1 60 0) (h1 := h2) ?_ (((a45 F0).trans F1).trans (cS43 F2)) (fun ha M => ?_)
  · unfold fX11_lasts
    rw [e0, cl2_some, e1, cl9_some]; exact e2
  · obtain ⟨h5, e5, F5, -⟩ := standingNow_m C.cs.2.1 C.cs.2.2.1 (w00 M 0 0)
    have w5 : h5 209 = σ.1 := by rw [cT_209 F5]; exact w00 M 0 0
    obtain ⟨f, ek, hf⟩ := keepsAll_m w5
    have w1 : (upA h5 212 f) 209 = σ.1 := by rw [upA_n _ _ (by decide)]; exact w5
    obtain ⟨s', e3, F3⟩ := lasts_mL C.cs.2.1 C.cs.2.2.1 hf 60 big 0 _ rfl (by decide) w1 (FI.refl _ _)
    have F6 : FI cB (up2 ha 208 0 0) (upA s' 209 σ.1) := (((cDB (cTD F5)).trans (FI.upA (C := cB) _ f (fun j => Or.inl rfl))).trans (cDB F3)).trans (FI.upA _ _ (fun j => Or.inr (Or.inl rfl)))
    refine ⟨upA s' 209 σ.1, ?_, fix_209 M.w F6 (upA_s _ _ _)⟩
    unfold fX12_lasts
    simp only [lt9_e]
    rw [e5, cl2_some, ek, cl9_some]
    exact e3

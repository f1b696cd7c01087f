/-! undo, image, back, count, pinner, end -/
def undW (w : Nat → Int32) (s : Nat) (P : Nat → Nat → Int32) : Nat → Int32 := fun k => if k < 333 then P (s - 1) k else w k
theorem undo_N {h : Hp} {σ : St} (C : RC h σ) : OpN h σ (fX11_undo h) fX12_undo := by
  obtain ⟨w, s, P, g, I, t, T, Fa⟩ := σ
  obtain ⟨h1, h2, h3, ⟨hs, es, nx, hnx, en, hp⟩, h5, h6, h7⟩ := C
  by_cases c : s = 0
  · subst c
    refine ⟨0, h, (w, 0, P, g, I, t, T, Fa), ?_, ⟨h1, h2, h3, ⟨hs, es, nx, hnx, en, hp⟩, h5, h6, h7⟩, FR.refl _ _, fun ha M => ⟨up2 ha 208 0 0, ?_, M.sm (t0s (j := 0) ha 0 (by omega)), t0M ha 0 0⟩⟩
    · unfold fX11_undo fX5_takeBack
      rw [es, if_pos nI_0, cl2_some]; rfl
    · unfold fX12_undo
      simp only [lt9_e]
      rw [up2_s, upd_n _ _ (by decide), M.2.1.1, if_pos nI_0]
  · have cs : ¬ nI s = 0 := nI_ne0 (by omega) (by omega)
    have q0 := hp (s - 1) (by omega)
    rw [show (nx + 12 - s + (s - 1)) % 12 = (nx + 11) % 12 by omega] at q0
    let hx : Hp := up2 (up2 h 18 2 (nI ((nx + 11) % 12))) 18 1 (nI (s - 1))
    have Fx : FR (fun k => k = 18) h hx := (FR.up2 (C := fun k => k = 18) h _ _ rfl).trans (FR.up2 _ _ _ rfl)
    have x2 : hx 18 2 = nI ((nx + 11) % 12) := by
      show up2 (up2 h 18 2 (nI ((nx + 11) % 12))) 18 1 (nI (s - 1)) 18 2 = _
      rw [up2_s, upd_n _ _ (by decide), up2_s, upd_s]
    have x1 : hx 18 1 = nI (s - 1) := by
      show up2 (up2 h 18 2 (nI ((nx + 11) % 12))) 18 1 (nI (s - 1)) 18 1 = _
      rw [up2_s, upd_s]
    have hlt : (nx + 11) % 12 < 12 := Nat.mod_lt _ (by decide)
    obtain ⟨hb, eb, Hb⟩ := become_x hx 32 (76 + 11 * ((nx + 11) % 12)) (by omega)
    have q1 : SKY hx (76 + 11 * ((nx + 11) % 12)) (P (s - 1)) := q0.1.fr Fx (fun j hj q => by omega)
    have q2 : SKY hb 32 (undW w s P) := (Hb.sky q1).out (fun i hi => by unfold undW; rw [if_pos hi])
    have F2 : FR (fun k => k = 18 ∨ (32 ≤ k ∧ k ≤ 42)) h hb := (Fx.mono (fun k q => Or.inl q)).trans (Hb.2.mono (fun k q => by omega))
    have e2 : undW w s P 2 = w 2 := by unfold undW; rw [if_pos (by decide)]; exact q0.2
    have eo : ∀ i, 333 ≤ i → i < 1182 → undW w s P i = w i := fun i h8 _ => by unfold undW; rw [if_neg (by omega)]
    have b18 : hb 18 = hx 18 := Hb.2 18 (by omega)
    refine ⟨1, hb, (undW w s P, s - 1, P, g, I, t, T, Fa), ?_, ⟨q2, h2.out e2 eo, (h3.out h2 e2 eo).fr F2 (fun j hj q => by omega), ⟨by omega, by rw [b18]; exact x1, (nx + 11) % 12, hlt, by rw [b18]; exact x2, fun i hi => ⟨?_, by rw [e2]; exact (hp i (by omega)).2⟩⟩, h5.fr F2 (fun k q => by omega), h6.fr F2 (fun k q => by omega), by rw [F2 0 (by omega)]; exact h7⟩, F2.mono (fun k q => by unfold cX; omega), fun ha M => ?_⟩
    · unfold fX11_undo fX5_takeBack
      rw [es, if_neg cs, en, i_12, nI_add, i_1, nI_subN (by omega), irem_n (by omega) (by decide) (by decide), show (nx + 12 - 1) % 12 = (nx + 11) % 12 by omega]
      simp only [lt9_e]
      rw [show up2 h 18 2 (nI ((nx + 11) % 12)) 18 1 = nI s from by rw [up2_s, upd_n _ _ (by decide)]; exact es, nI_subN (by omega)]
      show cl2 (gd (inb (hx 18 2) 12) (cl9 (fX7_become hx 32 (76 + 11 * (hx 18 2).toNatClampNeg)) (fun h5 => some (nI 1, h5)))) _ = _
      rw [x2, gd_in hlt (by decide), nI_clamp (by omega), eb, cl9_some, cl2_some]; rfl
    · have := (hp i (by omega)).1
      rw [show (nx + 12 - s + i) % 12 = ((nx + 11) % 12 + 12 - (s - 1) + i) % 12 by omega] at this
      exact this.fr F2 (fun j hj q => by omega)
    · obtain ⟨m1, ⟨es', ep⟩, m3, m4, m5⟩ := M
      let h8 : Hp := up2 (up2 ha 208 0 0) 208 7 (nI (s - 1))
      have w8 : h8 209 = w := by
        show up2 (up2 ha 208 0 0) 208 7 (nI (s - 1)) 209 = _
        rw [up2_n _ _ _ (by decide), up2_n _ _ _ (by decide)]; exact m1
      have a8 : h8 213 = ha 213 := by
        show up2 (up2 ha 208 0 0) 208 7 (nI (s - 1)) 213 = _
        rw [up2_n _ _ _ (by decide), up2_n _ _ _ (by decide)]
      have s8 : h8 208 7 = nI (s - 1) := by
        show up2 (up2 ha 208 0 0) 208 7 (nI (s - 1)) 208 7 = _
        rw [up2_s, upd_s]
      obtain ⟨r, e, q⟩ := loop0 (σ := Hp) (ρ := Int32 × Hp) 333 (fun m i x => LX12_undo m x (nI i)) (fun i x => x = upA h8 209 (fun k => if k < i then P (s - 1) k else w k)) (fun r => r = (1, upA h8 209 (undW w s P))) h8 (by decide) (by
          rw [show (fun k => if k < 0 then P (s - 1) k else w k) = h8 209 from by funext k; rw [if_neg (by omega), w8], upA_id]) (by
        rintro m i x hi rfl
        left
        refine ⟨_, rfl, ?_⟩
        try dsimp only
        have e1 : (333 : Int32) * nI (s - 1) + nI i = nI (333 * (s - 1) + i) := by rw [i_333, nI_mul, nI_add]
        rw [LX12_undo, BX12_undo_0, i_333, if_neg (nI_ge hi (by decide)), ← i_333, upA_n _ _ (by decide), upA_n _ _ (by decide), s8, e1, gd_in (show 333 * (s - 1) + i < 3996 by omega) (by decide), gd_in (show i < 2031 by omega) (by decide), nI_clamp (by omega), nI_clamp (by omega), nI_1, a8, ep (s - 1) (by omega) i hi]
        simp only [lt9_e]
        congr 1
        unfold up2
        rw [upA_s, upA_upA]
        congr 1
        funext j
        by_cases d : j = i
        · subst d; rw [upd_s, if_pos (by omega)]
        · rw [upd_n _ _ d]
          by_cases d2 : j < i
          · rw [if_pos d2, if_pos (by omega)]
          · rw [if_neg d2, if_neg (by omega)]) (by
        rintro m x rfl
        refine ⟨_, ?_, rfl⟩
        try dsimp only
        rw [LX12_undo, BX12_undo_0, i_333, if_pos (nI_le (Nat.le_refl _) (by decide))]
        rfl)
      have F8 : FI cM ha (upA h8 209 (undW w s P)) := ((t0M ha 0 0).trans (t0M _ 7 _)).trans (FI.upA _ _ (fun j => by unfold cM; omega))
      refine ⟨upA h8 209 (undW w s P), ?_, ⟨upA_s _ _ _, ⟨?_, fun i hi k hk => ?_⟩, ?_, ?_, ?_⟩, F8⟩
      · unfold fX12_undo
        simp only [lt9_e]
        rw [up2_s, upd_n _ _ (by decide), es', if_neg cs, i_1, nI_subN (by omega), ← i_1]
        rw [q] at e
        exact e
      · rw [upA_n _ _ (by decide)]; exact s8
      · rw [upA_n _ _ (by decide), a8]; exact ep i (by omega) k hk
      · have a1 : (upA h8 209 (undW w s P)) 208 6 = ha 208 6 := by
          rw [upA_n _ _ (by decide)]
          show up2 (up2 ha 208 0 0) 208 7 (nI (s - 1)) 208 6 = _
          rw [up2_s, upd_n _ _ (by decide), up2_s, upd_n _ _ (by decide)]
        have a2 : (upA h8 209 (undW w s P)) 210 = ha 210 := by
          rw [upA_n _ _ (by decide)]
          show up2 (up2 ha 208 0 0) 208 7 (nI (s - 1)) 210 = _
          rw [up2_n _ _ _ (by decide), up2_n _ _ _ (by decide)]
        unfold imgM
        rw [a1, a2]; exact m3
      · have a1 : (upA h8 209 (undW w s P)) 208 9 = ha 208 9 := by
          rw [upA_n _ _ (by decide)]
          show up2 (up2 ha 208 0 0) 208 7 (nI (s - 1)) 208 9 = _
          rw [up2_s, upd_n _ _ (by decide), up2_s, upd_n _ _ (by decide)]
        have a2 : (upA h8 209 (undW w s P)) 214 = ha 214 := by
          rw [upA_n _ _ (by decide)]
          show up2 (up2 ha 208 0 0) 208 7 (nI (s - 1)) 214 = _
          rw [up2_n _ _ _ (by decide), up2_n _ _ _ (by decide)]
        unfold tapM
        rw [a1, a2]; exact m4
      · rw [upA_n _ _ (by decide)]
        show up2 (up2 ha 208 0 0) 208 7 (nI (s - 1)) 208 14 = _
        rw [up2_s, upd_n _ _ (by decide), up2_s, upd_n _ _ (by decide)]; exact m5
/-- a call without an answer -/
def OpV (h : Hp) (σ : St) (fx : Option Hp) (fm : Hp → Option Hp) : Prop := ∃ h1 σ', fx = some h1 ∧ RC h1 σ' ∧ FR cX h h1 ∧ ∀ ha, RM ha σ → ∃ h2, fm ha = some h2 ∧ RM h2 σ' ∧ FI cM ha h2
theorem image_V {h : Hp} {σ : St} (C : RC h σ) : OpV h σ (fX11_image h) fX12_image := by
  obtain ⟨w, s, P, g, I, t, T, Fa⟩ := σ
  obtain ⟨h1, h2, h3, h4, h5, h6, h7⟩ := C
  obtain ⟨ha, ea, Ha⟩ := become_x h 54 32 (by omega)
  obtain ⟨hb, eb, Hb⟩ := lbecome_x ha 24 6 (by omega)
  have Fab : FR (fun k => (54 ≤ k ∧ k ≤ 64) ∨ (24 ≤ k ∧ k ≤ 28) ∨ k = 0) h hb := (Ha.2.mono (fun k q => by omega)).trans (Hb.2.mono (fun k q => by omega))
  have F1 : FR (fun k => (54 ≤ k ∧ k ≤ 64) ∨ (24 ≤ k ∧ k ≤ 28) ∨ k = 0) h (up2 hb 0 10 1) := Fab.trans (FR.up2 _ _ _ (by omega))
  have S1 : SKY (up2 hb 0 10 1) 54 w := ((Ha.sky h1).fr Hb.2 (fun j hj q => by omega)).fr (FR.up2 (C := fun k => k = 0) hb 10 1 rfl) (fun j hj q => by omega)
  have L1 : lawC (up2 hb 0 10 1) 24 w := (Hb.law h2 (h3.fr Ha.2 (fun j hj q => by omega))).fr (FR.up2 (C := fun k => k = 0) hb 10 1 rfl) (fun j hj q => by omega)
  refine ⟨up2 hb 0 10 1, (w, s, P, true, w, t, T, Fa), ?_, ⟨h1.fr F1 (fun j hj q => by omega), h2, h3.fr F1 (fun j hj q => by omega), h4.fr F1 (fun k q => by omega), ⟨by rw [up2_s, upd_s]; rfl, fun _ => ⟨S1, h2, L1⟩⟩, h6.fr F1 (fun k q => by omega), ?_⟩, F1.mono (fun k q => by unfold cX; omega), fun hm M => ?_⟩
  · unfold fX11_image
    rw [ea, cl9_some, eb, cl9_some]; rfl
  · rw [up2_s, upd_n _ _ (by decide), Fab.trans (FR.refl _ _) 0 |> fun _ => show hb 0 = h 0 from ?_]
    · exact h7
    · rw [Hb.2 0 (by omega), Ha.2 0 (by omega)]
  · obtain ⟨m1, m2, m3, m4, m5⟩ := M
    have w0 : (up2 hm 208 0 0) 209 = w := by rw [up2_n _ _ _ (by decide)]; exact m1
    obtain ⟨r, e, f, q, qf⟩ := loop0 (σ := Hp) (ρ := Hp) 1182 (fun m i x => LX12_image m x (nI i)) (fun i x => ∃ f, x = upA (up2 hm 208 0 0) 210 f ∧ ∀ k, k < i → f k = w k) (fun r => ∃ f, r = up2 (upA (up2 hm 208 0 0) 210 f) 208 6 1 ∧ ∀ k, k < 1182 → f k = w k) (up2 hm 208 0 0) (by decide) ⟨_, (upA_id _ _).symm, fun k hk => by omega⟩ (by
      rintro m i x hi ⟨f, rfl, hf⟩
      left
      refine ⟨upA (up2 hm 208 0 0) 210 (upd f i (w i)), ⟨_, rfl, fun k hk => ?_⟩, ?_⟩
      · by_cases c : k = i
        · subst c; rw [upd_s]
        · rw [upd_n _ _ c]; exact hf k (by omega)
      · try dsimp only
        rw [LX12_image, BX12_image_0, i_1182, if_neg (nI_ge hi (by decide)), gd_in (show i < 2031 by omega) (by decide), gd_in hi (by decide), nI_clamp (by omega), nI_1, upA_n _ _ (by decide), w0]
        simp only [lt9_e]
        unfold up2
        rw [upA_s, upA_upA]) (by
      rintro m x ⟨f, rfl, hf⟩
      refine ⟨_, ?_, f, rfl, hf⟩
      try dsimp only
      rw [LX12_image, BX12_image_0, i_1182, if_pos (nI_le (Nat.le_refl _) (by decide))]
      rfl)
    have F8 : FI (fun k j => k = 210 ∨ (k = 208 ∧ (j = 0 ∨ j = 6))) hm (up2 (upA (up2 hm 208 0 0) 210 f) 208 6 1) := ((FI.up2 (C := fun k j => k = 210 ∨ (k = 208 ∧ (j = 0 ∨ j = 6))) hm _ (by omega)).trans (FI.upA _ _ (fun j => Or.inl rfl))).trans (FI.up2 _ _ (by omega))
    refine ⟨_, ?_, ⟨?_, ?_, ⟨by rw [up2_s, upd_s]; rfl, fun _ k hk => ?_⟩, ?_, ?_⟩, F8.mono (fun k j q => by unfold cM; omega)⟩
    · unfold fX12_image
      simp only [lt9_e]
      rw [q] at e
      exact e
    · rw [F8.cell (fun j q => by omega)]; exact m1
    · unfold pastM
      rw [F8 208 7 (by omega), F8.cell (k := 213) (fun j q => by omega)]; exact m2
    · rw [up2_n _ _ _ (by decide), upA_s]; exact qf k hk
    · unfold tapM
      rw [F8 208 9 (by omega), F8.cell (k := 214) (fun j q => by omega)]; exact m4
    · rw [F8 208 14 (by omega)]; exact m5
def bakW (w I : Nat → Int32) : Nat → Int32 := fun k => if k < 1182 then I k else w k
theorem back_N {h : Hp} {σ : St} (C : RC h σ) : OpN h σ (fX11_back h) fX12_back := by
  obtain ⟨w, s, P, g, I, t, T, Fa⟩ := σ
  have C0 := C
  obtain ⟨h1, h2, h3, ⟨hs, es, nx, hnx, en, hp⟩, ⟨eg, hI⟩, h6, h7⟩ := C
  cases g with
  | false =>
    refine ⟨0, h, _, ?_, C0, FR.refl _ _, fun ha M => ⟨up2 ha 208 0 0, ?_, M.sm (t0s (j := 0) ha 0 (by omega)), t0M ha 0 0⟩⟩
    · unfold fX11_back
      rw [eg, if_pos (show bI false = 0 from rfl)]
    · unfold fX12_back
      simp only [lt9_e]
      rw [up2_s, upd_n _ _ (by decide), M.2.2.1.1, if_pos (show bI false = 0 from rfl)]
  | true =>
    obtain ⟨SI, MI, LI⟩ := hI rfl
    obtain ⟨ha, ea, Ha⟩ := become_x h 32 54 (by omega)
    obtain ⟨hb, eb, Hb⟩ := lbecome_x ha 6 24 (by omega)
    have b18 : hb 18 = h 18 := by rw [Hb.2 18 (by omega), Ha.2 18 (by omega)]
    have Fab : FR (fun k => (32 ≤ k ∧ k ≤ 42) ∨ (6 ≤ k ∧ k ≤ 10) ∨ k = 18) h hb := (Ha.2.mono (fun k q => by omega)).trans (Hb.2.mono (fun k q => by omega))
    have F1 : FR (fun k => (32 ≤ k ∧ k ≤ 42) ∨ (6 ≤ k ∧ k ≤ 10) ∨ k = 18) h (up2 hb 18 1 0) := Fab.trans (FR.up2 _ _ _ (by omega))
    have S1 : SKY (up2 hb 18 1 0) 32 I := ((Ha.sky SI).fr Hb.2 (fun j hj q => by omega)).fr (FR.up2 (C := fun k => k = 18) hb 1 0 rfl) (fun j hj q => by omega)
    have L1 : lawC (up2 hb 18 1 0) 6 I := (Hb.law MI (LI.fr Ha.2 (fun j hj q => by omega))).fr (FR.up2 (C := fun k => k = 18) hb 1 0 rfl) (fun j hj q => by omega)
    have eo : ∀ i, i < 1182 → bakW w I i = I i := fun i hi => by unfold bakW; rw [if_pos hi]
    refine ⟨1, up2 hb 18 1 0, (bakW w I, 0, P, true, I, t, T, Fa), ?_, ⟨S1.out (fun i hi => eo i (by omega)), MI.out (eo 2 (by decide)) (fun i _ hi => eo i hi), L1.out MI (eo 2 (by decide)) (fun i _ hi => eo i hi), ⟨by omega, by rw [up2_s, upd_s]; rfl, nx, hnx, by rw [up2_s, upd_n _ _ (by decide), b18]; exact en, fun i hi => by omega⟩, ?_, h6.fr F1 (fun k q => by omega), by rw [F1 0 (by omega)]; exact h7⟩, F1.mono (fun k q => by unfold cX; omega), fun hm M => ?_⟩
    · unfold fX11_back fX5_forget
      rw [eg, if_neg (by decide), ea, cl9_some, eb, cl9_some]; rfl
    · have : imgC h true I := ⟨eg, hI⟩
      exact this.fr F1 (fun k q => by omega)
    · obtain ⟨m1, m2, ⟨m3, m3'⟩, m4, m5⟩ := M
      have w0 : (up2 hm 208 0 0) 209 = w := by rw [up2_n _ _ _ (by decide)]; exact m1
      have i0 : (up2 hm 208 0 0) 210 = hm 210 := up2_n _ _ _ (by decide)
      obtain ⟨r, e, q⟩ := loop0 (σ := Hp) (ρ := Int32 × Hp) 1182 (fun m i x => LX12_back m x (nI i)) (fun i x => x = upA (up2 hm 208 0 0) 209 (fun k => if k < i then I k else w k)) (fun r => r = (1, up2 (upA (up2 hm 208 0 0) 209 (bakW w I)) 208 7 0)) (up2 hm 208 0 0) (by decide) (by
          rw [show (fun k => if k < 0 then I k else w k) = (up2 hm 208 0 0) 209 from by funext k; rw [if_neg (by omega), w0], upA_id]) (by
        rintro m i x hi rfl
        left
        refine ⟨_, rfl, ?_⟩
        try dsimp only
        rw [LX12_back, BX12_back_0, i_1182, if_neg (nI_ge hi (by decide)), gd_in hi (by decide), gd_in (show i < 2031 by omega) (by decide), nI_clamp (by omega), nI_1, upA_n _ _ (by decide), i0, m3' rfl i hi]
        simp only [lt9_e]
        congr 1
        unfold up2
        rw [upA_s, upA_upA]
        congr 1
        funext j
        by_cases d : j = i
        · subst d; rw [upd_s, if_pos (by omega)]
        · rw [upd_n _ _ d]
          by_cases d2 : j < i
          · rw [if_pos d2, if_pos (by omega)]
          · rw [if_neg d2, if_neg (by omega)]) (by
        rintro m x rfl
        refine ⟨_, ?_, rfl⟩
        try dsimp only
        rw [LX12_back, BX12_back_0, i_1182, if_pos (nI_le (Nat.le_refl _) (by decide))]
        rfl)
      have F8 : FI (fun k j => k = 209 ∨ (k = 208 ∧ (j = 0 ∨ j = 7))) hm (up2 (upA (up2 hm 208 0 0) 209 (bakW w I)) 208 7 0) := ((FI.up2 (C := fun k j => k = 209 ∨ (k = 208 ∧ (j = 0 ∨ j = 7))) hm _ (by omega)).trans (FI.upA _ _ (fun j => Or.inl rfl))).trans (FI.up2 _ _ (by omega))
      refine ⟨_, ?_, ⟨?_, ⟨by rw [up2_s, upd_s]; rfl, fun i hi => by omega⟩, ?_, ?_, ?_⟩, F8.mono (fun k j q => by unfold cM; omega)⟩
      · unfold fX12_back
        simp only [lt9_e]
        rw [up2_s, upd_n _ _ (by decide), m3, if_neg (by decide)]
        rw [q] at e
        exact e
      · rw [up2_n _ _ _ (by decide), upA_s]
      · unfold imgM
        rw [F8 208 6 (by omega), F8.cell (k := 210) (fun j q => by omega)]; exact ⟨m3, m3'⟩
      · unfold tapM
        rw [F8 208 9 (by omega), F8.cell (k := 214) (fun j q => by omega)]; exact m4
      · rw [F8 208 14 (by omega)]; exact m5
theorem fault_x {h : Hp} {σ : St} (C : RC h σ) : fX11_fault h = σ.2.2.2.2.2.2.2 := by
  obtain ⟨w, s, P, g, I, t, T, Fa⟩ := σ
  exact C.2.2.2.2.2.2
theorem fault_m {h : Hp} {σ : St} (M : RM h σ) : fX12_fault h = some (σ.2.2.2.2.2.2.2, up2 h 208 0 0) := by
  obtain ⟨w, s, P, g, I, t, T, Fa⟩ := σ
  unfold fX12_fault
  simp only [lt9_e]
  rw [up2_s, upd_n _ _ (by decide), M.2.2.2.2]
/-! count -/
theorem brassAll_x {h : Hp} {w : Nat → Int32} (H : CS h 32 w) {n : Nat} (hn : n ≤ 5) (en : w 0 = nI n) : fX0_brassOfAll h 32 = some (foldN (fun i a => a + w (80 + 3 * i)) n 0) := by
  obtain ⟨r, e, q⟩ := loop0 (σ := Int32) (ρ := Int32) n (fun m i s => LX0_brassOfAll h 32 m s (nI i)) (fun i s => s = foldN (fun i a => a + w (80 + 3 * i)) i 0) (fun r => r = foldN (fun i a => a + w (80 + 3 * i)) n 0) 0 (by omega) rfl (by
    rintro m i s hi rfl
    left
    refine ⟨_, rfl, ?_⟩
    try dsimp only
    rw [LX0_brassOfAll, BX0_brassOfAll_0, H.f0, en, if_neg (nI_ge hi (by omega)), gd_in (show i < 5 by omega) (by decide), nI_clamp (by omega), H.brass (by omega), nI_1]
    rfl) (by
    intro m s hs
    refine ⟨s, ?_, hs⟩
    try dsimp only
    rw [LX0_brassOfAll, BX0_brassOfAll_0, H.f0, en, if_pos (nI_le (Nat.le_refl _) (by omega))])
  rw [← q]; exact e
theorem brassAll_m {h : Hp} {w : Nat → Int32} (hw : h 209 = w) {n : Nat} (hn : n ≤ 5) (en : w 0 = nI n) : fX12_brassOfAll h = some (foldN (fun i a => a + w (80 + 3 * i)) n 0) := by
  obtain ⟨r, e, q⟩ := loop0 (σ := Int32) (ρ := Int32) n (fun m i s => LX12_brassOfAll h m s (nI i)) (fun i s => s = foldN (fun i a => a + w (80 + 3 * i)) i 0) (fun r => r = foldN (fun i a => a + w (80 + 3 * i)) n 0) 0 (by omega) rfl (by
    rintro m i s hi rfl
    left
    refine ⟨_, rfl, ?_⟩
    try dsimp only
    rw [LX12_brassOfAll, BX12_brassOfAll_0]
    unfold fX12_pinners
    rw [hw, en, if_neg (nI_ge hi (by omega)), of_2 hw (by omega), cl9_some, nI_1]
    rfl) (by
    intro m s hs
    refine ⟨s, ?_, hs⟩
    try dsimp only
    rw [LX12_brassOfAll, BX12_brassOfAll_0]
    unfold fX12_pinners
    rw [hw, en, if_pos (nI_le (Nat.le_refl _) (by omega))])
  rw [← q]; exact e
theorem count_a {h : Hp} {σ : St} (C : RC h σ) (x : Int32) : ∃ r, fX11_count h x = some r ∧ ∀ ha, RM ha σ → fX12_count ha x = some (r, up2 ha 208 0 0) := by
  have H := C.cs
  obtain ⟨n, hn, en⟩ := H.2.1.n0
  rcases what_cases x 11 (by decide) with ⟨-, dn⟩ | ⟨k, hk, rfl, -⟩
  · refine ⟨-1, ?_, fun ha M => ?_⟩
    · unfold fX11_count
      rw [if_neg (show ¬ x = 0 from dn 0 (by decide)), if_neg (show ¬ x = 1 from dn 1 (by decide)), if_neg (show ¬ x = 2 from dn 2 (by decide)), if_neg (show ¬ x = 3 from dn 3 (by decide)), if_neg (show ¬ x = 4 from dn 4 (by decide)), if_neg (show ¬ x = 5 from dn 5 (by decide)), if_neg (show ¬ x = 6 from dn 6 (by decide)), if_neg (show ¬ x = 7 from dn 7 (by decide)), if_neg (show ¬ x = 8 from dn 8 (by decide)), if_neg (show ¬ x = 9 from dn 9 (by decide)), if_neg (show ¬ x = 10 from dn 10 (by decide)), if_neg (show ¬ x = 11 from dn 11 (by decide))]
    · have d7 : fX12_in x 0 7 = 0 := by
        rcases what_cases x 7 (by decide) with ⟨d, -⟩ | ⟨k, hk, rfl, -⟩
        · exact d
        · exact absurd rfl (dn k (by omega))
      unfold fX12_count
      simp only [lt9_e]
      rw [if_neg (show ¬ x = 2 from dn 2 (by decide)), if_neg (show ¬ x = 3 from dn 3 (by decide)), if_neg (show ¬ x = 4 from dn 4 (by decide)), if_neg (show ¬ x = 5 from dn 5 (by decide)), if_neg (show ¬ x = 6 from dn 6 (by decide)), if_neg (show ¬ x = 7 from dn 7 (by decide)), if_neg (show ¬ x = 8 from dn 8 (by decide)), if_neg (show ¬ x = 9 from dn 9 (by decide)), if_neg (show ¬ x = 10 from dn 10 (by decide)), if_neg (show ¬ x = 11 from dn 11 (by decide)), d7, if_pos rfl]
  · rcases (show k = 0 ∨ k = 1 ∨ k = 2 ∨ k = 3 ∨ k = 4 ∨ k = 5 ∨ k = 6 ∨ k = 7 ∨ k = 8 ∨ k = 9 ∨ k = 10 ∨ k = 11 by omega) with rfl | rfl | rfl | rfl | rfl | rfl | rfl | rfl | rfl | rfl | rfl | rfl
    · refine ⟨σ.1 0, ?_, fun ha M => ?_⟩
      · unfold fX11_count
        rw [if_pos (by decide), H.f0]
      · unfold fX12_count
        simp only [lt9_e]
        rw [if_neg (by decide), if_neg (by decide), if_neg (by decide), if_neg (by decide), if_neg (by decide), if_neg (by decide), if_neg (by decide), if_neg (by decide), if_neg (by decide), if_neg (by decide), if_neg (by decide), gd_in (by decide) (by decide), nI_clamp (by decide), w00 M 0 0]
    · refine ⟨σ.1 1, ?_, fun ha M => ?_⟩
      · unfold fX11_count
        rw [if_neg (by decide), if_pos (by decide), H.f1]
      · unfold fX12_count
        simp only [lt9_e]
        rw [if_neg (by decide), if_neg (by decide), if_neg (by decide), if_neg (by decide), if_neg (by decide), if_neg (by decide), if_neg (by decide), if_neg (by decide), if_neg (by decide), if_neg (by decide), if_neg (by decide), gd_in (by decide) (by decide), nI_clamp (by decide), w00 M 0 0]
    · refine ⟨h 6 0, ?_, fun ha M => ?_⟩
      · unfold fX11_count
        rw [if_neg (by decide), if_neg (by decide), if_pos (by decide)]
      · unfold fX12_count fX12_hasLaw
        simp only [lt9_e]
        rw [if_pos (by decide), w00 M 0 0]
        rcases H.2.2.2.1 with ⟨q1, q2⟩ | ⟨q1, q2, -⟩
        · rw [q1, q2]; rfl
        · rw [q1, q2]; rfl
    · refine ⟨σ.1 3, ?_, fun ha M => ?_⟩
      · unfold fX11_count
        rw [if_neg (by decide), if_neg (by decide), if_neg (by decide), if_pos (by decide), H.f3]
      · unfold fX12_count
        simp only [lt9_e]
        rw [if_neg (by decide), if_pos (by decide), if_neg (by decide), gd_in (by decide) (by decide), nI_clamp (by decide), w00 M 0 0]
    · refine ⟨σ.1 4, ?_, fun ha M => ?_⟩
      · unfold fX11_count
        rw [if_neg (by decide), if_neg (by decide), if_neg (by decide), if_neg (by decide), if_pos (by decide), H.f4]
      · unfold fX12_count
        simp only [lt9_e]
        rw [if_neg (by decide), if_neg (by decide), if_pos (by decide), if_neg (by decide), gd_in (by decide) (by decide), nI_clamp (by decide), w00 M 0 0]
    · refine ⟨σ.1 5, ?_, fun ha M => ?_⟩
      · unfold fX11_count
        rw [if_neg (by decide), if_neg (by decide), if_neg (by decide), if_neg (by decide), if_neg (by decide), if_pos (by decide), H.f5]
      · unfold fX12_count
        simp only [lt9_e]
        rw [if_neg (by decide), if_neg (by decide), if_neg (by decide), if_pos (by decide), if_neg (by decide), gd_in (by decide) (by decide), nI_clamp (by decide), w00 M 0 0]
    · refine ⟨σ.1 6, ?_, fun ha M => ?_⟩
      · unfold fX11_count
        rw [if_neg (by decide), if_neg (by decide), if_neg (by decide), if_neg (by decide), if_neg (by decide), if_neg (by decide), if_pos (by decide), H.f6]
      · unfold fX12_count
        simp only [lt9_e]
        rw [if_neg (by decide), if_neg (by decide), if_neg (by decide), if_neg (by decide), if_pos (by decide), if_neg (by decide), gd_in (by decide) (by decide), nI_clamp (by decide), w00 M 0 0]
    · refine ⟨σ.1 7, ?_, fun ha M => ?_⟩
      · unfold fX11_count
        rw [if_neg (by decide), if_neg (by decide), if_neg (by decide), if_neg (by decide), if_neg (by decide), if_neg (by decide), if_neg (by decide), if_pos (by decide), H.f7]
      · unfold fX12_count
        simp only [lt9_e]
        rw [if_neg (by decide), if_neg (by decide), if_neg (by decide), if_neg (by decide), if_neg (by decide), if_pos (by decide), if_neg (by decide), gd_in (by decide) (by decide), nI_clamp (by decide), w00 M 0 0]
    · refine ⟨foldN (fun i a => a + σ.1 (80 + 3 * i)) n 0, ?_, fun ha M => ?_⟩
      · unfold fX11_count
        rw [if_neg (by decide), if_neg (by decide), if_neg (by decide), if_neg (by decide), if_neg (by decide), if_neg (by decide), if_neg (by decide), if_neg (by decide), if_pos (by decide), brassAll_x H hn en, cl9_some]
      · unfold fX12_count
        simp only [lt9_e]
        rw [if_neg (by decide), if_neg (by decide), if_neg (by decide), if_neg (by decide), if_neg (by decide), if_neg (by decide), if_pos (by decide), brassAll_m (w00 M 0 0) hn en, cl9_some]
    · refine ⟨σ.1 10, ?_, fun ha M => ?_⟩
      · unfold fX11_count
        rw [if_neg (by decide), if_neg (by decide), if_neg (by decide), if_neg (by decide), if_neg (by decide), if_neg (by decide), if_neg (by decide), if_neg (by decide), if_neg (by decide), if_pos (by decide), H.f10]
      · unfold fX12_count
        simp only [lt9_e]
        rw [if_neg (by decide), if_neg (by decide), if_neg (by decide), if_neg (by decide), if_neg (by decide), if_neg (by decide), if_neg (by decide), if_pos (by decide), w00 M 0 0]
    · refine ⟨σ.1 11, ?_, fun ha M => ?_⟩
      · unfold fX11_count
        rw [if_neg (by decide), if_neg (by decide), if_neg (by decide), if_neg (by decide), if_neg (by decide), if_neg (by decide), if_neg (by decide), if_neg (by decide), if_neg (by decide), if_neg (by decide), if_pos (by decide), H.f11]
      · unfold fX12_count
        simp only [lt9_e]
        rw [if_neg (by decide), if_neg (by decide), if_neg (by decide), if_neg (by decide), if_neg (by decide), if_neg (by decide), if_neg (by decide), if_neg (by decide), if_pos (by decide), w00 M 0 0]
    · obtain ⟨w, s, P, g, I, t, T, Fa⟩ := σ
      refine ⟨nI s, ?_, fun ha M => ?_⟩
      · unfold fX11_count
        rw [if_neg (by decide), if_neg (by decide), if_neg (by decide), if_neg (by decide), if_neg (by decide), if_neg (by decide), if_neg (by decide), if_neg (by decide), if_neg (by decide), if_neg (by decide), if_neg (by decide), if_pos (by decide), C.2.2.2.1.2.1]
      · unfold fX12_count
        simp only [lt9_e]
        rw [if_neg (by decide), if_neg (by decide), if_neg (by decide), if_neg (by decide), if_neg (by decide), if_neg (by decide), if_neg (by decide), if_neg (by decide), if_neg (by decide), if_pos (by decide), up2_s, upd_n _ _ (by decide), M.2.1.1]
/-! pinner, end -/
theorem pinner_T {h : Hp} {σ : St} (C : RC h σ) (x y : Int32) : OpT h σ [(1, 1), (2, 2)] (fX11_pinner h x y) (fun ha => fX12_pinner ha x y) := by
  have H := C.cs
  obtain ⟨n, hn, en⟩ := H.2.1.n0
  have e0 : h 37 0 = nI n := by rw [← en]; exact H.f0
  rcases pinner_cases x hn e0 with ⟨c1, c2⟩ | ⟨k, hk, rfl, c1, c2⟩
  · exact thr_T C 1 1 (by simp) (by decide) (by unfold fX11_pinner; rw [c1]; rfl) (fun ha w => by unfold fX12_pinner; simp only [lt9_e]; rw [c2 _ (by rw [up2_n _ _ _ (by decide), w]; exact en)]; rfl)
  · have hk5 : k < 5 := by omega
    have em : ∀ ha, ha 209 = σ.1 → fX12_pinner ha (nI k) y = if fX12_in y 0 2 = 0 then some (0, up2 (up2 ha 208 0 0) 208 0 2) else cl9 (fX12_of (up2 ha 208 0 0) (nI k) y) (fun x14 => some (x14, up2 ha 208 0 0)) := by
      intro ha wa
      have w1 : (up2 ha 208 0 0) 209 = σ.1 := by rw [up2_n _ _ _ (by decide)]; exact wa
      unfold fX12_pinner
      simp only [lt9_e]
      rw [c2 _ (by rw [w1]; exact en), throws_0, cl2_some, if_pos rfl]
      by_cases d : fX12_in y 0 2 = 0
      · rw [if_pos d, if_pos d]; rfl
      · rw [if_neg d, if_neg d]; rfl
    rcases what_cases y 2 (by decide) with ⟨d, dn⟩ | ⟨m, hm, rfl, d⟩
    · have d' : fX12_in y 0 2 = 0 := d
      refine thr_T C 2 2 (by simp) (by decide) ?_ (fun ha wa => by rw [em ha wa, if_pos d'])
      unfold fX11_pinner
      rw [c1, if_pos rfl, if_neg (show ¬ y = 0 from dn 0 (by decide)), if_neg (show ¬ y = 1 from dn 1 (by decide)), if_neg (show ¬ y = 2 from dn 2 (by decide))]
    · have d' : ¬ fX12_in (nI m) 0 2 = 0 := by
        have : fX12_in (nI m) 0 2 = 1 := d
        rw [this]; decide
      have fin : ∀ r, fX11_pinner h (nI k) (nI m) = some (r, 0, h) → (∀ ha, ha 209 = σ.1 → fX12_of ha (nI k) (nI m) = some r) → OpT h σ [(1, 1), (2, 2)] (fX11_pinner h (nI k) (nI m)) (fun ha => fX12_pinner ha (nI k) (nI m)) := by
        intro r q1 q2
        refine opT_ask C (c := 0) q1 (by simp) (FR.refl _ _) (fun ha M => ⟨r, up2 ha 208 0 0, ?_, a0 (j := 0) ha 0 (by omega), z00 ha, fun _ => rfl⟩)
        rw [em ha M.w, if_neg d', q2 _ (w00 M 0 0), cl9_some]
      rcases (show m = 0 ∨ m = 1 ∨ m = 2 by omega) with rfl | rfl | rfl
      · refine fin (σ.1 (78 + 3 * k)) ?_ (fun ha wa => of_0 wa hk5)
        unfold fX11_pinner
        rw [c1, if_pos rfl, if_pos (by decide), gd_in hk5 (by decide), nI_clamp (by omega), H.spot hk5]
      · refine fin (σ.1 (79 + 3 * k)) ?_ (fun ha wa => of_1 wa hk5)
        unfold fX11_pinner
        rw [c1, if_pos rfl, if_neg (by decide), if_pos (by decide), gd_in hk5 (by decide), nI_clamp (by omega), H.pace hk5]
      · refine fin (σ.1 (80 + 3 * k)) ?_ (fun ha wa => of_2 wa hk5)
        unfold fX11_pinner
        rw [c1, if_pos rfl, if_neg (by decide), if_neg (by decide), if_pos (by decide), gd_in hk5 (by decide), nI_clamp (by omega), H.brass hk5]
theorem end_N {h : Hp} {σ : St} (C : RC h σ) (x : Int32) : OpN h σ (fX11_end h x) (fun ha => fX12_end ha x) := by
  obtain ⟨w, s, P, g, I, t, T, Fa⟩ := σ
  have C0 := C
  obtain ⟨h1, h2, h3, h4, h5, ⟨ht, et, hT⟩, h7⟩ := C
  have bad : (x < 0 ∨ ¬ x ≤ nI t) → OpN h (w, s, P, g, I, t, T, Fa) (fX11_end h x) (fun ha => fX12_end ha x) := by
    intro q
    refine ⟨0, h, _, ?_, C0, FR.refl _ _, fun ha M => ⟨up2 ha 208 0 0, ?_, M.sm (t0s (j := 0) ha 0 (by omega)), t0M ha 0 0⟩⟩
    · unfold fX11_end fX9_cut
      rw [et]
      by_cases c : x < 0
      · rw [if_pos c]; rfl
      · rw [if_neg c, if_neg (q.resolve_left c)]; rfl
    · unfold fX12_end
      simp only [lt9_e]
      rw [up2_s, upd_n _ _ (by decide), M.2.2.2.1.1]
      by_cases c : x < 0
      · rw [if_pos c]; rfl
      · rw [if_neg c, if_neg (q.resolve_left c)]; rfl
  rcases pk_ix x (n := t + 1) (by omega) with c | c | ⟨n, hn, rfl⟩
  · exact bad (Or.inl c)
  · refine bad (Or.inr (fun q => ?_))
    have := Int32.le_trans c q
    exact nI_ge (a := t) (b := t + 1) (by omega) (by omega) this
  · have F1 : FR (fun k => k = 1) h (up2 h 1 1 (nI n)) := FR.up2 (C := fun k => k = 1) _ _ _ rfl
    refine ⟨1, up2 h 1 1 (nI n), (w, s, P, g, I, n, T, Fa), ?_, ⟨h1.fr F1 (fun j hj q => by omega), h2, h3.fr F1 (fun j hj q => by omega), h4.fr F1 (fun k q => by omega), h5.fr F1 (fun k q => by omega), ⟨by omega, by rw [up2_s, upd_s], fun j hj => ?_⟩, by rw [F1 0 (by omega)]; exact h7⟩, F1.mono (fun k q => by unfold cX; omega), fun ha M => ?_⟩
    · unfold fX11_end fX9_cut
      rw [et, if_neg (nI_pos (by omega)), if_pos (nI_le (by omega) (by omega))]; rfl
    · rw [up2_n _ _ _ (by decide)]; exact hT j (by omega)
    · obtain ⟨m1, m2, m3, ⟨m4, m4'⟩, m5⟩ := M
      have F8 : FI (fun k j => k = 208 ∧ (j = 0 ∨ j = 9)) ha (up2 (up2 ha 208 0 0) 208 9 (nI n)) := (FI.up2 (C := fun k j => k = 208 ∧ (j = 0 ∨ j = 9)) ha _ (by omega)).trans (FI.up2 _ _ (by omega))
      refine ⟨up2 (up2 ha 208 0 0) 208 9 (nI n), ?_, ⟨?_, ?_, ?_, ⟨by rw [up2_s, upd_s], fun j hj => ?_⟩, ?_⟩, F8.mono (fun k j q => by unfold cM; omega)⟩
      · unfold fX12_end
        simp only [lt9_e]
        rw [up2_s, upd_n _ _ (by decide), m4, if_neg (nI_pos (by omega)), if_pos (nI_le (by omega) (by omega))]; rfl
      · rw [F8.cell (fun j q => by omega)]; exact m1
      · unfold pastM
        rw [F8 208 7 (by omega), F8.cell (k := 213) (fun j q => by omega)]; exact m2
      · unfold imgM
        rw [F8 208 6 (by omega), F8.cell (k := 210) (fun j q => by omega)]; exact m3
      · rw [F8.cell (k := 214) (fun j q => by omega)]; exact m4' j (by omega)
      · rw [F8 208 14 (by omega)]; exact m5

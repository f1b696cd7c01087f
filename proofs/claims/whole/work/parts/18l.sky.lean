/-! sky -/
def cTp (k j : Nat) : Prop := (k = 0 ∧ j = 11) ∨ k = 1 ∨ (65 ≤ k ∧ k ≤ 75)
theorem RC_tape {h h' : Hp} {w : Nat → Int32} {s : Nat} {P : Nat → Nat → Int32} {g : Bool} {I : Nat → Int32} {t : Nat} {T : Nat → Int32} {Fa : Int32} (C : RC h (w, s, P, g, I, t, T, Fa)) (F : FI cTp h h') (e1 : h' 1 1 = 0) : RC h' (w, s, P, g, I, 0, T, h' 0 11) := by
  obtain ⟨c1, c2, c3, c4, c5, c6, c7⟩ := C
  have FF : FR (fun k => k = 0 ∨ k = 1 ∨ (65 ≤ k ∧ k ≤ 75)) h h' := fun k hk => F.cell (fun j q => hk (by unfold cTp at q; omega))
  refine ⟨c1.fr FF (fun j hj q => by omega), c2, c3.fr FF (fun j hj q => by omega), c4.fr FF (fun k q => by omega), ⟨by rw [F 0 10 (fun q => by unfold cTp at q; omega)]; exact c5.1, fun hg => ?_⟩, ⟨by omega, e1, fun j hj => by omega⟩, rfl⟩
  obtain ⟨q1, q2, q3⟩ := c5.2 hg
  exact ⟨q1.fr FF (fun j hj q => by omega), q2, q3.fr FF (fun j hj q => by omega)⟩
theorem readAll_m {h : Hp} {σ : St} (M : RM h σ) {o : Out} (ht : σ.2.2.2.2.2.1 ≤ 400) (lm : ∀ h, MST σ.2.2.2.2.2.2.1 σ.2.2.2.2.2.1 σ.1 0 h → ∃ r h', cl9 (fX12_blanks h) (fun h16 => if (h16 208 10) = (h16 208 11) then some (0, h16) else LX12_readAll big h16 1 0) = some (r, h') ∧ FI cRk h h' ∧ okRM σ.2.2.2.2.2.2.1 σ.2.2.2.2.2.1 o r h') : ∃ r h' h1, fX12_readAll h 1 = some (r, h') ∧ RM h1 (useT σ) ∧ FI cM h h1 ∧ h1 208 0 = 0 ∧ h1 211 = h 211 ∧ FI cRk h1 h' ∧ okRM σ.2.2.2.2.2.2.1 σ.2.2.2.2.2.1 o r h' := by
  obtain ⟨h1, e1, M1, F1, u11, u10, u0, uT⟩ := uses_m M
  have w1 : h1 209 = σ.1 := by have := M1.w; rw [useT_1] at this; exact this
  obtain ⟨r, h2, e2, F2, k2⟩ := lm (up2 h1 208 16 0) ⟨⟨ht, by rw [up2_s, upd_n _ _ (by decide)]; exact u11, fun j hj => by rw [up2_n _ _ _ (by decide)]; exact uT j hj⟩, by rw [up2_s, upd_n _ _ (by decide)]; exact u10, by rw [up2_n _ _ _ (by decide)]; exact w1⟩
  refine ⟨r, h2, up2 h1 208 16 0, ?_, M1.sm (t0s (j := 16) h1 0 (by omega)), (F1.mono (fun k j q => by unfold cM; omega)).trans (t0M h1 16 0), by rw [up2_s, upd_n _ _ (by decide)]; exact u0, ?_, F2, k2⟩
  · unfold fX12_readAll
    rw [e1, cl9_some, lt9_e]
    exact e2
  · rw [up2_n _ _ _ (by decide)]; exact F1.cell (fun j q => by omega)
theorem sky_L0 {n : Nat} {h : Hp} : LX12_sky (n + 1182) 0 h 0 0 = LX12_sky n 0 (upA h 211 (fun j => if j < 1182 then h 209 j else h 211 j)) (nI 1182) 0 := by
  obtain ⟨s, hs, e⟩ := rchN (σ := Hp) (ρ := Int32 × Hp) (fun n (x : Hp × Nat) => LX12_sky n 0 x.1 (nI x.2) 0) (fun i s => (s, i)) 1182 1 (fun i s => s = upA h 211 (fun j => if j < i then h 209 j else h 211 j)) (by
    rintro i s hi rfl
    refine ⟨_, rfl, fun n => ?_⟩
    dsimp only
    rw [LX12_sky, if_pos rfl, BX12_sky_0, if_neg (show ¬ (1182 : Int32) ≤ nI i from le_n 1182 rfl hi (by decide)), gd_in (show i < 2031 by omega) (by decide), gd_in hi (by decide), nI_clamp (by omega), nI_1, lt9_e, lt9_e, upA_n _ _ (by decide)]
    congr 1
    funext k j
    unfold up2 upA
    by_cases c : k = 211
    · rw [if_pos c, if_pos c, if_pos rfl]
      unfold upd
      by_cases d : j = i
      · rw [if_pos d, if_pos (by omega), d]
      · rw [if_neg d]
        dsimp only
        by_cases e : j < i
        · rw [if_pos e, if_pos (by omega)]
        · rw [if_neg e, if_neg (by omega)]
    · rw [if_neg c, if_neg c, if_neg c]) 1182 0 h rfl (by
      rw [show (fun j => if j < 0 then h 209 j else h 211 j) = h 211 from by funext j; rw [if_neg (by omega)], upA_id])
  subst hs
  exact e n
theorem sky_L1 {n : Nat} {h : Hp} : LX12_sky (n + 1 + 1182) 1 h 0 0 = some (0, upA h 209 (fun j => if j < 1182 then h 211 j else h 209 j)) := by
  obtain ⟨s, hs, e⟩ := rchN (σ := Hp) (ρ := Int32 × Hp) (fun n (x : Hp × Nat) => LX12_sky n 1 x.1 0 (nI x.2)) (fun i s => (s, i)) 1182 1 (fun i s => s = upA h 209 (fun j => if j < i then h 211 j else h 209 j)) (by
    rintro i s hi rfl
    refine ⟨_, rfl, fun n => ?_⟩
    dsimp only
    rw [LX12_sky, if_neg (by decide), if_pos rfl, BX12_sky_1, if_neg (show ¬ (1182 : Int32) ≤ nI i from le_n 1182 rfl hi (by decide)), gd_in hi (by decide), gd_in (show i < 2031 by omega) (by decide), nI_clamp (by omega), nI_1, lt9_e, lt9_e, upA_n _ _ (by decide)]
    congr 1
    funext k j
    unfold up2 upA
    by_cases c : k = 209
    · rw [if_pos c, if_pos c, if_pos rfl]
      unfold upd
      by_cases d : j = i
      · rw [if_pos d, if_pos (by omega), d]
      · rw [if_neg d]
        dsimp only
        by_cases e : j < i
        · rw [if_pos e, if_pos (by omega)]
        · rw [if_neg e, if_neg (by omega)]
    · rw [if_neg c, if_neg c, if_neg c]) 1182 0 h rfl (by
      rw [show (fun j => if j < 0 then h 211 j else h 209 j) = h 209 from by funext j; rw [if_neg (by omega)], upA_id])
  subst hs
  have e2 : LX12_sky (n + 1) 1 (upA h 209 (fun j => if j < 1182 then h 211 j else h 209 j)) 0 (nI 1182) = some (0, upA h 209 (fun j => if j < 1182 then h 211 j else h 209 j)) := by
    rw [LX12_sky, if_neg (by decide), if_pos rfl, BX12_sky_1, if_pos (by decide)]
  exact (e (n + 1)).trans e2

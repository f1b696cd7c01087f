/-! sky: the call -/
theorem RM_sky {h1 h2 : Hp} {w w' : Nat → Int32} {s : Nat} {P : Nat → Nat → Int32} {g : Bool} {I : Nat → Int32} {t : Nat} {T : Nat → Int32} {Fa : Int32} (M : RM h1 (useT (w, s, P, g, I, t, T, Fa))) (F : FI (fun k j => (k = 208 ∧ (j = 0 ∨ j = 10 ∨ j = 12 ∨ j = 14)) ∨ k = 209) h1 h2) (e : h2 209 = w') : RM h2 (w', s, P, g, I, 0, T, h2 208 14) := by
  obtain ⟨m1, m2, m3, ⟨m4, m4'⟩, m5⟩ := M
  refine ⟨e, ?_, ?_, ⟨by rw [F 208 9 (by omega)]; exact m4, fun j hj => by omega⟩, rfl⟩
  · unfold pastM
    rw [F 208 7 (by omega), F.cell (k := 213) (fun j q => by omega)]; exact m2
  · unfold imgM
    rw [F 208 6 (by omega), F.cell (k := 210) (fun j q => by omega)]; exact m3
theorem sky_m0 (ha : Hp) : ∃ hc, FI (fun k _ => k = 211) ha hc ∧ (∀ j, j < 1182 → hc 211 j = ha 209 j) ∧ fX12_sky ha = LX12_sky (998817 + 1) 0 hc (nI 1182) 0 := by
  refine ⟨upA ha 211 (fun j => if j < 1182 then ha 209 j else ha 211 j), FI.upA _ _ (fun _ => rfl), fun j hj => by rw [upA_s, if_pos hj], ?_⟩
  unfold fX12_sky
  exact sky_L0 (n := 998818) (h := ha)
/-- the reference gives up: the row is as it was -/
theorem sky_back {ha hc h1 h2 : Hp} {w : Nat → Int32} {s : Nat} {P : Nat → Nat → Int32} {g : Bool} {I : Nat → Int32} {t : Nat} {T : Nat → Int32} {Fa : Int32} (hw : ha 209 = w) (ec : ∀ j, j < 1182 → hc 211 j = ha 209 j) (M1 : RM h1 (useT (w, s, P, g, I, t, T, Fa))) (e211 : h1 211 = hc 211) (F : FI (fun k j => (k = 208 ∧ (j = 0 ∨ j = 10 ∨ j = 12 ∨ j = 14)) ∨ (k = 209 ∧ j < 93)) h1 h2) (n : Nat) : ∃ h3, LX12_sky (n + 1 + 1182) 1 h2 0 0 = some (0, h3) ∧ RM h3 (w, s, P, g, I, 0, T, h2 208 14) ∧ FI (fun k _ => k = 209) h2 h3 := by
  have w1 : h1 209 = w := by have := M1.w; rw [useT_1] at this; exact this
  refine ⟨_, sky_L1, ?_, FI.upA _ _ (fun _ => rfl)⟩
  have z : upA h2 209 (fun j => if j < 1182 then h2 211 j else h2 209 j) 208 14 = h2 208 14 := by rw [upA_n _ _ (by decide)]
  rw [← z]
  refine RM_sky M1 ((F.mono (fun k j q => by omega)).trans (FI.upA _ _ (fun _ => Or.inr rfl))) ?_
  rw [upA_s]
  funext j
  by_cases c : j < 1182
  · rw [if_pos c, F 211 j (by omega), e211, ec j c, hw]
  · rw [if_neg c, F 209 j (by omega), w1]

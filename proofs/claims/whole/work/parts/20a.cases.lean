/-! Each case of the run: both sides answer alike, and stay alike. -/
theorem n6 (i : Nat) : nI i + (6 : Int32) = nI (i + 6) := by rw [i_6, nI_add]
theorem ky1 {i Ls : Nat} (hi : i + 6 ≤ Ls) (hL : Ls ≤ 3072) {α : Type} (k : Option α) : gd (inb (nI i + (1 : Int32)) Ls) k = k := by rw [nI_1]; exact gdi (by omega) (by omega) k
theorem ky2 {i Ls : Nat} (hi : i + 6 ≤ Ls) (hL : Ls ≤ 3072) {α : Type} (k : Option α) : gd (inb (nI i + (2 : Int32)) Ls) k = k := by rw [i_2, nI_add]; exact gdi (by omega) (by omega) k
theorem ky3 {i Ls : Nat} (hi : i + 6 ≤ Ls) (hL : Ls ≤ 3072) {α : Type} (k : Option α) : gd (inb (nI i + (3 : Int32)) Ls) k = k := by rw [i_3, nI_add]; exact gdi (by omega) (by omega) k
theorem ky4 {i Ls : Nat} (hi : i + 6 ≤ Ls) (hL : Ls ≤ 3072) {α : Type} (k : Option α) : gd (inb (nI i + (4 : Int32)) Ls) k = k := by rw [i_4, nI_add]; exact gdi (by omega) (by omega) k
theorem ky5 {i Ls : Nat} (hi : i + 6 ≤ Ls) (hL : Ls ≤ 3072) {α : Type} (k : Option α) : gd (inb (nI i + (5 : Int32)) Ls) k = k := by rw [i_5, nI_add]; exact gdi (by omega) (by omega) k
theorem kzz (x : Int32) : (if x = (0 : Int32) then some (0 : Int32) else some (1 : Int32)) = some (if x = (0 : Int32) then (0 : Int32) else 1) := by
  by_cases c : x = 0
  · rw [if_pos c, if_pos c]
  · rw [if_neg c, if_neg c]
theorem REL.z {h : Hp} {σ : St} (C : RC h σ) (M : RM h σ) : REL (up2 h 208 0 0) := ⟨σ, C.cm (t0M h 0 0), M.sm (t0s h 0 (by omega))⟩
theorem kl_0 {xs : Nat → Int32} {Ls : Nat} {rec : Hp → Int32 → Option Int32} {h : Hp} {i : Nat} (R : REL h) (hi : i + 6 ≤ Ls) (hL : Ls ≤ 3072) : ∃ h', REL h' ∧ KL_0 xs Ls rec h (nI i) = rec h' (nI (i + 6)) := by
  obtain ⟨σ, C, M⟩ := R
  obtain ⟨h', R', e⟩ := glueN (feed_N C (xs (nI i + (1 : Int32)).toNatClampNeg) (xs (nI i + (2 : Int32)).toNatClampNeg) (xs (nI i + (3 : Int32)).toNatClampNeg) (xs (nI i + (4 : Int32)).toNatClampNeg) (xs (nI i + (5 : Int32)).toNatClampNeg)) M (fun h => rec h (nI (i + 6)))
  refine ⟨h', R', ?_⟩
  unfold KL_0
  simp only [ky1 hi hL, ky2 hi hL, ky3 hi hL, ky4 hi hL, ky5 hi hL, kzz, cl9_some, lt9_e, n6]
  exact e
theorem kl_1 {xs : Nat → Int32} {Ls : Nat} {rec : Hp → Int32 → Option Int32} {h : Hp} {i : Nat} (R : REL h) (hi : i + 6 ≤ Ls) (hL : Ls ≤ 3072) : ∃ h', REL h' ∧ KL_1 xs Ls rec h (nI i) = rec h' (nI (i + 6)) := by
  obtain ⟨σ, C, M⟩ := R
  obtain ⟨h', R', e⟩ := glueN (end_N C (xs (nI i + (1 : Int32)).toNatClampNeg)) M (fun h => rec h (nI (i + 6)))
  refine ⟨h', R', ?_⟩
  unfold KL_1
  simp only [ky1 hi hL, ky2 hi hL, ky3 hi hL, ky4 hi hL, ky5 hi hL, kzz, cl9_some, lt9_e, n6]
  exact e
theorem kl_2 {xs : Nat → Int32} {Ls : Nat} {rec : Hp → Int32 → Option Int32} {h : Hp} {i : Nat} (R : REL h) (hi : i + 6 ≤ Ls) (hL : Ls ≤ 3072) : ∃ h', REL h' ∧ KL_2 xs Ls rec h (nI i) = rec h' (nI (i + 6)) := by
  obtain ⟨σ, C, M⟩ := R
  obtain ⟨h', R', e⟩ := glueT (fl := fL_sky h ) (sky_T C ) M (fun r h1 e => by unfold fL_sky; rw [e]; rfl) (fun r k c h1 e m => by
    rcases List.mem_cons.mp m with q | m
    · cases q
      exact ⟨by decide, by decide, by unfold fL_sky; rw [e]; rfl⟩
    rcases List.mem_cons.mp m with q | m
    · cases q
      exact ⟨by decide, by decide, by unfold fL_sky; rw [e]; rfl⟩
    exact absurd m List.not_mem_nil) (fun h => rec h (nI (i + 6)))
  refine ⟨h', R', ?_⟩
  unfold KL_2
  simp only [ky1 hi hL, ky2 hi hL, ky3 hi hL, ky4 hi hL, ky5 hi hL, kzz, cl9_some, lt9_e, n6]
  exact e
theorem kl_3 {xs : Nat → Int32} {Ls : Nat} {rec : Hp → Int32 → Option Int32} {h : Hp} {i : Nat} (R : REL h) (hi : i + 6 ≤ Ls) (hL : Ls ≤ 3072) : ∃ h', REL h' ∧ KL_3 xs Ls rec h (nI i) = rec h' (nI (i + 6)) := by
  obtain ⟨σ, C, M⟩ := R
  obtain ⟨h', R', e⟩ := glueW (fl := fL_law h ) (law_W C ) M (fun r h1 e => by unfold fL_law; rw [e]; rfl) (fun r k c h1 e m => by
    rcases List.mem_cons.mp m with q | m
    · cases q
      exact ⟨by decide, by decide, by unfold fL_law; rw [e]; rfl⟩
    exact absurd m List.not_mem_nil) (fun h => rec h (nI (i + 6)))
  refine ⟨h', R', ?_⟩
  unfold KL_3
  simp only [ky1 hi hL, ky2 hi hL, ky3 hi hL, ky4 hi hL, ky5 hi hL, kzz, cl9_some, lt9_e, n6]
  exact e
theorem kl_4 {xs : Nat → Int32} {Ls : Nat} {rec : Hp → Int32 → Option Int32} {h : Hp} {i : Nat} (R : REL h) (hi : i + 6 ≤ Ls) (hL : Ls ≤ 3072) : ∃ h', REL h' ∧ KL_4 xs Ls rec h (nI i) = rec h' (nI (i + 6)) := by
  obtain ⟨σ, C, M⟩ := R
  refine ⟨up2 h 208 0 0, REL.z C M, ?_⟩
  unfold KL_4
  rw [fault_m M, cl2_some, fault_x C, if_pos rfl, lt9_e, n6]
theorem kl_5 {xs : Nat → Int32} {Ls : Nat} {rec : Hp → Int32 → Option Int32} {h : Hp} {i : Nat} (R : REL h) (hi : i + 6 ≤ Ls) (hL : Ls ≤ 3072) : ∃ h', REL h' ∧ KL_5 xs Ls rec h (nI i) = rec h' (nI (i + 6)) := by
  obtain ⟨σ, C, M⟩ := R
  obtain ⟨h', R', e⟩ := glueT (fl := fL_place h (xs (nI i + (1 : Int32)).toNatClampNeg) (xs (nI i + (2 : Int32)).toNatClampNeg)) (place_T C (xs (nI i + (1 : Int32)).toNatClampNeg) (xs (nI i + (2 : Int32)).toNatClampNeg)) M (fun r h1 e => by unfold fL_place; rw [e]; rfl) (fun r k c h1 e m => by
    rcases List.mem_cons.mp m with q | m
    · cases q
      exact ⟨by decide, by decide, by unfold fL_place; rw [e]; rfl⟩
    rcases List.mem_cons.mp m with q | m
    · cases q
      exact ⟨by decide, by decide, by unfold fL_place; rw [e]; rfl⟩
    exact absurd m List.not_mem_nil) (fun h => rec h (nI (i + 6)))
  refine ⟨h', R', ?_⟩
  unfold KL_5
  simp only [ky1 hi hL, ky2 hi hL, ky3 hi hL, ky4 hi hL, ky5 hi hL, kzz, cl9_some, lt9_e, n6]
  exact e
theorem kl_6 {xs : Nat → Int32} {Ls : Nat} {rec : Hp → Int32 → Option Int32} {h : Hp} {i : Nat} (R : REL h) (hi : i + 6 ≤ Ls) (hL : Ls ≤ 3072) : ∃ h', REL h' ∧ KL_6 xs Ls rec h (nI i) = rec h' (nI (i + 6)) := by
  obtain ⟨σ, C, M⟩ := R
  obtain ⟨h', R', e⟩ := glueT (fl := fL_pinner h (xs (nI i + (1 : Int32)).toNatClampNeg) (xs (nI i + (2 : Int32)).toNatClampNeg)) (pinner_T C (xs (nI i + (1 : Int32)).toNatClampNeg) (xs (nI i + (2 : Int32)).toNatClampNeg)) M (fun r h1 e => by unfold fL_pinner; rw [e]; rfl) (fun r k c h1 e m => by
    rcases List.mem_cons.mp m with q | m
    · cases q
      exact ⟨by decide, by decide, by unfold fL_pinner; rw [e]; rfl⟩
    rcases List.mem_cons.mp m with q | m
    · cases q
      exact ⟨by decide, by decide, by unfold fL_pinner; rw [e]; rfl⟩
    exact absurd m List.not_mem_nil) (fun h => rec h (nI (i + 6)))
  refine ⟨h', R', ?_⟩
  unfold KL_6
  simp only [ky1 hi hL, ky2 hi hL, ky3 hi hL, ky4 hi hL, ky5 hi hL, kzz, cl9_some, lt9_e, n6]
  exact e
theorem kl_7 {xs : Nat → Int32} {Ls : Nat} {rec : Hp → Int32 → Option Int32} {h : Hp} {i : Nat} (R : REL h) (hi : i + 6 ≤ Ls) (hL : Ls ≤ 3072) : ∃ h', REL h' ∧ KL_7 xs Ls rec h (nI i) = rec h' (nI (i + 6)) := by
  obtain ⟨σ, C, M⟩ := R
  obtain ⟨h', R', e⟩ := glueT (fl := fL_rusts h (xs (nI i + (1 : Int32)).toNatClampNeg)) (rusts_T C (xs (nI i + (1 : Int32)).toNatClampNeg)) M (fun r h1 e => by unfold fL_rusts; rw [e]; rfl) (fun r k c h1 e m => by
    rcases List.mem_cons.mp m with q | m
    · cases q
      exact ⟨by decide, by decide, by unfold fL_rusts; rw [e]; rfl⟩
    exact absurd m List.not_mem_nil) (fun h => rec h (nI (i + 6)))
  refine ⟨h', R', ?_⟩
  unfold KL_7
  simp only [ky1 hi hL, ky2 hi hL, ky3 hi hL, ky4 hi hL, ky5 hi hL, kzz, cl9_some, lt9_e, n6]
  exact e
theorem kl_8 {xs : Nat → Int32} {Ls : Nat} {rec : Hp → Int32 → Option Int32} {h : Hp} {i : Nat} (R : REL h) (hi : i + 6 ≤ Ls) (hL : Ls ≤ 3072) : ∃ h', REL h' ∧ KL_8 xs Ls rec h (nI i) = rec h' (nI (i + 6)) := by
  obtain ⟨σ, C, M⟩ := R
  obtain ⟨h', R', e⟩ := glueT (fl := fL_pin h (xs (nI i + (1 : Int32)).toNatClampNeg)) (pin_T C (xs (nI i + (1 : Int32)).toNatClampNeg)) M (fun r h1 e => by unfold fL_pin; rw [e]; rfl) (fun r k c h1 e m => by
    rcases List.mem_cons.mp m with q | m
    · cases q
      exact ⟨by decide, by decide, by unfold fL_pin; rw [e]; rfl⟩
    rcases List.mem_cons.mp m with q | m
    · cases q
      exact ⟨by decide, by decide, by unfold fL_pin; rw [e]; rfl⟩
    exact absurd m List.not_mem_nil) (fun h => rec h (nI (i + 6)))
  refine ⟨h', R', ?_⟩
  unfold KL_8
  simp only [ky1 hi hL, ky2 hi hL, ky3 hi hL, ky4 hi hL, ky5 hi hL, kzz, cl9_some, lt9_e, n6]
  exact e
theorem kl_9 {xs : Nat → Int32} {Ls : Nat} {rec : Hp → Int32 → Option Int32} {h : Hp} {i : Nat} (R : REL h) (hi : i + 6 ≤ Ls) (hL : Ls ≤ 3072) : ∃ h', REL h' ∧ KL_9 xs Ls rec h (nI i) = rec h' (nI (i + 6)) := by
  obtain ⟨σ, C, M⟩ := R
  obtain ⟨h', R', e⟩ := glueT (fl := fL_change h (xs (nI i + (1 : Int32)).toNatClampNeg)) (change_T C (xs (nI i + (1 : Int32)).toNatClampNeg)) M (fun r h1 e => by unfold fL_change; rw [e]; rfl) (fun r k c h1 e m => by
    rcases List.mem_cons.mp m with q | m
    · cases q
      exact ⟨by decide, by decide, by unfold fL_change; rw [e]; rfl⟩
    rcases List.mem_cons.mp m with q | m
    · cases q
      exact ⟨by decide, by decide, by unfold fL_change; rw [e]; rfl⟩
    exact absurd m List.not_mem_nil) (fun h => rec h (nI (i + 6)))
  refine ⟨h', R', ?_⟩
  unfold KL_9
  simp only [ky1 hi hL, ky2 hi hL, ky3 hi hL, ky4 hi hL, ky5 hi hL, kzz, cl9_some, lt9_e, n6]
  exact e
theorem kl_10 {xs : Nat → Int32} {Ls : Nat} {rec : Hp → Int32 → Option Int32} {h : Hp} {i : Nat} (R : REL h) (hi : i + 6 ≤ Ls) (hL : Ls ≤ 3072) : ∃ h', REL h' ∧ KL_10 xs Ls rec h (nI i) = rec h' (nI (i + 6)) := by
  obtain ⟨σ, C, M⟩ := R
  obtain ⟨h', R', e⟩ := glueT (fl := fL_go h (xs (nI i + (1 : Int32)).toNatClampNeg) (xs (nI i + (2 : Int32)).toNatClampNeg)) (go_T C (xs (nI i + (1 : Int32)).toNatClampNeg) (xs (nI i + (2 : Int32)).toNatClampNeg)) M (fun r h1 e => by unfold fL_go; rw [e]; rfl) (fun r k c h1 e m => by
    rcases List.mem_cons.mp m with q | m
    · cases q
      exact ⟨by decide, by decide, by unfold fL_go; rw [e]; rfl⟩
    rcases List.mem_cons.mp m with q | m
    · cases q
      exact ⟨by decide, by decide, by unfold fL_go; rw [e]; rfl⟩
    exact absurd m List.not_mem_nil) (fun h => rec h (nI (i + 6)))
  refine ⟨h', R', ?_⟩
  unfold KL_10
  simp only [ky1 hi hL, ky2 hi hL, ky3 hi hL, ky4 hi hL, ky5 hi hL, kzz, cl9_some, lt9_e, n6]
  exact e
theorem kl_11 {xs : Nat → Int32} {Ls : Nat} {rec : Hp → Int32 → Option Int32} {h : Hp} {i : Nat} (R : REL h) (hi : i + 6 ≤ Ls) (hL : Ls ≤ 3072) : ∃ h', REL h' ∧ KL_11 xs Ls rec h (nI i) = rec h' (nI (i + 6)) := by
  obtain ⟨σ, C, M⟩ := R
  obtain ⟨h', R', e⟩ := glueT (fl := fL_pull h (xs (nI i + (1 : Int32)).toNatClampNeg)) (pull_T C (xs (nI i + (1 : Int32)).toNatClampNeg)) M (fun r h1 e => by unfold fL_pull; rw [e]; rfl) (fun r k c h1 e m => by
    rcases List.mem_cons.mp m with q | m
    · cases q
      exact ⟨by decide, by decide, by unfold fL_pull; rw [e]; rfl⟩
    rcases List.mem_cons.mp m with q | m
    · cases q
      exact ⟨by decide, by decide, by unfold fL_pull; rw [e]; rfl⟩
    exact absurd m List.not_mem_nil) (fun h => rec h (nI (i + 6)))
  refine ⟨h', R', ?_⟩
  unfold KL_11
  simp only [ky1 hi hL, ky2 hi hL, ky3 hi hL, ky4 hi hL, ky5 hi hL, kzz, cl9_some, lt9_e, n6]
  exact e
theorem kl_12 {xs : Nat → Int32} {Ls : Nat} {rec : Hp → Int32 → Option Int32} {h : Hp} {i : Nat} (R : REL h) (hi : i + 6 ≤ Ls) (hL : Ls ≤ 3072) : ∃ h', REL h' ∧ KL_12 xs Ls rec h (nI i) = rec h' (nI (i + 6)) := by
  obtain ⟨σ, C, M⟩ := R
  obtain ⟨h', R', e⟩ := glueT (fl := fL_hand h (xs (nI i + (1 : Int32)).toNatClampNeg) (xs (nI i + (2 : Int32)).toNatClampNeg)) (hand_T C (xs (nI i + (1 : Int32)).toNatClampNeg) (xs (nI i + (2 : Int32)).toNatClampNeg)) M (fun r h1 e => by unfold fL_hand; rw [e]; rfl) (fun r k c h1 e m => by
    rcases List.mem_cons.mp m with q | m
    · cases q
      exact ⟨by decide, by decide, by unfold fL_hand; rw [e]; rfl⟩
    rcases List.mem_cons.mp m with q | m
    · cases q
      exact ⟨by decide, by decide, by unfold fL_hand; rw [e]; rfl⟩
    rcases List.mem_cons.mp m with q | m
    · cases q
      exact ⟨by decide, by decide, by unfold fL_hand; rw [e]; rfl⟩
    exact absurd m List.not_mem_nil) (fun h => rec h (nI (i + 6)))
  refine ⟨h', R', ?_⟩
  unfold KL_12
  simp only [ky1 hi hL, ky2 hi hL, ky3 hi hL, ky4 hi hL, ky5 hi hL, kzz, cl9_some, lt9_e, n6]
  exact e
theorem kl_13 {xs : Nat → Int32} {Ls : Nat} {rec : Hp → Int32 → Option Int32} {h : Hp} {i : Nat} (R : REL h) (hi : i + 6 ≤ Ls) (hL : Ls ≤ 3072) : ∃ h', REL h' ∧ KL_13 xs Ls rec h (nI i) = rec h' (nI (i + 6)) := by
  obtain ⟨σ, C, M⟩ := R
  obtain ⟨h', R', e⟩ := glueT (fl := fL_fell h (xs (nI i + (1 : Int32)).toNatClampNeg)) (fell_T C (xs (nI i + (1 : Int32)).toNatClampNeg)) M (fun r h1 e => by unfold fL_fell; rw [e]; rfl) (fun r k c h1 e m => by
    rcases List.mem_cons.mp m with q | m
    · cases q
      exact ⟨by decide, by decide, by unfold fL_fell; rw [e]; rfl⟩
    exact absurd m List.not_mem_nil) (fun h => rec h (nI (i + 6)))
  refine ⟨h', R', ?_⟩
  unfold KL_13
  simp only [ky1 hi hL, ky2 hi hL, ky3 hi hL, ky4 hi hL, ky5 hi hL, kzz, cl9_some, lt9_e, n6]
  exact e
theorem kl_14 {xs : Nat → Int32} {Ls : Nat} {rec : Hp → Int32 → Option Int32} {h : Hp} {i : Nat} (R : REL h) (hi : i + 6 ≤ Ls) (hL : Ls ≤ 3072) : ∃ h', REL h' ∧ KL_14 xs Ls rec h (nI i) = rec h' (nI (i + 6)) := by
  obtain ⟨σ, C, M⟩ := R
  obtain ⟨h', R', e⟩ := glueT (fl := fL_height h (xs (nI i + (1 : Int32)).toNatClampNeg)) (height_T C (xs (nI i + (1 : Int32)).toNatClampNeg)) M (fun r h1 e => by unfold fL_height; rw [e]; rfl) (fun r k c h1 e m => by
    rcases List.mem_cons.mp m with q | m
    · cases q
      exact ⟨by decide, by decide, by unfold fL_height; rw [e]; rfl⟩
    exact absurd m List.not_mem_nil) (fun h => rec h (nI (i + 6)))
  refine ⟨h', R', ?_⟩
  unfold KL_14
  simp only [ky1 hi hL, ky2 hi hL, ky3 hi hL, ky4 hi hL, ky5 hi hL, kzz, cl9_some, lt9_e, n6]
  exact e
theorem kl_15 {xs : Nat → Int32} {Ls : Nat} {rec : Hp → Int32 → Option Int32} {h : Hp} {i : Nat} (R : REL h) (hi : i + 6 ≤ Ls) (hL : Ls ≤ 3072) : ∃ h', REL h' ∧ KL_15 xs Ls rec h (nI i) = rec h' (nI (i + 6)) := by
  obtain ⟨σ, C, M⟩ := R
  obtain ⟨h', R', e⟩ := glueT (fl := fL_days h (xs (nI i + (1 : Int32)).toNatClampNeg)) (days_T C (xs (nI i + (1 : Int32)).toNatClampNeg)) M (fun r h1 e => by unfold fL_days; rw [e]; rfl) (fun r k c h1 e m => by
    rcases List.mem_cons.mp m with q | m
    · cases q
      exact ⟨by decide, by decide, by unfold fL_days; rw [e]; rfl⟩
    exact absurd m List.not_mem_nil) (fun h => rec h (nI (i + 6)))
  refine ⟨h', R', ?_⟩
  unfold KL_15
  simp only [ky1 hi hL, ky2 hi hL, ky3 hi hL, ky4 hi hL, ky5 hi hL, kzz, cl9_some, lt9_e, n6]
  exact e
theorem kl_16 {xs : Nat → Int32} {Ls : Nat} {rec : Hp → Int32 → Option Int32} {h : Hp} {i : Nat} (R : REL h) (hi : i + 6 ≤ Ls) (hL : Ls ≤ 3072) : ∃ h', REL h' ∧ KL_16 xs Ls rec h (nI i) = rec h' (nI (i + 6)) := by
  obtain ⟨σ, C, M⟩ := R
  obtain ⟨h', R', e⟩ := glueN (low_N C ) M (fun h => rec h (nI (i + 6)))
  refine ⟨h', R', ?_⟩
  unfold KL_16
  simp only [ky1 hi hL, ky2 hi hL, ky3 hi hL, ky4 hi hL, ky5 hi hL, kzz, cl9_some, lt9_e, n6]
  exact e
theorem kl_17 {xs : Nat → Int32} {Ls : Nat} {rec : Hp → Int32 → Option Int32} {h : Hp} {i : Nat} (R : REL h) (hi : i + 6 ≤ Ls) (hL : Ls ≤ 3072) : ∃ h', REL h' ∧ KL_17 xs Ls rec h (nI i) = rec h' (nI (i + 6)) := by
  obtain ⟨σ, C, M⟩ := R
  obtain ⟨h', R', e⟩ := glueN (held_N C ) M (fun h => rec h (nI (i + 6)))
  refine ⟨h', R', ?_⟩
  unfold KL_17
  simp only [ky1 hi hL, ky2 hi hL, ky3 hi hL, ky4 hi hL, ky5 hi hL, kzz, cl9_some, lt9_e, n6]
  exact e
theorem kl_18 {xs : Nat → Int32} {Ls : Nat} {rec : Hp → Int32 → Option Int32} {h : Hp} {i : Nat} (R : REL h) (hi : i + 6 ≤ Ls) (hL : Ls ≤ 3072) : ∃ h', REL h' ∧ KL_18 xs Ls rec h (nI i) = rec h' (nI (i + 6)) := by
  obtain ⟨σ, C, M⟩ := R
  obtain ⟨h', R', e⟩ := glueN (gives_N C (if (xs (nI i + (1 : Int32)).toNatClampNeg) = (0 : Int32) then (0 : Int32) else 1)) M (fun h => rec h (nI (i + 6)))
  refine ⟨h', R', ?_⟩
  unfold KL_18
  simp only [ky1 hi hL, ky2 hi hL, ky3 hi hL, ky4 hi hL, ky5 hi hL, kzz, cl9_some, lt9_e, n6]
  exact e
theorem kl_19 {xs : Nat → Int32} {Ls : Nat} {rec : Hp → Int32 → Option Int32} {h : Hp} {i : Nat} (R : REL h) (hi : i + 6 ≤ Ls) (hL : Ls ≤ 3072) : ∃ h', REL h' ∧ KL_19 xs Ls rec h (nI i) = rec h' (nI (i + 6)) := by
  obtain ⟨σ, C, M⟩ := R
  obtain ⟨h2, e2, F2⟩ := weakest_m M C.cs.2.1 C.cs.2.2.1
  refine ⟨h2, ⟨σ, C.cm (F2.mono (fun k j c => c.2)), M.sm (F2.mono (fun k j c => c.1))⟩, ?_⟩
  unfold KL_19
  rw [weakest_x C.cs, cl9_some, e2, cl2_some, if_pos rfl, lt9_e, n6]
theorem kl_20 {xs : Nat → Int32} {Ls : Nat} {rec : Hp → Int32 → Option Int32} {h : Hp} {i : Nat} (R : REL h) (hi : i + 6 ≤ Ls) (hL : Ls ≤ 3072) : ∃ h', REL h' ∧ KL_20 xs Ls rec h (nI i) = rec h' (nI (i + 6)) := by
  obtain ⟨σ, C, M⟩ := R
  obtain ⟨h', R', e⟩ := glueN (key_N C ) M (fun h => rec h (nI (i + 6)))
  refine ⟨h', R', ?_⟩
  unfold KL_20
  simp only [ky1 hi hL, ky2 hi hL, ky3 hi hL, ky4 hi hL, ky5 hi hL, kzz, cl9_some, lt9_e, n6]
  exact e
theorem kl_21 {xs : Nat → Int32} {Ls : Nat} {rec : Hp → Int32 → Option Int32} {h : Hp} {i : Nat} (R : REL h) (hi : i + 6 ≤ Ls) (hL : Ls ≤ 3072) : ∃ h', REL h' ∧ KL_21 xs Ls rec h (nI i) = rec h' (nI (i + 6)) := by
  obtain ⟨σ, C, M⟩ := R
  obtain ⟨h', R', e⟩ := glueN (fewest_N C (xs (nI i + (1 : Int32)).toNatClampNeg)) M (fun h => rec h (nI (i + 6)))
  refine ⟨h', R', ?_⟩
  unfold KL_21
  simp only [ky1 hi hL, ky2 hi hL, ky3 hi hL, ky4 hi hL, ky5 hi hL, kzz, cl9_some, lt9_e, n6]
  exact e
theorem kl_22 {xs : Nat → Int32} {Ls : Nat} {rec : Hp → Int32 → Option Int32} {h : Hp} {i : Nat} (R : REL h) (hi : i + 6 ≤ Ls) (hL : Ls ≤ 3072) : ∃ h', REL h' ∧ KL_22 xs Ls rec h (nI i) = rec h' (nI (i + 6)) := by
  obtain ⟨σ, C, M⟩ := R
  obtain ⟨h', R', e⟩ := glueN (first_N C ) M (fun h => rec h (nI (i + 6)))
  refine ⟨h', R', ?_⟩
  unfold KL_22
  simp only [ky1 hi hL, ky2 hi hL, ky3 hi hL, ky4 hi hL, ky5 hi hL, kzz, cl9_some, lt9_e, n6]
  exact e
theorem kl_23 {xs : Nat → Int32} {Ls : Nat} {rec : Hp → Int32 → Option Int32} {h : Hp} {i : Nat} (R : REL h) (hi : i + 6 ≤ Ls) (hL : Ls ≤ 3072) : ∃ h', REL h' ∧ KL_23 xs Ls rec h (nI i) = rec h' (nI (i + 6)) := by
  obtain ⟨σ, C, M⟩ := R
  obtain ⟨h', R', e⟩ := glueN (spare_N C ) M (fun h => rec h (nI (i + 6)))
  refine ⟨h', R', ?_⟩
  unfold KL_23
  simp only [ky1 hi hL, ky2 hi hL, ky3 hi hL, ky4 hi hL, ky5 hi hL, kzz, cl9_some, lt9_e, n6]
  exact e
theorem kl_24 {xs : Nat → Int32} {Ls : Nat} {rec : Hp → Int32 → Option Int32} {h : Hp} {i : Nat} (R : REL h) (hi : i + 6 ≤ Ls) (hL : Ls ≤ 3072) : ∃ h', REL h' ∧ KL_24 xs Ls rec h (nI i) = rec h' (nI (i + 6)) := by
  obtain ⟨σ, C, M⟩ := R
  obtain ⟨h', R', e⟩ := glueT (fl := fL_round h (xs (nI i + (1 : Int32)).toNatClampNeg) (xs (nI i + (2 : Int32)).toNatClampNeg) (if (xs (nI i + (3 : Int32)).toNatClampNeg) = (0 : Int32) then (0 : Int32) else 1)) (round_T C (xs (nI i + (1 : Int32)).toNatClampNeg) (xs (nI i + (2 : Int32)).toNatClampNeg) (if (xs (nI i + (3 : Int32)).toNatClampNeg) = (0 : Int32) then (0 : Int32) else 1)) M (fun r h1 e => by unfold fL_round; rw [e]; rfl) (fun r k c h1 e m => by
    rcases List.mem_cons.mp m with q | m
    · cases q
      exact ⟨by decide, by decide, by unfold fL_round; rw [e]; rfl⟩
    exact absurd m List.not_mem_nil) (fun h => rec h (nI (i + 6)))
  refine ⟨h', R', ?_⟩
  unfold KL_24
  simp only [ky1 hi hL, ky2 hi hL, ky3 hi hL, ky4 hi hL, ky5 hi hL, kzz, cl9_some, lt9_e, n6]
  exact e
theorem kl_25 {xs : Nat → Int32} {Ls : Nat} {rec : Hp → Int32 → Option Int32} {h : Hp} {i : Nat} (R : REL h) (hi : i + 6 ≤ Ls) (hL : Ls ≤ 3072) : ∃ h', REL h' ∧ KL_25 xs Ls rec h (nI i) = rec h' (nI (i + 6)) := by
  obtain ⟨σ, C, M⟩ := R
  obtain ⟨h', R', e⟩ := glueT (fl := fL_goes h (xs (nI i + (1 : Int32)).toNatClampNeg)) (goes_T C (xs (nI i + (1 : Int32)).toNatClampNeg)) M (fun r h1 e => by unfold fL_goes; rw [e]; rfl) (fun r k c h1 e m => by
    rcases List.mem_cons.mp m with q | m
    · cases q
      exact ⟨by decide, by decide, by unfold fL_goes; rw [e]; rfl⟩
    rcases List.mem_cons.mp m with q | m
    · cases q
      exact ⟨by decide, by decide, by unfold fL_goes; rw [e]; rfl⟩
    exact absurd m List.not_mem_nil) (fun h => rec h (nI (i + 6)))
  refine ⟨h', R', ?_⟩
  unfold KL_25
  simp only [ky1 hi hL, ky2 hi hL, ky3 hi hL, ky4 hi hL, ky5 hi hL, kzz, cl9_some, lt9_e, n6]
  exact e
theorem kl_26 {xs : Nat → Int32} {Ls : Nat} {rec : Hp → Int32 → Option Int32} {h : Hp} {i : Nat} (R : REL h) (hi : i + 6 ≤ Ls) (hL : Ls ≤ 3072) : ∃ h', REL h' ∧ KL_26 xs Ls rec h (nI i) = rec h' (nI (i + 6)) := by
  obtain ⟨σ, C, M⟩ := R
  obtain ⟨h', R', e⟩ := glueT (fl := fL_before h (xs (nI i + (1 : Int32)).toNatClampNeg)) (before_T C (xs (nI i + (1 : Int32)).toNatClampNeg)) M (fun r h1 e => by unfold fL_before; rw [e]; rfl) (fun r k c h1 e m => by
    rcases List.mem_cons.mp m with q | m
    · cases q
      exact ⟨by decide, by decide, by unfold fL_before; rw [e]; rfl⟩
    exact absurd m List.not_mem_nil) (fun h => rec h (nI (i + 6)))
  refine ⟨h', R', ?_⟩
  unfold KL_26
  simp only [ky1 hi hL, ky2 hi hL, ky3 hi hL, ky4 hi hL, ky5 hi hL, kzz, cl9_some, lt9_e, n6]
  exact e
theorem kl_27 {xs : Nat → Int32} {Ls : Nat} {rec : Hp → Int32 → Option Int32} {h : Hp} {i : Nat} (R : REL h) (hi : i + 6 ≤ Ls) (hL : Ls ≤ 3072) : ∃ h', REL h' ∧ KL_27 xs Ls rec h (nI i) = rec h' (nI (i + 6)) := by
  obtain ⟨σ, C, M⟩ := R
  obtain ⟨h', R', e⟩ := glueT (fl := fL_seen h (if (xs (nI i + (1 : Int32)).toNatClampNeg) = (0 : Int32) then (0 : Int32) else 1)) (seen_T C (if (xs (nI i + (1 : Int32)).toNatClampNeg) = (0 : Int32) then (0 : Int32) else 1)) M (fun r h1 e => by unfold fL_seen; rw [e]; rfl) (fun r k c h1 e m => by
    rcases List.mem_cons.mp m with q | m
    · cases q
      exact ⟨by decide, by decide, by unfold fL_seen; rw [e]; rfl⟩
    exact absurd m List.not_mem_nil) (fun h => rec h (nI (i + 6)))
  refine ⟨h', R', ?_⟩
  unfold KL_27
  simp only [ky1 hi hL, ky2 hi hL, ky3 hi hL, ky4 hi hL, ky5 hi hL, kzz, cl9_some, lt9_e, n6]
  exact e
theorem kl_28 {xs : Nat → Int32} {Ls : Nat} {rec : Hp → Int32 → Option Int32} {h : Hp} {i : Nat} (R : REL h) (hi : i + 6 ≤ Ls) (hL : Ls ≤ 3072) : ∃ h', REL h' ∧ KL_28 xs Ls rec h (nI i) = rec h' (nI (i + 6)) := by
  obtain ⟨σ, C, M⟩ := R
  obtain ⟨h', R', e⟩ := glueT (fl := fL_climb h ) (climb_T C ) M (fun r h1 e => by unfold fL_climb; rw [e]; rfl) (fun r k c h1 e m => by
    rcases List.mem_cons.mp m with q | m
    · cases q
      exact ⟨by decide, by decide, by unfold fL_climb; rw [e]; rfl⟩
    exact absurd m List.not_mem_nil) (fun h => rec h (nI (i + 6)))
  refine ⟨h', R', ?_⟩
  unfold KL_28
  simp only [ky1 hi hL, ky2 hi hL, ky3 hi hL, ky4 hi hL, ky5 hi hL, kzz, cl9_some, lt9_e, n6]
  exact e
theorem kl_29 {xs : Nat → Int32} {Ls : Nat} {rec : Hp → Int32 → Option Int32} {h : Hp} {i : Nat} (R : REL h) (hi : i + 6 ≤ Ls) (hL : Ls ≤ 3072) : ∃ h', REL h' ∧ KL_29 xs Ls rec h (nI i) = rec h' (nI (i + 6)) := by
  obtain ⟨σ, C, M⟩ := R
  obtain ⟨h', R', e⟩ := glueN (duke_N C ) M (fun h => rec h (nI (i + 6)))
  refine ⟨h', R', ?_⟩
  unfold KL_29
  simp only [ky1 hi hL, ky2 hi hL, ky3 hi hL, ky4 hi hL, ky5 hi hL, kzz, cl9_some, lt9_e, n6]
  exact e
theorem kl_30 {xs : Nat → Int32} {Ls : Nat} {rec : Hp → Int32 → Option Int32} {h : Hp} {i : Nat} (R : REL h) (hi : i + 6 ≤ Ls) (hL : Ls ≤ 3072) : ∃ h', REL h' ∧ KL_30 xs Ls rec h (nI i) = rec h' (nI (i + 6)) := by
  obtain ⟨σ, C, M⟩ := R
  obtain ⟨h', R', e⟩ := glueT (fl := fL_pay h (xs (nI i + (1 : Int32)).toNatClampNeg)) (pay_T C (xs (nI i + (1 : Int32)).toNatClampNeg)) M (fun r h1 e => by unfold fL_pay; rw [e]; rfl) (fun r k c h1 e m => by
    rcases List.mem_cons.mp m with q | m
    · cases q
      exact ⟨by decide, by decide, by unfold fL_pay; rw [e]; rfl⟩
    exact absurd m List.not_mem_nil) (fun h => rec h (nI (i + 6)))
  refine ⟨h', R', ?_⟩
  unfold KL_30
  simp only [ky1 hi hL, ky2 hi hL, ky3 hi hL, ky4 hi hL, ky5 hi hL, kzz, cl9_some, lt9_e, n6]
  exact e
theorem kl_31 {xs : Nat → Int32} {Ls : Nat} {rec : Hp → Int32 → Option Int32} {h : Hp} {i : Nat} (R : REL h) (hi : i + 6 ≤ Ls) (hL : Ls ≤ 3072) : ∃ h', REL h' ∧ KL_31 xs Ls rec h (nI i) = rec h' (nI (i + 6)) := by
  obtain ⟨σ, C, M⟩ := R
  obtain ⟨h', R', e⟩ := glueN (season_N C ) M (fun h => rec h (nI (i + 6)))
  refine ⟨h', R', ?_⟩
  unfold KL_31
  simp only [ky1 hi hL, ky2 hi hL, ky3 hi hL, ky4 hi hL, ky5 hi hL, kzz, cl9_some, lt9_e, n6]
  exact e
theorem kl_32 {xs : Nat → Int32} {Ls : Nat} {rec : Hp → Int32 → Option Int32} {h : Hp} {i : Nat} (R : REL h) (hi : i + 6 ≤ Ls) (hL : Ls ≤ 3072) : ∃ h', REL h' ∧ KL_32 xs Ls rec h (nI i) = rec h' (nI (i + 6)) := by
  obtain ⟨σ, C, M⟩ := R
  obtain ⟨h', R', e⟩ := glueN (best_N C ) M (fun h => rec h (nI (i + 6)))
  refine ⟨h', R', ?_⟩
  unfold KL_32
  simp only [ky1 hi hL, ky2 hi hL, ky3 hi hL, ky4 hi hL, ky5 hi hL, kzz, cl9_some, lt9_e, n6]
  exact e
theorem kl_33 {xs : Nat → Int32} {Ls : Nat} {rec : Hp → Int32 → Option Int32} {h : Hp} {i : Nat} (R : REL h) (hi : i + 6 ≤ Ls) (hL : Ls ≤ 3072) : ∃ h', REL h' ∧ KL_33 xs Ls rec h (nI i) = rec h' (nI (i + 6)) := by
  obtain ⟨σ, C, M⟩ := R
  obtain ⟨h', R', e⟩ := glueN (lasts_N C ) M (fun h => rec h (nI (i + 6)))
  refine ⟨h', R', ?_⟩
  unfold KL_33
  simp only [ky1 hi hL, ky2 hi hL, ky3 hi hL, ky4 hi hL, ky5 hi hL, kzz, cl9_some, lt9_e, n6]
  exact e
theorem kl_34 {xs : Nat → Int32} {Ls : Nat} {rec : Hp → Int32 → Option Int32} {h : Hp} {i : Nat} (R : REL h) (hi : i + 6 ≤ Ls) (hL : Ls ≤ 3072) : ∃ h', REL h' ∧ KL_34 xs Ls rec h (nI i) = rec h' (nI (i + 6)) := by
  obtain ⟨σ, C, M⟩ := R
  obtain ⟨h', R', e⟩ := glueT (fl := fL_stars h (xs (nI i + (1 : Int32)).toNatClampNeg) (xs (nI i + (2 : Int32)).toNatClampNeg)) (stars_T C (xs (nI i + (1 : Int32)).toNatClampNeg) (xs (nI i + (2 : Int32)).toNatClampNeg)) M (fun r h1 e => by unfold fL_stars; rw [e]; rfl) (fun r k c h1 e m => by
    rcases List.mem_cons.mp m with q | m
    · cases q
      exact ⟨by decide, by decide, by unfold fL_stars; rw [e]; rfl⟩
    rcases List.mem_cons.mp m with q | m
    · cases q
      exact ⟨by decide, by decide, by unfold fL_stars; rw [e]; rfl⟩
    exact absurd m List.not_mem_nil) (fun h => rec h (nI (i + 6)))
  refine ⟨h', R', ?_⟩
  unfold KL_34
  simp only [ky1 hi hL, ky2 hi hL, ky3 hi hL, ky4 hi hL, ky5 hi hL, kzz, cl9_some, lt9_e, n6]
  exact e
theorem kl_35 {xs : Nat → Int32} {Ls : Nat} {rec : Hp → Int32 → Option Int32} {h : Hp} {i : Nat} (R : REL h) (hi : i + 6 ≤ Ls) (hL : Ls ≤ 3072) : ∃ h', REL h' ∧ KL_35 xs Ls rec h (nI i) = rec h' (nI (i + 6)) := by
  obtain ⟨σ, C, M⟩ := R
  obtain ⟨h', R', e⟩ := glueN (longest_N C ) M (fun h => rec h (nI (i + 6)))
  refine ⟨h', R', ?_⟩
  unfold KL_35
  simp only [ky1 hi hL, ky2 hi hL, ky3 hi hL, ky4 hi hL, ky5 hi hL, kzz, cl9_some, lt9_e, n6]
  exact e
theorem kl_36 {xs : Nat → Int32} {Ls : Nat} {rec : Hp → Int32 → Option Int32} {h : Hp} {i : Nat} (R : REL h) (hi : i + 6 ≤ Ls) (hL : Ls ≤ 3072) : ∃ h', REL h' ∧ KL_36 xs Ls rec h (nI i) = rec h' (nI (i + 6)) := by
  obtain ⟨σ, C, M⟩ := R
  obtain ⟨h', R', e⟩ := glueT (fl := fL_ahead h (xs (nI i + (1 : Int32)).toNatClampNeg) (xs (nI i + (2 : Int32)).toNatClampNeg) (if (xs (nI i + (3 : Int32)).toNatClampNeg) = (0 : Int32) then (0 : Int32) else 1)) (ahead_T C (xs (nI i + (1 : Int32)).toNatClampNeg) (xs (nI i + (2 : Int32)).toNatClampNeg) (if (xs (nI i + (3 : Int32)).toNatClampNeg) = (0 : Int32) then (0 : Int32) else 1)) M (fun r h1 e => by unfold fL_ahead; rw [e]; rfl) (fun r k c h1 e m => by
    rcases List.mem_cons.mp m with q | m
    · cases q
      exact ⟨by decide, by decide, by unfold fL_ahead; rw [e]; rfl⟩
    rcases List.mem_cons.mp m with q | m
    · cases q
      exact ⟨by decide, by decide, by unfold fL_ahead; rw [e]; rfl⟩
    exact absurd m List.not_mem_nil) (fun h => rec h (nI (i + 6)))
  refine ⟨h', R', ?_⟩
  unfold KL_36
  simp only [ky1 hi hL, ky2 hi hL, ky3 hi hL, ky4 hi hL, ky5 hi hL, kzz, cl9_some, lt9_e, n6]
  exact e
theorem kl_37 {xs : Nat → Int32} {Ls : Nat} {rec : Hp → Int32 → Option Int32} {h : Hp} {i : Nat} (R : REL h) (hi : i + 6 ≤ Ls) (hL : Ls ≤ 3072) : ∃ h', REL h' ∧ KL_37 xs Ls rec h (nI i) = rec h' (nI (i + 6)) := by
  obtain ⟨σ, C, M⟩ := R
  obtain ⟨h', R', e⟩ := glueT (fl := fL_odds h (xs (nI i + (1 : Int32)).toNatClampNeg) (xs (nI i + (2 : Int32)).toNatClampNeg)) (odds_T C (xs (nI i + (1 : Int32)).toNatClampNeg) (xs (nI i + (2 : Int32)).toNatClampNeg)) M (fun r h1 e => by unfold fL_odds; rw [e]; rfl) (fun r k c h1 e m => by
    rcases List.mem_cons.mp m with q | m
    · cases q
      exact ⟨by decide, by decide, by unfold fL_odds; rw [e]; rfl⟩
    exact absurd m List.not_mem_nil) (fun h => rec h (nI (i + 6)))
  refine ⟨h', R', ?_⟩
  unfold KL_37
  simp only [ky1 hi hL, ky2 hi hL, ky3 hi hL, ky4 hi hL, ky5 hi hL, kzz, cl9_some, lt9_e, n6]
  exact e
theorem kl_38 {xs : Nat → Int32} {Ls : Nat} {rec : Hp → Int32 → Option Int32} {h : Hp} {i : Nat} (R : REL h) (hi : i + 6 ≤ Ls) (hL : Ls ≤ 3072) : ∃ h', REL h' ∧ KL_38 xs Ls rec h (nI i) = rec h' (nI (i + 6)) := by
  obtain ⟨σ, C, M⟩ := R
  obtain ⟨h', R', e⟩ := glueT (fl := fL_needs h (xs (nI i + (1 : Int32)).toNatClampNeg)) (needs_T C (xs (nI i + (1 : Int32)).toNatClampNeg)) M (fun r h1 e => by unfold fL_needs; rw [e]; rfl) (fun r k c h1 e m => by
    rcases List.mem_cons.mp m with q | m
    · cases q
      exact ⟨by decide, by decide, by unfold fL_needs; rw [e]; rfl⟩
    exact absurd m List.not_mem_nil) (fun h => rec h (nI (i + 6)))
  refine ⟨h', R', ?_⟩
  unfold KL_38
  simp only [ky1 hi hL, ky2 hi hL, ky3 hi hL, ky4 hi hL, ky5 hi hL, kzz, cl9_some, lt9_e, n6]
  exact e
theorem kl_39 {xs : Nat → Int32} {Ls : Nat} {rec : Hp → Int32 → Option Int32} {h : Hp} {i : Nat} (R : REL h) (hi : i + 6 ≤ Ls) (hL : Ls ≤ 3072) : ∃ h', REL h' ∧ KL_39 xs Ls rec h (nI i) = rec h' (nI (i + 6)) := by
  obtain ⟨σ, C, M⟩ := R
  obtain ⟨h', R', e⟩ := glueT (fl := fL_trial h (xs (nI i + (1 : Int32)).toNatClampNeg) (if (xs (nI i + (2 : Int32)).toNatClampNeg) = (0 : Int32) then (0 : Int32) else 1)) (trial_T C (xs (nI i + (1 : Int32)).toNatClampNeg) (if (xs (nI i + (2 : Int32)).toNatClampNeg) = (0 : Int32) then (0 : Int32) else 1)) M (fun r h1 e => by unfold fL_trial; rw [e]; rfl) (fun r k c h1 e m => by
    rcases List.mem_cons.mp m with q | m
    · cases q
      exact ⟨by decide, by decide, by unfold fL_trial; rw [e]; rfl⟩
    exact absurd m List.not_mem_nil) (fun h => rec h (nI (i + 6)))
  refine ⟨h', R', ?_⟩
  unfold KL_39
  simp only [ky1 hi hL, ky2 hi hL, ky3 hi hL, ky4 hi hL, ky5 hi hL, kzz, cl9_some, lt9_e, n6]
  exact e
theorem kl_40 {xs : Nat → Int32} {Ls : Nat} {rec : Hp → Int32 → Option Int32} {h : Hp} {i : Nat} (R : REL h) (hi : i + 6 ≤ Ls) (hL : Ls ≤ 3072) : ∃ h', REL h' ∧ KL_40 xs Ls rec h (nI i) = rec h' (nI (i + 6)) := by
  obtain ⟨σ, C, M⟩ := R
  obtain ⟨h', R', e⟩ := glueT (fl := fL_span h (xs (nI i + (1 : Int32)).toNatClampNeg) (if (xs (nI i + (2 : Int32)).toNatClampNeg) = (0 : Int32) then (0 : Int32) else 1)) (span_T C (xs (nI i + (1 : Int32)).toNatClampNeg) (if (xs (nI i + (2 : Int32)).toNatClampNeg) = (0 : Int32) then (0 : Int32) else 1)) M (fun r h1 e => by unfold fL_span; rw [e]; rfl) (fun r k c h1 e m => by
    rcases List.mem_cons.mp m with q | m
    · cases q
      exact ⟨by decide, by decide, by unfold fL_span; rw [e]; rfl⟩
    exact absurd m List.not_mem_nil) (fun h => rec h (nI (i + 6)))
  refine ⟨h', R', ?_⟩
  unfold KL_40
  simp only [ky1 hi hL, ky2 hi hL, ky3 hi hL, ky4 hi hL, ky5 hi hL, kzz, cl9_some, lt9_e, n6]
  exact e
theorem kl_41 {xs : Nat → Int32} {Ls : Nat} {rec : Hp → Int32 → Option Int32} {h : Hp} {i : Nat} (R : REL h) (hi : i + 6 ≤ Ls) (hL : Ls ≤ 3072) : ∃ h', REL h' ∧ KL_41 xs Ls rec h (nI i) = rec h' (nI (i + 6)) := by
  obtain ⟨σ, C, M⟩ := R
  obtain ⟨h', R', e⟩ := glueT (fl := fL_led h (xs (nI i + (1 : Int32)).toNatClampNeg) (if (xs (nI i + (2 : Int32)).toNatClampNeg) = (0 : Int32) then (0 : Int32) else 1)) (led_T C (xs (nI i + (1 : Int32)).toNatClampNeg) (if (xs (nI i + (2 : Int32)).toNatClampNeg) = (0 : Int32) then (0 : Int32) else 1)) M (fun r h1 e => by unfold fL_led; rw [e]; rfl) (fun r k c h1 e m => by
    rcases List.mem_cons.mp m with q | m
    · cases q
      exact ⟨by decide, by decide, by unfold fL_led; rw [e]; rfl⟩
    exact absurd m List.not_mem_nil) (fun h => rec h (nI (i + 6)))
  refine ⟨h', R', ?_⟩
  unfold KL_41
  simp only [ky1 hi hL, ky2 hi hL, ky3 hi hL, ky4 hi hL, ky5 hi hL, kzz, cl9_some, lt9_e, n6]
  exact e
theorem kl_42 {xs : Nat → Int32} {Ls : Nat} {rec : Hp → Int32 → Option Int32} {h : Hp} {i : Nat} (R : REL h) (hi : i + 6 ≤ Ls) (hL : Ls ≤ 3072) : ∃ h', REL h' ∧ KL_42 xs Ls rec h (nI i) = rec h' (nI (i + 6)) := by
  obtain ⟨σ, C, M⟩ := R
  obtain ⟨h', R', e⟩ := glueT (fl := fL_log h (xs (nI i + (1 : Int32)).toNatClampNeg) (xs (nI i + (2 : Int32)).toNatClampNeg)) (log_T C (xs (nI i + (1 : Int32)).toNatClampNeg) (xs (nI i + (2 : Int32)).toNatClampNeg)) M (fun r h1 e => by unfold fL_log; rw [e]; rfl) (fun r k c h1 e m => by
    rcases List.mem_cons.mp m with q | m
    · cases q
      exact ⟨by decide, by decide, by unfold fL_log; rw [e]; rfl⟩
    exact absurd m List.not_mem_nil) (fun h => rec h (nI (i + 6)))
  refine ⟨h', R', ?_⟩
  unfold KL_42
  simp only [ky1 hi hL, ky2 hi hL, ky3 hi hL, ky4 hi hL, ky5 hi hL, kzz, cl9_some, lt9_e, n6]
  exact e
theorem kl_43 {xs : Nat → Int32} {Ls : Nat} {rec : Hp → Int32 → Option Int32} {h : Hp} {i : Nat} (R : REL h) (hi : i + 6 ≤ Ls) (hL : Ls ≤ 3072) : ∃ h', REL h' ∧ KL_43 xs Ls rec h (nI i) = rec h' (nI (i + 6)) := by
  obtain ⟨σ, C, M⟩ := R
  obtain ⟨h', R', e⟩ := glueN (seed_N C (xs (nI i + (1 : Int32)).toNatClampNeg)) M (fun h => rec h (nI (i + 6)))
  refine ⟨h', R', ?_⟩
  unfold KL_43
  simp only [ky1 hi hL, ky2 hi hL, ky3 hi hL, ky4 hi hL, ky5 hi hL, kzz, cl9_some, lt9_e, n6]
  exact e
theorem kl_44 {xs : Nat → Int32} {Ls : Nat} {rec : Hp → Int32 → Option Int32} {h : Hp} {i : Nat} (R : REL h) (hi : i + 6 ≤ Ls) (hL : Ls ≤ 3072) : ∃ h', REL h' ∧ KL_44 xs Ls rec h (nI i) = rec h' (nI (i + 6)) := by
  obtain ⟨σ, C, M⟩ := R
  obtain ⟨h', R', e⟩ := glueN (undo_N C ) M (fun h => rec h (nI (i + 6)))
  refine ⟨h', R', ?_⟩
  unfold KL_44
  simp only [ky1 hi hL, ky2 hi hL, ky3 hi hL, ky4 hi hL, ky5 hi hL, kzz, cl9_some, lt9_e, n6]
  exact e
theorem kl_45 {xs : Nat → Int32} {Ls : Nat} {rec : Hp → Int32 → Option Int32} {h : Hp} {i : Nat} (R : REL h) (hi : i + 6 ≤ Ls) (hL : Ls ≤ 3072) : ∃ h', REL h' ∧ KL_45 xs Ls rec h (nI i) = rec h' (nI (i + 6)) := by
  obtain ⟨σ, C, M⟩ := R
  obtain ⟨h1, σ', e1, C1, F1, O⟩ := image_V C
  obtain ⟨h2, e2, M2, F2⟩ := O h1 (M.cx F1)
  refine ⟨h2, ⟨σ', C1.cm F2, M2⟩, ?_⟩
  unfold KL_45
  rw [e1, cl9_some, e2, cl9_some, lt9_e, n6]
theorem kl_46 {xs : Nat → Int32} {Ls : Nat} {rec : Hp → Int32 → Option Int32} {h : Hp} {i : Nat} (R : REL h) (hi : i + 6 ≤ Ls) (hL : Ls ≤ 3072) : ∃ h', REL h' ∧ KL_46 xs Ls rec h (nI i) = rec h' (nI (i + 6)) := by
  obtain ⟨σ, C, M⟩ := R
  obtain ⟨h', R', e⟩ := glueN (back_N C ) M (fun h => rec h (nI (i + 6)))
  refine ⟨h', R', ?_⟩
  unfold KL_46
  simp only [ky1 hi hL, ky2 hi hL, ky3 hi hL, ky4 hi hL, ky5 hi hL, kzz, cl9_some, lt9_e, n6]
  exact e
theorem kl_47 {xs : Nat → Int32} {Ls : Nat} {rec : Hp → Int32 → Option Int32} {h : Hp} {i : Nat} (R : REL h) (hi : i + 6 ≤ Ls) (hL : Ls ≤ 3072) : ∃ h', REL h' ∧ KL_47 xs Ls rec h (nI i) = rec h' (nI (i + 6)) := by
  obtain ⟨σ, C, M⟩ := R
  obtain ⟨r, e1, O⟩ := count_a C (xs (nI i + (1 : Int32)).toNatClampNeg)
  refine ⟨up2 h 208 0 0, REL.z C M, ?_⟩
  unfold KL_47
  rw [ky1 hi hL, e1, cl9_some, ky1 hi hL, O h M, cl2_some, if_pos rfl, lt9_e, n6]

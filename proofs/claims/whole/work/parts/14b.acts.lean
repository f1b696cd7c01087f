/-! Acts: what is remembered, and what changes. -/
def remP (w : Nat → Int32) (s : Nat) (P : Nat → Nat → Int32) : Nat → Nat → Int32 := fun i => if s = 12 then (if i < 11 then P (i + 1) else w) else (if i < s then P i else w)
def rem9 (σ : St) : St := match σ with
  | (w, s, P, g, I, t, T, F) => (w, min (s + 1) 12, remP w s P, g, I, t, T, F)
theorem remember_x {h : Hp} {σ : St} (C : RC h σ) : ∃ h1, fX5_remember h 32 = some h1 ∧ RC h1 (rem9 σ) ∧ FR (fun k => k = 18 ∨ (76 ≤ k ∧ k < 208)) h h1 := by
  obtain ⟨w, s, P, g, I, t, T, Fa⟩ := σ
  obtain ⟨h1, h2, h3, ⟨hs, es, nx, hnx, en, hp⟩, h5, h6, h7⟩ := C
  obtain ⟨hb, eb, Hb⟩ := become_x h (76 + 11 * nx) 32 (by omega)
  have b18 : hb 18 = h 18 := Hb.2 18 (by omega)
  have e1 : fX5_remember h 32 = some (up2 (up2 hb 18 2 (nI ((nx + 1) % 12))) 18 1 (nI (min (s + 1) 12))) := by
    unfold fX5_remember
    rw [en, gd_in hnx (by decide), nI_clamp (by omega), eb, cl9_some]
    simp only [lt9_e]
    rw [b18, en, nI_1, i_12, irem_n (by omega) (by decide) (by decide), up2_s, upd_n _ _ (by decide), b18, es, nI_1, jmin_n (by omega) (by decide)]
  have Fb : FR (fun k => k = 18 ∨ (76 ≤ k ∧ k < 208)) h hb := Hb.2.mono (fun k q => by omega)
  have F2 : FR (fun k => k = 18) hb (up2 (up2 hb 18 2 (nI ((nx + 1) % 12))) 18 1 (nI (min (s + 1) 12))) := (FR.up2 (C := fun k => k = 18) hb _ _ rfl).trans (FR.up2 _ _ _ rfl)
  have F1 : FR (fun k => k = 18 ∨ (76 ≤ k ∧ k < 208)) h (up2 (up2 hb 18 2 (nI ((nx + 1) % 12))) 18 1 (nI (min (s + 1) 12))) := Fb.trans (F2.mono (fun k q => Or.inl q))
  refine ⟨_, e1, ⟨h1.fr F1 (fun j hj q => by omega), h2, h3.fr F1 (fun j hj q => by omega), ⟨by omega, by rw [up2_s, upd_s], (nx + 1) % 12, Nat.mod_lt _ (by decide), by rw [up2_s, upd_n _ _ (by decide), up2_s, upd_s], fun i hi => ?_⟩, h5.fr F1 (fun k q => by omega), h6.fr F1 (fun k q => by omega), by rw [F1 0 (by omega)]; exact h7⟩, F1⟩
  have old : ∀ q i', q < 12 → q ≠ nx → SKY h (76 + 11 * q) (P i') → SKY (up2 (up2 hb 18 2 (nI ((nx + 1) % 12))) 18 1 (nI (min (s + 1) 12))) (76 + 11 * q) (P i') := by
    intro q i' h8 h9 h10
    exact (h10.fr Hb.2 (fun j hj q => by omega)).fr F2 (fun j hj q => by omega)
  have new : SKY (up2 (up2 hb 18 2 (nI ((nx + 1) % 12))) 18 1 (nI (min (s + 1) 12))) (76 + 11 * nx) w := (Hb.sky h1).fr F2 (fun j hj q => by omega)
  unfold remP
  by_cases c : s = 12
  · subst c
    rw [if_pos rfl]
    by_cases c2 : i < 11
    · rw [if_pos c2]
      have := hp (i + 1) (by omega)
      have e2 : (nx + 12 - 12 + (i + 1)) % 12 = ((nx + 1) % 12 + 12 - min (12 + 1) 12 + i) % 12 := by omega
      rw [e2] at this
      exact ⟨old _ _ (by omega) (by omega) this.1, this.2⟩
    · rw [if_neg c2, show ((nx + 1) % 12 + 12 - min (12 + 1) 12 + i) % 12 = nx by omega]
      exact ⟨new, rfl⟩
  · rw [if_neg c]
    by_cases c2 : i < s
    · rw [if_pos c2]
      have := hp i c2
      have e2 : (nx + 12 - s + i) % 12 = ((nx + 1) % 12 + 12 - min (s + 1) 12 + i) % 12 := by omega
      rw [e2] at this
      exact ⟨old _ _ (by omega) (by omega) this.1, this.2⟩
    · rw [if_neg c2, show ((nx + 1) % 12 + 12 - min (s + 1) 12 + i) % 12 = nx by omega]
      exact ⟨new, rfl⟩
theorem remembers_L1 {h : Hp} {s1 : Nat} (h1 : 1 ≤ s1) (h12 : s1 ≤ 12) (es : h 208 7 = nI s1) : ∀ n, LX12_remembers (n + 334) 1 h 0 = some (upA h 213 (fun j => if 333 * (s1 - 1) ≤ j ∧ j < 333 * (s1 - 1) + 333 then h 209 (j - 333 * (s1 - 1)) else h 213 j)) := by
  intro n
  obtain ⟨r, e, q⟩ := loopN (σ := Hp) (ρ := Hp) 333 (fun m i s => LX12_remembers m 1 s (nI i)) (fun i s => s = upA h 213 (fun j => if 333 * (s1 - 1) ≤ j ∧ j < 333 * (s1 - 1) + i then h 209 (j - 333 * (s1 - 1)) else h 213 j)) (fun r => r = upA h 213 (fun j => if 333 * (s1 - 1) ≤ j ∧ j < 333 * (s1 - 1) + 333 then h 209 (j - 333 * (s1 - 1)) else h 213 j)) (by
    rintro m i s hi rfl
    left
    refine ⟨_, rfl, ?_⟩
    try dsimp only
    have e1 : (333 : Int32) * (nI s1 - 1) + nI i = nI (333 * (s1 - 1) + i) := by rw [i_1, nI_subN h1, i_333, nI_mul, nI_add]
    rw [LX12_remembers, if_neg (by decide), if_pos rfl, BX12_remembers_1, i_333, if_neg (nI_ge hi (by decide)), ← i_333, upA_n _ _ (by decide), upA_n _ _ (by decide), es, e1, gd_in (show i < 2031 by omega) (by decide), gd_in (show 333 * (s1 - 1) + i < 3996 by omega) (by decide), nI_clamp (by omega), nI_clamp (by omega), nI_1]
    simp only [lt9_e]
    congr 1
    unfold up2
    rw [upA_s, upA_upA]
    congr 1
    funext j
    by_cases c : j = 333 * (s1 - 1) + i
    · subst c
      rw [upd_s, if_pos (by omega)]
      congr 1; omega
    · rw [upd_n _ _ c]
      by_cases c2 : 333 * (s1 - 1) ≤ j ∧ j < 333 * (s1 - 1) + i
      · rw [if_pos c2, if_pos (by omega)]
      · rw [if_neg c2, if_neg (by omega)]) (by
    rintro m s rfl
    refine ⟨_, ?_, rfl⟩
    try dsimp only
    rw [LX12_remembers, if_neg (by decide), if_pos rfl, BX12_remembers_1, i_333, if_pos (nI_le (Nat.le_refl _) (by decide))]) 333 (n + 334) 0 h rfl (by omega) (by
      rw [show (fun j => if 333 * (s1 - 1) ≤ j ∧ j < 333 * (s1 - 1) + 0 then h 209 (j - 333 * (s1 - 1)) else h 213 j) = h 213 from by
        funext j; rw [if_neg (by omega)], upA_id])
  rw [← q]; exact e
theorem remembers_m {h : Hp} {σ : St} (M : RM h σ) (hs : σ.2.1 ≤ 12) : ∃ h1, fX12_remembers h = some h1 ∧ RM h1 (rem9 σ) ∧ FI (fun k j => k = 213 ∨ (k = 208 ∧ j = 7)) h h1 := by
  obtain ⟨w, s, P, g, I, t, T, Fa⟩ := σ
  obtain ⟨m1, ⟨es, ep⟩, m3, m4, m5⟩ := M
  dsimp only at hs
  have fin : ∀ h1 : Hp, FI (fun k j => k = 213 ∨ (k = 208 ∧ j = 7)) h h1 → h1 208 7 = nI (min (s + 1) 12) → (∀ i, i < min (s + 1) 12 → ∀ k, k < 333 → h1 213 (333 * i + k) = remP w s P i k) → RM h1 (rem9 (w, s, P, g, I, t, T, Fa)) := by
    intro h1 F1 a1 a2
    have e209 : h1 209 = h 209 := F1.cell (fun j c => by omega)
    have e210 : h1 210 = h 210 := F1.cell (fun j c => by omega)
    have e214 : h1 214 = h 214 := F1.cell (fun j c => by omega)
    have e6 : h1 208 6 = h 208 6 := F1 _ _ (by omega)
    have e9 : h1 208 9 = h 208 9 := F1 _ _ (by omega)
    have e14 : h1 208 14 = h 208 14 := F1 _ _ (by omega)
    refine ⟨by rw [e209]; exact m1, ⟨a1, a2⟩, ?_, ?_, by rw [e14]; exact m5⟩
    · unfold imgM; rw [e6, e210]; exact m3
    · unfold tapM; rw [e9, e214]; exact m4
  unfold fX12_remembers
  rw [es]
  by_cases c : s = 12
  · subst c
    rw [i_12, if_pos rfl]
    obtain ⟨hL, qL, eL⟩ := rchN (σ := Hp) (ρ := Hp) (α := Hp × Int32) (fun n a => LX12_remembers n 0 a.1 a.2) (fun i s => (s, nI i)) 3663 1 (fun i s => s = upA h 213 (fun j => if j < i then h 213 (j + 333) else h 213 j)) (by
      rintro i s hi rfl
      refine ⟨_, rfl, fun n => ?_⟩
      try dsimp only
      have e1 : nI i + 333 = nI (i + 333) := by rw [i_333, nI_add]
      rw [LX12_remembers, if_pos rfl, BX12_remembers_0, i_3663, if_neg (nI_ge hi (by decide)), e1, gd_in (show i + 333 < 3996 by omega) (by decide), gd_in (show i < 3996 by omega) (by decide), nI_clamp (by omega), nI_clamp (by omega), nI_1]
      simp only [lt9_e]
      congr 1
      unfold up2
      rw [upA_s, upA_upA]
      congr 1
      funext j
      by_cases c : j = i
      · subst c
        rw [upd_s, if_neg (by omega), if_pos (by omega)]
      · rw [upd_n _ _ c]
        by_cases c2 : j < i
        · rw [if_pos c2, if_pos (by omega)]
        · rw [if_neg c2, if_neg (by omega)]) 3663 0 h rfl (by
        rw [show (fun j => if j < 0 then h 213 (j + 333) else h 213 j) = h 213 from by funext j; rw [if_neg (by omega)], upA_id])
    have es2 : hL 208 7 = nI 12 := by rw [qL, upA_n _ _ (by decide)]; exact es
    have e5 : LX12_remembers big 0 h 0 = some (upA hL 213 (fun j => if 333 * (12 - 1) ≤ j ∧ j < 333 * (12 - 1) + 333 then hL 209 (j - 333 * (12 - 1)) else hL 213 j)) := by
      have a1 : LX12_remembers big 0 h 0 = LX12_remembers ((996002 + 334 + 1) + 1 * 3663) 0 h (nI 0) := rfl
      rw [a1, eL (996002 + 334 + 1)]
      show LX12_remembers (996002 + 334 + 1) 0 hL (nI 3663) = _
      rw [LX12_remembers, if_pos rfl, BX12_remembers_0, i_3663, if_pos (nI_le (Nat.le_refl _) (by decide))]
      exact remembers_L1 (s1 := 12) (by decide) (by decide) es2 996002
    refine ⟨_, e5, fin _ ?_ ?_ ?_, ?_⟩
    · rw [qL]
      exact (FI.upA _ _ (fun j => Or.inl rfl)).trans (FI.upA _ _ (fun j => Or.inl rfl))
    · rw [upA_n _ _ (by decide)]; exact es2
    · intro i hi k hk
      rw [upA_s, qL, upA_s, upA_n _ _ (by decide)]
      unfold remP
      rw [if_pos rfl]
      by_cases c2 : i < 11
      · rw [if_neg (by omega), if_pos (by omega), if_pos c2, ← ep (i + 1) (by omega) k hk]
        exact congrArg (h 213) (by omega)
      · have : i = 11 := by omega
        subst this
        rw [if_pos (by omega), if_neg (by decide), m1]
        exact congrArg w (by omega)
    · rw [qL]
      exact (FI.upA _ _ (fun j => Or.inl rfl)).trans (FI.upA _ _ (fun j => Or.inl rfl))
  · have c' : ¬ nI s = 12 := by rw [i_12]; exact nI_ne (by omega) (by decide) c
    rw [if_neg c', nI_1]
    simp only [lt9_e]
    have es2 : (up2 h 208 7 (nI (s + 1))) 208 7 = nI (s + 1) := by rw [up2_s, upd_s]
    have e5 := remembers_L1 (s1 := s + 1) (by omega) (by omega) es2 999666
    rw [show big = 999666 + 334 from rfl]
    refine ⟨_, e5, fin _ ?_ ?_ ?_, ?_⟩
    · exact (FI.up2 _ _ (Or.inr ⟨rfl, rfl⟩)).trans (FI.upA _ _ (fun j => Or.inl rfl))
    · rw [upA_n _ _ (by decide), up2_s, upd_s]; congr 1; omega
    · intro i hi k hk
      rw [upA_s, up2_n _ _ _ (by decide), up2_n _ _ _ (by decide)]
      unfold remP
      rw [if_neg c]
      by_cases c2 : i < s
      · rw [if_neg (by omega), if_pos c2]; exact ep i c2 k hk
      · have : i = s := by omega
        subst this
        rw [if_pos (by omega), if_neg c2, m1]
        exact congrArg w (by omega)
    · exact (FI.up2 _ _ (Or.inr ⟨rfl, rfl⟩)).trans (FI.upA _ _ (fun j => Or.inl rfl))
theorem RC.set {h h' : Hp} {w w' : Nat → Int32} {s : Nat} {P : Nat → Nat → Int32} {g : Bool} {I : Nat → Int32} {t : Nat} {T : Nat → Int32} {Fa : Int32} (C : RC h (w, s, P, g, I, t, T, Fa)) (S : SKY h' 32 w') (F : FR (fun k => 32 ≤ k ∧ k ≤ 42) h h') (e2 : w' 2 = w 2) (e : ∀ i, 333 ≤ i → i < 1182 → w' i = w i) : RC h' (w', s, P, g, I, t, T, Fa) := by
  obtain ⟨h1, h2, h3, h4, h5, h6, h7⟩ := C
  refine ⟨S, h2.out e2 e, (h3.out h2 e2 e).fr F (fun j hj q => by omega), ?_, h5.fr F (fun k q => by omega), h6.fr F (fun k q => by omega), by rw [F 0 (by omega)]; exact h7⟩
  have := h4.fr F (fun k q => by omega)
  unfold pastC at this ⊢
  rw [e2]
  exact this
theorem RM_set {h h' : Hp} {w w' : Nat → Int32} {s : Nat} {P : Nat → Nat → Int32} {g : Bool} {I : Nat → Int32} {t : Nat} {T : Nat → Int32} {Fa : Int32} (M : RM h (w, s, P, g, I, t, T, Fa)) (F : FI (fun k j => k = 209 ∨ sm k j) h h') (e : h' 209 = w') : RM h' (w', s, P, g, I, t, T, Fa) := by
  obtain ⟨m1, m2, m3, m4, m5⟩ := M
  have e210 : h' 210 = h 210 := F.cell (fun j c => by unfold sm at c; omega)
  have e213 : h' 213 = h 213 := F.cell (fun j c => by unfold sm at c; omega)
  have e214 : h' 214 = h 214 := F.cell (fun j c => by unfold sm at c; omega)
  have e6 : h' 208 6 = h 208 6 := F _ _ (fun c => by unfold sm at c; omega)
  have e7 : h' 208 7 = h 208 7 := F _ _ (fun c => by unfold sm at c; omega)
  have e9 : h' 208 9 = h 208 9 := F _ _ (fun c => by unfold sm at c; omega)
  have e14 : h' 208 14 = h 208 14 := F _ _ (fun c => by unfold sm at c; omega)
  unfold RM pastM imgM tapM
  try dsimp only
  rw [e210, e213, e214, e6, e7, e9, e14]
  exact ⟨e, m2, m3, m4, m5⟩
/-- an act: remembered, then the row changes -/
def setW (σ : St) (w' : Nat → Int32) : St := match σ with
  | (_, s, P, g, I, t, T, F) => (w', s, P, g, I, t, T, F)
theorem rem9_1 (σ : St) : (rem9 σ).1 = σ.1 := by obtain ⟨w, s, P, g, I, t, T, Fa⟩ := σ; rfl
theorem RC.s12 {h : Hp} {σ : St} (C : RC h σ) : σ.2.1 ≤ 12 := by
  obtain ⟨w, s, P, g, I, t, T, Fa⟩ := σ
  exact C.2.2.2.1.1
theorem RC.sky {h : Hp} {σ : St} (C : RC h σ) : SKY h 32 σ.1 := by
  obtain ⟨w, s, P, g, I, t, T, Fa⟩ := σ
  exact C.1
theorem RC.setw {h h' : Hp} {σ : St} (C : RC h σ) {w' : Nat → Int32} (S : SKY h' 32 w') (F : FR (fun k => 32 ≤ k ∧ k ≤ 42) h h') (e2 : w' 2 = σ.1 2) (e : ∀ i, 333 ≤ i → i < 1182 → w' i = σ.1 i) : RC h' (setW σ w') := by
  obtain ⟨w, s, P, g, I, t, T, Fa⟩ := σ
  exact C.set S F e2 e
theorem RM_setw {h h' : Hp} {σ : St} (M : RM h σ) {w' : Nat → Int32} (F : FI (fun k j => k = 209 ∨ sm k j) h h') (e : h' 209 = w') : RM h' (setW σ w') := by
  obtain ⟨w, s, P, g, I, t, T, Fa⟩ := σ
  exact RM_set M F e
theorem opT_act {h : Hp} {σ : St} (C : RC h σ) {cs : List (Nat × Int32)} {fx : Option (Int32 × Nat × Hp)} {fm : Hp → Option (Int32 × Hp)} {r : Int32} {h1 h2 : Hp} {w' : Nat → Int32} (C1 : RC h1 (rem9 σ)) (F0 : FR (fun k => k = 18 ∨ (76 ≤ k ∧ k < 208)) h h1) (e1 : fx = some (r, 0, h2)) (S : SKY h2 32 w') (F1 : FR (fun k => 32 ≤ k ∧ k ≤ 42) h1 h2) (e2 : w' 2 = σ.1 2) (e : ∀ i, 333 ≤ i → i < 1182 → w' i = σ.1 i)
    (hm : ∀ ha hb, fX12_remembers (up2 ha 208 0 0) = some hb → hb 209 = σ.1 → ha 209 = σ.1 → ∃ hc, fm ha = some (r, hc) ∧ hc 209 = w' ∧ FI (fun k _ => k = 209) hb hc) : OpT h σ cs fx fm := by
  refine ⟨r, 0, 0, h2, setW (rem9 σ) w', e1, by simp, C1.setw S F1 (by rw [rem9_1]; exact e2) (by rw [rem9_1]; exact e), (F0.mono (fun k q => by unfold cX; omega)).trans (F1.mono (fun k q => by unfold cX; omega)), fun ha M => ?_⟩
  obtain ⟨hb, eb, Mb, Fb⟩ := remembers_m (M.sm (t0s (j := 0) ha 0 (by omega))) C.s12
  have wb : hb 209 = σ.1 := by have := Mb.w; rw [rem9_1] at this; exact this
  obtain ⟨hc, ec, wc, Fc⟩ := hm ha hb eb wb M.w
  refine ⟨r, hc, ec, RM_setw Mb (Fc.mono (fun k j q => Or.inl q)) wc, ((t0M ha 0 0).trans (Fb.mono (D := cM) (fun k j q => by unfold cM; omega))).trans (Fc.mono (D := cM) (fun k j q => by unfold cM; omega)), ?_, fun _ => rfl⟩
  rw [Fc 208 0 (by omega), Fb 208 0 (by omega)]
  exact z00 ha
theorem thr_T {h : Hp} {σ : St} (C : RC h σ) {cs : List (Nat × Int32)} {fx : Option (Int32 × Nat × Hp)} {fm : Hp → Option (Int32 × Hp)} (k : Nat) (c : Int32) (hk : (k, c) ∈ cs) (h0 : k ≠ 0) (e1 : fx = some (0, k, h)) (hm : ∀ ha, ha 209 = σ.1 → fm ha = some (0, up2 (up2 ha 208 0 0) 208 0 c)) : OpT h σ cs fx fm :=
  opT_ask C e1 (List.mem_cons_of_mem _ hk) (FR.refl _ _) (fun ha M => ⟨0, _, hm ha M.w, (a0 _ _ (by omega)).trans (a0 _ _ (by omega)), by rw [up2_s, upd_s], fun q => absurd q h0⟩)
theorem height_T {h : Hp} {σ : St} (C : RC h σ) (x : Int32) : OpT h σ [(3, 1)] (fX11_height h x) (fun ha => fX12_height ha x) := by
  rcases num_cases x 1 40 (by decide) (by decide) with ⟨c1, c2⟩ | ⟨n, hn1, hn, rfl, c1, c2⟩
  · have c1' : fX11_checkNumber x 1 40 = 3 := c1
    have c2' : fX12_in x 1 40 = 0 := c2
    exact thr_T C 3 1 (by simp) (by decide) (by unfold fX11_height; rw [c1']; rfl) (fun ha w => by unfold fX12_height; rw [c2']; rfl)
  · have c1' : fX11_checkNumber (nI n) 1 40 = 0 := c1
    have c2' : fX12_in (nI n) 1 40 = 1 := c2
    obtain ⟨h1, e1, C1, F1⟩ := remember_x C
    have S1 : SKY h1 32 σ.1 := by have := C1.sky; rw [rem9_1] at this; exact this
    have G2 : GW (upd σ.1 4 (nI n)) := S1.2.1.set (by decide) rfl (show n ≤ 40 from hn) (by decide) (fun _ => by omega) (fun q => by omega) (fun k _ => by omega)
    have S2 : SKY (up2 h1 32 8 (nI n)) 32 (upd σ.1 4 (nI n)) := S1.up (i := 4) (c := 0) rfl (by decide) (by decide) (by decide) G2
    refine opT_act C C1 F1 (r := σ.1 4) (h2 := up2 h1 32 8 (nI n)) ?_ S2 (FR.up2 _ _ _ (by omega)) (upd_n _ _ (by decide)) (fun i _ _ => upd_n _ _ (by omega)) (fun ha hb eb wb wa => ?_)
    · unfold fX11_height
      rw [c1', if_pos rfl, e1, cl9_some]
      simp only [lt9_e]
      have e4 : h1 32 8 = σ.1 4 := S1.1.get (i := 4) (c := 0) rfl (by decide) (by decide)
      rw [e4]
    · refine ⟨up2 hb 209 4 (nI n), ?_, by rw [up2_s, wb], FI.up2 _ _ rfl⟩
      unfold fX12_height
      simp only [lt9_e]
      rw [c2', if_neg (by decide), cl9_some, throws_0, cl2_some, if_pos rfl, eb, cl9_some, i_4, gd_in (by decide) (by decide), wb]
      rfl
theorem fell_T {h : Hp} {σ : St} (C : RC h σ) (x : Int32) : OpT h σ [(1, 1)] (fX11_fell h x) (fun ha => fX12_fell ha x) := by
  rcases place_cases x with ⟨c1, c2⟩ | ⟨p, hp, rfl, c1, c2⟩
  · exact thr_T C 1 1 (by simp) (by decide) (by unfold fX11_fell; rw [c1]; rfl) (fun ha w => by unfold fX12_fell; rw [c2]; rfl)
  · obtain ⟨h1, e1, C1, F1⟩ := remember_x C
    have S1 : SKY h1 32 σ.1 := by have := C1.sky; rw [rem9_1] at this; exact this
    have G2 : GW (upd σ.1 (46 + p) 0) := S1.2.1.set (n := 0) (by omega) (spc_n (by omega)) (Nat.zero_le _) (by omega) (fun _ => by omega) (fun q => by omega) (fun k _ => by omega)
    have S2 : SKY (up2 h1 (32 + 3) p 0) 32 (upd σ.1 (46 + p) 0) := S1.up (loc_t hp) (by omega) (by omega) (by omega) G2
    refine opT_act C C1 F1 (r := σ.1 (46 + p)) (h2 := up2 h1 (32 + 3) p 0) ?_ S2 (FR.up2 _ _ _ (by omega)) (upd_n _ _ (by omega)) (fun i _ _ => upd_n _ _ (by omega)) (fun ha hb eb wb wa => ?_)
    · unfold fX11_fell
      rw [c1, if_pos rfl, e1, cl9_some, gd_in hp (by decide), gd_in hp (by decide), nI_clamp (by omega)]
      simp only [lt9_e]
      have e4 : h1 (32 + 3) p = σ.1 (46 + p) := S1.1.get (loc_t hp) (by omega) (by omega)
      rw [e4]
    · refine ⟨up2 hb 209 (46 + p) 0, ?_, by rw [up2_s, wb], FI.up2 _ _ rfl⟩
      unfold fX12_fell
      simp only [lt9_e]
      rw [c2, throws_0, cl2_some, if_pos rfl, eb, cl9_some, i_46, nI_add, gd_in (by omega) (by decide), gd_in (by omega) (by decide), nI_clamp (by omega), wb]
/-! the pinners' acts -/
theorem at_0 (k : Nat) : fX12_at (nI k) 0 = nI (78 + 3 * k) := by
  unfold fX12_at
  rw [i_78, i_3, nI_mul, nI_add, i_0, nI_add, Nat.add_zero]
theorem at_1 (k : Nat) : fX12_at (nI k) 1 = nI (79 + 3 * k) := by
  unfold fX12_at
  rw [i_78, i_3, nI_mul, nI_add, i_1, nI_add]
  exact congrArg nI (by omega)
theorem at_2 (k : Nat) : fX12_at (nI k) 2 = nI (80 + 3 * k) := by
  unfold fX12_at
  rw [i_78, i_3, nI_mul, nI_add, i_2, nI_add]
  exact congrArg nI (by omega)
theorem of_0 {h : Hp} {w : Nat → Int32} (hw : h 209 = w) {k : Nat} (hk : k < 5) : fX12_of h (nI k) 0 = some (w (78 + 3 * k)) := by
  unfold fX12_of
  rw [at_0, gd_in (by omega) (by decide), nI_clamp (by omega), hw]
theorem of_1 {h : Hp} {w : Nat → Int32} (hw : h 209 = w) {k : Nat} (hk : k < 5) : fX12_of h (nI k) 1 = some (w (79 + 3 * k)) := by
  unfold fX12_of
  rw [at_1, gd_in (by omega) (by decide), nI_clamp (by omega), hw]
theorem of_2 {h : Hp} {w : Nat → Int32} (hw : h 209 = w) {k : Nat} (hk : k < 5) : fX12_of h (nI k) 2 = some (w (80 + 3 * k)) := by
  unfold fX12_of
  rw [at_2, gd_in (by omega) (by decide), nI_clamp (by omega), hw]
theorem go_T {h : Hp} {σ : St} (C : RC h σ) (x y : Int32) : OpT h σ [(1, 1), (3, 2)] (fX11_go h x y) (fun ha => fX12_go ha x y) := by
  have H := C.cs
  obtain ⟨n, hn, en⟩ := H.2.1.n0
  have e0 : h 37 0 = nI n := by rw [← en]; exact H.f0
  rcases pinner_cases x hn e0 with ⟨c1, c2⟩ | ⟨k, hk, rfl, c1, c2⟩
  · exact thr_T C 1 1 (by simp) (by decide) (by unfold fX11_go; rw [c1]; rfl) (fun ha w => by unfold fX12_go; simp only [lt9_e]; rw [c2 _ (by rw [up2_n _ _ _ (by decide), w]; exact en)]; rfl)
  · rcases place_cases y with ⟨d1, d2⟩ | ⟨p, hp, rfl, d1, d2⟩
    · exact thr_T C 1 1 (by simp) (by decide) (by unfold fX11_go; rw [c1, d1]; rfl) (fun ha w => by unfold fX12_go; simp only [lt9_e]; rw [c2 _ (by rw [up2_n _ _ _ (by decide), w]; exact en), d2]; rfl)
    · have hk5 : k < 5 := by omega
      obtain ⟨a, ha1, ea⟩ := H.2.1.spot hk5
      obtain ⟨q, hq, eq⟩ := H.2.1.pace hk5
      have hb : adif a p < 2 ^ 30 := by unfold adif; omega
      have ex : fX11_go h (nI k) (nI p) = if nI (adif a p) ≤ nI q then cl9 (fX5_remember h 32) (fun h7 => some (nI (adif a p), 0, up2 h7 (32 + 6) k (nI p))) else some (0, 3, h) := by
        unfold fX11_go
        simp only [gd_in hk5 (show 5 < 2 ^ 31 by decide), nI_clamp (show k < 2 ^ 31 by omega), lt9_e]
        rw [c1, if_pos rfl, d1, if_pos rfl, H.spot hk5, H.pace hk5, ea, eq, jabs_n (by omega) (by omega)]
      have em : ∀ ha, ha 209 = σ.1 → fX12_go ha (nI k) (nI p) = if nI (adif a p) ≤ nI q then cl9 (fX12_remembers (up2 ha 208 0 0)) (fun h28 => some (nI (adif a p), up2 h28 209 (78 + 3 * k) (nI p))) else some (0, up2 (up2 ha 208 0 0) 208 0 2) := by
        intro ha wa
        have w1 : (up2 ha 208 0 0) 209 = σ.1 := by rw [up2_n _ _ _ (by decide)]; exact wa
        unfold fX12_go
        simp only [lt9_e]
        rw [c2 _ (by rw [w1]; exact en), d2, if_pos rfl, if_pos rfl, cl9_some]
        simp only [Bool.false_eq_true, if_false]
        rw [cl9_some, throws_0, cl2_some, if_pos rfl, of_0 w1 hk5, cl9_some, of_1 w1 hk5, cl9_some, ea, eq, jabs_n (by omega) (by omega)]
        by_cases c : nI (adif a p) ≤ nI q
        · rw [if_pos c, if_pos c, cl9_some, throws_0, cl2_some, if_pos rfl]
          simp only [at_0, gd_in (show 78 + 3 * k < 2031 by omega) (show 2031 < 2 ^ 31 by decide), nI_clamp (show 78 + 3 * k < 2 ^ 31 by omega)]
        · rw [if_neg c, if_neg c, cl9_some, throws_1, cl2_some, if_neg (by decide)]
      by_cases c : adif a p ≤ q
      · obtain ⟨h1, e1, C1, F1⟩ := remember_x C
        have S1 : SKY h1 32 σ.1 := by have := C1.sky; rw [rem9_1] at this; exact this
        have G2 : GW (upd σ.1 (78 + 3 * k) (nI p)) := S1.2.1.set (by omega) (spc_n (by omega)) (by rw [hiT_at hk5]; omega) (by omega) (fun _ => by omega) (fun q => by omega) (fun k _ => by omega)
        have S2 : SKY (up2 h1 (32 + 6) k (nI p)) 32 (upd σ.1 (78 + 3 * k) (nI p)) := S1.up (loc_at hk5) (by omega) (by omega) (by omega) G2
        refine opT_act C C1 F1 (r := nI (adif a p)) (h2 := up2 h1 (32 + 6) k (nI p)) ?_ S2 (FR.up2 _ _ _ (by omega)) (upd_n _ _ (by omega)) (fun i _ _ => upd_n _ _ (by omega)) (fun ha hb eb wb wa => ⟨up2 hb 209 (78 + 3 * k) (nI p), ?_, by rw [up2_s, wb], FI.up2 _ _ rfl⟩)
        · rw [ex, if_pos (nI_le c (by omega)), e1, cl9_some]
        · rw [em ha wa, if_pos (nI_le c (by omega)), eb, cl9_some]
      · refine thr_T C 3 2 (by simp) (by decide) ?_ (fun ha wa => ?_)
        · rw [ex, if_neg (nI_ge (by omega) (by omega))]
        · rw [em ha wa, if_neg (nI_ge (by omega) (by omega))]

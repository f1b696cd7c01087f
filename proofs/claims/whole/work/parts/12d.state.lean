/-! The state of both sides. -/
def LG (f : Nat → Nat → Int32) (w : Nat → Int32) : Prop := ∃ nx m, nx < 60 ∧ m ≤ 60 ∧ w 11 = nI m ∧ f 9 2 = nI nx ∧ ∀ j, j < m → ∃ d p a r : Nat, d ≤ 9999 ∧ p < 16 ∧ a < 4 ∧ r ≤ 99 ∧ f 10 ((nx + 59 - j) % 60) = nI (d * 65536 + p * 4096 + a * 256 + r) ∧ w (93 + 4 * j) = nI d ∧ w (94 + 4 * j) = nI p ∧ w (95 + 4 * j) = nI a ∧ w (96 + 4 * j) = nI r
theorem LG.fr {C : Nat → Prop} {h h' : Hp} {b : Nat} {w : Nat → Int32} (H : LG (SV h b) w) (F : FR C h h') (hc : ∀ j, j ≤ 10 → ¬ C (b + j)) : LG (SV h' b) w := by
  have e9 : SV h' b 9 = SV h b 9 := F _ (hc 9 (by decide))
  have e10 : SV h' b 10 = SV h b 10 := F _ (hc 10 (by decide))
  unfold LG at H ⊢
  rw [e9, e10]
  exact H
theorem LG.out {f : Nat → Nat → Int32} {w w' : Nat → Int32} (H : LG f w) (e : ∀ i, i = 11 ∨ 93 ≤ i → i < 333 → w' i = w i) : LG f w' := by
  obtain ⟨nx, m, h1, h2, h3, h4, h5⟩ := H
  refine ⟨nx, m, h1, h2, by rw [e 11 (by omega) (by decide)]; exact h3, h4, fun j hj => ?_⟩
  rw [e (93 + 4 * j) (by omega) (by omega), e (94 + 4 * j) (by omega) (by omega), e (95 + 4 * j) (by omega) (by omega), e (96 + 4 * j) (by omega) (by omega)]
  exact h5 j hj
def SKY (h : Hp) (b : Nat) (w : Nat → Int32) : Prop := SKs (SV h b) w ∧ GW w ∧ LG (SV h b) w
theorem SKY.fr {C : Nat → Prop} {h h' : Hp} {b : Nat} {w : Nat → Int32} (H : SKY h b w) (F : FR C h h') (hc : ∀ j, j ≤ 10 → ¬ C (b + j)) : SKY h' b w := ⟨H.1.fr F hc, H.2.1, H.2.2.fr F hc⟩
theorem SKY.out {h : Hp} {b : Nat} {w w' : Nat → Int32} (H : SKY h b w) (e : ∀ i, i < 333 → w' i = w i) : SKY h b w' := ⟨H.1.out (fun i hi _ => e i (by omega)), H.2.1.out (fun i hi => e i (by omega)), H.2.2.out (fun i _ hi => e i hi)⟩
def byteR (x : Int32) : Prop := x.toInt8.toInt32 = x
abbrev St : Type := (Nat → Int32) × Nat × (Nat → Nat → Int32) × Bool × (Nat → Int32) × Nat × (Nat → Int32) × Int32
def pastC (h : Hp) (w : Nat → Int32) (s : Nat) (P : Nat → Nat → Int32) : Prop := s ≤ 12 ∧ h 18 1 = nI s ∧ ∃ nx, nx < 12 ∧ h 18 2 = nI nx ∧ ∀ i, i < s → SKY h (76 + 11 * ((nx + 12 - s + i) % 12)) (P i) ∧ P i 2 = w 2
def imgC (h : Hp) (g : Bool) (I : Nat → Int32) : Prop := h 0 10 = bI g ∧ (g = true → SKY h 54 I ∧ lawM I ∧ lawC h 24 I)
def tapC (h : Hp) (t : Nat) (T : Nat → Int32) : Prop := t ≤ 400 ∧ h 1 1 = nI t ∧ ∀ j, j < t → h 2 j = T j ∧ byteR (T j)
def RC (h : Hp) (σ : St) : Prop := match σ with
  | (w, s, P, g, I, t, T, F) => SKY h 32 w ∧ lawM w ∧ lawC h 6 w ∧ pastC h w s P ∧ imgC h g I ∧ tapC h t T ∧ h 0 11 = F
def pastM (h : Hp) (s : Nat) (P : Nat → Nat → Int32) : Prop := h 208 7 = nI s ∧ ∀ i, i < s → ∀ k, k < 333 → h 213 (333 * i + k) = P i k
def imgM (h : Hp) (g : Bool) (I : Nat → Int32) : Prop := h 208 6 = bI g ∧ (g = true → ∀ k, k < 1182 → h 210 k = I k)
def tapM (h : Hp) (t : Nat) (T : Nat → Int32) : Prop := h 208 9 = nI t ∧ ∀ j, j < t → h 214 j = T j
def RM (h : Hp) (σ : St) : Prop := match σ with
  | (w, s, P, g, I, t, T, F) => h 209 = w ∧ pastM h s P ∧ imgM h g I ∧ tapM h t T ∧ h 208 14 = F
def REL (h : Hp) : Prop := ∃ σ, RC h σ ∧ RM h σ
/-- cells of the class that its answers don't hang on, and the reference's -/
def sc (k : Nat) : Prop := k = 4 ∨ k = 5 ∨ (13 ≤ k ∧ k ≤ 17) ∨ (20 ≤ k ∧ k ≤ 23) ∨ (29 ≤ k ∧ k ≤ 31) ∨ (43 ≤ k ∧ k ≤ 53) ∨ (65 ≤ k ∧ k ≤ 75) ∨ 208 ≤ k
def sm (k j : Nat) : Prop := k < 208 ∨ k = 211 ∨ k = 212 ∨ 215 ≤ k ∨ (k = 208 ∧ ¬ (j = 6 ∨ j = 7 ∨ j = 9 ∨ j = 14))
def cX (k : Nat) : Prop := k < 208 ∨ k = 221
def cM (k _j : Nat) : Prop := 208 ≤ k ∧ k ≠ 221
theorem pastC.fr {C : Nat → Prop} {h h' : Hp} {w : Nat → Int32} {s : Nat} {P : Nat → Nat → Int32} (H : pastC h w s P) (F : FR C h h') (hc : ∀ k, C k → k ≠ 18 ∧ (k < 76 ∨ 208 ≤ k)) : pastC h' w s P := by
  obtain ⟨h1, h2, nx, h3, h4, h5⟩ := H
  have e : h' 18 = h 18 := F 18 (fun c => (hc 18 c).1 rfl)
  refine ⟨h1, by rw [e]; exact h2, nx, h3, by rw [e]; exact h4, fun i hi => ⟨(h5 i hi).1.fr F (fun j hj c => ?_), (h5 i hi).2⟩⟩
  have := (hc _ c).2
  have : (nx + 12 - s + i) % 12 < 12 := Nat.mod_lt _ (by decide)
  omega
theorem imgC.fr {C : Nat → Prop} {h h' : Hp} {g : Bool} {I : Nat → Int32} (H : imgC h g I) (F : FR C h h') (hc : ∀ k, C k → k ≠ 0 ∧ ¬ (24 ≤ k ∧ k ≤ 28) ∧ ¬ (54 ≤ k ∧ k ≤ 64)) : imgC h' g I := by
  have e : h' 0 = h 0 := F 0 (fun c => (hc 0 c).1 rfl)
  refine ⟨by rw [e]; exact H.1, fun q => ⟨(H.2 q).1.fr F (fun j hj c => by have := hc _ c; omega), (H.2 q).2.1, (H.2 q).2.2.fr F (fun j hj c => by have := hc _ c; omega)⟩⟩
theorem tapC.fr {C : Nat → Prop} {h h' : Hp} {t : Nat} {T : Nat → Int32} (H : tapC h t T) (F : FR C h h') (hc : ∀ k, C k → k ≠ 1 ∧ k ≠ 2) : tapC h' t T := by
  have e : h' 1 = h 1 := F 1 (fun c => (hc 1 c).1 rfl)
  have e2 : h' 2 = h 2 := F 2 (fun c => (hc 2 c).2 rfl)
  unfold tapC at H ⊢
  rw [e, e2]; exact H
theorem RC.sc {h h' : Hp} {σ : St} (H : RC h σ) (F : FR sc h h') : RC h' σ := by
  obtain ⟨w, s, P, g, I, t, T, Fa⟩ := σ
  obtain ⟨h1, h2, h3, h4, h5, h6, h7⟩ := H
  refine ⟨h1.fr F (fun j hj c => ?_), h2, h3.fr F (fun j hj c => ?_), h4.fr F (fun k c => ?_), h5.fr F (fun k c => ?_), h6.fr F (fun k c => ?_), ?_⟩
  · unfold Jvm.Pilot.CPinnedSkyLaw_law_r9688_3432f8.sc at c; omega
  · unfold Jvm.Pilot.CPinnedSkyLaw_law_r9688_3432f8.sc at c; omega
  · unfold Jvm.Pilot.CPinnedSkyLaw_law_r9688_3432f8.sc at c; omega
  · unfold Jvm.Pilot.CPinnedSkyLaw_law_r9688_3432f8.sc at c; omega
  · unfold Jvm.Pilot.CPinnedSkyLaw_law_r9688_3432f8.sc at c; omega
  · rw [F 0 (by unfold Jvm.Pilot.CPinnedSkyLaw_law_r9688_3432f8.sc; omega)]; exact h7
theorem RM.sm {h h' : Hp} {σ : St} (H : RM h σ) (F : FI sm h h') : RM h' σ := by
  obtain ⟨w, s, P, g, I, t, T, Fa⟩ := σ
  obtain ⟨h1, h2, h3, h4, h5⟩ := H
  have e209 : h' 209 = h 209 := F.cell (fun j c => by unfold Jvm.Pilot.CPinnedSkyLaw_law_r9688_3432f8.sm at c; omega)
  have e210 : h' 210 = h 210 := F.cell (fun j c => by unfold Jvm.Pilot.CPinnedSkyLaw_law_r9688_3432f8.sm at c; omega)
  have e213 : h' 213 = h 213 := F.cell (fun j c => by unfold Jvm.Pilot.CPinnedSkyLaw_law_r9688_3432f8.sm at c; omega)
  have e214 : h' 214 = h 214 := F.cell (fun j c => by unfold Jvm.Pilot.CPinnedSkyLaw_law_r9688_3432f8.sm at c; omega)
  have e6 : h' 208 6 = h 208 6 := F _ _ (fun c => by unfold Jvm.Pilot.CPinnedSkyLaw_law_r9688_3432f8.sm at c; omega)
  have e7 : h' 208 7 = h 208 7 := F _ _ (fun c => by unfold Jvm.Pilot.CPinnedSkyLaw_law_r9688_3432f8.sm at c; omega)
  have e9 : h' 208 9 = h 208 9 := F _ _ (fun c => by unfold Jvm.Pilot.CPinnedSkyLaw_law_r9688_3432f8.sm at c; omega)
  have e14 : h' 208 14 = h 208 14 := F _ _ (fun c => by unfold Jvm.Pilot.CPinnedSkyLaw_law_r9688_3432f8.sm at c; omega)
  unfold RM pastM imgM tapM
  try dsimp only
  rw [e209, e210, e213, e214, e6, e7, e9, e14]
  exact ⟨h1, h2, h3, h4, h5⟩
theorem RM.cx {h h' : Hp} {σ : St} (H : RM h σ) (F : FR cX h h') : RM h' σ := H.sm (fun k j c => by rw [F k (fun q => c (by unfold Jvm.Pilot.CPinnedSkyLaw_law_r9688_3432f8.sm; unfold cX at q; omega))])
theorem RC.cm {h h' : Hp} {σ : St} (H : RC h σ) (F : FI cM h h') : RC h' σ := H.sc (fun k c => F.cell (fun j q => c (by unfold Jvm.Pilot.CPinnedSkyLaw_law_r9688_3432f8.sc; unfold cM at q; omega)))
/-- a call that doesn't throw, on both sides -/
def OpN (h : Hp) (σ : St) (fx : Option (Int32 × Hp)) (fm : Hp → Option (Int32 × Hp)) : Prop := ∃ r h1 σ', fx = some (r, h1) ∧ RC h1 σ' ∧ FR cX h h1 ∧ ∀ ha, RM ha σ → ∃ h2, fm ha = some (r, h2) ∧ RM h2 σ' ∧ FI cM ha h2
/-- one that may throw; cs: the kinds of throw of the class and the codes of the reference -/
def OpT (h : Hp) (σ : St) (cs : List (Nat × Int32)) (fx : Option (Int32 × Nat × Hp)) (fm : Hp → Option (Int32 × Hp)) : Prop := ∃ r k c h1 σ', fx = some (r, k, h1) ∧ (k, c) ∈ ((0, 0) :: cs) ∧ RC h1 σ' ∧ FR cX h h1 ∧ ∀ ha, RM ha σ → ∃ r' h2, fm ha = some (r', h2) ∧ RM h2 σ' ∧ FI cM ha h2 ∧ h2 208 0 = c ∧ (k = 0 → r' = r)
theorem glueN {h : Hp} {σ : St} {fx : Option (Int32 × Hp)} {fm : Hp → Option (Int32 × Hp)} (O : OpN h σ fx fm) (M : RM h σ) (k : Hp → Option Int32) : ∃ h', REL h' ∧ cl2 fx (fun x3 h1 => cl2 (fm h1) (fun x6 h4 => if x3 = x6 then k h4 else some 0)) = k h' := by
  obtain ⟨r, h1, σ', e1, C1, F1, O⟩ := O
  obtain ⟨h2, e2, M2, F2⟩ := O h1 (M.cx F1)
  refine ⟨h2, ⟨σ', C1.cm F2, M2⟩, ?_⟩
  rw [e1, cl2_some, e2, cl2_some, if_pos rfl]
theorem lg_cmp_self (x : Int64) : lg_cmp x x = 0 := by
  unfold lg_cmp
  simp
theorem glueT {h : Hp} {σ : St} {cs : List (Nat × Int32)} {fx : Option (Int32 × Nat × Hp)} {fm : Hp → Option (Int32 × Hp)} (O : OpT h σ cs fx fm) (M : RM h σ) {fl : Option (Int32 × Hp)}
    (hl0 : ∀ r h1, fx = some (r, 0, h1) → fl = some (0, up2 h1 221 0 r)) (hl : ∀ r k c h1, fx = some (r, k, h1) → (k, c) ∈ cs → k ≠ 0 ∧ c ≠ 0 ∧ fl = some (c, h1)) (k : Hp → Option Int32) : ∃ h', REL h' ∧ cl2 fl (fun x2 h3 => cl2 (fm h3) (fun x8 h6 => (if (fX12_thrown h6) = x2 then (if x2 = (0 : Int32) then (if (lg_cmp ((h6 221 0).toInt64) (x8.toInt64)) = 0 then k h6 else some 0) else k h6) else some 0))) = k h' := by
  obtain ⟨r, kk, c, h1, σ', e1, hm, C1, F1, O⟩ := O
  rcases List.mem_cons.mp hm with q | q
  · cases q
    have F2 : FR cX h (up2 h1 221 0 r) := F1.trans (FR.up2 _ _ _ (Or.inr rfl))
    obtain ⟨r', h2, e2, M2, F3, t2, q2⟩ := O (up2 h1 221 0 r) (M.cx F2)
    have C2 : RC (up2 h1 221 0 r) σ' := C1.sc (FR.up2 _ _ _ (by unfold sc; omega))
    refine ⟨h2, ⟨σ', C2.cm F3, M2⟩, ?_⟩
    have e3 : h2 221 = up2 h1 221 0 r 221 := F3.cell (fun j c => c.2 rfl)
    rw [hl0 r h1 e1, cl2_some, e2, cl2_some, if_pos (show fX12_thrown h2 = 0 from t2), if_pos rfl, e3, up2_s, upd_s, q2 rfl, lg_cmp_self, if_pos rfl]
  · obtain ⟨a1, a2, a3⟩ := hl r kk c h1 e1 q
    obtain ⟨r', h2, e2, M2, F3, t2, q2⟩ := O h1 (M.cx F1)
    refine ⟨h2, ⟨σ', C1.cm F3, M2⟩, ?_⟩
    rw [a3, cl2_some, e2, cl2_some, if_pos (show fX12_thrown h2 = c from t2), if_neg a2]
/-! the arguments -/
theorem throws_0 (h : Hp) (c : Int32) : fX12_throwsIf h 0 c = some (0, h) := rfl
theorem throws_1 (h : Hp) (c : Int32) : fX12_throwsIf h 1 c = some (1, up2 h 208 0 c) := rfl
theorem in_n {lo hi n : Nat} (h1 : lo ≤ n) (h2 : n ≤ hi) (hh : hi < 2 ^ 31) : fX12_in (nI n) (nI lo) (nI hi) = 1 := by
  unfold fX12_in
  rw [if_neg (nI_nlt h1 (by omega)), if_neg (nI_nlt h2 hh)]
theorem num_cases (x : Int32) (lo hi : Nat) (hh : hi < 2 ^ 30) (hl : lo < 2 ^ 30) : (fX11_checkNumber x (nI lo) (nI hi) = 3 ∧ fX12_in x (nI lo) (nI hi) = 0) ∨ ∃ n, lo ≤ n ∧ n ≤ hi ∧ x = nI n ∧ fX11_checkNumber x (nI lo) (nI hi) = 0 ∧ fX12_in x (nI lo) (nI hi) = 1 := by
  rcases pk_ix x (n := hi + 1) (by omega) with c | c | ⟨n, hn, rfl⟩
  · left
    have q : x < nI lo := by
      rw [Int32.lt_iff_toInt_lt, nI_toInt (by omega)]
      rw [Int32.lt_iff_toInt_lt] at c
      have : (0 : Int32).toInt = 0 := rfl
      omega
    unfold fX11_checkNumber fX12_in
    rw [if_pos q, if_pos q]
    exact ⟨rfl, rfl⟩
  · left
    have q : nI hi < x := by
      rw [Int32.lt_iff_toInt_lt, nI_toInt (by omega)]
      rw [Int32.le_iff_toInt_le, nI_toInt (by omega)] at c
      omega
    unfold fX11_checkNumber fX12_in
    rw [if_pos q, if_neg (Int32.not_le.mpr q)]
    by_cases d : x < nI lo
    · rw [if_pos d, if_pos d]; exact ⟨rfl, rfl⟩
    · rw [if_neg d, if_neg d]; exact ⟨rfl, rfl⟩
  · by_cases d : n < lo
    · left
      have q := nI_lt d (by omega)
      unfold fX11_checkNumber fX12_in
      rw [if_pos q, if_pos q]; exact ⟨rfl, rfl⟩
    · right
      refine ⟨n, by omega, by omega, rfl, ?_, in_n (by omega) (by omega) (by omega)⟩
      unfold fX11_checkNumber
      rw [if_neg (nI_nlt (by omega) (by omega)), if_pos (nI_le (by omega) (by omega))]
      rfl
theorem place_cases (x : Int32) : (fX11_checkPlace x = 1 ∧ fX12_noPlace x = 1) ∨ ∃ p, p < 16 ∧ x = nI p ∧ fX11_checkPlace x = 0 ∧ fX12_noPlace x = 0 := by
  rcases pk_ix x (n := 16) (by decide) with c | c | ⟨n, hn, rfl⟩
  · left
    unfold fX11_checkPlace fX12_noPlace fX12_in
    rw [if_pos c, if_pos c]
    exact ⟨rfl, rfl⟩
  · left
    have q : nI 15 < x := by
      rw [Int32.lt_iff_toInt_lt, nI_toInt (by omega)]
      rw [Int32.le_iff_toInt_le, nI_toInt (by omega)] at c
      omega
    have d : ¬ x < 0 := by
      rw [Int32.lt_iff_toInt_lt] at q ⊢
      have : (0 : Int32).toInt = 0 := rfl
      have : (nI 15).toInt = 15 := rfl
      omega
    unfold fX11_checkPlace fX12_noPlace fX12_in
    rw [if_neg d, if_neg d, i_16, if_neg (Int32.not_lt.mpr c), show (15 : Int32) = nI 15 from rfl, if_pos q]
    exact ⟨rfl, rfl⟩
  · right
    refine ⟨n, hn, rfl, ?_, ?_⟩
    · unfold fX11_checkPlace
      rw [if_neg (nI_pos (by omega)), i_16, if_pos (nI_lt hn (by decide))]; rfl
    · unfold fX12_noPlace
      rw [show (0 : Int32) = nI 0 from rfl, show (15 : Int32) = nI 15 from rfl, in_n (by omega) (by omega) (by decide)]; rfl
theorem pinner_cases (x : Int32) {n : Nat} (hn : n ≤ 5) {h : Hp} (e : h 37 0 = nI n) : (fX11_checkPinner h x = 1 ∧ ∀ ha, ha 209 0 = nI n → fX12_noPinner ha x = 1) ∨ ∃ k, k < n ∧ x = nI k ∧ fX11_checkPinner h x = 0 ∧ ∀ ha, ha 209 0 = nI n → fX12_noPinner ha x = 0 := by
  have e2 : h (32 + 5) 0 = nI n := e
  rcases pk_ix x (n := n) (by omega) with c | c | ⟨k, hk, rfl⟩
  · left
    unfold fX11_checkPinner fX12_noPinner fX12_in
    rw [if_pos c]
    refine ⟨rfl, fun ha q => ?_⟩
    rw [if_pos c]; rfl
  · left
    unfold fX11_checkPinner fX12_noPinner fX12_in fX12_pinners
    have d : ¬ x < 0 := by
      rw [Int32.le_iff_toInt_le, nI_toInt (by omega)] at c
      rw [Int32.lt_iff_toInt_lt]
      have : (0 : Int32).toInt = 0 := rfl
      omega
    rw [e2, if_neg d, if_neg (Int32.not_lt.mpr c)]
    refine ⟨rfl, fun ha q => ?_⟩
    rw [q, if_neg d]
    have d2 : nI n - 1 < x := by
      rw [Int32.lt_iff_toInt_lt, show (1 : Int32) = nI 1 from rfl, pk_sub_toInt (by omega) (by decide)]
      rw [Int32.le_iff_toInt_le, nI_toInt (by omega)] at c
      omega
    rw [if_pos d2]; rfl
  · right
    refine ⟨k, hk, rfl, ?_, fun ha q => ?_⟩
    · unfold fX11_checkPinner
      rw [e2, if_neg (nI_pos (by omega)), if_pos (nI_lt hk (by omega))]; rfl
    · unfold fX12_noPinner fX12_pinners
      rw [q, show (1 : Int32) = nI 1 from rfl, nI_subN (by omega), show (0 : Int32) = nI 0 from rfl, in_n (by omega) (by omega) (by omega)]; rfl
/-- what the class's side gives -/
theorem RC.cs {h : Hp} {σ : St} (H : RC h σ) : CS h 32 σ.1 := by
  obtain ⟨w, s, P, g, I, t, T, Fa⟩ := σ
  obtain ⟨h1, h2, h3, h4, h5, h6, h7⟩ := H
  exact ⟨h1.1, h1.2.1, h2, h3, by decide⟩
theorem RM.w {h : Hp} {σ : St} (H : RM h σ) : h 209 = σ.1 := by
  obtain ⟨w, s, P, g, I, t, T, Fa⟩ := σ
  exact H.1
theorem RC.f45 {h h' : Hp} {σ : St} (H : RC h σ) (F : FR c45 h h') : RC h' σ := H.sc (F.mono (fun k c => by unfold c45 at c; unfold Jvm.Pilot.CPinnedSkyLaw_law_r9688_3432f8.sc; omega))
theorem c45X {h h' : Hp} (F : FR c45 h h') : FR cX h h' := F.mono (fun k c => by unfold c45 at c; unfold cX; omega)
theorem cTM {h h' : Hp} (F : FI cT h h') : FI cM h h' := F.mono (fun k j c => by unfold cT at c; unfold cM; omega)
theorem cTs {h h' : Hp} (F : FI cT h h') : FI sm h h' := F.mono (fun k j c => by unfold cT at c; unfold sm; omega)
theorem t0M (h : Hp) (j : Nat) (v : Int32) : FI cM h (up2 h 208 j v) := FI.up2 h v (by unfold cM; omega)
theorem t0s (h : Hp) {j : Nat} (v : Int32) (hj : ¬ (j = 6 ∨ j = 7 ∨ j = 9 ∨ j = 14)) : FI sm h (up2 h 208 j v) := FI.up2 h v (by unfold sm; omega)
def aX (k : Nat) : Prop := sc k ∧ k < 208
def aM (k j : Nat) : Prop := sm k j ∧ 208 ≤ k ∧ k ≠ 221
theorem a45 {h h' : Hp} (F : FR c45 h h') : FR aX h h' := F.mono (fun k c => by unfold c45 at c; unfold aX sc; omega)
theorem aT {h h' : Hp} (F : FI cT h h') : FI aM h h' := F.mono (fun k j c => by unfold cT at c; unfold aM sm; omega)
theorem a0 (h : Hp) {j : Nat} (v : Int32) (hj : ¬ (j = 6 ∨ j = 7 ∨ j = 9 ∨ j = 14)) : FI aM h (up2 h 208 j v) := FI.up2 h v (by unfold aM sm; omega)
/-- a call that asks only -/
theorem opN_ask {h : Hp} {σ : St} (C : RC h σ) {fx : Option (Int32 × Hp)} {fm : Hp → Option (Int32 × Hp)} {r : Int32} {h1 : Hp} (e1 : fx = some (r, h1)) (F1 : FR aX h h1) (hm : ∀ ha, RM ha σ → ∃ h2, fm ha = some (r, h2) ∧ FI aM ha h2) : OpN h σ fx fm := by
  refine ⟨r, h1, σ, e1, C.sc (F1.mono (fun k c => c.1)), F1.mono (fun k c => Or.inl c.2), fun ha M => ?_⟩
  obtain ⟨h2, e2, F2⟩ := hm ha M
  exact ⟨h2, e2, M.sm (F2.mono (fun k j c => c.1)), F2.mono (fun k j c => c.2)⟩
theorem opT_ask {h : Hp} {σ : St} (C : RC h σ) {cs : List (Nat × Int32)} {fx : Option (Int32 × Nat × Hp)} {fm : Hp → Option (Int32 × Hp)} {r : Int32} {k : Nat} {c : Int32} {h1 : Hp} (e1 : fx = some (r, k, h1)) (hk : (k, c) ∈ ((0, 0) :: cs)) (F1 : FR aX h h1) (hm : ∀ ha, RM ha σ → ∃ r' h2, fm ha = some (r', h2) ∧ FI aM ha h2 ∧ h2 208 0 = c ∧ (k = 0 → r' = r)) : OpT h σ cs fx fm := by
  refine ⟨r, k, c, h1, σ, e1, hk, C.sc (F1.mono (fun k c => c.1)), F1.mono (fun k c => Or.inl c.2), fun ha M => ?_⟩
  obtain ⟨r', h2, e2, F2, t2, q2⟩ := hm ha M
  exact ⟨r', h2, e2, M.sm (F2.mono (fun k j c => c.1)), F2.mono (fun k j c => c.2), t2, q2⟩
theorem cT_0 {h h' : Hp} (F : FI cT h h') : h' 208 0 = h 208 0 := F 208 0 (fun c => by unfold cT at c; omega)
theorem w00 {ha : Hp} {σ : St} (M : RM ha σ) (v : Int32) (j : Nat) : (up2 ha 208 j v) 209 = σ.1 := by rw [up2_n _ _ _ (by decide)]; exact M.w
theorem z00 (ha : Hp) : (up2 ha 208 0 0) 208 0 = 0 := by rw [up2_s, upd_s]
def foldN {α : Type} (f : Nat → α → α) : Nat → α → α
  | 0, a => a
  | n + 1, a => f n (foldN f n a)

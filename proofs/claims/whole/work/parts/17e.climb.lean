/-! seen and climb -/
theorem told_PL {T : Nat → Int32} {t : Nat} (hb : ∀ j, j < t → byteR (T j)) (h : toldB T t = true) : ∃ m, t = 2 * m ∧ m ≤ 20 ∧ PLT T m := by
  unfold toldB at h
  rw [Bool.and_eq_true, Bool.and_eq_true, decide_eq_true_eq, decide_eq_true_eq] at h
  refine ⟨t / 2, by omega, by omega, fun i hi => ?_⟩
  have := of_decide_eq_true (allB_of h.2.2 i hi)
  rcases byte_cases (hb (2 * i) (by omega)) with ⟨q, hq, eq, eq2, -⟩ | ⟨np, -⟩
  · exact ⟨q, hq, eq, eq2⟩
  · rw [np] at this; exact absurd this (by decide)
theorem fits_pre {h : Hp} {σ : St} (C : RC h σ) : ∃ h1, fX9_open h = some h1 ∧ fX11_tellsHeights h1 = some (bI (toldB σ.2.2.2.2.2.2.1 σ.2.2.2.2.2.1)) ∧ RC h1 (useT σ) ∧ FR cX h h1 ∧ (toldB σ.2.2.2.2.2.2.1 σ.2.2.2.2.2.1 = true → ∃ m h3, σ.2.2.2.2.2.1 = 2 * m ∧ m ≤ 20 ∧ PLT σ.2.2.2.2.2.2.1 m ∧ fX11_findFits h1 = some (nI (SL.filter (fitS σ.1 σ.2.2.2.2.2.2.1 m)).length, h3) ∧ FFI h1 σ.1 h3 (SL.filter (fitS σ.1 σ.2.2.2.2.2.2.1 m))) := by
  obtain ⟨h1, e1, C1, F1, e2, -, -, -, ht, hb⟩ := open_x C
  refine ⟨h1, e1, tells_x e2 ht hb, C1, F1.mono (fun k c => by unfold cX; omega), fun tb => ?_⟩
  obtain ⟨m, em, hm, PL⟩ := told_PL (fun j hj => (hb j hj).2) tb
  have H1 : CS h1 32 σ.1 := by have := C1.cs; rw [useT_1] at this; exact this
  obtain ⟨h3, e3, I3⟩ := findFits_x H1 em ht e2 hb PL
  exact ⟨m, h3, em, hm, PL, e3, I3⟩
theorem sets_pre {h ha : Hp} {σ : St} (C : RC h σ) (M : RM ha σ) : ∃ h2, fX12_uses ha = some h2 ∧ fX12_isTold h2 = some (bI (toldB σ.2.2.2.2.2.2.1 σ.2.2.2.2.2.1)) ∧ RM h2 (useT σ) ∧ FI cM ha h2 ∧ h2 208 0 = 0 ∧ ∀ m, σ.2.2.2.2.2.1 = 2 * m → PLT σ.2.2.2.2.2.2.1 m → ∃ h4 l2, fX12_laysSets h2 = some h4 ∧ RM h4 (useT σ) ∧ FI cM ha h4 ∧ h4 208 0 = 0 ∧ TBS σ.1 h4 l2 ∧ (SL.filter (fitS σ.1 σ.2.2.2.2.2.2.1 m)).Perm l2 ∧ l2.length ≤ 137 ∧ ((SL.filter (fitS σ.1 σ.2.2.2.2.2.2.1 m)) ≠ [] → andL (σ.1 7) (SL.filter (fitS σ.1 σ.2.2.2.2.2.2.1 m)) = andL 65535 l2) := by
  obtain ⟨-, -, -, -, -, -, -, -, ht, -⟩ := open_x C
  obtain ⟨h2, e2, M2, F2, u11, -, u0, uT⟩ := uses_m M
  have F2M : FI cM ha h2 := F2.mono (fun k j q => by unfold cM; omega)
  refine ⟨h2, e2, isTold_m u11 ht uT, M2, F2M, u0, fun m em PL => ?_⟩
  have w2 : h2 209 = σ.1 := by have := M2.w; rw [useT_1] at this; exact this
  obtain ⟨P, hP, eP⟩ := S16_nat C.cs.2.1.pins
  obtain ⟨h4, e4, F4, T4⟩ := laysSets_m C.cs.2.1 C.cs.2.2.1 w2 em ht u11 uT PL hP eP
  have pm := two_lists (T := σ.2.2.2.2.2.2.1) (m := m) hP eP
  refine ⟨h4, _, e4, M2.sm (F4.mono (fun k j q => by unfold cL at q; unfold sm; omega)), F2M.trans (F4.mono (fun k j q => by unfold cL at q; unfold cM; omega)), by rw [F4 208 0 (fun q => by unfold cL at q; omega)]; exact u0, T4, pm, range_len _ (by omega), fun h0 => and_two hP eP C.cs.2.1.pins rfl pm h0⟩
theorem seen_T {h : Hp} {σ : St} (C : RC h σ) (x : Int32) : OpT h σ [(3, 1)] (fX11_seen h x) (fun ha => fX12_seen ha x) := by
  obtain ⟨h1, e1, et, C1, F1, R⟩ := fits_pre C
  cases tb : toldB σ.2.2.2.2.2.2.1 σ.2.2.2.2.2.1 with
  | false =>
    refine ⟨0, 3, 1, h1, useT σ, ?_, by simp, C1, F1, fun ha M => ?_⟩
    · unfold fX11_seen; rw [e1, cl9_some, et, tb, cl9_some, if_pos (show bI false = 0 from rfl)]
    · obtain ⟨h2, m1, m2, M2, F2, u0, -⟩ := sets_pre C M
      refine ⟨0, up2 h2 208 0 1, ?_, M2.sm (t0s (j := 0) h2 1 (by omega)), F2.trans (t0M h2 0 1), by rw [up2_s, upd_s], fun q => by cases q⟩
      show fX12_seen ha x = _
      unfold fX12_seen
      rw [m1, cl9_some, m2, tb, cl9_some, if_pos (show bI false = 0 from rfl), cl9_some, throws_1, cl2_some, if_neg (by decide)]
  | true =>
    obtain ⟨m, h3, em, hm, PL, e3, I3⟩ := R tb
    have C3 : RC h3 (useT σ) := C1.sc (I3.1.mono (fun k c => by unfold cF at c; unfold sc; omega))
    have F3 : FR cX h h3 := F1.trans (I3.1.mono (fun k c => by unfold cF at c; unfold cX; omega))
    have len1 : (SL.filter (fitS σ.1 σ.2.2.2.2.2.2.1 m)).length ≤ 137 := by rw [← SL_len]; exact List.length_filter_le _ _
    generalize hl1 : SL.filter (fitS σ.1 σ.2.2.2.2.2.2.1 m) = l1 at e3 I3 len1
    have e7 : h3 32 5 = σ.1 7 := by have := C3.cs.f7; rw [useT_1] at this; exact this
    refine ⟨if x = 0 then nI l1.length else if l1 = [] then 0 else andL (σ.1 7) l1, 0, 0, h3, useT σ, ?_, by simp, C3, F3, fun ha M => ?_⟩
    · unfold fX11_seen
      rw [e1, cl9_some, et, tb, cl9_some, if_neg (show ¬ bI true = 0 by decide), e3, cl2_some]
      by_cases c : x = 0
      · rw [if_pos c, if_pos c]
      · rw [if_neg c, if_neg c]
        by_cases d : l1 = []
        · subst d
          rw [if_pos rfl, if_pos (show nI ([] : List Nat).length = 0 from rfl), seen_xL I3.2.2 len1]
          rfl
        · rw [if_neg d, if_neg (nI_ne0 (List.length_pos_iff.mpr d) (by omega)), seen_xL I3.2.2 len1, e7]
    · obtain ⟨h2, m1, m2, M2, F2, u0, S⟩ := sets_pre C M
      obtain ⟨h4, l2, m4, M4, F4, z4, T4, pm, len2, an⟩ := S m em PL
      rw [hl1] at pm an
      refine ⟨_, h4, ?_, M4, F4, z4, fun _ => rfl⟩
      show fX12_seen ha x = _
      unfold fX12_seen
      rw [m1, cl9_some, m2, tb, cl9_some, if_neg (show ¬ bI true = 0 by decide), cl9_some, throws_0, cl2_some, if_pos rfl, m4, cl9_some, T4.1, seen_mL T4 len2, seen_mL T4 len2, pm.length_eq]
      by_cases d : l1 = []
      · have d2 : l2 = [] := by rw [d] at pm; exact List.nil_perm.mp pm
        rw [if_pos d, d2, if_pos (show nI ([] : List Nat).length = 0 from rfl)]
        rfl
      · have d2 : l2 ≠ [] := fun c => d (by rw [c] at pm; exact List.perm_nil.mp pm)
        rw [if_neg (nI_ne0 (List.length_pos_iff.mpr d2) (by omega)), if_neg d, an d]
def mxv (f : Nat → Nat) : Nat → Nat
  | 0 => 0
  | n + 1 => max (mxv f n) (f n)
theorem mxv_s (f : Nat → Nat) (n : Nat) : mxv f (n + 1) = max (mxv f n) (f n) := rfl
theorem mxv_ge (f : Nat → Nat) : ∀ n v, v < n → f v ≤ mxv f n
  | 0, v, h => by omega
  | n + 1, v, h => by
    rw [mxv_s]
    by_cases c : v = n
    · subst c; omega
    · have := mxv_ge f n v (by omega); omega
theorem mxv_at (f : Nat → Nat) : ∀ n, mxv f n = 0 ∨ ∃ v, v < n ∧ mxv f n = f v
  | 0 => Or.inl rfl
  | n + 1 => by
    rw [mxv_s]
    by_cases c : mxv f n ≤ f n
    · exact Or.inr ⟨n, by omega, by omega⟩
    · rcases mxv_at f n with e | ⟨v, hv, e⟩
      · omega
      · exact Or.inr ⟨v, by omega, by omega⟩
def cnS (w : Nat → Int32) (p : Nat) (l : List Nat) (v : Nat) : Nat := l.countP (fun S => decide (skS w S p = v))
def gM (w : Nat → Int32) (p : Nat) (l : List Nat) : Nat := mxv (cnS w p l) 41
theorem gM_perm {w : Nat → Int32} {p : Nat} {l1 l2 : List Nat} (h : l1.Perm l2) : gM w p l1 = gM w p l2 := by
  unfold gM
  rw [show cnS w p l1 = cnS w p l2 from funext (fun v => h.countP_eq _)]
theorem cnS_app (w : Nat → Int32) (p : Nat) (l : List Nat) (S v : Nat) : cnS w p (l ++ [S]) v = cnS w p l v + (if skS w S p = v then 1 else 0) := by
  unfold cnS
  rw [List.countP_append]
  by_cases c : skS w S p = v
  · rw [if_pos c]; simp [c]
  · rw [if_neg c]; simp [c]
theorem cnS_le (w : Nat → Int32) (p : Nat) (l : List Nat) (v : Nat) : cnS w p l v ≤ l.length := List.countP_le_length
theorem gM_le (w : Nat → Int32) (p : Nat) (l : List Nat) : gM w p l ≤ l.length := by
  rcases mxv_at (cnS w p l) 41 with e | ⟨v, hv, e⟩
  · unfold gM; omega
  · unfold gM; rw [e]; exact cnS_le _ _ _ _
theorem gM_app {w : Nat → Int32} (G : GW w) (p : Nat) (l : List Nat) (S : Nat) : gM w p (l ++ [S]) = max (gM w p l) (cnS w p (l ++ [S]) (skS w S p)) := by
  have h40 := skS_le G S p
  have a1 := mxv_ge (cnS w p (l ++ [S])) 41
  have a2 := mxv_at (cnS w p (l ++ [S])) 41
  have b1 := mxv_ge (cnS w p l) 41
  have b2 := mxv_at (cnS w p l) 41
  unfold gM
  apply Nat.le_antisymm
  · rcases a2 with e | ⟨v, hv, e⟩
    · omega
    · rw [e]
      by_cases c : skS w S p = v
      · rw [c]; omega
      · have := cnS_app w p l S v
        rw [if_neg c] at this
        have := b1 v hv
        omega
  · have x1 := a1 (skS w S p) (by omega)
    have x2 : mxv (cnS w p l) 41 ≤ mxv (cnS w p (l ++ [S])) 41 := by
      rcases b2 with e | ⟨v, hv, e⟩
      · omega
      · have y1 := a1 v hv
        have y2 := cnS_app w p l S v
        omega
    omega
theorem mxv_0 (f : Nat → Nat) (h : ∀ v, f v = 0) : ∀ n, mxv f n = 0
  | 0 => rfl
  | n + 1 => by rw [mxv_s, mxv_0 f h n, h]; rfl
theorem gM_nil (w : Nat → Int32) (p : Nat) : gM w p [] = 0 := mxv_0 _ (fun _ => rfl) _
def cG (k : Nat) : Prop := k = 4 ∨ k = 5 ∨ k = 30
theorem great_x {s : Hp} {w : Nat → Int32} (H : CS s 32 w) (V : CV s w) {l : List Nat} (hA : AtL (s 29) l) (hl : l.length ≤ 137) {p : Nat} (hp : p < 16) : ∃ s', fX11_greatestPart s (nI p) (nI l.length) = some (nI (gM w p l), s') ∧ FR cG s s' ∧ CV s' w := by
  have G := H.2.1
  obtain ⟨f, ef, hf⟩ := fill_x s 30 41 0 (by decide)
  obtain ⟨r, e, q1, q2, q3⟩ := loop0 (σ := Hp) (ρ := Int32 × Hp) l.length (fun n i x => LX11_greatestPart n x (nI p) (nI l.length) (nI (gM w p (l.take i))) (nI i)) (fun i x => FR cG s x ∧ CV x w ∧ ∀ v, v < 41 → x 30 v = nI (cnS w p (l.take i) v)) (fun r => r.1 = nI (gM w p l) ∧ FR cG s r.2 ∧ CV r.2 w) (upA s 30 f) (by omega) ⟨FR.upA _ _ (Or.inr (Or.inr rfl)), fun a ha g hg => by rw [upA_n _ _ (by decide), upA_n _ _ (by decide)]; exact V a ha g hg, fun v hv => by rw [upA_s, hf v hv]; rfl⟩ (by
    rintro n i x hi ⟨b1, b2, b3⟩
    left
    have Hx : CS x 32 w := H.fr b1 (fun k c => by unfold cG at c; omega)
    have x29 : x 29 i = nI (l.getD i 0) := by rw [b1 29 (by unfold cG; omega)]; exact hA i hi
    obtain ⟨x1, e1, F1, V1⟩ := holdingWith_x Hx b2 (w 7 &&& (nI (l.getD i 0) ^^^ (-1)))
    have Hx1 := Hx.f45 F1
    have h40 := skS_le G (l.getD i 0) p
    have c30 : ∀ v, v < 41 → x1 30 v = nI (cnS w p (l.take i) v) := by rw [F1 30 (by unfold c45; omega)]; exact b3
    have ct := cnS_app w p (l.take i) (l.getD i 0) (skS w (l.getD i 0) p)
    rw [if_pos rfl] at ct
    have l1 := cnS_le w p (l.take i) (skS w (l.getD i 0) p)
    have l2 := gM_le w p (l.take i)
    rw [List.length_take] at l1 l2
    refine ⟨up2 x1 30 (skS w (l.getD i 0) p) (nI (cnS w p (l.take (i + 1)) (skS w (l.getD i 0) p))), ⟨(b1.trans (F1.mono (fun k c => by unfold c45 at c; unfold cG; omega))).trans (FR.up2 _ _ _ (Or.inr (Or.inr rfl))), fun a ha g hg => by rw [up2_n _ _ _ (by decide), up2_n _ _ _ (by decide)]; exact V1 a ha g hg, fun v hv => ?_⟩, ?_⟩
    · rw [up2_s]
      by_cases c : v = skS w (l.getD i 0) p
      · rw [c, upd_s]
      · rw [upd_n _ _ c, c30 v hv, take_s l hi, cnS_app, if_neg (fun q => c q.symm), Nat.add_zero]
    · try dsimp only
      rw [LX11_greatestPart, BX11_greatestPart_0, if_neg (nI_ge hi (by omega)), gd_in (show i < 137 by omega) (by decide), nI_clamp (by omega), x29, show x 32 5 = w 7 from Hx.f7, e1, cl2_some, skS_x Hx1 _ hp, cl9_some, if_neg (nI_pos (by omega)), if_neg (by rw [i_40]; exact nlt h40 (by decide)), cl9_some, if_pos rfl]
      simp only [lt9_e, gd_in (show skS w (l.getD i 0) p < 41 by omega) (show 41 < 2 ^ 31 by decide), nI_clamp (show skS w (l.getD i 0) p < 2 ^ 31 by omega)]
      rw [c30 _ (by omega), nI_1, up2_s, upd_s, jmax_n (by omega) (by omega), nI_1, take_s l hi, gM_app G, ct]) (by
    rintro n x ⟨b1, b2, b3⟩
    try dsimp only
    refine ⟨(nI (gM w p l), x), ?_, rfl, b1, b2⟩
    rw [LX11_greatestPart, BX11_greatestPart_0, if_pos (nI_le (Nat.le_refl _) (by omega)), List.take_length])
  obtain ⟨r1, s'⟩ := r
  obtain rfl : r1 = nI (gM w p l) := q1
  refine ⟨s', ?_, q2, q3⟩
  unfold fX11_greatestPart
  rw [ef, cl9_some]
  have z : nI (gM w p (l.take 0)) = 0 := by rw [List.take_zero, gM_nil]; rfl
  try dsimp only at e
  rw [z] at e
  exact e
theorem great_m {s : Hp} {w : Nat → Int32} {l : List Nat} (TB : TBS w s l) (hl : l.length ≤ 137) {p : Nat} (hp : p < 16) (G : GW w) : fX12_greatestPart s (nI p) = some (nI (gM w p l)) := by
  obtain ⟨_, _, g⟩ := rchN (σ := Unit) (ρ := Int32) (fun n (x : Nat) => LX12_greatestPart s n 0 (nI p) (nI (mxv (cnS w p l) x)) (nI x) 0 0) (fun v _ => v) 41 (l.length + 2) (fun _ _ => True) (by
    rintro v - hv -
    refine ⟨(), trivial, fun n => ?_⟩
    obtain ⟨_, _, g1⟩ := rchN (σ := Unit) (ρ := Int32) (fun n (i : Nat) => LX12_greatestPart s n 1 (nI p) (nI (mxv (cnS w p l) v)) (nI v) (nI (cnS w p (l.take i) v)) (nI i)) (fun i _ => i) l.length 1 (fun _ _ => True) (by
      rintro i - hi -
      refine ⟨(), trivial, fun n => ?_⟩
      have h40 := skS_le G (l.getD i 0) p
      try dsimp only
      rw [LX12_greatestPart, if_neg (by decide), if_pos rfl, BX12_greatestPart_1, TB.1, if_neg (nI_ge hi (by omega)), i_16, nI_mul, nI_add, gd_in (show 16 * i + p < 4368 by omega) (by decide), nI_clamp (by omega), TB.2.2 i hi p hp, take_s l hi, cnS_app]
      simp only [lt9_e, nI_1]
      by_cases c : skS w (l.getD i 0) p = v
      · rw [if_pos c, if_pos (congrArg nI c)]
      · rw [if_neg c, if_neg (nI_ne (by omega) (by omega) c), show nI (cnS w p (l.take i) v) + 0 = nI (cnS w p (l.take i) v + 0) from nI_add _ 0]) l.length 0 () (by omega) trivial
    try dsimp only at g1 ⊢
    have l1 := cnS_le w p l v
    have l2 : mxv (cnS w p l) v ≤ l.length := by
      rcases mxv_at (cnS w p l) v with e | ⟨u, hu, e⟩
      · omega
      · rw [e]; exact cnS_le _ _ _ _
    have s0 : LX12_greatestPart s (n + (l.length + 2)) 0 (nI p) (nI (mxv (cnS w p l) v)) (nI v) 0 0 = LX12_greatestPart s ((n + 1) + 1 * l.length) 1 (nI p) (nI (mxv (cnS w p l) v)) (nI v) (nI (cnS w p (l.take 0) v)) (nI 0) := by
      rw [show n + (l.length + 2) = ((n + 1) + 1 * l.length) + 1 by omega, LX12_greatestPart, if_pos rfl, BX12_greatestPart_0, i_40, if_neg (nlt (by omega) (by decide))]
      rfl
    rw [s0, g1, List.take_length, LX12_greatestPart, if_neg (by decide), if_pos rfl, BX12_greatestPart_1, TB.1, if_pos (nI_le (Nat.le_refl _) (by omega)), jmax_n (by omega) (by omega), nI_1, mxv_s]
    rfl) 41 0 () rfl trivial
  try dsimp only at g
  unfold fX12_greatestPart
  obtain ⟨r, hr⟩ : ∃ r, 1000000 = (r + 1) + (l.length + 2) * 41 := ⟨1000000 - (1 + (l.length + 2) * 41), by omega⟩
  rw [show big = 1000000 from rfl, hr]
  have := g (r + 1)
  rw [LX12_greatestPart, if_pos rfl, BX12_greatestPart_0, if_pos (by decide)] at this
  exact this
def clb (w : Nat → Int32) (l : List Nat) : Nat → Int32 × Nat
  | 0 => (-1, 1000000)
  | i + 1 => if has9 (w 13) i then clb w l i else if (clb w l i).2 ≤ gM w i l then clb w l i else (nI i, gM w i l)
theorem clb_s (w : Nat → Int32) (l : List Nat) (i : Nat) : clb w l (i + 1) = if has9 (w 13) i then clb w l i else if (clb w l i).2 ≤ gM w i l then clb w l i else (nI i, gM w i l) := rfl
theorem clb_le {w : Nat → Int32} {l : List Nat} (hl : l.length ≤ 137) : ∀ i, (clb w l i).2 ≤ 1000000
  | 0 => Nat.le_refl _
  | i + 1 => by
    have a := clb_le (w := w) hl i
    have b := gM_le w i l
    rw [clb_s]
    cases has9 (w 13) i with
    | true => exact a
    | false =>
      rw [if_neg (by decide)]
      by_cases c : (clb w l i).2 ≤ gM w i l
      · rw [if_pos c]; exact a
      · rw [if_neg c]; show gM w i l ≤ _; omega
theorem clb_perm {w : Nat → Int32} {l1 l2 : List Nat} (h : l1.Perm l2) : ∀ i, clb w l1 i = clb w l2 i
  | 0 => rfl
  | i + 1 => by rw [clb_s, clb_s, clb_perm h i, gM_perm h]
theorem climb_xL {s : Hp} {w : Nat → Int32} (H : CS s 32 w) (V : CV s w) {l : List Nat} (hA : AtL (s 29) l) (hl : l.length ≤ 137) : ∃ s', LX11_climb big s (nI l.length) (-1) 138 0 = some ((clb w l 16).1, 0, s') ∧ FR cG s s' := by
  obtain ⟨r, e, q1, q2, q3⟩ := loop0 (σ := Hp) (ρ := Int32 × Nat × Hp) 16 (fun n i x => LX11_climb n x (nI l.length) (clb w l i).1 (nI (min 138 (clb w l i).2)) (nI i)) (fun i x => FR cG s x ∧ CV x w) (fun r => r.1 = (clb w l 16).1 ∧ r.2.1 = 0 ∧ FR cG s r.2.2) s (by decide) ⟨FR.refl _ _, V⟩ (by
    rintro n i x hi ⟨b1, b2⟩
    left
    have Hx : CS x 32 w := H.fr b1 (fun k c => by unfold cG at c; omega)
    have xA : AtL (x 29) l := by rw [b1 29 (by unfold cG; omega)]; exact hA
    try dsimp only
    rw [LX11_climb, BX11_climb_0, if_neg (c16n hi)]
    unfold fX7_hasLadder
    rw [show x 32 4 = w 13 from Hx.f13, has_x _ (by omega), clb_s]
    simp only [lt9_e, bI_eq0]
    cases c : has9 (w 13) i with
    | true => exact ⟨x, ⟨b1, b2⟩, by rw [if_pos (show (if true = false then (1 : Int32) else 0) = 0 from rfl), if_pos rfl, nI_1]⟩
    | false =>
      obtain ⟨x1, e1, F1, V1⟩ := great_x Hx b2 xA hl hi
      have gl := gM_le w i l
      refine ⟨x1, ⟨b1.trans F1, V1⟩, ?_⟩
      rw [if_neg (show ¬ (if false = false then (1 : Int32) else 0) = 0 by decide), e1, cl2_some, if_neg (show ¬ false = true by decide), nI_1]
      by_cases d : (clb w l i).2 ≤ gM w i l
      · rw [if_pos d, if_pos (nI_le (by omega) (by omega))]
      · rw [if_neg d, if_neg (nI_ge (by omega) (by omega))]
        show _ = LX11_climb n x1 (nI l.length) (nI i) (nI (min 138 (gM w i l))) (nI (i + 1))
        rw [show min 138 (gM w i l) = gM w i l by omega]) (by
    rintro n x ⟨b1, b2⟩
    try dsimp only
    refine ⟨((clb w l 16).1, 0, x), ?_, rfl, rfl, b1⟩
    rw [LX11_climb, BX11_climb_0, if_pos c16p])
  obtain ⟨r1, r2, s'⟩ := r
  obtain rfl : r1 = (clb w l 16).1 := q1
  obtain rfl : r2 = 0 := q2
  exact ⟨s', e, q3⟩
theorem climb_mL {s : Hp} {w : Nat → Int32} (G : GW w) (hw : s 209 = w) {l : List Nat} (TB : TBS w s l) (hl : l.length ≤ 137) (h2 : 2 ≤ l.length) : LX12_climb big s (-1) 1000000 0 = some ((clb w l 16).1, s) := by
  obtain ⟨r, e, er⟩ := loop0 (σ := Unit) (ρ := Int32 × Hp) 16 (fun n i _ => LX12_climb n s (clb w l i).1 (nI (clb w l i).2) (nI i)) (fun i _ => True) (fun r => r = ((clb w l 16).1, s)) () (by decide) trivial (by
    rintro n i - hi -
    left
    refine ⟨(), trivial, ?_⟩
    have cl := clb_le (w := w) hl i
    have gl := gM_le w i l
    try dsimp only
    rw [LX12_climb, BX12_climb_0, if_neg (c16n hi), TB.1, if_neg (show ¬ nI l.length ≤ 1 from nI_ge (a := 1) (b := l.length) (by omega) (by omega))]
    unfold fX12_hasLadder
    rw [hw, has_m _ (by omega), clb_s]
    simp only [lt9_e, bI_eq0]
    cases c : has9 (w 13) i with
    | true => rw [if_pos (show (if true = false then (1 : Int32) else 0) = 0 from rfl), if_pos rfl, cl9_some, i_1000000, if_pos (nI_le cl (by decide)), cl9_some, jmin_n (by omega) (by decide), show min (clb w l i).2 1000000 = (clb w l i).2 by omega, nI_1]
    | false =>
      rw [if_neg (show ¬ (if false = false then (1 : Int32) else 0) = 0 by decide), great_m TB hl hi G, cl9_some, cl9_some, if_neg (show ¬ false = true by decide), jmin_n (by omega) (by omega), nI_1]
      by_cases d : (clb w l i).2 ≤ gM w i l
      · rw [if_pos d, if_pos (nI_le d (by omega)), cl9_some, show min (clb w l i).2 (gM w i l) = (clb w l i).2 by omega]
      · rw [if_neg d, if_neg (nI_ge (by omega) (by omega)), cl9_some, show min (clb w l i).2 (gM w i l) = gM w i l by omega]) (by
    rintro n - -
    try dsimp only
    refine ⟨_, ?_, rfl⟩
    rw [LX12_climb, BX12_climb_0, if_pos c16p])
  subst er
  exact e
theorem climb_T {h : Hp} {σ : St} (C : RC h σ) : OpT h σ [(3, 1)] (fX11_climb h) fX12_climb := by
  obtain ⟨h1, e1, et, C1, F1, R⟩ := fits_pre C
  cases tb : toldB σ.2.2.2.2.2.2.1 σ.2.2.2.2.2.1 with
  | false =>
    refine ⟨0, 3, 1, h1, useT σ, ?_, by simp, C1, F1, fun ha M => ?_⟩
    · unfold fX11_climb; rw [e1, cl9_some, et, tb, cl9_some, if_pos (show bI false = 0 from rfl)]
    · obtain ⟨h2, m1, m2, M2, F2, u0, -⟩ := sets_pre C M
      refine ⟨0, up2 h2 208 0 1, ?_, M2.sm (t0s (j := 0) h2 1 (by omega)), F2.trans (t0M h2 0 1), by rw [up2_s, upd_s], fun q => by cases q⟩
      unfold fX12_climb
      rw [m1, cl9_some, m2, tb, cl9_some, if_pos (show bI false = 0 from rfl), cl9_some, throws_1, cl2_some, if_neg (by decide)]
  | true =>
    obtain ⟨m, h3, em, hm, PL, e3, I3⟩ := R tb
    have C3 : RC h3 (useT σ) := C1.sc (I3.1.mono (fun k c => by unfold cF at c; unfold sc; omega))
    have F3 : FR cX h h3 := F1.trans (I3.1.mono (fun k c => by unfold cF at c; unfold cX; omega))
    have H3 : CS h3 32 σ.1 := by have := C3.cs; rw [useT_1] at this; exact this
    have len1 : (SL.filter (fitS σ.1 σ.2.2.2.2.2.2.1 m)).length ≤ 137 := by rw [← SL_len]; exact List.length_filter_le _ _
    generalize hl1 : SL.filter (fitS σ.1 σ.2.2.2.2.2.2.1 m) = l1 at e3 I3 len1
    by_cases d : 2 ≤ l1.length
    · obtain ⟨h5, e5, F5⟩ := climb_xL H3 I3.2.1 I3.2.2 len1
      refine ⟨(clb σ.1 l1 16).1, 0, 0, h5, useT σ, ?_, by simp, C3.sc (F5.mono (fun k c => by unfold cG at c; unfold sc; omega)), F3.trans (F5.mono (fun k c => by unfold cG at c; unfold cX; omega)), fun ha M => ?_⟩
      · unfold fX11_climb
        rw [e1, cl9_some, et, tb, cl9_some, if_neg (show ¬ bI true = 0 by decide), e3, cl2_some, if_pos (show (2 : Int32) ≤ nI l1.length from nI_le (a := 2) d (by omega)), e5]
      · obtain ⟨h2, m1, m2, M2, F2, u0, S⟩ := sets_pre C M
        obtain ⟨h4, l2, m4, M4, F4, z4, T4, pm, len2, -⟩ := S m em PL
        rw [hl1] at pm
        have w4 : h4 209 = σ.1 := by have := M4.w; rw [useT_1] at this; exact this
        refine ⟨_, h4, ?_, M4, F4, z4, fun _ => rfl⟩
        unfold fX12_climb
        rw [m1, cl9_some, m2, tb, cl9_some, if_neg (show ¬ bI true = 0 by decide), cl9_some, throws_0, cl2_some, if_pos rfl, m4, cl9_some, climb_mL C.cs.2.1 w4 T4 len2 (by rw [← pm.length_eq]; exact d), clb_perm pm]
    · refine ⟨-1, 0, 0, h3, useT σ, ?_, by simp, C3, F3, fun ha M => ?_⟩
      · unfold fX11_climb
        rw [e1, cl9_some, et, tb, cl9_some, if_neg (show ¬ bI true = 0 by decide), e3, cl2_some, if_neg (show ¬ (2 : Int32) ≤ nI l1.length from nI_ge (a := l1.length) (b := 2) (by omega) (by decide))]
      · obtain ⟨h2, m1, m2, M2, F2, u0, S⟩ := sets_pre C M
        obtain ⟨h4, l2, m4, M4, F4, z4, T4, pm, len2, -⟩ := S m em PL
        rw [hl1] at pm
        refine ⟨-1, h4, ?_, M4, F4, z4, fun _ => rfl⟩
        unfold fX12_climb
        rw [m1, cl9_some, m2, tb, cl9_some, if_neg (show ¬ bI true = 0 by decide), cl9_some, throws_0, cl2_some, if_pos rfl, m4, cl9_some]
        show LX12_climb (999999 + 1) h4 (-1) 1000000 0 = _
        rw [LX12_climb, BX12_climb_0, if_neg (by decide), T4.1, if_pos (show nI l2.length ≤ 1 from nI_le (b := 1) (by rw [← pm.length_eq]; omega) (by decide))]

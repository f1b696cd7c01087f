/-! seen, climb: finding the sets -/
def cF (k : Nat) : Prop := k = 4 ∨ k = 5 ∨ k = 29
def FFI (h : Hp) (w : Nat → Int32) (s : Hp) (l : List Nat) : Prop := FR cF h s ∧ CV s w ∧ AtL (s 29) l
theorem FFI.cs {h s : Hp} {w : Nat → Int32} {l : List Nat} (I : FFI h w s l) (H : CS h 32 w) : CS s 32 w := H.fr I.1 (fun k c => by unfold cF at c; omega)
theorem filter1t {f : Nat → Bool} {S : Nat} (h : f S = true) : [S].filter f = [S] := by simp [h]
theorem filter1f {f : Nat → Bool} {S : Nat} (h : f S = false) : [S].filter f = [] := by simp [h]
theorem ff_step {h s : Hp} {w T : Nat → Int32} (H : CS h 32 w) {t m : Nat} (etm : t = 2 * m) (ht : t ≤ 400) (e2 : h 1 2 = nI t) (hb : ∀ j, j < t → h 2 j = T j ∧ byteR (T j)) (PL : PLT T m) {l : List Nat} (I : FFI h w s l) (hl : l.length < 137) {y2 y3 y4 : Int32} {S : Nat} (hy : ¬ y3 ≤ y4) (eS : fX11_bitOf y2 ||| fX11_bitOf y4 = nI S) : ∃ s', FFI h w s' (l ++ [S].filter (fitS w T m)) ∧ ∀ n, LX11_findFits (n + 1) 1 s (nI l.length) y2 y3 y4 = LX11_findFits n 1 s' (nI (l ++ [S].filter (fitS w T m)).length) y2 y3 (y4 + 1) := by
  have Hs := I.cs H
  have e7 : s 32 5 = w 7 := Hs.f7
  have lab : ∀ n, LX11_findFits (n + 1) 1 s (nI l.length) y2 y3 y4 = BX11_findFits_1 (LX11_findFits n) s (nI l.length) y2 y3 y4 := fun n => by rw [LX11_findFits, if_neg (by decide), if_pos rfl]
  by_cases c : nI S &&& (w 7 ^^^ (-1)) = 0
  · obtain ⟨s1, e1, F1, V1⟩ := explains_x Hs I.2.1 etm ht (by rw [I.1 1 (by unfold cF; omega)]; exact e2) (by rw [I.1 2 (by unfold cF; omega)]; exact hb) PL S
    have sb : subP w S = true := decide_eq_true c
    have F1' : FR cF s s1 := F1.mono (fun k q => by unfold c45 at q; unfold cF; omega)
    have e29 : s1 29 = s 29 := F1 29 (by unfold c45; omega)
    cases o : allB (okP w T S) m with
    | false =>
      rw [filter1f (show fitS w T m S = false by unfold fitS; rw [sb, o]; rfl), List.append_nil]
      refine ⟨s1, ⟨I.1.trans F1', V1, by rw [e29]; exact I.2.2⟩, fun n => ?_⟩
      rw [lab, BX11_findFits_1, if_neg hy, eS]
      simp only [lt9_e]
      rw [e7, if_pos c, if_neg (show ¬ (137 : Int32) ≤ nI l.length from le_n 137 rfl hl (by decide)), cl9_some, if_pos rfl, e1, o, cl2_some, if_pos (show bI false = 0 from rfl)]
    | true =>
      rw [filter1t (show fitS w T m S = true by unfold fitS; rw [sb, o]; rfl)]
      refine ⟨up2 s1 29 l.length (nI S), ⟨(I.1.trans F1').trans (FR.up2 _ _ _ (Or.inr (Or.inr rfl))), ?_, ?_⟩, fun n => ?_⟩
      · intro p hp g hg
        rw [up2_n _ _ _ (by decide), up2_n _ _ _ (by decide)]
        exact V1 p hp g hg
      · rw [up2_s, e29]
        exact I.2.2.app S
      · rw [lab, BX11_findFits_1, if_neg hy, eS]
        simp only [lt9_e]
        rw [e7, if_pos c, if_neg (show ¬ (137 : Int32) ≤ nI l.length from le_n 137 rfl hl (by decide)), cl9_some, if_pos rfl, e1, o, cl2_some, if_neg (show ¬ bI true = 0 by decide), gd_in hl (by decide), nI_clamp (by omega), nI_1, List.length_append]
        rfl
  · rw [filter1f (show fitS w T m S = false by unfold fitS subP; rw [decide_eq_false c]; rfl), List.append_nil]
    refine ⟨s, I, fun n => ?_⟩
    rw [lab, BX11_findFits_1, if_neg hy, eS]
    simp only [lt9_e]
    rw [e7, if_neg c, cl9_some, if_neg (by decide)]
theorem bits2 : ∀ a b : Fin 16, fX11_bitOf (nI a.val) ||| fX11_bitOf (nI b.val) = nI (2 ^ a.val ||| 2 ^ b.val) := by decide +kernel
theorem findFits_x {h : Hp} {w T : Nat → Int32} (H : CS h 32 w) {t m : Nat} (etm : t = 2 * m) (ht : t ≤ 400) (e2 : h 1 2 = nI t) (hb : ∀ j, j < t → h 2 j = T j ∧ byteR (T j)) (PL : PLT T m) : ∃ h', fX11_findFits h = some (nI (SL.filter (fitS w T m)).length, h') ∧ FFI h w h' (SL.filter (fitS w T m)) := by
  obtain ⟨h1, e1, F1, V1⟩ := startOver_x h w
  have I0 : FFI h w h1 [] := ⟨F1.mono (fun k q => by unfold c45 at q; unfold cF; omega), V1, fun i hi => absurd hi (Nat.not_lt_zero _)⟩
  obtain ⟨s1, I1, g1⟩ := ff_step H etm ht e2 hb PL I0 (show ([] : List Nat).length < 137 by decide) (y2 := -1) (y3 := 0) (y4 := -1) (S := 0) (by decide) (by decide)
  rw [List.nil_append] at I1
  have row : ∀ a, a < 16 → ∀ s, FFI h w s ((SLp a a).filter (fitS w T m)) → ∃ s' k', k' ≤ 20 ∧ FFI h w s' ((SLp (a + 1) (a + 1)).filter (fitS w T m)) ∧ ∀ n, LX11_findFits (n + k') 0 s (nI ((SLp a a).filter (fitS w T m)).length) (nI a) 0 0 = LX11_findFits n 0 s' (nI ((SLp (a + 1) (a + 1)).filter (fitS w T m)).length) (nI (a + 1)) 0 0 := by
    intro a ha s I
    obtain ⟨s', I', g⟩ := rchN (σ := Hp) (ρ := Int32 × Hp) (fun n (x : Hp × Nat) => LX11_findFits n 1 x.1 (nI ((SLp a x.2).filter (fitS w T m)).length) (nI a) 16 (nI x.2)) (fun b s => (s, b)) 16 1 (fun b s => a ≤ b ∧ FFI h w s ((SLp a b).filter (fitS w T m))) (by
      rintro b s hb' ⟨hab, J⟩
      obtain ⟨eb, lb⟩ := SLp_b ⟨a, ha⟩ ⟨b, hb'⟩ hab
      obtain ⟨s', J', g⟩ := ff_step H etm ht e2 hb PL J (Nat.lt_of_le_of_lt (List.length_filter_le _ _) lb) (y2 := nI a) (y3 := 16) (y4 := nI b) (c16n hb') (bits2 ⟨a, ha⟩ ⟨b, hb'⟩)
      refine ⟨s', ⟨by omega, ?_⟩, fun n => ?_⟩
      · rw [eb, List.filter_append]; exact J'
      · dsimp only
        rw [eb, List.filter_append, g, nI_1]) (16 - a) a s (by omega) ⟨Nat.le_refl _, I⟩
    dsimp only at g
    refine ⟨s', 16 - a + 2, by omega, ?_, fun n => ?_⟩
    · rw [← SLp_a ⟨a, ha⟩]; exact I'.2
    · have s0 : LX11_findFits (n + (16 - a + 2)) 0 s (nI ((SLp a a).filter (fitS w T m)).length) (nI a) 0 0 = LX11_findFits ((n + 1) + 1 * (16 - a)) 1 s (nI ((SLp a a).filter (fitS w T m)).length) (nI a) 16 (nI a) := by
        rw [show n + (16 - a + 2) = ((n + 1) + 1 * (16 - a)) + 1 by omega, LX11_findFits, if_pos rfl, BX11_findFits_0, if_neg (c16n ha), if_neg (fun c => by have := nI_pos (n := a) (by omega); rw [c] at this; exact this (by decide))]
      rw [s0, g, LX11_findFits, if_neg (by decide), if_pos rfl, BX11_findFits_1, if_pos c16p, nI_1, ← SLp_a ⟨a, ha⟩]
      rfl
  obtain ⟨s2, K, hK, I2, g2⟩ := rchV (σ := Hp) (ρ := Int32 × Hp) (fun n (x : Hp × Nat) => LX11_findFits n 0 x.1 (nI ((SLp x.2 x.2).filter (fitS w T m)).length) (nI x.2) 0 0) (fun a s => (s, a)) 16 20 (fun a s => FFI h w s ((SLp a a).filter (fitS w T m))) (fun a s ha I => row a ha s I) 16 0 s1 rfl I1
  dsimp only at g2
  rw [SLp_end] at I2 g2
  refine ⟨s2, ?_, I2⟩
  unfold fX11_findFits
  obtain ⟨r, hr⟩ : ∃ r, 1000000 = (r + 1 + K) + 1 + 1 + 1 := ⟨1000000 - (1 + K + 3), by omega⟩
  rw [e1, cl9_some, show big = 1000000 from rfl, hr]
  have t1 : LX11_findFits (r + 1 + K + 1 + 1 + 1) 0 h1 0 (-1) 0 0 = LX11_findFits (r + 1 + K + 1 + 1) 1 h1 (nI ([] : List Nat).length) (-1) 0 (-1) := by
    rw [LX11_findFits, if_pos rfl, BX11_findFits_0, if_neg (by decide), if_pos rfl]
    rfl
  rw [t1, g1, LX11_findFits, if_neg (by decide), if_pos rfl, BX11_findFits_1, if_pos (by decide), List.nil_append]
  have t2 := g2 (r + 1)
  rw [LX11_findFits, if_pos rfl, BX11_findFits_0, if_pos c16p] at t2
  exact t2
theorem fits_m {h : Hp} {w T : Nat → Int32} (G : GW w) (HM : lawM w) (hw : h 209 = w) {t m : Nat} (etm : t = 2 * m) (ht : t ≤ 400) (e11 : h 208 11 = nI t) (hT : ∀ j, j < t → h 214 j = T j) (PL : PLT T m) {k : Nat} (hk : k < 273) (e22 : h 208 22 = nI k) (S : Nat) : ∃ h', fX12_fits h (nI S) = some (bI (allB (okP w T S) m), h') ∧ FI (fun c j => cT c j ∨ (c = 219 ∧ 16 * k ≤ j ∧ j < 16 * k + 16)) h h' ∧ ∀ p, p < 16 → h' 219 (16 * k + p) = nI (skS w S p) := by
  obtain ⟨A, hA, eA⟩ := G.n4
  obtain ⟨B, hB, eB⟩ := G.n5
  obtain ⟨h1, e1, F1, -⟩ := holdingOf_m (T := w 7 &&& (nI S ^^^ (-1))) (S16_and G.pins) G HM hw
  have F1' : FI (fun c j => cT c j ∨ (c = 219 ∧ 16 * k ≤ j ∧ j < 16 * k + 16)) h h1 := F1.mono (fun c j q => Or.inl q)
  obtain ⟨s, ⟨a1, a2⟩, g⟩ := rchN (σ := Hp) (ρ := Int32 × Hp) (fun n (x : Hp × Nat) => LX12_fits n 0 x.1 (hold9 w (w 7 &&& (nI S ^^^ (-1)))) 1 (nI x.2)) (fun i s => (s, i)) 16 1 (fun i s => FI (fun c j => cT c j ∨ (c = 219 ∧ 16 * k ≤ j ∧ j < 16 * k + 16)) h s ∧ ∀ p, p < i → s 219 (16 * k + p) = nI (skS w S p)) (by
    rintro i s hi ⟨b1, b2⟩
    obtain ⟨tr, htr, etr⟩ := G.tree hi
    have s9 : s 209 = w := by rw [b1.cell (fun j q => by unfold cT at q; omega)]; exact hw
    have s22 : s 208 22 = nI k := by rw [b1 208 22 (fun q => by unfold cT at q; omega)]; exact e22
    have sk : fX12_skyBy s (hold9 w (w 7 &&& (nI S ^^^ (-1)))) (nI i) = some (nI (skS w S i)) := by
      unfold skS
      rw [eA, eB, etr, nI_clamp (by omega), nI_clamp (by omega), nI_clamp (by omega)]
      exact skyBy_m s (hold9_S16 _ _) (by rw [s9, eA]) (by rw [s9, eB]) (by rw [s9, etr]) hA hB htr hi
    refine ⟨up2 s 219 (16 * k + i) (nI (skS w S i)), ⟨b1.trans (FI.up2 _ _ (Or.inr ⟨rfl, by omega, by omega⟩)), fun p hp => ?_⟩, fun n => ?_⟩
    · rw [up2_s]
      by_cases c : p = i
      · rw [c, upd_s]
      · rw [upd_n _ _ (by omega)]; exact b2 p (by omega)
    · dsimp only
      rw [LX12_fits, if_pos rfl, BX12_fits_0, if_neg (c16n hi), sk, cl9_some, s22, i_16, nI_mul, nI_add, gd_in (show 16 * k + i < 4368 by omega) (by decide), nI_clamp (by omega), nI_1]
      rfl) 16 0 h1 rfl ⟨F1', fun p hp => by omega⟩
  dsimp only at g
  have s22 : s 208 22 = nI k := by rw [a1 208 22 (fun q => by unfold cT at q; omega)]; exact e22
  have s11 : s 208 11 = nI t := by rw [a1 208 11 (fun q => by unfold cT at q; omega)]; exact e11
  have sT : ∀ j, j < t → s 214 j = T j := by rw [a1.cell (k := 214) (fun j q => by unfold cT at q; omega)]; exact hT
  refine ⟨s, ?_, a1, a2⟩
  obtain ⟨r, e, er⟩ := loopN (σ := Unit) (ρ := Int32 × Hp) m (fun n i _ => LX12_fits n 1 s 0 (bI (allB (okP w T S) i)) (nI (2 * i))) (fun i _ => True) (fun r => r = (bI (allB (okP w T S) m), s)) (by
    rintro n i - hi -
    left
    refine ⟨(), trivial, ?_⟩
    try dsimp only
    obtain ⟨q, hq, eq, eq2⟩ := PL i hi
    have st : okP w T S i = decide (nI (skS w S q) = T (2 * i + 1) &&& 255) := by unfold okP; rw [eq, nI_clamp (by omega)]
    rw [LX12_fits, if_neg (by decide), if_pos rfl, BX12_fits_1, s11, if_neg (nI_ge (by omega) (by omega)), allB_s]
    cases ha : allB (okP w T S) i with
    | false =>
      rw [if_pos (show bI false = 0 from rfl), cl9_some, if_neg (by decide), i_2, nI_add, Bool.and_false]
      rfl
    | true =>
      rw [if_neg (show ¬ bI true = 0 by decide), gd_in (show 2 * i < 400 by omega) (by decide), nI_clamp (by omega), sT _ (by omega), eq, s22, i_16, nI_mul, nI_add, gd_in (show 16 * k + q < 4368 by omega) (by decide), nI_clamp (by omega), nI_1, gd_in (show 2 * i + 1 < 400 by omega) (by decide), nI_clamp (by omega), sT _ (by omega), a2 q hq, st, Bool.and_true, i_2, nI_add]
      by_cases c : nI (skS w S q) = T (2 * i + 1) &&& 255
      · rw [if_pos c, decide_eq_true c, cl9_some, if_pos rfl]; rfl
      · rw [if_neg c, decide_eq_false c, cl9_some, if_neg (by decide)]; rfl) (by
    rintro n - -
    try dsimp only
    refine ⟨_, ?_, rfl⟩
    rw [LX12_fits, if_neg (by decide), if_pos rfl, BX12_fits_1, s11, etm, if_pos (nI_le (Nat.le_refl _) (by omega)), gd_t (by cases allB (okP w T S) m <;> decide)]) m 999983 0 () (by omega) (by omega) trivial
  subst er
  unfold fX12_fits fX12_pins
  rw [hw, e1, cl2_some]
  show LX12_fits ((999983 + 1) + 1 * 16) 0 h1 (hold9 w (w 7 &&& (nI S ^^^ (-1)))) 1 (nI 0) = _
  rw [g, LX12_fits, if_pos rfl, BX12_fits_0, if_pos c16p]
  exact e

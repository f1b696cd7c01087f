/-! Calls that ask: stars, place, rusts, pay, season, best. -/
theorem shr1 (S : Int32) {p : Nat} (hp : p < 32) : (S >>> (nI p &&& 31)) &&& 1 = bI (has9 S p) := by rw [and1, has9_shr S hp (by omega), Nat.add_zero]
theorem upTo_has {t : Nat} (ht : t < 16) {q : Nat} (hq : q < 32) : has9 (((2 : Int32) <<< (nI t &&& 31)) - 1) q = decide (q ≤ t) := by
  have : ∀ (a : Fin 16) (b : Fin 32), has9 (((2 : Int32) <<< (nI a.val &&& 31)) - 1) b.val = decide (b.val ≤ a.val) := by decide +kernel
  exact this ⟨t, ht⟩ ⟨q, hq⟩
theorem below_has {t : Nat} (ht : t < 16) {q : Nat} (hq : q < 32) : has9 (((1 : Int32) <<< (nI t &&& 31)) - 1) q = decide (q < t) := by
  have : ∀ (a : Fin 16) (b : Fin 32), has9 (((1 : Int32) <<< (nI a.val &&& 31)) - 1) b.val = decide (b.val < a.val) := by decide +kernel
  exact this ⟨t, ht⟩ ⟨q, hq⟩
theorem stars_mL (h : Hp) (S : Int32) {a t : Nat} (hat : a ≤ t) (ht : t < 16) : LX12_stars big h (nI t) 0 S (nI a) = some (nI (cntB (fun p => has9 S p && decide (a ≤ p)) (t + 1)), h) := by
  obtain ⟨r, e, q⟩ := loopI (σ := Int32) (ρ := Int32 × Hp) (t + 1) a (fun m i s => LX12_stars m h (nI t) s S (nI i)) (fun i s => s = nI (cntB (fun p => has9 S p && decide (a ≤ p)) i) ∧ a ≤ i) (fun r => r = (nI (cntB (fun p => has9 S p && decide (a ≤ p)) (t + 1)), h)) 0 (by omega) (by omega) ⟨by
      have : ∀ n, n ≤ a → cntB (fun p => has9 S p && decide (a ≤ p)) n = 0 := by
        intro n
        induction n with
        | zero => intro _; rfl
        | succ n ih => intro hn; unfold cntB; rw [ih (by omega)]; simp; intro _; omega
      rw [this a (Nat.le_refl _)]; rfl, Nat.le_refl _⟩ (by
    rintro m i s hi ⟨rfl, hai⟩
    left
    refine ⟨nI (cntB (fun p => has9 S p && decide (a ≤ p)) (i + 1)), ⟨rfl, by omega⟩, ?_⟩
    try dsimp only
    rw [LX12_stars, BX12_stars_0, if_neg (nI_nlt (by omega) (by omega)), shr1 S (by omega), nI_1]
    simp only [lt9_e]
    rw [cntB_s]
    cases has9 S i with
    | false => rw [show bI false = nI 0 from rfl, nI_add]; simp
    | true => rw [show bI true = nI 1 from rfl, nI_add]; simp [hai]) (by
    rintro m s ⟨rfl, _⟩
    refine ⟨_, ?_, rfl⟩
    try dsimp only
    rw [LX12_stars, BX12_stars_0, if_pos (nI_lt (by omega) (by omega))])
  rw [← q]; exact e
theorem stars_cnt {S : Int32} (hS : S16 S) {a t : Nat} (hat : a ≤ t) (ht : t < 16) : fJ_bitCount ((S &&& (((2 : Int32) <<< (nI t &&& 31)) - 1)) &&& ((((1 : Int32) <<< (nI a &&& 31)) - 1) ^^^ (-1))) = nI (cntB (fun p => has9 S p && decide (a ≤ p)) (t + 1)) := by
  rw [bitCount_n (S16_and (S16_and hS))]
  have e1 : cntB (has9 ((S &&& (((2 : Int32) <<< (nI t &&& 31)) - 1)) &&& ((((1 : Int32) <<< (nI a &&& 31)) - 1) ^^^ (-1)))) 16 = cntB (fun p => has9 S p && decide (a ≤ p) && decide (p ≤ t)) 16 := cntB_cong (fun p hp => by
    rw [has9_and, has9_and, has9_cpl _ (by omega), upTo_has ht (by omega), below_has (by omega) (by omega)]
    by_cases c : p < a
    · simp [c]; intro _ _; omega
    · simp [c, show a ≤ p by omega])
  rw [e1]
  have e2 : ∀ n, t + 1 + n ≤ 16 → cntB (fun p => has9 S p && decide (a ≤ p) && decide (p ≤ t)) (t + 1 + n) = cntB (fun p => has9 S p && decide (a ≤ p) && decide (p ≤ t)) (t + 1) := by
    intro n
    induction n with
    | zero => intro _; rfl
    | succ n ih =>
      intro hn
      show cntB _ (t + 1 + n) + _ = _
      rw [ih (by omega)]
      simp; intros; omega
  have e3 := e2 (16 - (t + 1)) (by omega)
  rw [show t + 1 + (16 - (t + 1)) = 16 by omega] at e3
  rw [e3]
  congr 1
  exact cntB_cong (fun p hp => by simp [show p ≤ t by omega])
theorem stars_T {h : Hp} {σ : St} (C : RC h σ) (x y : Int32) : OpT h σ [(1, 1), (3, 2)] (fX11_stars h x y) (fun ha => fX12_stars ha x y) := by
  rcases place_cases x with ⟨c1, c2⟩ | ⟨a, ha0, rfl, c1, c2⟩
  · refine opT_ask C (r := 0) (k := 1) (c := 1) (h1 := h) (by unfold fX11_stars; rw [c1]; rfl) (by simp) (FR.refl _ _) (fun ha M => ⟨0, up2 (up2 ha 208 0 0) 208 0 1, ?_, (a0 _ _ (by omega)).trans (a0 _ _ (by omega)), by rw [up2_s, upd_s], fun q => by cases q⟩)
    unfold fX12_stars; rw [c2]; rfl
  · rcases place_cases y with ⟨d1, d2⟩ | ⟨t, ht, rfl, d1, d2⟩
    · refine opT_ask C (r := 0) (k := 1) (c := 1) (h1 := h) (by unfold fX11_stars; rw [c1, d1]; rfl) (by simp) (FR.refl _ _) (fun ha M => ⟨0, up2 (up2 ha 208 0 0) 208 0 1, ?_, (a0 _ _ (by omega)).trans (a0 _ _ (by omega)), by rw [up2_s, upd_s], fun q => by cases q⟩)
      unfold fX12_stars; rw [c2, d2]; rfl
    · by_cases hat : a ≤ t
      · obtain ⟨h1, e1, F1, -⟩ := holding_x C.cs
        refine opT_ask C (r := nI (cntB (fun p => has9 (hold9 σ.1 (σ.1 7)) p && decide (a ≤ p)) (t + 1))) (k := 0) (c := 0) (h1 := h1) ?_ (by simp) (a45 F1) (fun ha M => ?_)
        · unfold fX11_stars
          rw [c1, d1, if_pos rfl, if_pos rfl, if_pos (nI_le hat (by omega))]
          simp only [lt9_e]
          rw [e1, cl2_some, stars_cnt (hold9_S16 _ _) hat ht]
        · obtain ⟨h2, e2, F2, -⟩ := holdingNow_m C.cs.2.1 C.cs.2.2.1 (w00 M 0 0)
          refine ⟨_, h2, ?_, (a0 ha 0 (by omega)).trans (aT F2), by rw [cT_0 F2]; exact z00 ha, fun _ => rfl⟩
          unfold fX12_stars
          rw [c2, d2, if_pos rfl, if_pos rfl, if_pos (nI_le hat (by omega))]
          simp only [lt9_e, cl9_some, Bool.false_eq_true, if_false, throws_0, cl2_some, if_true]
          rw [e2, cl2_some, stars_mL h2 _ hat ht]
      · refine opT_ask C (r := 0) (k := 3) (c := 2) (h1 := h) ?_ (by simp) (FR.refl _ _) (fun ha M => ⟨0, up2 (up2 ha 208 0 0) 208 0 2, ?_, (a0 _ _ (by omega)).trans (a0 _ _ (by omega)), by rw [up2_s, upd_s], fun q => by cases q⟩)
        · unfold fX11_stars
          rw [c1, d1, if_pos rfl, if_pos rfl, if_neg (nI_ge (by omega) (by omega))]
        · unfold fX12_stars
          rw [c2, d2, if_pos rfl, if_pos rfl, if_neg (nI_ge (by omega) (by omega))]
          rfl
/-! rusts -/
def rustB (w : Nat → Int32) (p : Nat) : Int32 := if w 2 = 1 then sumR w 1 (envM w (w 7) p) else 1
theorem rustsBy_x {h : Hp} {b : Nat} {w : Nat → Int32} (H : CS h b w) {p : Nat} (hp : p < 16) : fX1_rustsBy h b (nI p) = some (if has9 (w 7) p then rustB w p else 0) := by
  unfold fX1_rustsBy fX7_hasPin rustB
  rw [H.f7, has_x _ (by omega), gap_x h _ hp, cl9_some]
  simp only [bI_eq0]
  cases c : has9 (w 7) p with
  | false => rfl
  | true =>
    have e := envX_P H hp
    rw [c] at e
    rw [if_neg (by simp), bI_t, total_x h hp _ true H.2.2.1 H.2.2.2.1 e (by decide), cl9_some]
    rcases H.2.2.2.1 with ⟨q1, q2⟩ | ⟨q1, q2, q3⟩
    · rw [q1, q2]; rfl
    · rw [q1, q2]
      rcases H.2.2.1 with q4 | ⟨-, n, hn, q5, -⟩
      · rw [q1] at q4; cases q4
      · rw [q5, if_neg (fun q => by have := nI_pos (n := n) (by omega); rw [q] at this; exact this (by decide))]; rfl
theorem rustsBy_m {w : Nat → Int32} {p : Nat} (hp : p < 16) (G : GW w) (HM : lawM w) {h : Hp} (hw : h 209 = w) (hT : h 208 18 = w 7) : ∃ v', fX12_rustsBy h (nI p) = some (rustB w p, upA h 216 v') := by
  obtain ⟨v1, e1⟩ := sumOf_m G.pins hp HM 1 hw hT
  unfold fX12_rustsBy rustB fX12_hasLaw
  rw [hw, e1, cl2_some]
  by_cases c : w 2 = 1
  · rw [if_pos c, if_pos c]; exact ⟨v1, rfl⟩
  · rw [if_neg c, if_neg c]; exact ⟨h 216, by rw [upA_id]; rfl⟩
theorem rusts_T {h : Hp} {σ : St} (C : RC h σ) (x : Int32) : OpT h σ [(1, 1)] (fX11_rusts h x) (fun ha => fX12_rusts ha x) := by
  rcases place_cases x with ⟨c1, c2⟩ | ⟨p, hp, rfl, c1, c2⟩
  · refine opT_ask C (r := 0) (k := 1) (c := 1) (h1 := h) (by unfold fX11_rusts; rw [c1]; rfl) (by simp) (FR.refl _ _) (fun ha M => ⟨0, up2 (up2 ha 208 0 0) 208 0 1, ?_, (a0 _ _ (by omega)).trans (a0 _ _ (by omega)), by rw [up2_s, upd_s], fun q => by cases q⟩)
    unfold fX12_rusts; rw [c2]; rfl
  · refine opT_ask C (r := if has9 (σ.1 7) p then rustB σ.1 p else 0) (k := 0) (c := 0) (h1 := h) ?_ (by simp) (FR.refl _ _) (fun ha M => ?_)
    · unfold fX11_rusts
      rw [c1, if_pos rfl, rustsBy_x C.cs hp, cl9_some]
    · unfold fX12_rusts fX12_hasPin fX12_pins
      simp only [lt9_e]
      rw [c2, throws_0, cl2_some, if_pos rfl, w00 M 0 0, has_m _ (by omega)]
      simp only [bI_eq0]
      cases c : has9 (σ.1 7) p with
      | false => exact ⟨0, up2 ha 208 0 0, rfl, a0 _ _ (by omega), z00 ha, fun _ => rfl⟩
      | true =>
        obtain ⟨v, e⟩ := rustsBy_m (h := up2 (up2 ha 208 0 0) 208 18 (σ.1 7)) hp C.cs.2.1 C.cs.2.2.1 (by rw [up2_n _ _ _ (by decide)]; exact w00 M 0 0) (by rw [up2_s, upd_s])
        refine ⟨rustB σ.1 p, upA (up2 (up2 ha 208 0 0) 208 18 (σ.1 7)) 216 v, ?_, ((a0 (j := 0) ha 0 (by omega)).trans (a0 (j := 18) _ _ (by omega))).trans (aT (FI.upA _ v (fun j => Or.inr rfl))), ?_, fun _ => rfl⟩
        · rw [if_neg (by simp), cl9_some]
          simp only [Bool.false_eq_true, if_false]
          rw [e, cl2_some]
        · rw [upA_n _ _ (by decide), up2_s, upd_n _ _ (by decide)]; exact z00 ha
/-! place -/
theorem nI_ne {n k : Nat} (hn : n < 2 ^ 31) (hk : k < 2 ^ 31) (h : n ≠ k) : ¬ nI n = nI k := fun q => h ((nI_eq hn hk).mp q)
theorem what_cases (x : Int32) (N : Nat) (hN : N < 2 ^ 30) : (fX12_in x 0 (nI N) = 0 ∧ ∀ k, k ≤ N → ¬ x = nI k) ∨ ∃ n, n ≤ N ∧ x = nI n ∧ fX12_in x 0 (nI N) = 1 := by
  rcases num_cases x 0 N hN (by decide) with ⟨-, c⟩ | ⟨n, -, h2, rfl, -, c⟩
  · refine Or.inl ⟨c, fun k hk q => ?_⟩
    subst q
    have c2 : fX12_in (nI k) (nI 0) (nI N) = 1 := in_n (Nat.zero_le _) hk (by omega)
    rw [c2] at c
    cases c
  · exact Or.inr ⟨n, h2, rfl, c⟩
theorem place_ask {h : Hp} {σ : St} (C : RC h σ) {p : Nat} (hp : p < 16) (x : Int32) (hx : fX12_in x 0 9 = 1) {r : Int32} {h1 : Hp} (e1 : fX11_place h (nI p) x = some (r, 0, h1)) (F1 : FR aX h h1)
    (hm : ∀ h14, h14 209 = σ.1 → h14 208 18 = σ.1 7 → ∃ h2, FI cT h14 h2 ∧ (if x = 0 then gd (inb ((14 : Int32) + nI p) 2031) (some ((h14 209 ((14 : Int32) + nI p).toNatClampNeg), h14)) else (if x = 1 then gd (inb ((30 : Int32) + nI p) 2031) (some ((h14 209 ((30 : Int32) + nI p).toNatClampNeg), h14)) else (if x = 2 then gd (inb ((46 : Int32) + nI p) 2031) (some ((h14 209 ((46 : Int32) + nI p).toNatClampNeg), h14)) else (if x = 3 then (if (fX12_hasLadder h14 (nI p)) = 0 then some (0, h14) else some (1, h14)) else (if x = 4 then (if (fX12_hasPin h14 (nI p)) = 0 then some (0, h14) else some (1, h14)) else (if x = 5 then cl9 (fX12_rustOf h14 (nI p)) (fun x28 => some (x28, h14)) else (if x = 6 then cl2 (fX12_strainOf h14 (nI p)) (fun x33 h31 => some (x33, h31)) else (if x = 7 then some (((hold9 σ.1 (σ.1 7) >>> (nI p &&& 31)) &&& 1), h14) else (if x = 8 then cl9 (fX12_skyBy h14 (hold9 σ.1 (σ.1 7)) (nI p)) (fun x36 => some (x36, h14)) else cl9 (fX12_standingBy h14 (hold9 σ.1 (σ.1 7))) (fun x38 => some (((x38 >>> (nI p &&& 31)) &&& 1), h14))))))))))) = some (r, h2)) : OpT h σ [(1, 1), (2, 2)] (fX11_place h (nI p) x) (fun ha => fX12_place ha (nI p) x) := by
  refine opT_ask C e1 (c := 0) (by simp) F1 (fun ha M => ?_)
  obtain ⟨h14, e14, F14, T14⟩ := holdingNow_m C.cs.2.1 C.cs.2.2.1 (w00 M 0 0)
  obtain ⟨h2, F2, e2⟩ := hm h14 (by rw [cT_209 F14]; exact w00 M 0 0) T14
  refine ⟨r, h2, ?_, ((a0 ha 0 (by omega)).trans (aT F14)).trans (aT F2), by rw [cT_0 F2, cT_0 F14]; exact z00 ha, fun _ => rfl⟩
  have c2 : fX12_noPlace (nI p) = 0 := by
    rcases place_cases (nI p) with ⟨q, -⟩ | ⟨-, -, -, -, q⟩
    · exfalso
      unfold fX11_checkPlace at q
      rw [if_neg (nI_pos (by omega)), i_16, if_pos (nI_lt hp (by decide))] at q
      cases q
    · exact q
  unfold fX12_place
  simp only [lt9_e]
  rw [c2, throws_0, cl2_some, if_pos rfl, hx, if_neg (by decide), cl9_some, throws_0, cl2_some, if_pos rfl, e14, cl2_some]
  exact e2
theorem place_T {h : Hp} {σ : St} (C : RC h σ) (x y : Int32) : OpT h σ [(1, 1), (2, 2)] (fX11_place h x y) (fun ha => fX12_place ha x y) := by
  have H := C.cs
  rcases place_cases x with ⟨c1, c2⟩ | ⟨p, hp, rfl, c1, c2⟩
  · refine opT_ask C (r := 0) (k := 1) (c := 1) (h1 := h) (by unfold fX11_place; rw [c1]; rfl) (by simp) (FR.refl _ _) (fun ha M => ⟨0, up2 (up2 ha 208 0 0) 208 0 1, ?_, (a0 _ _ (by omega)).trans (a0 _ _ (by omega)), by rw [up2_s, upd_s], fun q => by cases q⟩)
    unfold fX12_place; rw [c2]; rfl
  · rcases what_cases y 9 (by decide) with ⟨d, dn⟩ | ⟨n, hn, rfl, d⟩
    · have d' : fX12_in y 0 9 = 0 := d
      refine opT_ask C (r := 0) (k := 2) (c := 2) (h1 := h) ?_ (by simp) (FR.refl _ _) (fun ha M => ⟨0, up2 (up2 ha 208 0 0) 208 0 2, ?_, (a0 _ _ (by omega)).trans (a0 _ _ (by omega)), by rw [up2_s, upd_s], fun q => by cases q⟩)
      · unfold fX11_place
        rw [c1, if_pos rfl, if_neg (show ¬ y = 0 from dn 0 (by decide)), if_neg (show ¬ y = 1 from dn 1 (by decide)), if_neg (show ¬ y = 2 from dn 2 (by decide)), if_neg (show ¬ y = 3 from dn 3 (by decide)), if_neg (show ¬ y = 4 from dn 4 (by decide)), if_neg (show ¬ y = 5 from dn 5 (by decide)), if_neg (show ¬ y = 6 from dn 6 (by decide)), if_neg (show ¬ y = 7 from dn 7 (by decide)), if_neg (show ¬ y = 8 from dn 8 (by decide)), if_neg (show ¬ y = 9 from dn 9 (by decide))]
      · unfold fX12_place
        rw [c2, d']; rfl
    · have e14 : (14 : Int32) + nI p = nI (14 + p) := by rw [i_14, nI_add]
      have e30 : (30 : Int32) + nI p = nI (30 + p) := by rw [i_30, nI_add]
      have e46 : (46 : Int32) + nI p = nI (46 + p) := by rw [i_46, nI_add]
      have hb : n = 0 ∨ n = 1 ∨ n = 2 ∨ n = 3 ∨ n = 4 ∨ n = 5 ∨ n = 6 ∨ n = 7 ∨ n = 8 ∨ n = 9 := by omega
      rcases hb with rfl | rfl | rfl | rfl | rfl | rfl | rfl | rfl | rfl | rfl
      · refine place_ask C hp _ d (r := σ.1 (14 + p)) (h1 := h) ?_ (FR.refl _ _) (fun h14 w14 t14 => ⟨h14, FI.refl _ _, ?_⟩)
        · unfold fX11_place
          rw [c1, if_pos rfl, if_pos (by decide), gd_in hp (by decide), nI_clamp (by omega), H.ground hp]
        · rw [if_pos (by decide), e14, gd_in (by omega) (by decide), nI_clamp (by omega), w14]
      · refine place_ask C hp _ d (r := σ.1 (30 + p)) (h1 := h) ?_ (FR.refl _ _) (fun h14 w14 t14 => ⟨h14, FI.refl _ _, ?_⟩)
        · unfold fX11_place
          rw [c1, if_pos rfl, if_neg (by decide), if_pos (by decide), gd_in hp (by decide), nI_clamp (by omega), H.need hp]
        · rw [if_neg (by decide), if_pos (by decide), e30, gd_in (by omega) (by decide), nI_clamp (by omega), w14]
      · refine place_ask C hp _ d (r := σ.1 (46 + p)) (h1 := h) ?_ (FR.refl _ _) (fun h14 w14 t14 => ⟨h14, FI.refl _ _, ?_⟩)
        · unfold fX11_place
          rw [c1, if_pos rfl, if_neg (by decide), if_neg (by decide), if_pos (by decide), gd_in hp (by decide), nI_clamp (by omega), H.tree hp]
        · rw [if_neg (by decide), if_neg (by decide), if_pos (by decide), e46, gd_in (by omega) (by decide), nI_clamp (by omega), w14]
      · refine place_ask C hp _ d (r := bI (!has9 (σ.1 13) p)) (h1 := h) ?_ (FR.refl _ _) (fun h14 w14 t14 => ⟨h14, FI.refl _ _, ?_⟩)
        · unfold fX11_place fX7_hasLadder
          rw [c1, if_pos rfl, if_neg (by decide), if_neg (by decide), if_neg (by decide), if_pos (by decide), H.f13, has_x _ (by omega)]
          cases has9 (σ.1 13) p <;> rfl
        · unfold fX12_hasLadder
          rw [if_neg (by decide), if_neg (by decide), if_neg (by decide), if_pos (by decide), w14, has_m _ (by omega)]
          cases has9 (σ.1 13) p <;> rfl
      · refine place_ask C hp _ d (r := bI (has9 (σ.1 7) p)) (h1 := h) ?_ (FR.refl _ _) (fun h14 w14 t14 => ⟨h14, FI.refl _ _, ?_⟩)
        · unfold fX11_place fX7_hasPin
          rw [c1, if_pos rfl, if_neg (by decide), if_neg (by decide), if_neg (by decide), if_neg (by decide), if_pos (by decide), H.f7, has_x _ (by omega)]
          cases has9 (σ.1 7) p <;> rfl
        · unfold fX12_hasPin fX12_pins
          rw [if_neg (by decide), if_neg (by decide), if_neg (by decide), if_neg (by decide), if_pos (by decide), w14, has_m _ (by omega)]
          cases has9 (σ.1 7) p <;> rfl
      · refine place_ask C hp _ d (r := σ.1 (62 + p)) (h1 := h) ?_ (FR.refl _ _) (fun h14 w14 t14 => ⟨h14, FI.refl _ _, ?_⟩)
        · unfold fX11_place
          rw [c1, if_pos rfl, if_neg (by decide), if_neg (by decide), if_neg (by decide), if_neg (by decide), if_neg (by decide), if_pos (by decide), gd_in hp (by decide), nI_clamp (by omega), H.rust hp]
        · rw [if_neg (by decide), if_neg (by decide), if_neg (by decide), if_neg (by decide), if_neg (by decide), if_pos (by decide), rustNow_m hp H.2.1 w14 t14, cl9_some]
      · refine place_ask C hp _ d (r := σ.1 (46 + p) + sumR σ.1 0 (envM σ.1 (σ.1 7) p)) (h1 := h) ?_ (FR.refl _ _) (fun h14 w14 t14 => ?_)
        · unfold fX11_place
          rw [c1, if_pos rfl, if_neg (by decide), if_neg (by decide), if_neg (by decide), if_neg (by decide), if_neg (by decide), if_neg (by decide), if_pos (by decide), strainAt_x H hp, cl9_some]
        · obtain ⟨v, e⟩ := strainOf_m hp H.2.1 H.2.2.1 w14 t14
          refine ⟨_, FI.upA _ v (fun j => Or.inr rfl), ?_⟩
          rw [if_neg (by decide), if_neg (by decide), if_neg (by decide), if_neg (by decide), if_neg (by decide), if_neg (by decide), if_pos (by decide), e, cl2_some]
      · obtain ⟨h1, e1, F1, -⟩ := holding_x H
        refine place_ask C hp _ d (r := bI (has9 (hold9 σ.1 (σ.1 7)) p)) (h1 := h1) ?_ (a45 F1) (fun h14 w14 t14 => ⟨h14, FI.refl _ _, ?_⟩)
        · unfold fX11_place
          rw [c1, if_pos rfl, if_neg (by decide), if_neg (by decide), if_neg (by decide), if_neg (by decide), if_neg (by decide), if_neg (by decide), if_neg (by decide), if_pos (by decide), e1, cl2_some, has_x _ (by omega)]
          cases has9 (hold9 σ.1 (σ.1 7)) p <;> rfl
        · rw [if_neg (by decide), if_neg (by decide), if_neg (by decide), if_neg (by decide), if_neg (by decide), if_neg (by decide), if_neg (by decide), if_pos (by decide), shr1 _ (by omega)]
      · obtain ⟨h1, e1, F1, -⟩ := holding_x H
        have H1 := H.f45 F1
        obtain ⟨a, ha, ea⟩ := H.2.1.n4
        obtain ⟨t, ht, et⟩ := H.2.1.n5
        obtain ⟨g, hg, eg⟩ := H.2.1.tree hp
        refine place_ask C hp _ d (r := nI (sky9 (hold9 σ.1 (σ.1 7)) a t g p)) (h1 := h1) ?_ (a45 F1) (fun h14 w14 t14 => ⟨h14, FI.refl _ _, ?_⟩)
        · unfold fX11_place
          rw [c1, if_pos rfl, if_neg (by decide), if_neg (by decide), if_neg (by decide), if_neg (by decide), if_neg (by decide), if_neg (by decide), if_neg (by decide), if_neg (by decide), if_pos (by decide), e1, cl2_some, H1.f4, H1.f5, ea, et, skyAt_x h1 _ hp (by rw [H1.tree hp, eg]) ha ht hg, cl9_some]
        · rw [if_neg (by decide), if_neg (by decide), if_neg (by decide), if_neg (by decide), if_neg (by decide), if_neg (by decide), if_neg (by decide), if_neg (by decide), if_pos (by decide), skyBy_m h14 (hold9_S16 _ _) (by rw [w14, ea]) (by rw [w14, et]) (by rw [w14, eg]) ha ht hg hp, cl9_some]
      · obtain ⟨h1, e1, F1, -⟩ := standing_n H
        obtain ⟨a, ha, ea⟩ := H.2.1.n4
        obtain ⟨t, ht, et⟩ := H.2.1.n5
        refine place_ask C hp _ d (r := bI (has9 (stNow σ.1 (σ.1 7)) p)) (h1 := h1) ?_ (a45 F1) (fun h14 w14 t14 => ⟨h14, FI.refl _ _, ?_⟩)
        · unfold fX11_place
          rw [c1, if_pos rfl, if_neg (by decide), if_neg (by decide), if_neg (by decide), if_neg (by decide), if_neg (by decide), if_neg (by decide), if_neg (by decide), if_neg (by decide), if_neg (by decide), if_pos (by decide), e1, cl2_some, has_x _ (by omega)]
          cases has9 (stNow σ.1 (σ.1 7)) p <;> rfl
        · rw [if_neg (by decide), if_neg (by decide), if_neg (by decide), if_neg (by decide), if_neg (by decide), if_neg (by decide), if_neg (by decide), if_neg (by decide), if_neg (by decide), standingBy_m (fun i _ _ => by rw [w14]) H.2.1 (hold9_S16 _ _) (by rw [w14, ea]) (by rw [w14, et]) ha ht, cl9_some, shr1 _ (by omega)]
          unfold stNow
          rw [ea, et, nI_clamp (by omega), nI_clamp (by omega)]
/-! pay, season, best -/
theorem upd_upd (f : Nat → Int32) (k : Nat) (x y : Int32) : upd (upd f k x) k y = upd f k y := by
  funext j; unfold upd; by_cases c : j = k <;> simp [c]
theorem upd_id (f : Nat → Int32) (k : Nat) : upd f k (f k) = f := by
  funext j; unfold upd; by_cases c : j = k <;> simp [c]
theorem standingAt_m {h : Hp} {w : Nat → Int32} (G : GW w) (HM : lawM w) (hw : h 209 = w) {A T : Nat} (e4 : w 4 = nI A) (e5 : w 5 = nI T) (hA : A ≤ 40) (hT : T ≤ 9) {a n A' T' : Nat} (hc : (a = 4 ∧ n = A' ∧ T' = T) ∨ (a = 5 ∧ n = T' ∧ A' = A)) (hA' : A' ≤ 40) (hT' : T' ≤ 9) : ∃ h', fX12_standingAt h (nI a) (nI n) = some (stand9 w (hold9 w (w 7)) A' T', h') ∧ FI cT h h' := by
  obtain ⟨h2, e2, F2, -⟩ := holdingNow_m G HM hw
  have w2 : h2 209 = w := by rw [cT_209 F2]; exact hw
  have ha : a < 14 := by omega
  refine ⟨up2 (up2 h2 209 a (nI n)) 209 a (w a), ?_, fun k j q => ?_⟩
  · unfold fX12_standingAt
    simp only [gd_in (show a < 2031 by omega) (show 2031 < 2 ^ 31 by decide), nI_clamp (show a < 2 ^ 31 by omega), lt9_e]
    rw [e2, cl2_some, hw]
    rw [standingBy_m (w := w) (A := A') (T := T') (fun i h1 h3 => by rw [up2_s, upd_n _ _ (by omega), w2]) G (hold9_S16 _ _) ?_ ?_ hA' hT', cl9_some]
    · rcases hc with ⟨rfl, rfl, rfl⟩ | ⟨rfl, rfl, rfl⟩
      · rw [up2_s, upd_s]
      · rw [up2_s, upd_n _ _ (by decide), w2, e4]
    · rcases hc with ⟨rfl, rfl, rfl⟩ | ⟨rfl, rfl, rfl⟩
      · rw [up2_s, upd_n _ _ (by decide), w2, e5]
      · rw [up2_s, upd_s]
  · by_cases c : k = 209
    · subst c
      rw [up2_s, up2_s, upd_upd, w2, upd_id, hw]
    · rw [up2_n _ _ _ c, up2_n _ _ _ c]; exact F2 k j q
theorem pay_T {h : Hp} {σ : St} (C : RC h σ) (x : Int32) : OpT h σ [(3, 1)] (fX11_pay h x) (fun ha => fX12_pay ha x) := by
  have H := C.cs
  obtain ⟨A, hA, eA⟩ := H.2.1.n4
  obtain ⟨T, hT, eT⟩ := H.2.1.n5
  have hA1 : A ≠ 0 := fun q => H.2.1.2.2.2.2.2 (by rw [eA, q]; rfl)
  have eA1 : nI A - 1 = nI (A - 1) := by rw [i_1, nI_subN (by omega)]
  rcases num_cases x 0 (A - 1) (by omega) (by decide) with ⟨c1, c2⟩ | ⟨n, -, hn, rfl, c1, c2⟩
  · have c1' : fX11_checkNumber x 0 (nI (A - 1)) = 3 := c1
    have c2' : fX12_in x 0 (nI (A - 1)) = 0 := c2
    refine opT_ask C (r := 0) (k := 3) (c := 1) (h1 := h) ?_ (by simp) (FR.refl _ _) (fun ha M => ⟨0, up2 (up2 ha 208 0 0) 208 0 1, ?_, (a0 _ _ (by omega)).trans (a0 _ _ (by omega)), by rw [up2_s, upd_s], fun q => by cases q⟩)
    · unfold fX11_pay; rw [H.f4, eA, eA1, c1']; rfl
    · unfold fX12_pay
      simp only [lt9_e]
      rw [w00 M 0 0, eA, eA1, c2']; rfl
  · have c1' : fX11_checkNumber (nI n) 0 (nI (A - 1)) = 0 := c1
    have c2' : fX12_in (nI n) 0 (nI (A - 1)) = 1 := c2
    obtain ⟨h1, e1, F1, -⟩ := holding_x H
    have H1 := H.f45 F1
    refine opT_ask C (r := fJ_bitCount (stand9 σ.1 (hold9 σ.1 (σ.1 7)) A T &&& (stand9 σ.1 (hold9 σ.1 (σ.1 7)) (A - n) T ^^^ (-1)))) (k := 0) (c := 0) (h1 := h1) ?_ (by simp) (a45 F1) (fun ha M => ?_)
    · unfold fX11_pay
      rw [H.f4, eA, eA1, c1', if_pos rfl, e1, cl2_some, H1.f4, H1.f5, eA, eT, standing_x H1 _ hA hT, cl9_some, nI_subN (by omega), standing_x H1 _ (show A - n ≤ 40 by omega) hT, cl9_some]
    · obtain ⟨h2, e2, F2, -⟩ := standingNow_m H.2.1 H.2.2.1 (w00 M 0 0)
      have w2 : h2 209 = σ.1 := by rw [cT_209 F2]; exact w00 M 0 0
      obtain ⟨h3, e3, F3⟩ := standingAt_m H.2.1 H.2.2.1 w2 eA eT hA hT (Or.inl ⟨rfl, rfl, rfl⟩) (show A - n ≤ 40 by omega) hT
      refine ⟨_, h3, ?_, ((a0 ha 0 (by omega)).trans (aT F2)).trans (aT F3), by rw [cT_0 F3, cT_0 F2]; exact z00 ha, fun _ => rfl⟩
      unfold fX12_pay
      simp only [lt9_e]
      rw [w00 M 0 0, eA, eA1, c2', if_neg (by decide), cl9_some, throws_0, cl2_some, if_pos rfl, e2, cl2_some, w2, eA, nI_subN (by omega), i_4, e3, cl2_some]
      unfold stNow
      rw [eA, eT, nI_clamp (by omega), nI_clamp (by omega)]
def seaV (w : Nat → Int32) (A t : Nat) : Int32 := fJ_bitCount (stand9 w (hold9 w (w 7)) A t)
theorem season_x {h : Hp} {w : Nat → Int32} (H : CS h 32 w) {A : Nat} (hA : A ≤ 40) (eA : w 4 = nI A) : ∃ h', fX11_season h = some ((foldN (argF (seaV w A)) 10 (0, -1)).1, h') ∧ FR c45 h h' := by
  obtain ⟨h0, e0, F0, V0⟩ := holding_x H
  have H1 := H.f45 F0
  obtain ⟨r, e, q⟩ := loop0 (σ := Int32 × Int32) (ρ := Int32 × Hp) 10 (fun m i s => LX11_season m h0 (hold9 w (w 7)) s.1 s.2 (nI i)) (fun i s => s = foldN (argF (seaV w A)) i (0, -1)) (fun r => r = ((foldN (argF (seaV w A)) 10 (0, -1)).1, h0)) (0, -1) (by decide) rfl (by
    rintro m i s hi rfl
    left
    refine ⟨_, rfl, ?_⟩
    try dsimp only
    rw [LX11_season, BX11_season_0, show (9 : Int32) = nI 9 from rfl, if_neg (nI_nlt (by omega) (by omega)), H1.f4, eA, standing_x H1 _ hA (show i ≤ 9 by omega), cl9_some, nI_1]
    simp only [lt9_e, foldN]
    generalize foldN (argF (seaV w A)) i (0, -1) = s
    unfold argF seaV
    by_cases c : fJ_bitCount (stand9 w (hold9 w (w 7)) A i) ≤ s.2
    · rw [if_pos c, if_pos c]
    · rw [if_neg c, if_neg c]) (by
    intro m s hs
    refine ⟨(s.1, h0), ?_, by rw [hs]⟩
    try dsimp only
    rw [LX11_season, BX11_season_0, show (9 : Int32) = nI 9 from rfl, if_pos (nI_lt (by omega) (by omega))])
  refine ⟨h0, ?_, F0⟩
  unfold fX11_season
  rw [e0, cl2_some, ← q]
  exact e
theorem seaV_ge {w : Nat → Int32} (A t : Nat) : ¬ seaV w A t ≤ -1 := by
  unfold seaV
  rw [bitCount_n (S := stand9 w (hold9 w (w 7)) A t) (mkB_S16 _)]
  intro q
  have h1 := cntB_le (has9 (stand9 w (hold9 w (w 7)) A t)) 16
  exact nI_pos (n := cntB (has9 (stand9 w (hold9 w (w 7)) A t)) 16) (by omega) (Int32.lt_of_le_of_lt q (by decide))
theorem season_m {h : Hp} {w : Nat → Int32} (G : GW w) (HM : lawM w) (hw : h 209 = w) {A T : Nat} (e4 : w 4 = nI A) (e5 : w 5 = nI T) (hA : A ≤ 40) (hT : T ≤ 9) : ∃ h', LX12_season big h 0 1 = some ((foldN (argF (seaV w A)) 10 (0, -1)).1, h') ∧ FI cT h h' := by
  obtain ⟨r, e, q1, q2⟩ := loopI (σ := Hp × Int32) (ρ := Int32 × Hp) 10 1 (fun m i s => LX12_season m s.1 s.2 (nI i)) (fun i s => (∃ k, k ≤ 9 ∧ foldN (argF (seaV w A)) i (0, -1) = (nI k, seaV w A k) ∧ s.2 = nI k) ∧ FI cT h s.1) (fun r => r.1 = (foldN (argF (seaV w A)) 10 (0, -1)).1 ∧ FI cT h r.2) (h, 0) (by decide) (by decide) ⟨⟨0, by decide, by
      show argF (seaV w A) 0 (0, -1) = _
      unfold argF
      rw [if_neg (seaV_ge A 0)], rfl⟩, FI.refl _ _⟩ (by
    rintro m i ⟨h1, s⟩ hi ⟨⟨k, hk, a1, a2⟩, a3⟩
    left
    dsimp only at a1 a2 a3 ⊢
    subst a2
    have w1 : h1 209 = w := by rw [cT_209 a3]; exact hw
    obtain ⟨h2, e2, F2⟩ := standingAt_m G HM w1 e4 e5 hA hT (Or.inr ⟨rfl, rfl, rfl⟩) hA (show i ≤ 9 by omega)
    have w2 : h2 209 = w := by rw [cT_209 F2]; exact w1
    obtain ⟨h3, e3, F3⟩ := standingAt_m G HM w2 e4 e5 hA hT (Or.inr ⟨rfl, rfl, rfl⟩) hA hk
    rw [LX12_season, BX12_season_0, show (9 : Int32) = nI 9 from rfl, if_neg (nI_nlt (by omega) (by omega)), i_5, e2, cl2_some, e3, cl2_some, nI_1]
    simp only [lt9_e, foldN]
    rw [a1]
    unfold argF
    try dsimp only
    by_cases c : seaV w A i ≤ seaV w A k
    · refine ⟨(h3, nI k), ⟨⟨k, hk, by rw [if_pos c], rfl⟩, (a3.trans F2).trans F3⟩, ?_⟩
      unfold seaV at c
      rw [if_pos c]
    · refine ⟨(h3, nI i), ⟨⟨i, by omega, by rw [if_neg c], rfl⟩, (a3.trans F2).trans F3⟩, ?_⟩
      unfold seaV at c
      rw [if_neg c]) (by
    rintro m ⟨h1, s⟩ ⟨⟨k, hk, a1, a2⟩, a3⟩
    dsimp only at a1 a2 a3
    refine ⟨(s, h1), ?_, by rw [a1]; exact a2, a3⟩
    show LX12_season (m + 1) h1 s (nI 10) = _
    rw [LX12_season, BX12_season_0, show (9 : Int32) = nI 9 from rfl, if_pos (nI_lt (by omega) (by omega))])
  refine ⟨r.2, ?_, q2⟩
  rw [← q1]
  exact e
theorem season_N {h : Hp} {σ : St} (C : RC h σ) : OpN h σ (fX11_season h) fX12_season := by
  obtain ⟨A, hA, eA⟩ := C.cs.2.1.n4
  obtain ⟨T, hT, eT⟩ := C.cs.2.1.n5
  obtain ⟨h1, e1, F1⟩ := season_x C.cs hA eA
  refine opN_ask C e1 (a45 F1) (fun ha M => ?_)
  obtain ⟨h3, e3, F3⟩ := season_m C.cs.2.1 C.cs.2.2.1 (w00 M 0 0) eA eT hA hT
  exact ⟨h3, by unfold fX12_season; simp only [lt9_e]; exact e3, (a0 ha 0 (by omega)).trans (aT F3)⟩
def bestC (w : Nat → Int32) (T n : Nat) : Bool := decide (stand9 w (hold9 w (w 7)) 40 T &&& (stand9 w (hold9 w (w 7)) n T ^^^ (-1)) = 0)
def bestV (w : Nat → Int32) (T : Nat) : Nat → Nat → Nat
  | 0, n => n
  | m + 1, n => if bestC w T n then n else bestV w T m (n + 1)
theorem bestV_t {w : Nat → Int32} {T m n : Nat} (c : stand9 w (hold9 w (w 7)) 40 T &&& (stand9 w (hold9 w (w 7)) n T ^^^ (-1)) = 0) : bestV w T (m + 1) n = n := by
  show (if bestC w T n = true then n else bestV w T m (n + 1)) = n
  unfold bestC
  rw [decide_eq_true c]; rfl
theorem bestV_f {w : Nat → Int32} {T m n : Nat} (c : ¬ stand9 w (hold9 w (w 7)) 40 T &&& (stand9 w (hold9 w (w 7)) n T ^^^ (-1)) = 0) : bestV w T (m + 1) n = bestV w T m (n + 1) := by
  show (if bestC w T n = true then n else bestV w T m (n + 1)) = _
  unfold bestC
  rw [decide_eq_false c]; rfl
theorem and_cpl (x : Int32) : x &&& (x ^^^ (-1)) = 0 := by
  rw [and_zero_iff]
  intro p hp
  rw [has9_cpl _ hp]
  cases has9 x p <;> rfl
theorem best_x {h : Hp} {w : Nat → Int32} (H : CS h 32 w) {T : Nat} (hT : T ≤ 9) (eT : w 5 = nI T) : ∃ h', fX11_best h = some (nI (bestV w T 39 1), h') ∧ FR c45 h h' := by
  obtain ⟨h0, e0, F0, V0⟩ := holding_x H
  have H1 := H.f45 F0
  have key : ∀ m n i, i + m = 40 → m < n → LX11_best n h0 (hold9 w (w 7)) (stand9 w (hold9 w (w 7)) 40 T) (nI i) = some (nI (bestV w T m i), h0) := by
    intro m
    induction m with
    | zero =>
      intro n i hi hn
      obtain ⟨n, rfl⟩ : ∃ k, n = k + 1 := ⟨n - 1, by omega⟩
      obtain rfl : i = 40 := by omega
      rw [LX11_best, BX11_best_0, show (40 : Int32) = nI 40 from rfl, if_pos (nI_le (Nat.le_refl _) (by decide))]; rfl
    | succ m ih =>
      intro n i hi hn
      obtain ⟨n, rfl⟩ : ∃ k, n = k + 1 := ⟨n - 1, by omega⟩
      rw [LX11_best, BX11_best_0, show (40 : Int32) = nI 40 from rfl, if_neg (nI_ge (by omega) (by decide)), H1.f5, eT, standing_x H1 _ (show i ≤ 40 by omega) hT, cl9_some, nI_1]
      simp only [lt9_e]
      by_cases c : stand9 w (hold9 w (w 7)) 40 T &&& (stand9 w (hold9 w (w 7)) i T ^^^ (-1)) = 0
      · rw [if_pos c, bestV_t c]
      · rw [if_neg c, ih n (i + 1) (by omega) (by omega), bestV_f c]
  refine ⟨h0, ?_, F0⟩
  unfold fX11_best
  rw [e0, cl2_some, H1.f5, eT, show (40 : Int32) = nI 40 from rfl, standing_x H1 _ (by decide) hT, cl9_some]
  exact key 39 big 1 rfl (by decide)
theorem best_mL {w : Nat → Int32} (G : GW w) (HM : lawM w) {A T : Nat} (e4 : w 4 = nI A) (e5 : w 5 = nI T) (hA : A ≤ 40) (hT : T ≤ 9) : ∀ m n i h, i + m = 40 → m < n → h 209 = w → ∃ h', LX12_best n h (stand9 w (hold9 w (w 7)) 40 T) (nI i) = some (nI (bestV w T m i), h') ∧ FI cT h h' := by
  intro m
  induction m with
  | zero =>
    intro n i h hi hn hw
    obtain ⟨n, rfl⟩ : ∃ k, n = k + 1 := ⟨n - 1, by omega⟩
    obtain rfl : i = 40 := by omega
    obtain ⟨h2, e2, F2⟩ := standingAt_m G HM hw e4 e5 hA hT (Or.inl ⟨rfl, rfl, rfl⟩) (show 40 ≤ 40 by decide) hT
    refine ⟨h2, ?_, F2⟩
    rw [LX12_best, BX12_best_0, i_4, e2, cl2_some, if_pos (and_cpl _)]; rfl
  | succ m ih =>
    intro n i h hi hn hw
    obtain ⟨n, rfl⟩ : ∃ k, n = k + 1 := ⟨n - 1, by omega⟩
    obtain ⟨h2, e2, F2⟩ := standingAt_m G HM hw e4 e5 hA hT (Or.inl ⟨rfl, rfl, rfl⟩) (show i ≤ 40 by omega) hT
    rw [LX12_best, BX12_best_0, i_4, e2, cl2_some, nI_1]
    simp only [lt9_e]
    by_cases c : stand9 w (hold9 w (w 7)) 40 T &&& (stand9 w (hold9 w (w 7)) i T ^^^ (-1)) = 0
    · rw [if_pos c]; exact ⟨h2, by rw [bestV_t c], F2⟩
    · obtain ⟨h3, e3, F3⟩ := ih n (i + 1) h2 (by omega) (by omega) (by rw [cT_209 F2]; exact hw)
      rw [if_neg c, e3]; exact ⟨h3, by rw [bestV_f c], F2.trans F3⟩
theorem best_N {h : Hp} {σ : St} (C : RC h σ) : OpN h σ (fX11_best h) fX12_best := by
  obtain ⟨A, hA, eA⟩ := C.cs.2.1.n4
  obtain ⟨T, hT, eT⟩ := C.cs.2.1.n5
  obtain ⟨h1, e1, F1⟩ := best_x C.cs hT eT
  refine opN_ask C e1 (a45 F1) (fun ha M => ?_)
  obtain ⟨h2, e2, F2⟩ := standingAt_m C.cs.2.1 C.cs.2.2.1 (w00 M 0 0) eA eT hA hT (Or.inl ⟨rfl, rfl, rfl⟩) (show 40 ≤ 40 by decide) hT
  obtain ⟨h3, e3, F3⟩ := best_mL C.cs.2.1 C.cs.2.2.1 eA eT hA hT 39 big 1 h2 rfl (by decide) (by rw [cT_209 F2]; exact w00 M 0 0)
  exact ⟨h3, by unfold fX12_best; simp only [lt9_e]; rw [i_4, i_40, e2, cl2_some]; exact e3, ((a0 ha 0 (by omega)).trans (aT F2)).trans (aT F3)⟩

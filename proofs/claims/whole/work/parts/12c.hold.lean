/-! Which pins hold, where the sky stands. -/
def envH (w : Nat → Int32) (p g : Nat) : Nat → Int32 := fun k =>
  if k = 0 then nI p else if k = 1 then w (46 + p) else if k = 2 then w (62 + p) else if k = 3 then w (14 + p) else if k = 4 then nI g else if k = 5 then w 3 else if k = 6 then 1 else bI (!has9 (w 13) p)
def holdV (w : Nat → Int32) (p g : Nat) : Bool := decide (w (62 + p) + w (46 + p) + sumR w 0 (envH w p g) < 60) || decide (0 < sumR w 2 (envH w p g))
def hold9 (w : Nat → Int32) (T : Int32) : Int32 := mkB (fun p => has9 T p && holdV w p (gap9 T p)) 16
theorem hold9_S16 (w : Nat → Int32) (T : Int32) : S16 (hold9 w T) := mkB_S16 _
def c45 (k : Nat) : Prop := k = 4 ∨ k = 5
def CV (h : Hp) (w : Nat → Int32) : Prop := ∀ p, p < 16 → ∀ g, g ≤ 16 → has9 (h 5 p) g = (has9 (h 4 p) g && holdV w p g)
/-- a sky of the class at b, and the law -/
def CS (h : Hp) (b : Nat) (w : Nat → Int32) : Prop := SKs (SV h b) w ∧ GW w ∧ lawM w ∧ lawC h 6 w ∧ 32 ≤ b
theorem CS.fr {C : Nat → Prop} {h h' : Hp} {b : Nat} {w : Nat → Int32} (H : CS h b w) (F : FR C h h') (c : ∀ k, C k → k < 6 ∨ (10 < k ∧ k < b) ∨ b + 10 < k) : CS h' b w := by
  obtain ⟨H1, H2, H3, H4, H5⟩ := H
  exact ⟨H1.fr F (fun j hj q => by have := c _ q; omega), H2, H3, H4.fr F (fun j hj q => by have := c _ q; omega), H5⟩
theorem CS.f45 {h h' : Hp} {b : Nat} {w : Nat → Int32} (H : CS h b w) (F : FR c45 h h') : CS h' b w := H.fr F (fun k c => by unfold c45 at c; omega)
section CSG
variable {h : Hp} {b : Nat} {w : Nat → Int32}
theorem CS.ground (H : CS h b w) {p : Nat} (hp : p < 16) : h (b + 1) p = w (14 + p) := H.1.get (loc_g hp) (by omega) (by omega)
theorem CS.need (H : CS h b w) {p : Nat} (hp : p < 16) : h (b + 2) p = w (30 + p) := H.1.get (loc_d hp) (by omega) (by omega)
theorem CS.tree (H : CS h b w) {p : Nat} (hp : p < 16) : h (b + 3) p = w (46 + p) := H.1.get (loc_t hp) (by omega) (by omega)
theorem CS.rust (H : CS h b w) {p : Nat} (hp : p < 16) : h (b + 4) p = w (62 + p) := H.1.get (loc_r hp) (by omega) (by omega)
theorem CS.spot (H : CS h b w) {k : Nat} (hk : k < 5) : h (b + 6) k = w (78 + 3 * k) := H.1.get (loc_at hk) (by omega) (by omega)
theorem CS.pace (H : CS h b w) {k : Nat} (hk : k < 5) : h (b + 7) k = w (79 + 3 * k) := H.1.get (loc_pa hk) (by omega) (by omega)
theorem CS.brass (H : CS h b w) {k : Nat} (hk : k < 5) : h (b + 8) k = w (80 + 3 * k) := H.1.get (loc_br hk) (by omega) (by omega)
theorem CS.f0 (H : CS h b w) : h (b + 5) 0 = w 0 := H.1.get (i := 0) (c := 5) rfl (by decide) (by decide)
theorem CS.f1 (H : CS h b w) : h b 16 = w 1 := H.1.get (i := 1) (c := 0) rfl (by decide) (by decide)
theorem CS.f3 (H : CS h b w) : h b 13 = w 3 := H.1.get (i := 3) (c := 0) rfl (by decide) (by decide)
theorem CS.f4 (H : CS h b w) : h b 8 = w 4 := H.1.get (i := 4) (c := 0) rfl (by decide) (by decide)
theorem CS.f5 (H : CS h b w) : h b 9 = w 5 := H.1.get (i := 5) (c := 0) rfl (by decide) (by decide)
theorem CS.f6 (H : CS h b w) : h b 12 = w 6 := H.1.get (i := 6) (c := 0) rfl (by decide) (by decide)
theorem CS.f7 (H : CS h b w) : h b 5 = w 7 := H.1.get (i := 7) (c := 0) rfl (by decide) (by decide)
theorem CS.f8 (H : CS h b w) : h b 10 = w 8 := H.1.get (i := 8) (c := 0) rfl (by decide) (by decide)
theorem CS.f9 (H : CS h b w) : h b 11 = w 9 := H.1.get (i := 9) (c := 0) rfl (by decide) (by decide)
theorem CS.f10 (H : CS h b w) : h b 15 = w 10 := H.1.get (i := 10) (c := 0) rfl (by decide) (by decide)
theorem CS.f11 (H : CS h b w) : h (b + 9) 1 = w 11 := H.1.get (i := 11) (c := 9) rfl (by decide) (by decide)
theorem CS.f12 (H : CS h b w) : h b 14 = w 12 := H.1.get (i := 12) (c := 0) rfl (by decide) (by decide)
theorem CS.f13 (H : CS h b w) : h b 4 = w 13 := H.1.get (i := 13) (c := 0) rfl (by decide) (by decide)
theorem envX_H (H : CS h b w) {p : Nat} (hp : p < 16) (g : Nat) : envX h b p (nI g) true = envH w p g := by
  funext k
  unfold envX envH
  rw [H.tree hp, H.rust hp, H.ground hp, H.f3, H.f13]
  rfl
theorem envX_P (H : CS h b w) {p : Nat} (hp : p < 16) : envX h b p (nI (gap9 (w 7) p)) (has9 (w 7) p) = envM w (w 7) p := by
  funext k
  unfold envX envM
  rw [H.tree hp, H.rust hp, H.ground hp, H.f3, H.f13]
  have e : (if has9 (w 7) p && has9 (w 7) p then w (62 + p) else 0) = w (62 + p) := by
    cases c : has9 (w 7) p with
    | true => rfl
    | false => rw [H.2.1.norust hp c]; rfl
  rw [e]
theorem envM_H (G : GW w) {T : Int32} {p : Nat} (hp : p < 16) (c : has9 T p = true) : envM w T p = envH w p (gap9 T p) := by
  funext k
  unfold envM envH
  have e : (if has9 (w 7) p && has9 T p then w (62 + p) else 0) = w (62 + p) := by
    rw [c]
    cases d : has9 (w 7) p with
    | true => rfl
    | false => rw [G.norust hp d]; rfl
  rw [e, c]
  rfl
end CSG
theorem fill_x (h : Hp) (ar an : Nat) (v : Int32) (han : an < 1000) : ∃ f : Nat → Int32, fJ_fill h ar an v = some (upA h ar f) ∧ ∀ j, j < an → f j = v := by
  obtain ⟨r, e, f, q, q2⟩ := loop0 (σ := Hp) (ρ := Hp) an (fun m i s => LJ_fill ar an m s v (nI i) (nI an)) (fun i s => ∃ f : Nat → Int32, s = upA h ar f ∧ ∀ j, j < i → f j = v) (fun r => ∃ f : Nat → Int32, r = upA h ar f ∧ ∀ j, j < an → f j = v) h (by omega) ⟨h ar, (upA_id h ar).symm, fun j hj => by omega⟩ (by
    rintro m i s hi ⟨f, rfl, hf⟩
    left
    refine ⟨upA h ar (upd f i v), ⟨upd f i v, rfl, fun j hj => ?_⟩, ?_⟩
    · by_cases c : j = i
      · rw [c, upd_s]
      · rw [upd_n _ _ c]; exact hf j (by omega)
    · show LJ_fill ar an (m + 1) (upA h ar f) v (nI i) (nI an) = _
      rw [LJ_fill, BJ_fill_0, if_neg (nI_ge hi (by omega)), gd_in hi (by omega), nI_clamp (by omega), nI_1]
      simp only [lt9_e]
      unfold up2
      rw [upA_s, upA_upA]) (by
    rintro m s ⟨f, rfl, hf⟩
    refine ⟨upA h ar f, ?_, f, rfl, hf⟩
    show LJ_fill ar an (m + 1) (upA h ar f) v (nI an) (nI an) = _
    rw [LJ_fill, BJ_fill_0, if_pos (nI_le (Nat.le_refl _) (by omega))])
  exact ⟨f, by rw [← q]; exact e, q2⟩
theorem startOver_x (h : Hp) (w : Nat → Int32) : ∃ h', fX1_startOver h = some h' ∧ FR c45 h h' ∧ CV h' w := by
  obtain ⟨f, e1, h1⟩ := fill_x h 4 16 0 (by decide)
  obtain ⟨g, e2, h2⟩ := fill_x (upA h 4 f) 5 16 0 (by decide)
  refine ⟨upA (upA h 4 f) 5 g, ?_, (FR.upA h f (Or.inl rfl)).trans (FR.upA _ g (Or.inr rfl)), fun p hp q _ => ?_⟩
  · unfold fX1_startOver
    rw [e1, cl9_some, e2, cl9_some]
  · rw [upA_s, upA_n _ _ (by decide), upA_s, h1 p hp, h2 p hp, has9_0]; rfl
theorem and_bit0 (x : Int32) {g : Nat} (hg : g < 32) : (x &&& bit9 g = 0) ↔ has9 x g = false := by
  rw [and_zero_iff]
  constructor
  · intro h
    have := h g hg
    rw [has9_bit hg] at this
    simpa using this
  · intro h p hp
    rw [has9_bit hg]
    by_cases c : p = g
    · rw [c, h]; rfl
    · simp [c]
theorem bit9_def (p : Nat) : (1 : Int32) <<< (nI p &&& 31) = bit9 p := rfl
theorem holds_x {h : Hp} {b : Nat} {w : Nat → Int32} (H : CS h b w) (V : CV h w) {p g : Nat} (hp : p < 16) (hg : g ≤ 16) : ∃ h', fX1_holds h b (nI p) (nI g) = some (bI (holdV w p g), h') ∧ FR c45 h h' ∧ CV h' w := by
  have hV := V p hp g hg
  unfold fX1_holds
  simp only [lt9_e, gd_in hp (show 16 < 2 ^ 31 by decide), nI_clamp (show p < 2 ^ 31 by omega), bit9_def, and_bit0 _ (show g < 32 by omega)]
  cases ask : has9 (h 4 p) g with
  | true =>
    rw [ask, Bool.true_and] at hV
    refine ⟨h, ?_, FR.refl _ _, V⟩
    rw [if_neg (by simp), cl9_some, hV]
    cases holdV w p g <;> rfl
  | false =>
    rw [ask, Bool.false_and] at hV
    have F1 : FR c45 h (up2 h 4 p (h 4 p ||| bit9 g)) := FR.up2 h p _ (Or.inl rfl)
    have H1 := H.f45 F1
    rw [if_pos rfl, bI_t, total_x _ hp (nI g) true H1.2.2.1 H1.2.2.2.1 (envX_H H1 hp g) (by decide), cl9_some, some_x _ hp (nI g) true H1.2.2.1 H1.2.2.2.1 (envX_H H1 hp g), cl9_some, H1.rust hp, H1.tree hp]
    have e5 : up2 h 4 p (h 4 p ||| bit9 g) 5 = h 5 := up2_n _ _ _ (by decide)
    have V1 : ∀ x : Int32, (∀ q, q ≤ 16 → has9 x q = (has9 (h 4 p ||| bit9 g) q && holdV w p q)) → CV (up2 (up2 h 4 p (h 4 p ||| bit9 g)) 5 p x) w := by
      intro x hx q hq r hr
      rw [up2_s, up2_n _ _ _ (by decide), up2_n _ _ _ (by decide), up2_s]
      by_cases c : q = p
      · subst c
        rw [upd_s, upd_s]; exact hx r hr
      · rw [upd_n _ _ c, upd_n _ _ c]; exact V q hq r hr
    have hx : ∀ (x : Int32), has9 x g = holdV w p g → (∀ q, q ≠ g → has9 x q = has9 (h 5 p) q) → ∀ q, q ≤ 16 → has9 x q = (has9 (h 4 p ||| bit9 g) q && holdV w p q) := by
      intro x h1 h2 q hq
      rw [has9_or, has9_bit (by omega)]
      by_cases c : q = g
      · subst c; simp [h1]
      · rw [h2 q c, V p hp q hq]; simp [c]
    have fin : ∀ c : Bool, c = holdV w p g → (c = true → ∃ h', (some (up2 (up2 h 4 p (h 4 p ||| bit9 g)) 5 p (h 5 p ||| bit9 g)) : Option Hp) = some h' ∧ has9 (h' 5 p) g = true ∧ FR c45 h h' ∧ CV h' w) := by
      intro c hc ht
      refine ⟨_, rfl, ?_, F1.trans (FR.up2 _ p _ (Or.inr rfl)), V1 _ (hx _ ?_ ?_)⟩
      · rw [up2_s, upd_s, has9_or, has9_bit (by omega)]; simp
      · rw [← hc, ht, has9_or, has9_bit (by omega)]; simp
      · intro q hq; rw [has9_or, has9_bit (by omega)]; simp [hq]
    have fin0 : holdV w p g = false → CV (up2 h 4 p (h 4 p ||| bit9 g)) w := by
      intro hc
      have := V1 (h 5 p) (hx _ (by rw [hV, hc]) (fun q _ => rfl))
      have e6 : up2 (up2 h 4 p (h 4 p ||| bit9 g)) 5 p (h 5 p) = up2 h 4 p (h 4 p ||| bit9 g) := by
        conv => lhs; unfold up2
        rw [show upd (upA h 4 (upd (h 4) p (h 4 p ||| bit9 g)) 5) p (h 5 p) = upA h 4 (upd (h 4) p (h 4 p ||| bit9 g)) 5 from by
          funext j
          by_cases c : j = p
          · subst c; rw [upd_s, upA_n _ _ (by decide)]
          · rw [upd_n _ _ c], upA_id]
        rfl
      rw [e6] at this
      exact this
    cases hc : holdV w p g with
    | true =>
      obtain ⟨h', q1, q2, q3, q4⟩ := fin true hc.symm rfl
      cases q1
      refine ⟨_, ?_, q3, q4⟩
      rw [e5]
      unfold holdV at hc
      simp only [Bool.or_eq_true, decide_eq_true_eq] at hc
      have tail : ∀ k : Option (Int32 × Hp), k = cl9 (some (up2 (up2 h 4 p (h 4 p ||| bit9 g)) 5 p (h 5 p ||| bit9 g))) (fun h3 => if has9 (h3 5 p) g = false then some ((0 : Int32), h3) else some (1, h3)) → k = some (bI true, up2 (up2 h 4 p (h 4 p ||| bit9 g)) 5 p (h 5 p ||| bit9 g)) := by
        intro k hk
        rw [hk, cl9_some, q2]; rfl
      apply tail
      by_cases d : w (62 + p) + w (46 + p) + sumR w 0 (envH w p g) < 60
      · rw [if_pos d, cl9_some]; rfl
      · have d2 : 0 < sumR w 2 (envH w p g) := hc.resolve_left d
        rw [if_neg d, decide_eq_true d2, cl9_some]; rfl
    | false =>
      refine ⟨_, ?_, F1, fin0 hc⟩
      unfold holdV at hc
      simp only [Bool.or_eq_false_iff, decide_eq_false_iff_not] at hc
      rw [if_neg hc.1, decide_eq_false hc.2, if_pos (show bI false = 0 from rfl), cl9_some]
      show cl9 (some (up2 h 4 p (h 4 p ||| bit9 g))) _ = _
      rw [cl9_some, e5, hV]; rfl
theorem holdingWith_x {h : Hp} {b : Nat} {w : Nat → Int32} (H : CS h b w) (V : CV h w) (T : Int32) : ∃ h', fX1_holdingWith h b T = some (hold9 w T, h') ∧ FR c45 h h' ∧ CV h' w := by
  obtain ⟨r, e, q1, q2, q3⟩ := loop0 (σ := Hp × Int32) (ρ := Int32 × Hp) 16 (fun m i s => LX1_holdingWith b m s.1 T s.2 (nI i)) (fun i s => s.2 = mkB (fun p => has9 T p && holdV w p (gap9 T p)) i ∧ FR c45 h s.1 ∧ CV s.1 w) (fun r => r.1 = hold9 w T ∧ FR c45 h r.2 ∧ CV r.2 w) (h, 0) (by decide) ⟨rfl, FR.refl _ _, V⟩ (by
    rintro m i ⟨h1, S⟩ hi ⟨a1, a2, a3⟩
    left
    dsimp only at a1 a2 a3 ⊢
    subst a1
    obtain ⟨h2, e2, b2, b3⟩ := holds_x (H.f45 a2) a3 hi (gap_le T i)
    rw [LX1_holdingWith, BX1_holdingWith_0, if_neg (c16n hi), has_x T (by omega), gap_x h1 T hi, cl9_some, e2, cl2_some, nI_1, bit9_def]
    simp only [lt9_e, bI_eq0]
    cases c : has9 T i with
    | false => exact ⟨(h1, mkB (fun p => has9 T p && holdV w p (gap9 T p)) (i + 1)), ⟨rfl, a2, a3⟩, by simp [mkB_s, c]⟩
    | true =>
      refine ⟨(h2, mkB (fun p => has9 T p && holdV w p (gap9 T p)) (i + 1)), ⟨rfl, a2.trans b2, b3⟩, ?_⟩
      cases d : holdV w i (gap9 T i) <;> simp [mkB_s, c, d]) (by
    rintro m ⟨h1, S⟩ ⟨a1, a2, a3⟩
    refine ⟨(S, h1), ?_, a1, a2, a3⟩
    show LX1_holdingWith b (m + 1) h1 T S (nI 16) = _
    rw [LX1_holdingWith, BX1_holdingWith_0, if_pos c16p])
  refine ⟨r.2, ?_, q2, q3⟩
  rw [← q1]
  exact e
theorem holding_x {h : Hp} {b : Nat} {w : Nat → Int32} (H : CS h b w) : ∃ h', fX1_holding h b = some (hold9 w (w 7), h') ∧ FR c45 h h' ∧ CV h' w := by
  obtain ⟨h1, e1, a1, a2⟩ := startOver_x h w
  obtain ⟨h2, e2, b1, b2⟩ := holdingWith_x (H.f45 a1) a2 (w 7)
  refine ⟨h2, ?_, a1.trans b1, b2⟩
  unfold fX1_holding
  rw [e1, cl9_some, (H.f45 a1).f7, e2, cl2_some]
def stand9 (w : Nat → Int32) (S : Int32) (A T : Nat) : Int32 := mkB (fun p => decide ((w (14 + p)).toNatClampNeg + (w (30 + p)).toNatClampNeg ≤ sky9 S A T (w (46 + p)).toNatClampNeg p)) 16
theorem stand9_out {w w' : Nat → Int32} (e : ∀ i, 14 ≤ i → i < 62 → w' i = w i) (S : Int32) (A T : Nat) : stand9 w' S A T = stand9 w S A T := by
  unfold stand9
  exact mkB_cong (fun p hp => by rw [e (14 + p) (by omega) (by omega), e (30 + p) (by omega) (by omega), e (46 + p) (by omega) (by omega)])
theorem standing_x {h : Hp} {b : Nat} {w : Nat → Int32} (H : CS h b w) (S : Int32) {A T : Nat} (hA : A ≤ 40) (hT : T ≤ 9) : fX7_standing h b S (nI A) (nI T) = some (stand9 w S A T) := by
  obtain ⟨r, e, q⟩ := loop0 (σ := Int32) (ρ := Int32) 16 (fun m i s => LX7_standing h b m S (nI A) (nI T) s (nI i)) (fun i s => s = mkB (fun p => decide ((w (14 + p)).toNatClampNeg + (w (30 + p)).toNatClampNeg ≤ sky9 S A T (w (46 + p)).toNatClampNeg p)) i) (fun r => r = stand9 w S A T) 0 (by decide) rfl (by
    rintro m i s hi rfl
    left
    refine ⟨_, rfl, ?_⟩
    try dsimp only
    obtain ⟨g, hg, eg⟩ := H.2.1.ground hi
    obtain ⟨d, hd, ed⟩ := H.2.1.need hi
    obtain ⟨t, ht, et⟩ := H.2.1.tree hi
    have hs := sky9_le S A T t i
    rw [LX7_standing, BX7_standing_0, if_neg (c16n hi), skyAt_x h S hi (by rw [H.tree hi, et]) hA hT ht, cl9_some, gd_in hi (by decide), gd_in hi (by decide), nI_clamp (by omega), H.ground hi, H.need hi, eg, ed, nI_1, bit9_def]
    simp only [lt9_e, sub_lt (show sky9 S A T t i < 2 ^ 30 by omega) (show g < 2 ^ 30 by omega) (show d < 2 ^ 30 by omega)]
    rw [mkB_s]
    try dsimp only
    rw [eg, ed, et, nI_clamp (by omega), nI_clamp (by omega), nI_clamp (by omega)]
    by_cases c : sky9 S A T t i < g + d
    · rw [if_pos c, if_neg (by simp; omega)]
    · rw [if_neg c, if_pos (by simp; omega)]) (by
    rintro m s rfl
    refine ⟨_, ?_, rfl⟩
    try dsimp only
    rw [LX7_standing, BX7_standing_0, if_pos c16p]; rfl)
  rw [← q]; exact e
def stNow (w : Nat → Int32) (T : Int32) : Int32 := stand9 w (hold9 w T) (w 4).toNatClampNeg (w 5).toNatClampNeg
theorem standingWith_x {h : Hp} {b : Nat} {w : Nat → Int32} (H : CS h b w) (V : CV h w) (T : Int32) : ∃ h', fX1_standingWith h b T = some (stNow w T, h') ∧ FR c45 h h' ∧ CV h' w := by
  obtain ⟨h2, e2, b1, b2⟩ := holdingWith_x H V T
  have H2 := H.f45 b1
  obtain ⟨a, ha, ea⟩ := H.2.1.n4
  obtain ⟨t, ht, et⟩ := H.2.1.n5
  refine ⟨h2, ?_, b1, b2⟩
  unfold fX1_standingWith stNow
  rw [e2, cl2_some, H2.f4, H2.f5, ea, et, standing_x H2 _ ha ht, cl9_some, nI_clamp (by omega), nI_clamp (by omega)]
theorem standing_n {h : Hp} {b : Nat} {w : Nat → Int32} (H : CS h b w) : ∃ h', fX1_standing h b = some (stNow w (w 7), h') ∧ FR c45 h h' ∧ CV h' w := by
  obtain ⟨h2, e2, b1, b2⟩ := holding_x H
  have H2 := H.f45 b1
  obtain ⟨a, ha, ea⟩ := H.2.1.n4
  obtain ⟨t, ht, et⟩ := H.2.1.n5
  refine ⟨h2, ?_, b1, b2⟩
  unfold fX1_standing stNow
  rw [e2, cl2_some, H2.f4, H2.f5, ea, et, standing_x H2 _ ha ht, cl9_some, nI_clamp (by omega), nI_clamp (by omega)]
/-! the reference -/
def cT (k j : Nat) : Prop := (k = 208 ∧ j = 18) ∨ k = 216
theorem cT_209 {h h' : Hp} (F : FI cT h h') : h' 209 = h 209 := F.cell (fun j c => by unfold cT at c; omega)
theorem doesHold_m {T : Int32} (hS : S16 T) {w : Nat → Int32} {p : Nat} (hp : p < 16) (G : GW w) (HM : lawM w) {h : Hp} (hw : h 209 = w) (hT : h 208 18 = T) (hc : has9 T p = true) : ∃ v' : Nat → Int32, fX12_doesHold h (nI p) = some (bI (holdV w p (gap9 T p)), upA h 216 v') := by
  obtain ⟨v1, e1⟩ := sumOf_m hS hp HM 0 hw hT
  have w1 : (upA h 216 v1) 209 = w := by rw [upA_n _ _ (by decide)]; exact hw
  have t1 : (upA h 216 v1) 208 18 = T := by rw [upA_n _ _ (by decide)]; exact hT
  obtain ⟨v2, e2⟩ := sumOf_m hS hp HM 2 w1 t1
  have er : fX12_rustOf h (nI p) = some (w (62 + p)) := by
    rw [rustOf_m h hT hp, hw, hc]
    cases c : has9 (w 7) p with
    | true => rfl
    | false => rw [G.norust hp c]; rfl
  have es : fX12_strainOf h (nI p) = some (w (46 + p) + sumR w 0 (envM w T p), upA h 216 v1) := by
    unfold fX12_strainOf
    rw [i_46, nI_add, gd_in (by omega) (by decide), e1, cl2_some, nI_clamp (by omega), hw]
  unfold fX12_doesHold
  rw [er, cl9_some, es, cl2_some, e2, cl2_some, ← Int32.add_assoc, envM_H G hp hc, upA_upA]
  unfold holdV
  by_cases d : w (62 + p) + w (46 + p) + sumR w 0 (envH w p (gap9 T p)) < 60
  · rw [if_pos d, decide_eq_true d]; exact ⟨v1, rfl⟩
  · rw [if_neg d, decide_eq_false d]
    refine ⟨v2, ?_⟩
    by_cases d2 : 0 < sumR w 2 (envH w p (gap9 T p))
    · rw [if_neg (Int32.not_le.mpr d2), decide_eq_true d2]; rfl
    · rw [if_pos (Int32.not_lt.mp d2), decide_eq_false d2]; rfl
theorem holdingOf_m {T : Int32} (hS : S16 T) {w : Nat → Int32} (G : GW w) (HM : lawM w) {h : Hp} (hw : h 209 = w) : ∃ h', fX12_holdingOf h T = some (hold9 w T, h') ∧ FI cT h h' ∧ h' 208 18 = T := by
  have w0 : ∀ v, (upA (up2 h 208 18 T) 216 v) 209 = w := fun v => by rw [upA_n _ _ (by decide), up2_n _ _ _ (by decide)]; exact hw
  have t0 : ∀ v, (upA (up2 h 208 18 T) 216 v) 208 18 = T := fun v => by rw [upA_n _ _ (by decide), up2_s, upd_s]
  obtain ⟨r, e, q1, v, q2⟩ := loop0 (σ := Hp × Int32) (ρ := Int32 × Hp) 16 (fun m i s => LX12_holdingOf m s.1 T s.2 (nI i)) (fun i s => s.2 = mkB (fun p => has9 T p && holdV w p (gap9 T p)) i ∧ ∃ v, s.1 = upA (up2 h 208 18 T) 216 v) (fun r => r.1 = hold9 w T ∧ ∃ v, r.2 = upA (up2 h 208 18 T) 216 v) (up2 h 208 18 T, 0) (by decide) ⟨rfl, _, (upA_id _ _).symm⟩ (by
    rintro m i ⟨h1, S⟩ hi ⟨a1, v, a2⟩
    left
    dsimp only at a1 a2 ⊢
    subst a1 a2
    rw [LX12_holdingOf, BX12_holdingOf_0, if_neg (c16n hi), has_m T (by omega), nI_1, bit9_def, or_zero]
    simp only [lt9_e, bI_eq0]
    cases c : has9 T i with
    | false => exact ⟨(upA (up2 h 208 18 T) 216 v, mkB (fun p => has9 T p && holdV w p (gap9 T p)) (i + 1)), ⟨rfl, v, rfl⟩, by simp [mkB_s, c]⟩
    | true =>
      obtain ⟨v2, e2⟩ := doesHold_m hS hi G HM (w0 v) (t0 v) c
      refine ⟨(upA (up2 h 208 18 T) 216 v2, mkB (fun p => has9 T p && holdV w p (gap9 T p)) (i + 1)), ⟨rfl, v2, rfl⟩, ?_⟩
      rw [e2, cl2_some, upA_upA]
      cases d : holdV w i (gap9 T i) <;> simp [mkB_s, c, d, bI]) (by
    rintro m ⟨h1, S⟩ ⟨a1, a2⟩
    refine ⟨(S, h1), ?_, a1, a2⟩
    show LX12_holdingOf (m + 1) h1 T S (nI 16) = _
    rw [LX12_holdingOf, BX12_holdingOf_0, if_pos c16p])
  refine ⟨upA (up2 h 208 18 T) 216 v, ?_, (FI.up2 h T (Or.inl ⟨rfl, rfl⟩)).trans (FI.upA _ v (fun j => Or.inr rfl)), t0 v⟩
  rw [← q1, ← q2]
  exact e
theorem holdingNow_m {w : Nat → Int32} (G : GW w) (HM : lawM w) {h : Hp} (hw : h 209 = w) : ∃ h', fX12_holdingNow h = some (hold9 w (w 7), h') ∧ FI cT h h' ∧ h' 208 18 = w 7 := by
  obtain ⟨h1, e1, a1, a2⟩ := holdingOf_m G.pins G HM hw
  refine ⟨h1, ?_, a1, a2⟩
  unfold fX12_holdingNow fX12_pins
  rw [hw, e1, cl2_some]
theorem standingBy_m {h : Hp} {w : Nat → Int32} (hw : ∀ i, 14 ≤ i → i < 62 → h 209 i = w i) (G : GW w) {S : Int32} (hS : S16 S) {A T : Nat} (e4 : h 209 4 = nI A) (e5 : h 209 5 = nI T) (hA : A ≤ 40) (hT : T ≤ 9) : fX12_standingBy h S = some (stand9 w S A T) := by
  obtain ⟨r, e, q⟩ := loop0 (σ := Int32) (ρ := Int32) 16 (fun m i s => LX12_standingBy h m S s (nI i)) (fun i s => s = mkB (fun p => decide ((w (14 + p)).toNatClampNeg + (w (30 + p)).toNatClampNeg ≤ sky9 S A T (w (46 + p)).toNatClampNeg p)) i) (fun r => r = stand9 w S A T) 0 (by decide) rfl (by
    rintro m i s hi rfl
    left
    refine ⟨_, rfl, ?_⟩
    try dsimp only
    obtain ⟨g, hg, eg⟩ := G.ground hi
    obtain ⟨d, hd, ed⟩ := G.need hi
    obtain ⟨t, ht, et⟩ := G.tree hi
    have hs := sky9_le S A T t i
    rw [LX12_standingBy, BX12_standingBy_0, if_neg (c16n hi), skyBy_m h hS e4 e5 (by rw [hw _ (by omega) (by omega), et]) hA hT ht hi, cl9_some, i_14, i_30, nI_add, nI_add, gd_in (by omega) (by decide), gd_in (by omega) (by decide), nI_clamp (by omega), nI_clamp (by omega), hw _ (by omega) (by omega), hw _ (by omega) (by omega), eg, ed, nI_1, bit9_def, or_zero]
    simp only [lt9_e, sub_lt (show sky9 S A T t i < 2 ^ 30 by omega) (show g < 2 ^ 30 by omega) (show d < 2 ^ 30 by omega)]
    rw [mkB_s]
    try dsimp only
    rw [eg, ed, et, nI_clamp (by omega), nI_clamp (by omega), nI_clamp (by omega)]
    by_cases c : sky9 S A T t i < g + d
    · rw [if_pos c, if_neg (by simp; omega)]
    · rw [if_neg c, if_pos (by simp; omega)]) (by
    rintro m s rfl
    refine ⟨_, ?_, rfl⟩
    try dsimp only
    rw [LX12_standingBy, BX12_standingBy_0, if_pos c16p]; rfl)
  rw [← q]; exact e
theorem standingWith_m {T : Int32} (hS : S16 T) {w : Nat → Int32} (G : GW w) (HM : lawM w) {h : Hp} (hw : h 209 = w) : ∃ h', fX12_standingWith h T = some (stNow w T, h') ∧ FI cT h h' ∧ h' 208 18 = T := by
  obtain ⟨h1, e1, a1, a2⟩ := holdingOf_m hS G HM hw
  have w1 : h1 209 = w := by rw [cT_209 a1]; exact hw
  obtain ⟨a, ha, ea⟩ := G.n4
  obtain ⟨t, ht, et⟩ := G.n5
  refine ⟨h1, ?_, a1, a2⟩
  unfold fX12_standingWith stNow
  rw [e1, cl2_some, standingBy_m (fun i _ _ => by rw [w1]) G (hold9_S16 w T) (by rw [w1]; exact ea) (by rw [w1]; exact et) ha ht, cl9_some, ea, et, nI_clamp (by omega), nI_clamp (by omega)]
theorem standingNow_m {w : Nat → Int32} (G : GW w) (HM : lawM w) {h : Hp} (hw : h 209 = w) : ∃ h', fX12_standingNow h = some (stNow w (w 7), h') ∧ FI cT h h' ∧ h' 208 18 = w 7 := by
  obtain ⟨h1, e1, a1, a2⟩ := standingWith_m G.pins G HM hw
  refine ⟨h1, ?_, a1, a2⟩
  unfold fX12_standingNow fX12_pins
  rw [hw, e1, cl2_some]

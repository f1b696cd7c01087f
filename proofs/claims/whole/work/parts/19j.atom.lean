/-! The law's text: an atom. -/
theorem isW_ex {T : Nat → Int32} {t s : Nat} {w v : List Int32} (h : isW T t w s = true) (hl : w.length ≠ v.length) : isW T t v s = false := by
  unfold isW at h ⊢
  rw [Bool.and_eq_true, decide_eq_true_eq] at h
  rw [decide_eq_false (by omega), Bool.false_and]
theorem isW_S {T : Nat → Int32} {t s c : Nat} {w : List Int32} (hs : s ≤ t) (h : isW T t w s = true) (hl : 0 < w.length) (hc : c < 97) : isS T t c s = false := by
  have h1 := isW_lt h hl
  obtain ⟨k, k1, k2, e⟩ := rg_n (a := 97) (b := 122) (by decide) (by decide) (scn_all (f := ltT T) hs (i := s) (Nat.le_refl _) h1)
  unfold isS
  rw [e, decide_eq_false (show ¬ nI k = nI c from nI_ne (by omega) (by omega) (by omega)), Bool.and_false]
theorem isS_W {T : Nat → Int32} {t s c : Nat} {w : List Int32} (hs : s ≤ t) (h : isS T t c s = true) (hl : 0 < w.length) (hc : c < 97) : isW T t w s = false := by
  cases hW : isW T t w s with
  | false => rfl
  | true => rw [isW_S hs hW hl hc] at h; cases h
/-! the reference's words -/
theorem tag_y {T : Nat → Int32} {t d x s b : Nat} (lad : Bool) (hb1 : 1 ≤ b) (cl : List Int32) {f2 : Hp → Option (Int32 × Hp)} (hx : x ≤ t) (hE : skp T t x = s) (hW : isW T t (if lad then sw47 else sw46) s = true) : MF T t d x b (.inr (wnd T t s, cl, [(if lad then 7 else 6, 0)])) (fun h => cl2 (fX12_readTag h) (fun r h1 => if r = (0 : Int32) then f2 h1 else some ((1 : Int32), h1))) := fun R h hl S => by
  have ht := S.1.1
  have hs : s ≤ t := by rw [← hE]; exact skp_le hx
  obtain ⟨h1, e1, F1, y10, y12⟩ := letters_m S.1 hx S.2.1
  rw [hE] at y10 y12
  have S1 : RLS T t d (wnd T t s) R h1 := S.tp F1 y10
  obtain ⟨h2, e2, F2, S2, -⟩ := em_m S1 (by omega) (if lad then 7 else 6) 0
  refine ⟨1, h2, ?_, F1.c1012L.trans F2, rfl, S2⟩
  dsimp only
  unfold fX12_readTag
  rw [e1, cl9_some, isWord_m S1.1 hs y10 y12 (w := sw46) (by decide), isWord_m S1.1 hs y10 y12 (w := sw47) (by decide)]
  cases lad with
  | false =>
    have hW' : isW T t sw46 s = true := hW
    have e2' : fX12_emits h1 6 0 = some h2 := e2
    rw [hW', cl9_some, if_neg (show ¬ bI true = 0 by decide), cl9_some, if_neg (by decide), e2', cl9_some, cl9_some, if_neg (by decide), cl2_some, if_neg (by decide)]
  | true =>
    have hW' : isW T t sw47 s = true := hW
    have e2' : fX12_emits h1 7 0 = some h2 := e2
    rw [isW_ex hW' (v := sw46) (by decide), hW', cl9_some, if_pos (show bI false = 0 from rfl), cl9_some, if_neg (show ¬ bI true = 0 by decide), cl9_some, if_neg (by decide), e2', cl9_some, cl9_some, if_neg (by decide), cl2_some, if_neg (by decide)]
theorem tag_n {T : Nat → Int32} {t d x s b : Nat} {o : LOut} {f2 f1 : Hp → Option (Int32 × Hp)} (hx : x ≤ t) (hE : skp T t x = s) (hP : isW T t sw46 s = false) (hL : isW T t sw47 s = false) (m : MF T t d s b o f2) : MF T t d x b o (fun h => cl2 (fX12_readTag h) (fun r h1 => if r = (0 : Int32) then f2 h1 else f1 h1)) := fun R h hl S => by
  have hg := skp_ge (T := T) hx
  have hs : s ≤ t := by rw [← hE]; exact skp_le hx
  obtain ⟨h1, e1, F1, y10, y12⟩ := letters_m S.1 hx S.2.1
  rw [hE] at y10 y12
  have P1 := S.1.fi F1 (fun k j q => by unfold c1012 at q; omega)
  have F2 : FI c1012 h (up2 h1 208 10 (h1 208 12)) := F1.trans (FI.up2 _ _ (by unfold c1012; omega))
  obtain ⟨r, h2, e2, F3, k⟩ := m R (up2 h1 208 10 (h1 208 12)) (by omega) (S.tp F2 (by rw [up2_s, upd_s]; exact y12))
  refine ⟨r, h2, ?_, F2.c1012L.trans F3, k⟩
  dsimp only
  unfold fX12_readTag
  rw [e1, cl9_some, isWord_m P1 hs y10 y12 (w := sw46) (by decide), isWord_m P1 hs y10 y12 (w := sw47) (by decide), hP, hL, cl9_some, if_pos (show bI false = 0 from rfl), cl9_some, if_pos (show bI false = 0 from rfl), cl9_some, if_pos (by decide), lt9_e, cl9_some, if_pos (by decide), cl2_some, if_pos rfl]
  exact e2
/-! one deeper -/
theorem RLS.deep {T : Nat → Int32} {t d x : Nat} {R : List (Int32 × Int32)} {h : Hp} (S : RLS T t d x R h) (d' : Nat) : RLS T t d' x R (up2 h 208 13 (nI d')) :=
  ⟨S.1.fi (FI.up2 (C := fun k j => k = 208 ∧ j = 13) _ _ ⟨rfl, rfl⟩) (fun k j q => by omega), by rw [up2_s, upd_n _ _ (by decide)]; exact S.2.1, by rw [up2_s, upd_s], by rw [up2_s, upd_n _ _ (by decide)]; exact S.2.2.2.1, fun i hi => by rw [up2_n _ _ _ (by decide)]; exact S.2.2.2.2 i hi⟩
theorem MF.deepF {T : Nat → Int32} {t d x b f : Nat} {fs G : Hp → Option (Int32 × Hp)} (hd : d < 6) (m : MF T t (d + 1) x b (.inl f) fs) : MF T t d x b (.inl f) (fun h5 => if (h5 208 13) = (6 : Int32) then some ((0 : Int32), h5) else lt9 (up2 h5 208 13 ((h5 208 13) + (1 : Int32))) (fun h46 => cl2 (fs h46) (fun x49 h47 => (if x49 = (0 : Int32) then some ((0 : Int32), h47) else lt9 (up2 h47 208 13 ((h47 208 13) - (1 : Int32))) (fun h51 => G h51))))) := fun R h hl S => by
  have e13 := S.2.2.1
  obtain ⟨r, h1, e1, F1, k⟩ := m R (up2 h 208 13 (nI (d + 1))) hl (S.deep (d + 1))
  obtain ⟨rfl, y⟩ := (show r = 0 ∧ h1 208 12 = nI f from k)
  refine ⟨0, h1, ?_, (FI.up2 _ _ (by unfold cRl; omega)).trans F1, rfl, y⟩
  dsimp only
  rw [e13, if_neg (show ¬ nI d = (6 : Int32) from nI_ne (k := 6) (by omega) (by decide) (by omega)), lt9_e, nI_1, e1, cl2_some, if_pos rfl]
theorem MF.deep {T : Nat → Int32} {t d x y b b1 : Nat} {cl : List Int32} {rl : List (Int32 × Int32)} {o : LOut} {fs G : Hp → Option (Int32 × Hp)} (hd : d < 6) (m : MF T t (d + 1) x b (.inr (y, cl, rl)) fs) (g : MF T t d y b1 o G) (hb : rl.length + x + b1 ≤ y + b) : MF T t d x b (seqO cl rl o) (fun h5 => if (h5 208 13) = (6 : Int32) then some ((0 : Int32), h5) else lt9 (up2 h5 208 13 ((h5 208 13) + (1 : Int32))) (fun h46 => cl2 (fs h46) (fun x49 h47 => (if x49 = (0 : Int32) then some ((0 : Int32), h47) else lt9 (up2 h47 208 13 ((h47 208 13) - (1 : Int32))) (fun h51 => G h51))))) := fun R h hl S => by
  have e13 := S.2.2.1
  obtain ⟨r, h1, e1, F1, k⟩ := m R (up2 h 208 13 (nI (d + 1))) hl (S.deep (d + 1))
  obtain ⟨rfl, S1⟩ := (show r = 1 ∧ RLS T t (d + 1) y (R ++ rl) h1 from k)
  obtain ⟨r2, h2, e2, F2, k2⟩ := g (R ++ rl) (up2 h1 208 13 (nI d)) (by rw [List.length_append]; omega) (S1.deep d)
  refine ⟨r2, h2, ?_, ((FI.up2 _ _ (by unfold cRl; omega)).trans F1).trans ((FI.up2 _ _ (by unfold cRl; omega)).trans F2), ?_⟩
  · dsimp only
    rw [e13, if_neg (show ¬ nI d = (6 : Int32) from nI_ne (k := 6) (by omega) (by decide) (by omega)), lt9_e, nI_1, e1, cl2_some, if_neg (by decide), lt9_e, S1.2.2.1, nI_pred]
    exact e2
  · cases o with
    | inl f => exact k2
    | inr q =>
      have k3 : r2 = 1 ∧ RLS T t d q.1 ((R ++ rl) ++ q.2.2) h2 := k2
      rw [List.append_assoc] at k3
      exact k3
theorem MF.deepW {T : Nat → Int32} {t x s b : Nat} {w : List Int32} {f2 G : Hp → Option (Int32 × Hp)} (hx : x ≤ t) (hE : skp T t x = s) (hw : okW w = true) (hW : isW T t w s = true) : MF T t 6 x b (.inl s) (fun h => cl2 (fX12_passes h w) (fun r h5 => if r = (0 : Int32) then f2 h5 else (if (h5 208 13) = (6 : Int32) then some ((0 : Int32), h5) else G h5))) := fun R h hl S => by
  obtain ⟨h1, e1, F1, S1, y⟩ := ps_y S hx hE hw hW
  refine ⟨0, h1, ?_, F1, rfl, y⟩
  dsimp only
  rw [e1, cl2_some, if_neg (by decide), S1.2.2.1, if_pos (show nI 6 = 6 from rfl)]
theorem MF.deepS {T : Nat → Int32} {t x s b c : Nat} {c' : Int32} {f2 G : Hp → Option (Int32 × Hp)} (hx : x ≤ t) (hE : skp T t x = s) (ec : c' = nI c) (hW : isS T t c s = true) : MF T t 6 x b (.inl s) (fun h => cl2 (fX12_sign h c') (fun r h5 => if r = (0 : Int32) then f2 h5 else (if (h5 208 13) = (6 : Int32) then some ((0 : Int32), h5) else G h5))) := fun R h hl S => by
  obtain ⟨h1, e1, F1, S1, y⟩ := sg_y S hx hE ec hW
  refine ⟨0, h1, ?_, F1, rfl, y⟩
  dsimp only
  rw [e1, cl2_some, if_neg (by decide), S1.2.2.1, if_pos (show nI 6 = 6 from rfl)]
theorem CF.deepW {T : Nat → Int32} {t x s a : Nat} {w : List Int32} {f2 G : Hp → Option Hp} (hx : x ≤ t) (hE : skp T t x = s) (hw : okW w = true) (hW : isW T t w s = true) : CF T t x a (.inl s) (fun h => cl2 (fX9_takeWord h w) (fun r h9 => if r = (0 : Int32) then f2 h9 else cl2 (fX3_isTooDeep h9 (nI 6)) (fun x42 h40 => (if x42 = (0 : Int32) then G h40 else some h40)))) := fun L h hl S => by
  have ht := S.1.1
  have hs : s ≤ t := by rw [← hE]; exact skp_le hx
  obtain ⟨h1, e1, F1, S1, y⟩ := tw_y S hx hE hw hW
  have F2 : FI c1345 h1 (up2 h1 1 5 (nI s)) := FI.up2 _ _ (by unfold c1345; omega)
  refine ⟨up2 h1 1 5 (nI s), ?_, F1.trans F2.c1345L, S1.fl (by omega) F2 (wnd_le hs) (by rw [up2_s, upd_n _ _ (by decide)]; exact S1.2.1) hs (by rw [up2_s, upd_s])⟩
  dsimp only
  unfold fX3_isTooDeep
  rw [e1, cl2_some, if_neg (by decide), if_neg (by decide), failLatest_x y S1.2.2.1, cl9_some, cl2_some, if_neg (by decide)]
theorem CF.deepS {T : Nat → Int32} {t x s a c : Nat} {c' : Int32} {f2 G : Hp → Option Hp} (hx : x ≤ t) (hE : skp T t x = s) (hc : c < 128) (ec : c' = nI c) (hW : isS T t c s = true) : CF T t x a (.inl s) (fun h => cl2 (fX9_takeSign h c') (fun r h9 => if r = (0 : Int32) then f2 h9 else cl2 (fX3_isTooDeep h9 (nI 6)) (fun x42 h40 => (if x42 = (0 : Int32) then G h40 else some h40)))) := fun L h hl S => by
  have ht := S.1.1
  have hs1 := isS_lt hW
  obtain ⟨h1, e1, F1, S1, y⟩ := ts_y S hx hE hc ec hW
  have F2 : FI c1345 h1 (up2 h1 1 5 (nI s)) := FI.up2 _ _ (by unfold c1345; omega)
  refine ⟨up2 h1 1 5 (nI s), ?_, F1.trans F2.c1345L, S1.fl (by omega) F2 (show s + 1 ≤ t by omega) (by rw [up2_s, upd_n _ _ (by decide)]; exact S1.2.1) (by omega) (by rw [up2_s, upd_s])⟩
  dsimp only
  unfold fX3_isTooDeep
  rw [e1, cl2_some, if_neg (by decide), if_neg (by decide), failLatest_x y S1.2.2.1, cl9_some, cl2_some, if_neg (by decide)]
theorem tooDeep_n {d : Nat} (hd : d < 6) (h : Hp) : fX3_isTooDeep h (nI d) = some (0, h) := by
  unfold fX3_isTooDeep
  rw [if_pos (show nI d < (6 : Int32) from nI_lt (b := 6) hd (by decide))]
/-! comparisons -/
theorem MF.sgn_n {T : Nat → Int32} {t d x s b : Nat} {o : LOut} {K : Int32 → Hp → Option (Int32 × Hp)} {c : Nat} {c' : Int32} (hx : x ≤ t) (hs : skp T t x = s) (ec : c' = nI c) (hW : isS T t c s = false) (k : MF T t d s b o (K 0)) : MF T t d x b o (fun h => cl2 (fX12_sign h c') (fun r h1 => K r h1)) := fun R h hl S => by
  obtain ⟨h1, e1, F1, S1, -⟩ := sg_n S hx hs ec hW
  have := skp_ge (T := T) hx
  obtain ⟨r, h2, e2, F2, k2⟩ := k R h1 (by omega) S1
  exact ⟨r, h2, by dsimp only; rw [e1, cl2_some]; exact e2, F1.trans F2, k2⟩
theorem MF.sgn_y {T : Nat → Int32} {t d x s b b1 : Nat} {o : LOut} {K : Int32 → Hp → Option (Int32 × Hp)} {c : Nat} {c' : Int32} (hx : x ≤ t) (hs : skp T t x = s) (ec : c' = nI c) (hW : isS T t c s = true) (k : MF T t d (s + 1) b1 o (K 1)) (hb : b1 ≤ b + 1) : MF T t d x b o (fun h => cl2 (fX12_sign h c') (fun r h1 => K r h1)) := fun R h hl S => by
  obtain ⟨h1, e1, F1, S1, -⟩ := sg_y S hx hs ec hW
  have := skp_ge (T := T) hx
  obtain ⟨r, h2, e2, F2, k2⟩ := k R h1 (by omega) S1
  exact ⟨r, h2, by dsimp only; rw [e1, cl2_some]; exact e2, F1.trans F2, k2⟩
theorem CF.cmp_l {T : Nat → Int32} {t x s a a1 : Nat} {o : LOut} {K : Int32 → Hp → Option Hp} (hx : x ≤ t) (hs : skp T t x = s) (hL : isS T t 60 s = true) (k : CF T t (s + 1) a1 o (K (-9))) (ha : a1 ≤ a + 1) : CF T t x a o (fun h => cl2 (fX3_takeComparison h) (fun r h1 => K r h1)) := fun L h hl S => by
  have := skp_ge (T := T) hx
  obtain ⟨h1, e1, F1, S1, -⟩ := ts_y S hx hs (c := 60) (c' := 60) (by decide) rfl hL
  obtain ⟨h2, e2, F2, k2⟩ := k L h1 (by omega) S1
  refine ⟨h2, ?_, F1.trans F2, k2⟩
  dsimp only
  unfold fX3_takeComparison
  rw [e1, cl2_some, if_neg (by decide), cl2_some]
  exact e2
theorem CF.cmp_m {T : Nat → Int32} {t x s a a1 : Nat} {o : LOut} {K : Int32 → Hp → Option Hp} (hx : x ≤ t) (hs : skp T t x = s) (hL : isS T t 60 s = false) (hG : isS T t 62 s = true) (k : CF T t (s + 1) a1 o (K (-10))) (ha : a1 ≤ a + 1) : CF T t x a o (fun h => cl2 (fX3_takeComparison h) (fun r h1 => K r h1)) := fun L h hl S => by
  have := skp_ge (T := T) hx
  have hs1 : s ≤ t := by rw [← hs]; exact skp_le hx
  have hss : skp T t s = s := by rw [← hs]; exact skp_id hx
  obtain ⟨h1, e1, F1, S1⟩ := ts_n S hx hs (c := 60) (c' := 60) (by decide) rfl hL
  obtain ⟨h2, e2, F2, S2, -⟩ := ts_y S1 hs1 hss (c := 62) (c' := 62) (by decide) rfl hG
  obtain ⟨h3, e3, F3, k3⟩ := k L h2 (by omega) S2
  refine ⟨h3, ?_, (F1.trans F2).trans F3, k3⟩
  dsimp only
  unfold fX3_takeComparison
  rw [e1, cl2_some, if_pos rfl, e2, cl2_some, if_neg (by decide), cl2_some]
  exact e3
theorem CF.cmp_f {T : Nat → Int32} {t x s a : Nat} {K : Int32 → Hp → Option Hp} (hx : x ≤ t) (hs : skp T t x = s) (hL : isS T t 60 s = false) (hG : isS T t 62 s = false) (ff : FF T t (K (-10))) : CF T t x a (.inl s) (fun h => cl2 (fX3_takeComparison h) (fun r h1 => K r h1)) := fun L h hl S => by
  have ht := S.1.1
  have hs1 : s ≤ t := by rw [← hs]; exact skp_le hx
  have hss : skp T t s = s := by rw [← hs]; exact skp_id hx
  obtain ⟨h1, e1, F1, S1⟩ := ts_n S hx hs (c := 60) (c' := 60) (by decide) rfl hL
  obtain ⟨h2, e2, F2, S2⟩ := ts_n S1 hs1 hss (c := 62) (c' := 62) (by decide) rfl hG
  obtain ⟨h3, e3, F3, k3⟩ := CF.next (a := 0) hs1 hss L h2 (by have := skp_ge (T := T) hx; omega) S2
  have e3 : fX9_failNext h2 = some h3 := e3
  obtain ⟨h4, e4, F4, k4⟩ := ff s h3 k3
  refine ⟨h4, ?_, ((F1.trans F2).trans F3).trans F4, k4⟩
  dsimp only
  unfold fX3_takeComparison
  rw [e1, cl2_some, if_pos rfl, e2, cl2_some, if_pos rfl, e3, cl9_some, cl2_some]
  exact e4
/-- what stands behind the first sum -/
def cTl (h17 : Hp) : Option Hp := cl9 (fX2_put h17 13 (-8 : Int32)) (fun h19 => cl2 (fX3_takeComparison h19) (fun x23 h21 => cl9 (fX3_takeSum h21) (fun h24 => cl9 (fX2_put h24 13 x23) (fun h26 => some h26))))
def mTl (h13 : Hp) : Option (Int32 × Hp) := cl2 (fX12_sign h13 (60 : Int32)) (fun x19 h17 => (if x19 = (0 : Int32) then cl2 (fX12_sign h17 (62 : Int32)) (fun x33 h31 => (if x33 = (0 : Int32) then some ((0 : Int32), h31) else cl2 (fX12_readSum h31) (fun x37 h35 => (if x37 = (0 : Int32) then some ((0 : Int32), h35) else cl9 ((if x19 = (0 : Int32) then some (11 : Int32) else some (10 : Int32)) : Option (Int32)) (fun v39 => cl9 (fX12_emits h35 v39 (0 : Int32)) (fun h43 => some ((1 : Int32), h43))))))) else cl2 (fX12_readSum h17) (fun x23 h21 => (if x23 = (0 : Int32) then some ((0 : Int32), h21) else cl9 ((if x19 = (0 : Int32) then some (11 : Int32) else some (10 : Int32)) : Option (Int32)) (fun v25 => cl9 (fX12_emits h21 v25 (0 : Int32)) (fun h29 => some ((1 : Int32), h29)))))))
def PT (c : List Int32) (r : List (Int32 × Int32)) : Prop := ∃ (less : Bool) (c2 : List Int32) (r2 : List (Int32 × Int32)), SEMS c2 r2 ∧ c = (-8) :: (c2 ++ [if less then -9 else -10]) ∧ r = r2 ++ [(if less then 10 else 11, 0)]
theorem tail_both {T : Nat → Int32} {t d y : Nat} (ht : t ≤ 400) (hy : y ≤ t) : LB PT T t d y 2 1 1 1 cTl mTl := by
  have hg := skp_ge (T := T) hy
  have hs := skp_le (T := T) hy
  have hss := skp_id (T := T) hy
  generalize hE : skp T t y = s at *
  have B : ∀ v u : Int32, s + 1 ≤ t → LB (fun c r => ∃ c2 r2, SEMS c2 r2 ∧ c = c2 ++ [v] ∧ r = r2 ++ [(u, 0)]) T t d (s + 1) 2 1 2 1 (fun h21 => cl9 (fX3_takeSum h21) (fun h24 => cl9 (fX2_put h24 13 v) (fun h26 => some h26))) (fun h => cl2 (fX12_readSum h) (fun r h1 => if r = (0 : Int32) then some ((0 : Int32), h1) else cl9 (fX12_emits h1 u 0) (fun h43 => some ((1 : Int32), h43)))) := fun v u hs1 => by
    refine LB.seq (Pr2 := fun c r => c = [v] ∧ r = [(u, 0)]) ((sum_both ht hs1 (by omega)).shift 0 1) (FF.seq (FF.put _) FF.id) (fun z h1 h2 => ?_) (fun c r c' r' p p2 => ⟨c, r, p, by rw [p2.1], by rw [p2.2]⟩)
    refine ⟨.inr (z, [v], [(u, 0)]), ⟨Nat.le_refl _, h2, by show 1 + z + 1 ≤ z + 2; omega, by show 1 + z + 1 ≤ z + 2; omega, rfl, rfl⟩, CF.tail (CF.put h2 (by decide) _ _), ?_⟩
    exact MF.emit (cl := []) (b1 := 1) (o := .inr (z, [v], [])) h2 (MF.one _) (by decide)
  have fin : ∀ (less : Bool) (o : LOut), s + 1 ≤ t → okLO (fun c r => ∃ c2 r2, SEMS c2 r2 ∧ c = c2 ++ [if less then -9 else -10] ∧ r = r2 ++ [(if less then 10 else 11, 0)]) t (s + 1) 2 1 2 1 o → okLO PT t y 2 1 1 1 (seqO [-8] [] o) := fun less o hs1 k => by
    refine okLO.seq (Pr1 := fun _ _ => True) (y := s + 1) (a1 := 2) (b1 := 2) ⟨by omega, hs1, by show 1 + y + 2 ≤ _; omega, by show 0 + y + 2 ≤ _; omega, trivial⟩ k (fun c r ⟨c2, r2, p, e1, e2⟩ => ⟨less, c2, r2, p, by rw [e1]; rfl, by rw [e2]; rfl⟩)
  cases hL : isS T t 60 s with
  | true =>
    have hs1 := isS_lt hL
    obtain ⟨o, k, c, mm⟩ := B (-9) 10 (by omega)
    refine ⟨seqO [-8] [] o, fin true o (by omega) k, CF.seq (CF.put hy (by decide) _ _) (CF.cmp_l (a := 1) hy hE hL (K := fun x23 h21 => cl9 (fX3_takeSum h21) (fun h24 => cl9 (fX2_put h24 13 x23) (fun h26 => some h26))) c (by decide)) (by show 1 + y + 1 ≤ y + 2; omega), MF.skip ?_⟩
    unfold mTl
    refine MF.sgn_y hy hE (c := 60) rfl hL (b1 := 2) ?_ (by decide)
    exact MF.cg (fun h => rfl) mm
  | false =>
    cases hG : isS T t 62 s with
    | true =>
      have hs1 := isS_lt hG
      obtain ⟨o, k, c, mm⟩ := B (-10) 11 (by omega)
      refine ⟨seqO [-8] [] o, fin false o (by omega) k, CF.seq (CF.put hy (by decide) _ _) (CF.cmp_m (a := 1) hy hE hL hG (K := fun x23 h21 => cl9 (fX3_takeSum h21) (fun h24 => cl9 (fX2_put h24 13 x23) (fun h26 => some h26))) c (by decide)) (by show 1 + y + 1 ≤ y + 2; omega), MF.skip ?_⟩
      unfold mTl
      refine MF.sgn_n hy hE (c := 60) rfl hL ?_
      refine MF.cg (fun h => rfl) (MF.sign_y (f2 := fun h => some ((0 : Int32), h)) hs hss (c := 62) (c' := 62) rfl hG (b1 := 2) mm (by decide))
    | false =>
      refine ⟨.inl s, hs, CF.seq (rl := []) (CF.put hy (by decide) _ _) (CF.cmp_f (a := 1) hy hE hL hG (K := fun x23 h21 => cl9 (fX3_takeSum h21) (fun h24 => cl9 (fX2_put h24 13 x23) (fun h26 => some h26))) (FF.seq FF.tsum (FF.seq (FF.put _) FF.id))) (by show 1 + y + 1 ≤ y + 2; omega), ?_⟩
      unfold mTl
      refine MF.sgn_n hy hE (c := 60) rfl hL ?_
      refine MF.cg (fun h => rfl) (MF.sign_f (f1 := fun h31 => cl2 (fX12_readSum h31) (fun x37 h35 => (if x37 = (0 : Int32) then some ((0 : Int32), h35) else cl9 (fX12_emits h35 11 (0 : Int32)) (fun h43 => some ((1 : Int32), h43))))) hs hss (c := 62) (c' := 62) rfl hG)

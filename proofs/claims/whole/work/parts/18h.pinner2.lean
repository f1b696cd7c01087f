/-! The sky's lines: pinner, all of it. -/
theorem cl2_id {ρ σ : Type} (o : Option (ρ × σ)) : cl2 o (fun x y => some (x, y)) = o := by cases o <;> rfl
def c7073 (k _j : Nat) : Prop := 70 ≤ k ∧ k ≤ 73
theorem add_F {h : Hp} {n : Nat} (hn : n < 5) (e : h 70 0 = nI n) (a q b : Int32) : ∃ h', fX0_add h 65 a q b = some h' ∧ FI c7073 h h' := ⟨_, add_up hn e a q b, (((FI.up2 _ _ (by unfold c7073; omega)).trans (FI.up2 _ _ (by unfold c7073; omega))).trans (FI.up2 _ _ (by unfold c7073; omega))).trans (FI.up2 _ _ (by unfold c7073; omega))⟩
theorem addM {h : Hp} {w : Nat → Int32} (hw : h 209 = w) {n : Nat} (hn : n < 5) (en : w 0 = nI n) (p q b : Nat) : gd (inb (fX12_at (nI n) 0) 2031) (lt9 (up2 h 209 (fX12_at (nI n) 0).toNatClampNeg (nI p)) (fun h24 => gd (inb (fX12_at (nI n) 1) 2031) (lt9 (up2 h24 209 (fX12_at (nI n) 1).toNatClampNeg (nI q)) (fun h26 => gd (inb (fX12_at (nI n) 2) 2031) (lt9 (up2 h26 209 (fX12_at (nI n) 2).toNatClampNeg (nI b)) (fun h28 => gd (inb 0 2031) (lt9 (up2 h28 209 (0 : Int32).toNatClampNeg ((h28 209 0) + 1)) (fun h30 => some ((1 : Int32), h30))))))))) = some (1, up2 (up2 (up2 (up2 h 209 (78 + 3 * n) (nI p)) 209 (79 + 3 * n) (nI q)) 209 (80 + 3 * n) (nI b)) 209 0 (nI (n + 1))) := by
  have a0 : fX12_at (nI n) 0 = nI (78 + 3 * n) := by unfold fX12_at; rw [i_78, i_3, nI_mul, nI_add]; exact nI_add _ 0
  have a1 : fX12_at (nI n) 1 = nI (79 + 3 * n) := by unfold fX12_at; rw [i_78, i_3, nI_mul, nI_add, nI_1]; exact congrArg nI (by omega)
  have a2 : fX12_at (nI n) 2 = nI (80 + 3 * n) := by unfold fX12_at; rw [i_78, i_3, nI_mul, nI_add, i_2, nI_add]; exact congrArg nI (by omega)
  rw [a0, a1, a2, gd_in (show 78 + 3 * n < 2031 by omega) (by decide), lt9_e, gd_in (show 79 + 3 * n < 2031 by omega) (by decide), lt9_e, gd_in (show 80 + 3 * n < 2031 by omega) (by decide), lt9_e, gd_t (show inb 0 2031 by decide), lt9_e, nI_clamp (by omega), nI_clamp (by omega), nI_clamp (by omega)]
  have v : up2 (up2 (up2 h 209 (78 + 3 * n) (nI p)) 209 (79 + 3 * n) (nI q)) 209 (80 + 3 * n) (nI b) 209 0 + 1 = nI (n + 1) := by
    rw [up2_s, upd_n _ _ (by omega), up2_s, upd_n _ _ (by omega), up2_s, upd_n _ _ (by omega), hw, en, nI_1]
  rw [v]
  rfl
theorem leaf_pinner {T : Nat → Int32} {t : Nat} {w : Nat → Int32} (G : GW w) {e s : Nat} (he : e ≤ t) (hst : s ≤ t) : LEAF T t w e s fX8_takePinner fX12_readPinner := by
  obtain ⟨n, hn5, en⟩ := G.n0
  have e70 : ∀ (h : Hp) x, CST T t w x h → h 70 0 = nI n := fun h x S => by rw [← en]; exact S.2.2.2.get (i := 0) (c := 5) rfl (by decide) (by decide)
  by_cases hn : n < 5
  · have c0 : ∀ h, CST T t w e h → fX8_takePinner h = cl2 (fX9_takeNumber h (nI 0) (nI 15)) (fun x4 h2 => cl2 (fX9_takeNumberBehind h2 sw35 (nI 1) (nI 9)) (fun x7 h5 => cl2 (fX9_takeNumberBehind h5 sw36 (nI 0) (nI 30)) (fun x10 h8 => cl9 (fX0_add h8 65 x4 x7 x10) (fun h11 => some h11)))) := fun h S => by
      unfold fX8_takePinner
      have e' : h (65 + 5) 0 = nI n := e70 h e S
      rw [e', if_pos (show nI n < (5 : Int32) from nI_lt (b := 5) hn (by decide))]
      rfl
    have m0 : ∀ h, MST T t w e h → fX12_readPinner h = cl2 (fX12_number h (nI 0) (nI 15)) (fun x5 h3 => cl2 ((if 0 ≤ x5 then cl2 (fX12_after h3 sw35 (nI 1) (nI 9)) (fun x13 h11 => some (x13, h11)) else some (-1, h3)) : Option (Int32 × Hp)) (fun v6 h7 => cl2 ((if 0 ≤ v6 then cl2 (fX12_after h7 sw36 (nI 0) (nI 30)) (fun x21 h19 => some (x21, h19)) else some (-1, h7)) : Option (Int32 × Hp)) (fun v14 h15 => (if 0 ≤ v14 then gd (inb (fX12_at (nI n) 0) 2031) (lt9 (up2 h15 209 (fX12_at (nI n) 0).toNatClampNeg x5) (fun h24 => gd (inb (fX12_at (nI n) 1) 2031) (lt9 (up2 h24 209 (fX12_at (nI n) 1).toNatClampNeg v6) (fun h26 => gd (inb (fX12_at (nI n) 2) 2031) (lt9 (up2 h26 209 (fX12_at (nI n) 2).toNatClampNeg v14) (fun h28 => gd (inb 0 2031) (lt9 (up2 h28 209 (0 : Int32).toNatClampNeg ((h28 209 0) + 1)) (fun h30 => some ((1 : Int32), h30))))))))) else some (0, h15))))) := fun h S => by
      unfold fX12_readPinner fX12_pinners fX12_placeTold
      rw [S.2.2, en, lt9_e, if_neg (show ¬ nI n = (5 : Int32) from nI_ne (k := 5) (by omega) (by decide) (by omega))]
      rw [cl2_id]
      rfl
    have bad : ∀ f, ∀ h x4 x7 x10 h8, CST T t w e h → FI c1345 h h8 → FLD T t f h8 → ∃ h', cl9 (fX0_add h8 65 x4 x7 x10) (fun h11 => some h11) = some h' ∧ FI cSk h h' ∧ okC T t (.inl f) h' := fun f h x4 x7 x10 h8 S F8 L8 => by
      have e8 : h8 70 0 = nI n := by rw [F8 70 0 (fun q => by unfold c1345 at q; omega)]; exact e70 h e S
      obtain ⟨h9, e9, F9⟩ := add_F hn e8 x4 x7 x10
      exact ⟨h9, by rw [e9]; rfl, F8.c1345S.trans (F9.mono (fun k j q => by unfold c7073 at q; unfold cSk; omega)), L8.fi F9 (fun k j q => by unfold c7073 at q; omega)⟩
    have st13 : ∀ {h h' : Hp}, FI c13 h h' → FI c1345 h h' := fun F => F.mono (fun k j q => by unfold c1345; omega)
    rcases num_both (T := T) (w := w) he 0 15 (by decide) (by decide) with ⟨k, a1, a2, a3, a4, ac, am⟩ | ⟨k, a1, ac, am⟩
    · generalize hp : nmV T t (skp T t e) = p at a3 a4 ac am
      generalize hy : dnd T t (skp T t e) = y at a1 a2 ac am
      have pp : (0 : Int32) ≤ nI p := nI_le (a := 0) (Nat.zero_le _) (by omega)
      rcases behind_both (T := T) (w := w) a2 (wd := sw35) (by decide) 1 9 (by decide) (by decide) with ⟨q, y2, b1, b2, b3, b4, bc, bm⟩ | ⟨f, b1, bc, bm⟩
      · have pq : (0 : Int32) ≤ nI q := nI_le (a := 0) (Nat.zero_le _) (by omega)
        rcases behind_both (T := T) (w := w) b4 (wd := sw36) (by decide) 0 30 (by decide) (by decide) with ⟨r, y3, d1, d2, d3, d4, dc, dm⟩ | ⟨f, d1, dc, dm⟩
        · refine ⟨.inr (y3, addW w n p q r), ⟨by omega, d4, G.addW hn en (by omega) b1 b2 d2, ?_⟩, fun h S _ => ?_, fun h S _ => ?_⟩
          · unfold addW
            exact (((keepW.up (by omega) _).trans (keepW.up (by omega) _)).trans (keepW.up (by omega) _)).trans (keepW.up (by omega) _)
          · obtain ⟨h1, e1, F1, S1, -⟩ := ac h S
            obtain ⟨h2, e2, F2, S2⟩ := bc h1 S1
            obtain ⟨h3, e3, F3, S3⟩ := dc h2 S2
            refine ⟨_, by rw [c0 h S, e1, cl2_some, e2, cl2_some, e3, cl2_some, add_up hn (e70 h3 _ S3)]; rfl, ((((F1.trans F2).trans F3).c1345S.trans (FI.up2 _ _ (by unfold cSk; omega))).trans (FI.up2 _ _ (by unfold cSk; omega))).trans ((FI.up2 _ _ (by unfold cSk; omega)).trans (FI.up2 _ _ (by unfold cSk; omega))), ?_, ?_, ?_, ?_⟩
            · exact (((S3.1.cSf (FI.up2 _ _ (by unfold cSk; omega))).cSf (FI.up2 _ _ (by unfold cSk; omega))).cSf (FI.up2 _ _ (by unfold cSk; omega))).cSf (FI.up2 _ _ (by unfold cSk; omega))
            · rw [up2_n _ _ _ (by decide), up2_n _ _ _ (by decide), up2_n _ _ _ (by decide), up2_n _ _ _ (by decide)]; exact S3.2.1
            · rw [up2_n _ _ _ (by decide), up2_n _ _ _ (by decide), up2_n _ _ _ (by decide), up2_n _ _ _ (by decide)]; exact S3.2.2.1
            · exact (((S3.2.2.2.up (loc_at hn) (by omega) (nI p)).up (loc_pa hn) (by omega) (nI q)).up (loc_br hn) (by omega) (nI r)).up (i := 0) (c := 5) rfl (by decide) _
          · obtain ⟨h1, e1, F1, S1, -⟩ := am h S
            obtain ⟨h2, e2, F2, S2⟩ := bm h1 S1
            obtain ⟨h3, e3, F3, S3⟩ := dm h2 S2
            refine ⟨1, _, by rw [m0 h S, e1, cl2_some, if_pos pp, e2, cl2_some, cl2_some, if_pos pq, e3, cl2_some, cl2_some, if_pos (show (0 : Int32) ≤ nI r from nI_le (a := 0) (Nat.zero_le _) (by omega)), addM S3.2.2 hn en], ((((F1.trans F2).trans F3).c1012R.trans (FI.up2 _ _ (by unfold cRk; omega))).trans (FI.up2 _ _ (by unfold cRk; omega))).trans ((FI.up2 _ _ (by unfold cRk; omega)).trans (FI.up2 _ _ (by unfold cRk; omega))), rfl, ?_, ?_, ?_⟩
            · exact (((S3.1.cRf (FI.up2 _ _ (by unfold cRk; omega))).cRf (FI.up2 _ _ (by unfold cRk; omega))).cRf (FI.up2 _ _ (by unfold cRk; omega))).cRf (FI.up2 _ _ (by unfold cRk; omega))
            · rw [up2_n _ _ _ (by decide), up2_n _ _ _ (by decide), up2_n _ _ _ (by decide), up2_n _ _ _ (by decide)]; exact S3.2.1
            · rw [up2_s, up2_s, up2_s, up2_s, S3.2.2]; rfl
        · refine ⟨.inl f, d1, fun h S _ => ?_, fun h S _ => ?_⟩
          · obtain ⟨h1, e1, F1, S1, -⟩ := ac h S
            obtain ⟨h2, e2, F2, S2⟩ := bc h1 S1
            obtain ⟨h3, e3, F3, L3⟩ := dc h2 S2
            rw [c0 h S, e1, cl2_some, e2, cl2_some, e3, cl2_some]
            exact bad f h _ _ _ h3 S ((F1.trans F2).trans F3) L3
          · obtain ⟨h1, e1, F1, S1, -⟩ := am h S
            obtain ⟨h2, e2, F2, S2⟩ := bm h1 S1
            obtain ⟨h3, e3, F3, y12, -⟩ := dm h2 S2
            exact ⟨0, h3, by rw [m0 h S, e1, cl2_some, if_pos pp, e2, cl2_some, cl2_some, if_pos pq, e3, cl2_some, cl2_some, if_neg (show ¬ (0 : Int32) ≤ -1 by decide)], ((F1.trans F2).trans F3).c1012R, rfl, y12⟩
      · refine ⟨.inl f, b1, fun h S _ => ?_, fun h S _ => ?_⟩
        · obtain ⟨h1, e1, F1, S1, -⟩ := ac h S
          obtain ⟨h2, e2, F2, L2⟩ := bc h1 S1
          obtain ⟨h3, e3, F3, L3⟩ := behind_f L2 sw36 (nI 0) (nI 30)
          rw [c0 h S, e1, cl2_some, e2, cl2_some, e3, cl2_some]
          exact bad f h _ _ _ h3 S ((F1.trans F2).trans (st13 F3)) L3
        · obtain ⟨h1, e1, F1, S1, -⟩ := am h S
          obtain ⟨h2, e2, F2, y12, -⟩ := bm h1 S1
          exact ⟨0, h2, by rw [m0 h S, e1, cl2_some, if_pos pp, e2, cl2_some, cl2_some, if_neg (show ¬ (0 : Int32) ≤ -1 by decide), cl2_some, if_neg (show ¬ (0 : Int32) ≤ -1 by decide)], (F1.trans F2).c1012R, rfl, y12⟩
    · refine ⟨.inl (skp T t e), a1, fun h S _ => ?_, fun h S _ => ?_⟩
      · obtain ⟨h1, e1, F1, L1⟩ := ac h S
        obtain ⟨h2, e2, F2, L2⟩ := behind_f L1 sw35 (nI 1) (nI 9)
        obtain ⟨h3, e3, F3, L3⟩ := behind_f L2 sw36 (nI 0) (nI 30)
        rw [c0 h S, e1, cl2_some, e2, cl2_some, e3, cl2_some]
        exact bad _ h _ _ _ h3 S ((F1.trans (st13 F2)).trans (st13 F3)) L3
      · obtain ⟨h1, e1, F1, y12, -⟩ := am h S
        exact ⟨0, h1, by rw [m0 h S, e1, cl2_some, if_neg (show ¬ (0 : Int32) ≤ -1 by decide), cl2_some, if_neg (show ¬ (0 : Int32) ≤ -1 by decide), cl2_some, if_neg (show ¬ (0 : Int32) ≤ -1 by decide)], F1.c1012R, rfl, y12⟩
  · obtain rfl : n = 5 := by omega
    refine ⟨.inl s, hst, fun h S y4 => ?_, fun h S y12 => ?_⟩
    · refine ⟨_, ?_, FI.up2 _ _ (by unfold cSk; omega), FLD.fail S he hst⟩
      unfold fX8_takePinner
      have e' : h (65 + 5) 0 = nI 5 := e70 h e S
      rw [e', if_neg (by decide), failLatest_x y4 S.2.2.1]
      rfl
    · refine ⟨0, h, ?_, FI.refl _ _, rfl, y12⟩
      unfold fX12_readPinner fX12_pinners
      rw [S.2.2, en, lt9_e, if_pos (show nI 5 = 5 from rfl)]

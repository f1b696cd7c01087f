/-! sky: both sides -/
theorem LG_keep {h h' : Hp} {w w' : Nat → Int32} (L : LG (SV h 65) w) (e9 : h' 74 = h 74) (e10 : h' 75 = h 75) (K : keepW w w') : LG (SV h' 65) w' := by
  have : LG (SV h' 65) w := by
    unfold LG SV at L ⊢
    have e9' : h' (65 + 9) = h (65 + 9) := e9
    have e10' : h' (65 + 10) = h (65 + 10) := e10
    rw [e9', e10']
    exact L
  exact this.out (fun i hi _ => K i (by omega))
theorem sky_T {h : Hp} {σ : St} (C : RC h σ) : OpT h σ [(3, 1), (5, 2)] (fX11_sky h) fX12_sky := by
  obtain ⟨w, s, P, g, I, t, T, Fa⟩ := σ
  have C0 := C
  obtain ⟨c1, c2, c3, c4, c5, ⟨ht, e11, hb⟩, c7⟩ := C
  obtain ⟨o, ho, lc, lm⟩ := text_both (T := T) (t := t) c1.2.1 ht
  obtain ⟨h1, e1, H1⟩ := become_x h 65 32 (by omega)
  have S1 : SKY h1 65 w := H1.sky c1
  have F1 := H1.2
  obtain ⟨r, h3, e3, F3, k3, e30⟩ := readS_x ⟨ht, by rw [F1 1 (by omega)]; exact e11, by rw [F1 2 (by omega)]; exact hb⟩ S1.1 lc
  have F6 : FI cTp h (up2 h3 0 11 r) := ((show FI cTp h h1 from fun k j q => by rw [F1 k (fun z => q (by unfold cTp; omega))]).trans (F3.mono (fun k j q => by unfold c1x at q; unfold cTp; omega))).trans (FI.up2 _ _ (by unfold cTp; omega))
  have r6 : up2 h3 0 11 r 0 11 = r := by rw [up2_s, upd_s]
  have R6 := RC_tape C0 F6 (by rw [up2_n _ _ _ (by decide)]; exact e30)
  rw [r6] at R6
  have FX6 : FR cX h (up2 h3 0 11 r) := fun k hk => F6.cell (fun j q => hk (by unfold cTp at q; unfold cX; omega))
  have st : fX11_sky h = (if r = -1 then (if (up2 h3 0 11 r 32 16) < 12 then cl9 (fX7_become (up2 h3 0 11 r) 32 65) (fun h9 => lt9 (up2 h9 32 16 ((h9 32 16) + 1)) (fun h11 => cl9 (fX5_forget h11) (fun h12 => some ((h12 32 16), 0, h12)))) else some (0, 5, up2 h3 0 11 r)) else some (0, 3, up2 h3 0 11 r)) := by
    unfold fX11_sky
    rw [e1, cl9_some, e3, cl2_some, lt9_e, r6]
  obtain ⟨n1, hn1, en1⟩ := c1.2.1.n1
  have e1632 : up2 h3 0 11 r 32 16 = w 1 := R6.cs.f1
  cases o with
  | inl f =>
    have hf : f ≤ t := ho
    obtain ⟨k3, -⟩ := k3
    subst k3
    refine ⟨0, 3, 1, _, _, by rw [st, if_neg (no_m1 (by omega))], by simp, R6, FX6, fun ha M => ?_⟩
    obtain ⟨hc, Fc, ec, ek⟩ := sky_m0 ha
    have Mc : RM hc (w, s, P, g, I, t, T, Fa) := M.sm (Fc.mono (fun k j q => by unfold sm; omega))
    obtain ⟨r', h', hm, er, Mm, Fm, z0, e211, Fh, k'⟩ := readAll_m Mc ht lm
    obtain ⟨k', y12⟩ := k'
    subst k'
    obtain ⟨h9, e9, M9, F9⟩ := sky_back (h2 := up2 (up2 h' 208 14 (nI f)) 208 0 1) M.w ec Mm e211 (((Fh.mono (fun k j q => by unfold cRk at q; omega)).trans (FI.up2 _ _ (by omega))).trans (FI.up2 _ _ (by omega))) 997634
    have f14 : up2 (up2 h' 208 14 (nI f)) 208 0 1 208 14 = nI f := by rw [up2_s, upd_n _ _ (by decide), up2_s, upd_s]
    rw [f14] at M9
    refine ⟨0, h9, ?_, M9, ?_, ?_, fun q => by cases q⟩
    · rw [ek, LX12_sky, if_pos rfl, BX12_sky_0, if_pos (by decide), er, cl2_some, if_neg (show ¬ (0 : Int32) ≤ -1 by decide), cl9_some, lt9_e, y12, if_neg (show ¬ (0 : Int32) ≤ -1 by decide), cl9_some, throws_1, cl2_some, if_neg (by decide)]
      exact e9
    · exact ((((Fc.mono (fun k j q => by unfold cM; omega)).trans Fm).trans (Fh.mono (fun k j q => by unfold cRk at q; unfold cM; omega))).trans ((t0M _ 14 _).trans (t0M _ 0 _))).trans (F9.mono (fun k j q => by unfold cM; omega))
    · rw [F9 208 0 (by omega), up2_s, upd_s]
  | inr q =>
    obtain ⟨x', w'⟩ := q
    obtain ⟨k3, S3⟩ := k3
    subst k3
    obtain ⟨-, G', K⟩ := ho
    have w1' : w' 1 = nI n1 := by rw [K 1 (by omega)]; exact en1
    have mA : ∀ ha, RM ha (w, s, P, g, I, t, T, Fa) → ∃ hc h' hm, FI (fun k _ => k = 211) ha hc ∧ (∀ j, j < 1182 → hc 211 j = ha 209 j) ∧ RM hm (useT (w, s, P, g, I, t, T, Fa)) ∧ FI cM hc hm ∧ hm 208 0 = 0 ∧ hm 211 = hc 211 ∧ FI cRk hm h' ∧ h' 209 = w' ∧ fX12_sky ha = cl2 (fX12_throwsIf (up2 h' 208 14 (-1)) (if n1 = 12 then 1 else 0) 2) (fun x24 h22 => (if x24 = 0 then gd (inb 1 2031) (lt9 (up2 h22 209 (1 : Int32).toNatClampNeg ((h22 209 1) + 1)) (fun h27 => lt9 (up2 h27 208 7 0) (fun h28 => some ((h28 209 1), h28)))) else LX12_sky 998817 1 h22 0 0)) := by
      intro ha M
      obtain ⟨hc, Fc, ec, ek⟩ := sky_m0 ha
      have Mc : RM hc (w, s, P, g, I, t, T, Fa) := M.sm (Fc.mono (fun k j q => by unfold sm; omega))
      obtain ⟨r', h', hm, er, Mm, Fm, z0, e211, Fh, k'⟩ := readAll_m Mc ht lm
      obtain ⟨k', S'⟩ := k'
      refine ⟨hc, h', hm, Fc, ec, Mm, Fm, z0, e211, Fh, S'.2.2, ?_⟩
      have k9 : (up2 h' 208 14 (-1)) 209 1 = nI n1 := by rw [up2_n _ _ _ (by decide), S'.2.2]; exact w1'
      rw [ek, LX12_sky, if_pos rfl, BX12_sky_0, if_pos (by decide), er, cl2_some, if_pos k', cl9_some, lt9_e, if_pos k', cl9_some, throws_0, cl2_some, if_pos rfl, k9]
      by_cases c : n1 = 12
      · rw [c, if_pos (show nI 12 = 12 from rfl), if_pos rfl, cl9_some]
      · rw [if_neg (show ¬ nI n1 = (12 : Int32) from nI_ne (k := 12) (by omega) (by decide) c), if_neg c, cl9_some]
    by_cases hn : n1 = 12
    · refine ⟨0, 5, 2, _, _, by rw [st, if_pos rfl, e1632, en1, hn, if_neg (by decide)], by simp, R6, FX6, fun ha M => ?_⟩
      obtain ⟨hc, h', hm, Fc, ec, Mm, Fm, z0, e211, Fh, e209, ek⟩ := mA ha M
      obtain ⟨h9, e9, M9, F9⟩ := sky_back (h2 := up2 (up2 h' 208 14 (-1)) 208 0 2) M.w ec Mm e211 (((Fh.mono (fun k j q => by unfold cRk at q; omega)).trans (FI.up2 _ _ (by omega))).trans (FI.up2 _ _ (by omega))) 997634
      have f14 : up2 (up2 h' 208 14 (-1)) 208 0 2 208 14 = -1 := by rw [up2_s, upd_n _ _ (by decide), up2_s, upd_s]
      rw [f14] at M9
      refine ⟨0, h9, ?_, M9, ?_, ?_, fun q => by cases q⟩
      · rw [ek, if_pos hn, throws_1, cl2_some, if_neg (by decide)]
        exact e9
      · exact ((((Fc.mono (fun k j q => by unfold cM; omega)).trans Fm).trans (Fh.mono (fun k j q => by unfold cRk at q; unfold cM; omega))).trans ((t0M _ 14 _).trans (t0M _ 0 _))).trans (F9.mono (fun k j q => by unfold cM; omega))
      · rw [F9 208 0 (by omega), up2_s, upd_s]
    · have S6 : SKY (up2 h3 0 11 (-1)) 65 w' := ⟨S3.2.2.2.fi (FI.up2 (C := fun k _ => k = 0) _ _ rfl) (fun k j q => by omega), G', LG_keep S1.2.2 (by rw [up2_n _ _ _ (by decide)]; exact F3.cell (fun j q => by unfold c1x at q; omega)) (by rw [up2_n _ _ _ (by decide)]; exact F3.cell (fun j q => by unfold c1x at q; omega)) K⟩
      obtain ⟨h9, e9, H9⟩ := become_x (up2 h3 0 11 (-1)) 32 65 (by omega)
      have S9 : SKY h9 32 w' := H9.sky S6
      have v9 : h9 32 16 = nI n1 := by rw [← w1']; exact S9.1.get (i := 1) (c := 0) rfl (by decide) (by decide)
      have S11 : SKY (up2 h9 32 16 (nI (n1 + 1))) 32 (upd w' 1 (nI (n1 + 1))) := S9.up (c := 0) (i := 1) rfl (by decide) (by decide) (by decide) (G'.set (by decide) rfl (show n1 + 1 ≤ 12 by omega) (by decide) (fun q => by omega) (fun q _ => by omega) (fun q _ => by omega))
      have R11 := R6.set S11 ((H9.2.mono (fun k q => by omega)).trans (FR.up2 _ _ _ (by omega))) (by rw [upd_n _ _ (by decide)]; exact K 2 (by omega)) (fun i h1 h2 => by rw [upd_n _ _ (by omega)]; exact K i (by omega))
      obtain ⟨d1, d2, d3, d4, d5, d6, d7⟩ := R11
      have F12 : FR (fun k => k = 18) (up2 h9 32 16 (nI (n1 + 1))) (up2 (up2 h9 32 16 (nI (n1 + 1))) 18 1 0) := FR.up2 _ _ _ rfl
      refine ⟨nI (n1 + 1), 0, 0, up2 (up2 h9 32 16 (nI (n1 + 1))) 18 1 0, (upd w' 1 (nI (n1 + 1)), 0, P, g, I, 0, T, -1), ?_, by simp, ⟨d1.fr F12 (fun j hj q => by omega), d2, d3.fr F12 (fun j hj q => by omega), ?_, d5.fr F12 (fun k q => by omega), d6.fr F12 (fun k q => by omega), by rw [F12 0 (by omega)]; exact d7⟩, ?_, fun ha M => ?_⟩
      · rw [st, if_pos rfl, e1632, en1, if_pos (show nI n1 < (12 : Int32) from nI_lt (b := 12) (by omega) (by decide)), e9, cl9_some, lt9_e, v9, nI_1]
        unfold fX5_forget
        rw [lt9_e, cl9_some, up2_n _ _ _ (by decide), up2_s, upd_s]
      · obtain ⟨-, -, nx, hnx, enx, -⟩ := d4
        exact ⟨by omega, by rw [up2_s, upd_s]; rfl, nx, hnx, by rw [up2_s, upd_n _ _ (by decide)]; exact enx, fun i hi => by omega⟩
      · exact ((FX6.trans (H9.2.mono (fun k q => by unfold cX; omega))).trans (FR.up2 _ _ _ (by unfold cX; omega))).trans (FR.up2 _ _ _ (by unfold cX; omega))
      · obtain ⟨hc, h', hm, Fc, ec, Mm, Fm, z0, e211, Fh, e209, ek⟩ := mA ha M
        have F14 : FI (fun k j => (k = 208 ∧ (j = 0 ∨ j = 10 ∨ j = 12 ∨ j = 14)) ∨ k = 209) hm (up2 (up2 h' 208 14 (-1)) 209 1 (nI (n1 + 1))) := ((Fh.mono (fun k j q => by unfold cRk at q; omega)).trans (FI.up2 _ _ (by omega))).trans (FI.up2 _ _ (by omega))
        have MM := RM_sky Mm F14 (w' := upd w' 1 (nI (n1 + 1))) (by rw [up2_s, up2_n _ _ _ (by decide), e209])
        obtain ⟨p1, p2, p3, p4, p5⟩ := MM
        refine ⟨nI (n1 + 1), up2 (up2 (up2 h' 208 14 (-1)) 209 1 (nI (n1 + 1))) 208 7 0, ?_, ⟨?_, ⟨by rw [up2_s, upd_s]; rfl, fun i hi => by omega⟩, ?_, ?_, ?_⟩, ?_, ?_, fun _ => rfl⟩
        · rw [ek, if_neg hn, throws_0, cl2_some, if_pos rfl, gd_t (show inb 1 2031 by decide), lt9_e, lt9_e, up2_n h' _ _ (by decide), e209, w1', nI_1, up2_n _ _ _ (by decide), up2_s]
          rfl
        · rw [up2_n _ _ _ (by decide)]; exact p1
        · unfold imgM at p3 ⊢
          rw [up2_s, upd_n _ _ (by decide), up2_n _ _ _ (by decide)]; exact p3
        · unfold tapM at p4 ⊢
          rw [up2_s, upd_n _ _ (by decide), up2_n _ _ _ (by decide)]; exact p4
        · rw [up2_s, upd_n _ _ (by decide), up2_n _ _ _ (by decide), up2_s, upd_s]
        · exact ((((Fc.mono (fun k j q => by unfold cM; omega)).trans Fm).trans (Fh.mono (fun k j q => by unfold cRk at q; unfold cM; omega))).trans (t0M _ 14 _)).trans ((FI.up2 _ _ (by unfold cM; omega)).trans (t0M _ 7 _))
        · rw [up2_s, upd_n _ _ (by decide), up2_n _ _ _ (by decide), up2_s, upd_n _ _ (by decide), Fh 208 0 (fun q => by unfold cRk at q; omega)]; exact z0

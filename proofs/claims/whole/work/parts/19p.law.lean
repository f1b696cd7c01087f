/-! law: the call -/
def OpW (h : Hp) (σ : St) (cs : List (Nat × Int32)) (fx : Option (Int32 × Nat × Hp)) (fm : Hp → Option (Int32 × Hp)) : Prop := ∃ r k c h1, fx = some (r, k, h1) ∧ (k, c) ∈ ((0, 0) :: cs) ∧ FR cX h h1 ∧ ∀ ha, RM ha σ → ∃ r' h2 σ', fm ha = some (r', h2) ∧ RC h1 σ' ∧ RM h2 σ' ∧ FI cM ha h2 ∧ h2 208 0 = c ∧ (k = 0 → r' = r)
theorem glueW {h : Hp} {σ : St} {cs : List (Nat × Int32)} {fx : Option (Int32 × Nat × Hp)} {fm : Hp → Option (Int32 × Hp)} (O : OpW h σ cs fx fm) (M : RM h σ) {fl : Option (Int32 × Hp)}
    (hl0 : ∀ r h1, fx = some (r, 0, h1) → fl = some (0, up2 h1 221 0 r)) (hl : ∀ r k c h1, fx = some (r, k, h1) → (k, c) ∈ cs → k ≠ 0 ∧ c ≠ 0 ∧ fl = some (c, h1)) (k : Hp → Option Int32) : ∃ h', REL h' ∧ cl2 fl (fun x2 h3 => cl2 (fm h3) (fun x8 h6 => (if (fX12_thrown h6) = x2 then (if x2 = (0 : Int32) then (if (lg_cmp ((h6 221 0).toInt64) (x8.toInt64)) = 0 then k h6 else some 0) else k h6) else some 0))) = k h' := by
  obtain ⟨r, kk, c, h1, e1, hm, F1, O⟩ := O
  rcases List.mem_cons.mp hm with q | q
  · cases q
    have F2 : FR cX h (up2 h1 221 0 r) := F1.trans (FR.up2 _ _ _ (Or.inr rfl))
    obtain ⟨r', h2, σ', e2, C1, M2, F3, t2, q2⟩ := O (up2 h1 221 0 r) (M.cx F2)
    have C2 : RC (up2 h1 221 0 r) σ' := C1.sc (FR.up2 _ _ _ (by unfold sc; omega))
    refine ⟨h2, ⟨σ', C2.cm F3, M2⟩, ?_⟩
    have e3 : h2 221 = up2 h1 221 0 r 221 := F3.cell (fun j c => c.2 rfl)
    rw [hl0 r h1 e1, cl2_some, e2, cl2_some, if_pos (show fX12_thrown h2 = 0 from t2), if_pos rfl, e3, up2_s, upd_s, q2 rfl, lg_cmp_self, if_pos rfl]
  · obtain ⟨a1, a2, a3⟩ := hl r kk c h1 e1 q
    obtain ⟨r', h2, σ', e2, C1, M2, F3, t2, q2⟩ := O h1 (M.cx F1)
    refine ⟨h2, ⟨σ', C1.cm F3, M2⟩, ?_⟩
    rw [a3, cl2_some, e2, cl2_some, if_pos (show fX12_thrown h2 = c from t2), if_neg a2]
/-! the class's side of a state, its row changed -/
theorem RC_out {h : Hp} {w w' : Nat → Int32} {s : Nat} {P : Nat → Nat → Int32} {g : Bool} {I : Nat → Int32} {t : Nat} {T : Nat → Int32} {Fa : Int32} (C : RC h (w, s, P, g, I, t, T, Fa)) (e : ∀ i, i < 1182 → w' i = w i) : RC h (w', s, P, g, I, t, T, Fa) := by
  obtain ⟨c1, c2, c3, c4, c5, c6, c7⟩ := C
  obtain ⟨p1, p2, nx, p3, p4, p5⟩ := c4
  exact ⟨c1.out (fun i hi => e i (by omega)), c2.out (e 2 (by decide)) (fun i _ hi => e i hi), c3.out c2 (e 2 (by decide)) (fun i _ hi => e i hi), ⟨p1, p2, nx, p3, p4, fun i hi => ⟨(p5 i hi).1, by rw [e 2 (by decide)]; exact (p5 i hi).2⟩⟩, c5, c6, c7⟩
theorem RC_cLn {h h' : Hp} {σ : St} (C : RC h (useT σ)) (F : FI cLn h h') : RC h' (useT σ) := by
  obtain ⟨w, s, P, g, I, t, T, Fa⟩ := σ
  obtain ⟨c1, c2, c3, c4, c5, c6, c7⟩ := C
  have FF : FR (fun k => k = 1 ∨ (13 ≤ k ∧ k ≤ 17)) h h' := fun k hk => F.cell (fun j q => hk (by unfold cLn at q; omega))
  exact ⟨c1.fr FF (fun j hj q => by omega), c2, c3.fr FF (fun j hj q => by omega), c4.fr FF (fun k q => by omega), c5.fr FF (fun k q => by omega), ⟨Nat.zero_le _, by rw [F 1 1 (fun q => by unfold cLn at q; omega)]; exact c6.2.1, fun j hj => by omega⟩, by rw [FF 0 (by omega)]; exact c7⟩
theorem RC_fault {h : Hp} {w : Nat → Int32} {s : Nat} {P : Nat → Nat → Int32} {g : Bool} {I : Nat → Int32} {t : Nat} {T : Nat → Int32} {Fa : Int32} (C : RC h (w, s, P, g, I, t, T, Fa)) (v : Int32) : RC (up2 h 0 11 v) (w, s, P, g, I, t, T, v) := by
  obtain ⟨c1, c2, c3, c4, c5, c6, c7⟩ := C
  have FF : FR (fun k => k = 0) h (up2 h 0 11 v) := FR.up2 _ _ _ rfl
  refine ⟨c1.fr FF (fun j hj q => by omega), c2, c3.fr FF (fun j hj q => by omega), c4.fr FF (fun k q => by omega), ⟨by rw [up2_s, upd_n _ _ (by decide)]; exact c5.1, fun hg => ?_⟩, c6.fr FF (fun k q => by omega), by rw [up2_s, upd_s]⟩
  obtain ⟨q1, q2, q3⟩ := c5.2 hg
  exact ⟨q1.fr FF (fun j hj q => by omega), q2, q3.fr FF (fun j hj q => by omega)⟩
theorem RM_law {h1 h2 : Hp} {w w' : Nat → Int32} {s : Nat} {P : Nat → Nat → Int32} {g : Bool} {I : Nat → Int32} {t : Nat} {T : Nat → Int32} {Fa : Int32} (M : RM h1 (useT (w, s, P, g, I, t, T, Fa))) (F : FI (fun k j => (k = 208 ∧ j ≠ 6 ∧ j ≠ 7 ∧ j ≠ 9) ∨ k = 209) h1 h2) (e : h2 209 = w') : RM h2 (w', s, P, g, I, 0, T, h2 208 14) := by
  obtain ⟨m1, m2, m3, ⟨m4, m4'⟩, m5⟩ := M
  refine ⟨e, ?_, ?_, ⟨by rw [F 208 9 (by omega)]; exact m4, fun j hj => by omega⟩, rfl⟩
  · unfold pastM
    rw [F 208 7 (by omega), F.cell (k := 213) (fun j q => by omega)]; exact m2
  · unfold imgM
    rw [F 208 6 (by omega), F.cell (k := 210) (fun j q => by omega)]; exact m3
theorem readAllL_m {h : Hp} {σ : St} (M : RM h σ) {o : LR} (ht : σ.2.2.2.2.2.1 ≤ 400) (lm : ∀ h, RLN σ.2.2.2.2.2.2.1 σ.2.2.2.2.2.1 0 0 D0 h → ∃ r h', cl9 (fX12_blanks h) (fun h16 => if (h16 208 10) = (h16 208 11) then some (0, h16) else LX12_readAll big h16 0 0) = some (r, h') ∧ FI cRn h h' ∧ okLRM σ.2.2.2.2.2.2.1 σ.2.2.2.2.2.1 o r h') : ∃ r h' h1, fX12_readAll h 0 = some (r, h') ∧ RM h1 (useT σ) ∧ FI cM h h1 ∧ h1 208 0 = 0 ∧ FI cRn h1 h' ∧ okLRM σ.2.2.2.2.2.2.1 σ.2.2.2.2.2.1 o r h' := by
  obtain ⟨h1, e1, M1, F1, u11, u10, u0, uT⟩ := uses_m M
  obtain ⟨r, h2, e2, F2, k2⟩ := lm (up2 h1 208 16 0) ⟨⟨ht, by rw [up2_s, upd_n _ _ (by decide)]; exact u11, fun j hj => by rw [up2_n _ _ _ (by decide)]; exact uT j hj⟩, by rw [up2_s, upd_n _ _ (by decide)]; exact u10, ⟨by rw [up2_s, upd_s]; rfl, fun i hi => absurd hi (Nat.not_lt_zero _)⟩, fun i hi => absurd hi (Nat.not_lt_zero _)⟩
  refine ⟨r, h2, up2 h1 208 16 0, ?_, M1.sm (t0s (j := 16) h1 0 (by omega)), (F1.mono (fun k j q => by unfold cM; omega)).trans (t0M h1 16 0), by rw [up2_s, upd_n _ _ (by decide)]; exact u0, F2, k2⟩
  unfold fX12_readAll
  rw [e1, cl9_some, lt9_e]
  exact e2
/-! the reference takes the draft over -/
theorem law_L {n : Nat} {h : Hp} (y : Int32) : LX12_law (n + 1 + 849) h y 0 = some (y, up2 (up2 (upA h 209 (fun j => if 333 ≤ j ∧ j < 1182 then h 209 (j + 849) else h 209 j)) 209 2 1) 208 7 0) := by
  obtain ⟨s, hs, e⟩ := rchN (σ := Hp) (ρ := Int32 × Hp) (fun n (x : Hp × Nat) => LX12_law n x.1 y (nI x.2)) (fun i s => (s, i)) 849 1 (fun i s => s = upA h 209 (fun j => if 333 ≤ j ∧ j < 333 + i then h 209 (j + 849) else h 209 j)) (by
    rintro i s hi rfl
    refine ⟨_, rfl, fun n => ?_⟩
    dsimp only
    rw [LX12_law, BX12_law_0, if_neg (show ¬ (849 : Int32) ≤ nI i from le_n 849 rfl hi (by decide)), i_1182, i_333, nI_add, nI_add, gd_in (show 1182 + i < 2031 by omega) (by decide), gd_in (show 333 + i < 2031 by omega) (by decide), nI_clamp (by omega), nI_clamp (by omega), nI_1, lt9_e, lt9_e, upA_s]
    congr 1
    funext k j
    unfold up2 upA
    by_cases c : k = 209
    · rw [if_pos c, if_pos c, if_pos rfl]
      unfold upd
      dsimp only
      by_cases d : j = 333 + i
      · rw [if_pos d, if_neg (show ¬ (333 ≤ 1182 + i ∧ 1182 + i < 333 + i) by omega), if_pos (show 333 ≤ j ∧ j < 333 + (i + 1) by omega), d]
        exact congrArg (h 209) (by omega)
      · rw [if_neg d]
        try dsimp only
        by_cases e : 333 ≤ j ∧ j < 333 + i
        · rw [if_pos e, if_pos (by omega)]
        · rw [if_neg e, if_neg (by omega)]
    · rw [if_neg c, if_neg c, if_neg c]) 849 0 h rfl (by
      rw [show (fun j => if 333 ≤ j ∧ j < 333 + 0 then h 209 (j + 849) else h 209 j) = h 209 from by funext j; rw [if_neg (by omega)], upA_id])
  subst hs
  have e2 : ∀ g : Hp, LX12_law (n + 1) g y (nI 849) = some (y, up2 (up2 g 209 2 1) 208 7 0) := fun g => by
    rw [LX12_law, BX12_law_0, if_pos (by decide), gd_t (show inb 2 2031 by decide), lt9_e, lt9_e]
    rfl
  exact (e (n + 1)).trans (e2 _)
theorem law_row (h : Hp) (n : Nat) : (up2 (up2 (upA (up2 h 209 1182 (nI n)) 209 (fun j => if 333 ≤ j ∧ j < 1182 then (up2 h 209 1182 (nI n)) 209 (j + 849) else (up2 h 209 1182 (nI n)) 209 j)) 209 2 1) 208 7 0) 209 = lawW (h 209) n := by
  rw [up2_n _ _ _ (by decide), up2_s, upA_s, up2_s]
  funext j
  unfold lawW
  by_cases c : j = 2
  · rw [c, upd_s, if_pos rfl]
  · rw [upd_n _ _ c, if_neg c]
theorem law_W {h : Hp} {σ : St} (C : RC h σ) : OpW h σ [(3, 1)] (fX11_law h) fX12_law := by
  obtain ⟨w, s, P, g, I, t, T, Fa⟩ := σ
  have ht : t ≤ 400 := C.2.2.2.2.2.1.1
  obtain ⟨o, ho, lc, lm⟩ := ltext_both (T := T) (t := t) ht
  have Fc : FR (fun k => k = 13) h (up2 (up2 h 13 0 0) 13 5 0) := (FR.up2 (C := fun k => k = 13) _ _ _ rfl).trans (FR.up2 _ _ _ rfl)
  have Cc : RC (up2 (up2 h 13 0 0) 13 5 0) (w, s, P, g, I, t, T, Fa) := C.sc (Fc.mono (fun k q => by unfold sc; omega))
  obtain ⟨h1, e1, C1, F1, u2, u3, u4, u5, -, uT⟩ := open_x Cc
  have r13 : h1 13 = (up2 (up2 h 13 0 0) 13 5 0) 13 := F1 13 (by omega)
  obtain ⟨r, h3, e3, F3, k3⟩ := lc h1 ⟨⟨⟨ht, u2, uT⟩, u3, u5, by rw [r13, up2_s, upd_s]; rfl, fun i hi => absurd hi (Nat.not_lt_zero _)⟩, by rw [r13, up2_s, upd_n _ _ (by decide), up2_s, upd_s]; rfl, fun i hi => absurd hi (Nat.not_lt_zero _)⟩
  have C3 : RC h3 (w, s, P, g, I, 0, T, Fa) := RC_cLn (σ := (w, s, P, g, I, t, T, Fa)) C1 F3
  have C6 := RC_fault C3 r
  have F6 : FR (fun k => k = 0 ∨ k = 1 ∨ (13 ≤ k ∧ k ≤ 17)) h (up2 h3 0 11 r) := (((Fc.mono (fun k q => by omega)).trans (F1.mono (fun k q => by omega))).trans (fun k hk => F3.cell (fun j q => hk (by unfold cLn at q; omega)))).trans (FR.up2 _ _ _ (by omega))
  have FX6 : FR cX h (up2 h3 0 11 r) := F6.mono (fun k q => by unfold cX; omega)
  have st : fX11_law h = if r = -1 then cl9 (fX2_become (up2 h3 0 11 r) 6 13) (fun h8 => cl9 (fX5_forget h8) (fun h10 => some ((h10 6 0), 0, h10))) else some (0, 3, up2 h3 0 11 r) := by
    have ec : fX2_clear h 13 = some (up2 (up2 h 13 0 0) 13 5 0) := rfl
    have er : fX10_readL (up2 (up2 h 13 0 0) 13 5 0) 12 = some (r, h3) := by
      unfold fX10_readL
      rw [e1, cl9_some]
      exact e3
    unfold fX11_law
    rw [ec, cl9_some, er, cl2_some, lt9_e, up2_s, upd_s]
  cases o with
  | inl f =>
    have hf : f ≤ t := ho
    obtain ⟨k3, -⟩ := k3
    subst k3
    refine ⟨0, 3, 1, _, by rw [st, if_neg (no_m1 (by omega))], by simp, FX6, fun ha M => ?_⟩
    obtain ⟨r', h', hm, er, Mm, Fm, z0, Fh, k'⟩ := readAllL_m M ht lm
    obtain ⟨k', y12⟩ := k'
    subst k'
    have w1 : hm 209 = w := by have := Mm.w; rw [useT_1] at this; exact this
    have F9 : FI (fun k j => (k = 208 ∧ j ≠ 6 ∧ j ≠ 7 ∧ j ≠ 9) ∨ k = 209) hm (up2 (up2 h' 208 14 (nI f)) 208 0 1) := ((Fh.mono (fun k j q => by unfold cRn at q; omega)).trans (FI.up2 _ _ (by omega))).trans (FI.up2 _ _ (by omega))
    have MM := RM_law Mm F9 (w' := h' 209) (by rw [up2_n _ _ _ (by decide), up2_n _ _ _ (by decide)])
    have f14 : up2 (up2 h' 208 14 (nI f)) 208 0 1 208 14 = nI f := by rw [up2_s, upd_n _ _ (by decide), up2_s, upd_s]
    rw [f14] at MM
    refine ⟨0, up2 (up2 h' 208 14 (nI f)) 208 0 1, (h' 209, s, P, g, I, 0, T, nI f), ?_, RC_out C6 (fun i hi => by rw [← w1]; exact Fh 209 i (fun q => by unfold cRn at q; omega)), MM, ?_, by rw [up2_s, upd_s], fun q => by cases q⟩
    · unfold fX12_law
      rw [er, cl2_some, if_neg (show ¬ (0 : Int32) ≤ -1 by decide), cl9_some, lt9_e, y12, if_neg (show ¬ (0 : Int32) ≤ -1 by decide), cl9_some, throws_1, cl2_some, if_neg (by decide)]
    · exact ((Fm.trans (Fh.mono (fun k j q => by unfold cRn at q; unfold cM; omega))).trans (t0M _ 14 _)).trans (t0M _ 0 _)
  | inr q =>
    obtain ⟨x', n, D⟩ := q
    obtain ⟨k3, S3⟩ := k3
    subst k3
    obtain ⟨-, hn, HD, hL, hR⟩ := ho
    obtain ⟨h8, e8, H8⟩ := lbecome_x (up2 h3 0 11 (-1)) 6 13 (by omega)
    have v0 : h8 6 0 = nI n := by
      have := H8.1 0 0 (by unfold okl; omega)
      obtain ⟨kd, am, ce, re, L, R⟩ := D
      exact this.trans S3.2.1
    have e10 : (up2 h8 18 1 0) 6 0 = nI n := by rw [up2_n _ _ _ (by decide)]; exact v0
    refine ⟨nI n, 0, 0, up2 h8 18 1 0, ?_, by simp, ?_, fun ha M => ?_⟩
    · have ef : fX5_forget h8 = some (up2 h8 18 1 0) := rfl
      rw [st, if_pos rfl, e8, cl9_some, ef, cl9_some, e10]
    · exact (FX6.trans (H8.2.mono (fun k q => by unfold cX; omega))).trans (FR.up2 _ _ _ (by unfold cX; omega))
    obtain ⟨r', h', hm, er, Mm, Fm, z0, Fh, k'⟩ := readAllL_m M ht lm
    obtain ⟨k', S'⟩ := k'
    subst k'
    have w1 : hm 209 = w := by have := Mm.w; rw [useT_1] at this; exact this
    have p0 : (0 : Int32) ≤ nI n := nI_le (a := 0) (Nat.zero_le _) (by omega)
    have lk0 : LKC n D (up2 h3 0 11 (-1)) := S3.2.fi (FI.up2 (C := fun k _ => k = 0) _ _ rfl) (fun k j q => by omega)
    obtain ⟨LM, LC⟩ := law_of (h := h') (hC := up2 h3 0 11 (-1)) hn HD (by omega) (by omega) S'.2.2.1 S'.2.2.2 lk0 (fun i hi => by rw [up2_n _ _ _ (by decide)]; exact S3.1.2.2.2.2 i hi)
    -- the new row
    have ew : ∀ i, i < 333 → i ≠ 2 → lawW (h' 209) n i = w i := fun i h1 h2 => by rw [lawW_o _ _ h1 h2, Fh 209 i (fun q => by unfold cRn at q; omega), w1]
    obtain ⟨c1, c2, c3, c4, c5, c6, c7⟩ := C6
    have G2 : GW (lawW (h' 209) n) := (c1.2.1.set (i := 2) (n := 1) (by decide) rfl (by decide) (by decide) (fun q => by omega) (fun q _ => by omega) (fun k hk => by omega)).out (fun i hi => by
      by_cases c : i = 2
      · rw [c, lawW_2, upd_s]; rfl
      · rw [upd_n _ _ c]; exact ew i (by omega) c)
    have SK : SKY (up2 h3 0 11 (-1)) 32 (lawW (h' 209) n) := ⟨c1.1.out (fun i hi h2 => ew i (by omega) h2), G2, c1.2.2.out (fun i h1 h2 => ew i h2 (by omega))⟩
    have F10 : FR (fun k => (6 ≤ k ∧ k ≤ 10) ∨ k = 18) (up2 h3 0 11 (-1)) (up2 h8 18 1 0) := (H8.2.mono (fun k q => by omega)).trans (FR.up2 _ _ _ (by omega))
    have CC : RC (up2 h8 18 1 0) (lawW (h' 209) n, 0, P, g, I, 0, T, -1) := by
      refine ⟨SK.fr F10 (fun j hj q => by omega), LM, (H8.law LM LC).fr (FR.up2 (C := fun k => k = 18) _ _ _ rfl) (fun j hj q => by omega), ?_, c5.fr F10 (fun k q => by omega), c6.fr F10 (fun k q => by omega), by rw [F10 0 (by omega)]; exact c7⟩
      obtain ⟨-, -, nx, hnx, enx, -⟩ := c4
      refine ⟨Nat.zero_le _, by rw [up2_s, upd_s]; rfl, nx, hnx, ?_, fun i hi => by omega⟩
      rw [up2_s, upd_n _ _ (by decide), H8.2 18 (by omega)]; exact enx
    have F26 : FI (fun k j => (k = 208 ∧ j ≠ 6 ∧ j ≠ 7 ∧ j ≠ 9) ∨ k = 209) hm (up2 (upA (up2 (up2 h' 208 14 (-1)) 209 1182 (nI n)) 209 (fun j => if 333 ≤ j ∧ j < 1182 then (up2 (up2 h' 208 14 (-1)) 209 1182 (nI n)) 209 (j + 849) else (up2 (up2 h' 208 14 (-1)) 209 1182 (nI n)) 209 j)) 209 2 1) := ((((Fh.mono (fun k j q => by unfold cRn at q; omega)).trans (FI.up2 _ _ (by omega))).trans (FI.up2 _ _ (by omega))).trans (FI.upA _ _ (fun _ => Or.inr rfl))).trans (FI.up2 _ _ (by omega))
    have row := law_row (up2 h' 208 14 (-1)) n
    rw [up2_n h' _ _ (show (209 : Nat) ≠ 208 by decide)] at row
    have row2 := row
    rw [up2_n _ _ _ (show (209 : Nat) ≠ 208 by decide)] at row2
    have MM := RM_law Mm F26 (w' := lawW (h' 209) n) row2
    have f14 : (up2 (upA (up2 (up2 h' 208 14 (-1)) 209 1182 (nI n)) 209 (fun j => if 333 ≤ j ∧ j < 1182 then (up2 (up2 h' 208 14 (-1)) 209 1182 (nI n)) 209 (j + 849) else (up2 (up2 h' 208 14 (-1)) 209 1182 (nI n)) 209 j)) 209 2 1) 208 14 = -1 := by
      rw [up2_n _ _ _ (by decide), upA_n _ _ (by decide), up2_n _ _ _ (by decide), up2_s, upd_s]
    rw [f14] at MM
    have z8 : (up2 (upA (up2 (up2 h' 208 14 (-1)) 209 1182 (nI n)) 209 (fun j => if 333 ≤ j ∧ j < 1182 then (up2 (up2 h' 208 14 (-1)) 209 1182 (nI n)) 209 (j + 849) else (up2 (up2 h' 208 14 (-1)) 209 1182 (nI n)) 209 j)) 209 2 1) 208 0 = 0 := by
      rw [up2_n _ _ _ (by decide), upA_n _ _ (by decide), up2_n _ _ _ (by decide), up2_s, upd_n _ _ (by decide), Fh 208 0 (fun q => by unfold cRn at q; omega)]; exact z0
    have el := law_L (n := 999150) (h := up2 (up2 h' 208 14 (-1)) 209 1182 (nI n)) (nI n)
    have FM : FI cM ha (up2 (upA (up2 (up2 h' 208 14 (-1)) 209 1182 (nI n)) 209 (fun j => if 333 ≤ j ∧ j < 1182 then (up2 (up2 h' 208 14 (-1)) 209 1182 (nI n)) 209 (j + 849) else (up2 (up2 h' 208 14 (-1)) 209 1182 (nI n)) 209 j)) 209 2 1) := ((((Fm.trans (Fh.mono (fun k j q => by unfold cRn at q; unfold cM; omega))).trans (t0M _ 14 _)).trans (FI.up2 _ _ (by unfold cM; omega))).trans (FI.upA _ _ (fun _ => by unfold cM; omega))).trans (FI.up2 _ _ (by unfold cM; omega))
    generalize up2 (upA (up2 (up2 h' 208 14 (-1)) 209 1182 (nI n)) 209 (fun j => if 333 ≤ j ∧ j < 1182 then (up2 (up2 h' 208 14 (-1)) 209 1182 (nI n)) 209 (j + 849) else (up2 (up2 h' 208 14 (-1)) 209 1182 (nI n)) 209 j)) 209 2 1 = hz at *
    obtain ⟨p1, p2, p3, p4, p5⟩ := MM
    refine ⟨nI n, up2 hz 208 7 0, (lawW (h' 209) n, 0, P, g, I, 0, T, -1), ?_, CC, ⟨?_, ⟨by rw [up2_s, upd_s]; rfl, fun i hi => by omega⟩, ?_, ?_, ?_⟩, FM.trans (t0M _ 7 _), ?_, fun _ => rfl⟩
    · unfold fX12_law
      rw [er, cl2_some, if_pos p0, cl9_some, lt9_e, if_pos p0, cl9_some, throws_0, cl2_some, if_pos rfl, gd_t (show inb 1182 2031 by decide), lt9_e]
      exact el
    · rw [up2_n _ _ _ (by decide)]; exact p1
    · unfold imgM at p3 ⊢
      rw [up2_s, upd_n _ _ (by decide), up2_n _ _ _ (by decide)]; exact p3
    · unfold tapM at p4 ⊢
      rw [up2_s, upd_n _ _ (by decide), up2_n _ _ _ (by decide)]; exact p4
    · rw [up2_s, upd_n _ _ (by decide)]; exact p5
    · rw [up2_s, upd_n _ _ (by decide)]; exact z8

/-! The reference's day. -/
def cD (k j : Nat) : Prop := k = 209 ∨ cT k j
theorem cTD {h h' : Hp} (F : FI cT h h') : FI cD h h' := F.mono (fun _ _ c => Or.inr c)
theorem isGone_m {h : Hp} {w : Nat → Int32} (hw : h 209 = w) {p : Nat} (hp : p < 16) : fX12_isGone h (nI p) = some (upA h 209 (lostW w p)) := by
  unfold fX12_isGone
  rw [takesOut_m hw hp, cl9_some, i_10, gd_in (by decide) (by decide)]
  simp only [lt9_e]
  rw [nI_clamp (by decide), upA_s, takeW_lt w 3 (by decide) (by decide) (by decide) (by omega)]
  unfold up2
  rw [upA_s, upA_upA]
  rfl
theorem shr16 (x : Int32) : (x >>> ((16 : Int32) &&& 31)) &&& 32767 = (ushr x 16) &&& 32767 := by
  apply has9_ext
  intro p hp
  rw [has9_and, has9_and]
  have e : has9 32767 p = decide (p < 15) := by
    have : ∀ q : Fin 32, has9 32767 q.val = decide (q.val < 15) := by decide +kernel
    exact this ⟨p, hp⟩
  rw [e]
  by_cases c : p < 15
  · have h1 : has9 (x >>> ((16 : Int32) &&& 31)) p = has9 x (16 + p) := has9_shr x (p := 16) (by decide) (by omega)
    have h2 : has9 (ushr x 16) p = has9 x (16 + p) := has9_ushr x (p := 16) (by decide) p
    rw [h1, h2]
  · simp [c]
theorem drawn_m {h : Hp} {w : Nat → Int32} (hw : h 209 = w) {n : Nat} (h0 : 0 < n) (hn : n < 1000) : fX12_drawn h (nI n) = some (irem (drwV w) (nI n), upA h 209 (drwW w)) := by
  unfold fX12_drawn
  rw [i_12, gd_in (by decide) (by decide)]
  simp only [lt9_e]
  rw [nI_clamp (by decide), hw, gd_t (nI_ne0 h0 (by omega)), up2_s, upd_s, shr16]
  unfold up2 drwV drwW
  rw [hw]
  all_goals rfl
theorem blows_m {h : Hp} {w : Nat → Int32} (hw : h 209 = w) : fX12_blows h = some (upA h 209 (gnawW (blowW w))) := by
  have step1 : (cl2 (fX12_drawn h 100) (fun x3 h1 => (if (h1 209 8) ≤ x3 then some h1 else cl2 (fX12_drawn h1 16) (fun x10 h8 => (if (fX12_hasPin h8 x10) = 0 then some h8 else cl9 (fX12_isGone h8 x10) (fun h12 => some h12)))))) = some (upA h 209 (blowW w)) := by
    obtain ⟨q, hq, eq⟩ := drw16 (drwW w)
    have eq' : irem (drwV (drwW w)) (nI 16) = nI q := eq
    have e2 : fX12_drawn (upA h 209 (drwW w)) 16 = some (nI q, upA h 209 (drwW (drwW w))) := by
      rw [i_16, drawn_m (upA_s _ _ _) (by decide) (by decide), upA_upA, eq']
    unfold blowW fX12_hasPin fX12_pins
    rw [i_100, drawn_m hw (by decide) (by decide), cl2_some, upA_s, drwW_n _ (by decide), e2, cl2_some, upA_s, drwW_n _ (by decide), drwW_n _ (by decide), has_m _ (by omega), eq, nI_clamp (by omega), isGone_m (upA_s _ _ _) hq, cl9_some, upA_upA]
    by_cases c : w 8 ≤ irem (drwV w) (nI 100)
    · rw [if_pos c, if_pos c]
    · rw [if_neg c, if_neg c]
      cases has9 (w 7) q <;> rfl
  have step2 : ∀ (h4 : Hp) (v : Nat → Int32), h4 209 = v → (cl2 (fX12_drawn h4 100) (fun x16 h14 => (if (h14 209 9) ≤ x16 then some h14 else cl2 (fX12_drawn h14 16) (fun x20 h18 => (if (fX12_hasPin h18 x20) = 0 then some h18 else gd (inb ((62 : Int32) + x20) 2031) (gd (inb ((62 : Int32) + x20) 2031) (lt9 (up2 h18 209 ((62 : Int32) + x20).toNatClampNeg (jmin 99 ((h18 209 ((62 : Int32) + x20).toNatClampNeg) + 20))) (fun h24 => some h24)))))))) = some (upA h4 209 (gnawW v)) := by
    intro h4 v hv
    obtain ⟨q, hq, eq⟩ := drw16 (drwW v)
    have eq' : irem (drwV (drwW v)) (nI 16) = nI q := eq
    have e2 : fX12_drawn (upA h4 209 (drwW v)) 16 = some (nI q, upA h4 209 (drwW (drwW v))) := by
      rw [i_16, drawn_m (upA_s _ _ _) (by decide) (by decide), upA_upA, eq']
    have e62 : (62 : Int32) + nI q = nI (62 + q) := by rw [i_62, nI_add]
    unfold gnawW fX12_hasPin fX12_pins
    rw [i_100, drawn_m hv (by decide) (by decide), cl2_some, upA_s, drwW_n _ (by decide), e2, cl2_some, e62]
    simp only [gd_in (show 62 + q < 2031 by omega) (show 2031 < 2 ^ 31 by decide), nI_clamp (show 62 + q < 2 ^ 31 by omega), lt9_e]
    rw [upA_s, drwW_n (drwW v) (show (7 : Nat) ≠ 12 by decide), drwW_n v (show (7 : Nat) ≠ 12 by decide), drwW_n (drwW v) (show 62 + q ≠ 12 by omega), drwW_n v (show 62 + q ≠ 12 by omega), has_m _ (by omega), eq, nI_clamp (by omega)]
    unfold up2
    rw [upA_s, upA_upA]
    by_cases c : v 9 ≤ irem (drwV v) (nI 100)
    · rw [if_pos c, if_pos c]
    · rw [if_neg c, if_neg c]
      cases has9 (v 7) q <;> rfl
  have s2 := step2 (upA h 209 (blowW w)) (blowW w) (upA_s _ _ _)
  rw [upA_upA] at s2
  unfold fX12_blows
  have assoc : ∀ (x : Option (Int32 × Hp)) (f : Int32 → Hp → Option Hp) (g : Hp → Option Hp), cl2 x (fun a b => cl9 (f a b) g) = cl9 (cl2 x f) g := by
    intro x f g
    cases x with
    | none => rfl
    | some p => rfl
  rw [assoc, step1, cl9_some]
  exact s2
theorem GW_lost {w : Nat → Int32} (G : GW w) {p : Nat} (hp : p < 16) : GW (lostW w p) := by
  unfold lostW takeW
  have l7 : ∀ r, logW w (nI p) 3 r 7 = w 7 := fun r => by rw [logW_lt _ _ _ _ (by decide), upd_n _ _ (by decide)]
  have := (logW_GW G (nI p) 3 (w (62 + p))).take hp
  rw [l7] at this
  exact this.any (Or.inl rfl) _
theorem GW_lose {w : Nat → Int32} (G : GW w) (S : Int32) : ∀ n, n ≤ 16 → GW (loseW w S n)
  | 0, _ => G
  | n + 1, h => by
    rw [loseW_s]
    cases has9 S n with
    | true => exact GW_lost (GW_lose G S n (by omega)) (by omega)
    | false => exact GW_lose G S n (by omega)
theorem GW_drw {w : Nat → Int32} (G : GW w) : GW (drwW w) := G.any (Or.inr rfl) _
theorem GW_rs {w : Nat → Int32} (G : GW w) {p n : Nat} (hp : p < 16) (c : has9 (w 7) p = true) (hn : n ≤ 1000) {r : Int32} (hr : ∃ q, q ≤ 99 ∧ r = nI q) : GW (upd w (62 + p) (jmin 99 (r + nI n))) := by
  obtain ⟨q, hq, rfl⟩ := hr
  rw [nI_add, i_99, jmin_n (by decide) (by omega)]
  exact G.set (by omega) (spc_n (by omega)) (by rw [hiT_r hp]; omega) (by omega) (fun _ => by omega) (fun _ _ => Or.inl (by rw [show 62 + p - 62 = p by omega]; exact c)) (fun k _ => by omega)
theorem GW_rust {w : Nat → Int32} (G : GW w) (HM : lawM w) : ∀ n, n ≤ 16 → GW (rustW w n)
  | 0, _ => G
  | n + 1, h => by
    obtain ⟨K, r7, -⟩ := rustW_keep w n (by omega)
    have G1 := GW_rust G HM n (by omega)
    rw [rustW_s]
    cases c : has9 (w 7) n with
    | true =>
      obtain ⟨m, hm, em⟩ := rustB_le (HM.out K.1 (fun i hi _ => K.2 i hi)) n
      simp only [if_true]
      rw [em]
      exact GW_rs G1 (by omega) (by rw [r7]; exact c) (by omega) (G1.rust (by omega))
    | false => exact G1
theorem GW_blow {w : Nat → Int32} (G : GW w) : GW (blowW w) := by
  obtain ⟨q, hq, e⟩ := drw16 (drwW w)
  unfold blowW
  rw [e, nI_clamp (by omega)]
  by_cases c : w 8 ≤ irem (drwV w) 100
  · rw [if_pos c]; exact GW_drw G
  · rw [if_neg c]
    cases has9 (w 7) q with
    | true => exact GW_lost (GW_drw (GW_drw G)) hq
    | false => exact GW_drw (GW_drw G)
theorem GW_gnaw {w : Nat → Int32} (G : GW w) : GW (gnawW w) := by
  obtain ⟨q, hq, e⟩ := drw16 (drwW w)
  unfold gnawW
  rw [e, nI_clamp (by omega)]
  by_cases c : w 9 ≤ irem (drwV w) 100
  · rw [if_pos c]; exact GW_drw G
  · rw [if_neg c]
    cases d : has9 (w 7) q with
    | true => exact GW_rs (n := 20) (GW_drw (GW_drw G)) hq (by rw [drwW_n _ (by decide), drwW_n _ (by decide)]; exact d) (by decide) (G.rust hq)
    | false => exact GW_drw (GW_drw G)
theorem GW_wind {w : Nat → Int32} (G : GW w) (b : Bool) : GW (windW b w) := by
  unfold windW
  cases b with
  | true => exact GW_gnaw (GW_blow G)
  | false => exact G
theorem GW_day {w : Nat → Int32} (G : GW w) (HM : lawM w) (b : Bool) : GW (dayW b w) := by
  unfold dayW endW
  have G1 := GW_lose (GW_wind (GW_rust G HM 16 (by decide)) b) (gonS (windW b (rustW w 16))) 16 (by decide)
  obtain ⟨d, hd, ed⟩ := G1.n3
  rw [ed, nI_1, i_9999, jmin_n (by decide) (by omega)]
  exact G1.set (by decide) rfl (show min 9999 (d + 1) ≤ 9999 by omega) (by decide) (fun q => by cases q) (fun q => by omega) (fun k _ => by omega)
theorem oneDay_m {h : Hp} {w : Nat → Int32} (G : GW w) (HM : lawM w) (hw : h 209 = w) (wind : Bool) : ∃ h', fX12_oneDay h (bI (!wind)) = some h' ∧ h' 209 = dayW wind w ∧ FI cD h h' := by
  have HMi : ∀ v, KEEP w v → lawM v := fun v K => HM.out K.1 (fun i hi _ => K.2 i hi)
  have F0 : FI cD h (up2 h 208 18 (w 7)) := FI.up2 _ _ (Or.inr (Or.inl ⟨rfl, rfl⟩))
  obtain ⟨h1, ⟨a1, a2, a3⟩, e1⟩ := rchN (σ := Hp) (ρ := Hp) (α := Nat × Hp × Int32 × Int32) (fun n a => LX12_oneDay n a.1 a.2.1 a.2.2.1 a.2.2.2 0) (fun i s => (0, s, bI (!wind), nI i)) 16 1 (fun i s => s 209 = rustW w i ∧ s 208 18 = w 7 ∧ FI cD h s) (by
    rintro i s hi ⟨b1, b2, b3⟩
    obtain ⟨K, r7, -⟩ := rustW_keep w i (by omega)
    try dsimp only
    have hp' : fX12_hasPin s (nI i) = bI (has9 (w 7) i) := by
      unfold fX12_hasPin fX12_pins
      rw [b1, r7, has_m _ (by omega)]
    cases c : has9 (w 7) i with
    | false =>
      refine ⟨s, ⟨by rw [b1, rustW_s, c]; rfl, b2, b3⟩, fun n => ?_⟩
      rw [LX12_oneDay, if_pos rfl, BX12_oneDay_0, if_neg (c16n hi), hp', c, if_pos (show bI false = 0 from rfl), nI_1]
      rfl
    | true =>
      obtain ⟨v, ev⟩ := rustsBy_m hi (GW_rust G HM i (by omega)) (HMi _ K) b1 (by rw [b2, r7])
      have e62 : (62 : Int32) + nI i = nI (62 + i) := by rw [i_62, nI_add]
      refine ⟨up2 (upA s 216 v) 209 (62 + i) (jmin 99 (rustW w i (62 + i) + rustB (rustW w i) i)), ⟨?_, ?_, ?_⟩, fun n => ?_⟩
      · rw [up2_s, upA_n _ _ (by decide), b1, rustW_s, c]; rfl
      · rw [up2_n _ _ _ (by decide), upA_n _ _ (by decide)]; exact b2
      · exact (b3.trans (FI.upA _ _ (fun j => Or.inr (Or.inr rfl)))).trans (FI.up2 _ _ (Or.inl rfl))
      · rw [LX12_oneDay, if_pos rfl, BX12_oneDay_0, if_neg (c16n hi), hp', c, if_neg (by decide), e62]
        simp only [gd_in (show 62 + i < 2031 by omega) (show 2031 < 2 ^ 31 by decide), nI_clamp (show 62 + i < 2 ^ 31 by omega), lt9_e]
        rw [ev, cl2_some, b1, nI_1]) 16 0 (up2 h 208 18 (w 7)) rfl ⟨by rw [up2_n _ _ _ (by decide)]; exact hw, by rw [up2_s, upd_s], F0⟩
  have wd : ∃ h2, (if bI (!wind) = 0 then cl9 (fX12_blows h1) (fun h6 => some h6) else some h1) = some h2 ∧ h2 209 = windW wind (rustW w 16) ∧ FI cD h h2 := by
    cases wind with
    | false => exact ⟨h1, rfl, a1, a3⟩
    | true => exact ⟨_, by rw [if_pos (show bI (!true) = 0 from rfl), blows_m a1, cl9_some]; rfl, upA_s _ _ _, a3.trans (FI.upA _ _ (fun j => Or.inl rfl))⟩
  obtain ⟨h2, e2, w2, F2⟩ := wd
  have K2 : KEEP w (windW wind (rustW w 16)) := (rustW_keep w 16 (by decide)).1.trans (windW_keep wind _)
  obtain ⟨h8, e8, F8, -⟩ := holdingNow_m (GW_wind (GW_rust G HM 16 (by decide)) wind) (HMi _ K2) w2
  have w8 : h8 209 = windW wind (rustW w 16) := by rw [cT_209 F8]; exact w2
  obtain ⟨h3, ⟨b1, b2⟩, e3⟩ := rchN (σ := Hp) (ρ := Hp) (α := Nat × Hp × Int32) (fun n a => LX12_oneDay n a.1 a.2.1 0 (gonS (windW wind (rustW w 16))) a.2.2) (fun i s => (1, s, nI i)) 16 1 (fun i s => s 209 = loseW (windW wind (rustW w 16)) (gonS (windW wind (rustW w 16))) i ∧ FI cD h s) (by
    rintro i s hi ⟨b1, b2⟩
    try dsimp only
    cases c : has9 (gonS (windW wind (rustW w 16))) i with
    | false =>
      refine ⟨s, ⟨by rw [b1, loseW_s, c]; rfl, b2⟩, fun n => ?_⟩
      rw [LX12_oneDay, if_neg (by decide), if_pos rfl, BX12_oneDay_1, if_neg (c16n hi), has_m _ (by omega), c, if_pos (show bI false = 0 from rfl), nI_1]
      rfl
    | true =>
      refine ⟨upA s 209 (lostW (loseW (windW wind (rustW w 16)) (gonS (windW wind (rustW w 16))) i) i), ⟨by rw [upA_s, loseW_s, c]; rfl, b2.trans (FI.upA _ _ (fun j => Or.inl rfl))⟩, fun n => ?_⟩
      rw [LX12_oneDay, if_neg (by decide), if_pos rfl, BX12_oneDay_1, if_neg (c16n hi), has_m _ (by omega), c, if_neg (by decide), isGone_m b1 hi, cl9_some, nI_1]
      rfl) 16 0 h8 rfl ⟨w8, F2.trans (cTD F8)⟩
  refine ⟨up2 h3 209 3 (jmin 9999 (h3 209 3 + 1)), ?_, ?_, b2.trans (FI.up2 _ _ (Or.inl rfl))⟩
  · unfold fX12_oneDay fX12_pins
    simp only [lt9_e]
    rw [hw]
    have c1 := e1 (999966 + 1 * 16 + 1 + 1)
    have c3 := e3 (999966 + 1)
    dsimp only at c1 c3
    show LX12_oneDay big 0 (up2 h 208 18 (w 7)) (bI (!wind)) (nI 0) 0 = _
    rw [show big = 999966 + 1 * 16 + 1 + 1 + 1 * 16 from rfl, c1, LX12_oneDay, if_pos rfl, BX12_oneDay_0, if_pos c16p, e2, cl9_some, e8, cl2_some]
    simp only [lt9_e]
    unfold fX12_pins
    rw [w2]
    show LX12_oneDay (999966 + 1 + 1 * 16) 1 h8 0 (gonS (windW wind (rustW w 16))) (nI 0) = _
    rw [c3, LX12_oneDay, if_neg (by decide), if_pos rfl, BX12_oneDay_1, if_pos c16p, i_3, gd_in (by decide) (by decide)]
    rfl
  · rw [up2_s, b1]
    rfl
def daysW (wind : Bool) : Nat → (Nat → Int32) → (Nat → Int32)
  | 0, w => w
  | n + 1, w => dayW wind (daysW wind n w)
theorem daysW_s (wind : Bool) (n : Nat) (w : Nat → Int32) : daysW wind (n + 1) w = dayW wind (daysW wind n w) := rfl
theorem daysW_keep (wind : Bool) (w : Nat → Int32) : ∀ n, KEEP w (daysW wind n w)
  | 0 => KEEP.refl w
  | n + 1 => (daysW_keep wind w n).trans (dayW_keep wind _)
theorem daysW_M {w : Nat → Int32} (HM : lawM w) (wind : Bool) (n : Nat) : lawM (daysW wind n w) := HM.out (daysW_keep wind w n).1 (fun i hi _ => (daysW_keep wind w n).2 i hi)
theorem GW_days {w : Nat → Int32} (G : GW w) (HM : lawM w) (wind : Bool) : ∀ n, GW (daysW wind n w)
  | 0 => G
  | n + 1 => GW_day (GW_days G HM wind n) (daysW_M HM wind n) wind
theorem bit_LC {w w' : Nat → Int32} (G : GW w) (L : LC w w') : w' 10 = w 10 + fJ_bitCount (w 7 &&& (w' 7 ^^^ (-1))) := by
  rw [bitCount_n (S16_and G.pins), L.2]
  congr 2
  exact cntB_cong (fun p hp => by rw [has9_and, has9_cpl _ (by omega)])
theorem daysMore_x {h : Hp} {b : Nat} {w : Nat → Int32} (H : CSK h b w) (wind : Bool) {n : Nat} (hn : n ≤ 60) : ∃ h', fX1_daysMore h b (nI n) (bI wind) = some (daysW wind n w 10 - w 10, h') ∧ CSK h' b (daysW wind n w) ∧ FR (cS b) h h' := by
  obtain ⟨r, e, q0, q1, q2⟩ := loop0 (σ := Hp × Int32) (ρ := Int32 × Hp) n (fun m i s => LX1_daysMore b m s.1 (nI n) (bI wind) s.2 (nI i)) (fun i s => CSK s.1 b (daysW wind i w) ∧ FR (cS b) h s.1 ∧ s.2 = daysW wind i w 10 - w 10) (fun r => r.1 = daysW wind n w 10 - w 10 ∧ CSK r.2 b (daysW wind n w) ∧ FR (cS b) h r.2) (h, 0) (by omega) ⟨H, FR.refl _ _, (Int32.sub_self _).symm⟩ (by
    rintro m i ⟨h1, s⟩ hi ⟨a1, a2, a3⟩
    left
    dsimp only at a1 a2 a3 ⊢
    obtain ⟨h2, e2, C2, F2⟩ := dayMore_x a1 wind
    refine ⟨(h2, daysW wind (i + 1) w 10 - w 10), ⟨C2, a2.trans F2, rfl⟩, ?_⟩
    · rw [LX1_daysMore, BX1_daysMore_0, if_neg (nI_ge hi (by omega)), e2, cl2_some, nI_1]
      simp only [lt9_e]
      rw [a3, daysW_s, bit_LC a1.1.2.1 (dayW_LC wind (daysW wind i w)), sub_add_c]) (by
    rintro m ⟨h1, s⟩ ⟨a1, a2, a3⟩
    refine ⟨(s, h1), ?_, a3, a1, a2⟩
    try dsimp only
    rw [LX1_daysMore, BX1_daysMore_0, if_pos (nI_le (Nat.le_refl _) (by omega))])
  refine ⟨r.2, ?_, q1, q2⟩
  rw [← q0]
  exact e

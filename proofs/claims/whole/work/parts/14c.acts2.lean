/-! pin, change, pull, hand, seed -/
theorem upd_comm (f : Nat → Int32) {i j : Nat} (h : i ≠ j) (x y : Int32) : upd (upd f i x) j y = upd (upd f j y) i x := by
  funext k
  unfold upd
  by_cases c : k = j
  · by_cases d : k = i
    · exact absurd (d.symm.trans c) h
    · simp [c, show ¬ j = i from fun q => h q.symm]
  · by_cases d : k = i
    · simp [d, h]
    · simp [c, d]
theorem logW_ge (w : Nat → Int32) (p a r : Int32) {k : Nat} (hk : 333 ≤ k) : logW w p a r k = w k := by
  unfold logW
  rw [if_neg (by omega), if_neg (by omega), if_neg (by omega), if_neg (by omega), if_neg (by omega), if_neg (by omega)]
theorem logW_upd (w : Nat → Int32) (p a r : Int32) {i : Nat} (hi : i < 93) (h3 : i ≠ 3) (h11 : i ≠ 11) (v : Int32) : logW (upd w i v) p a r = upd (logW w p a r) i v := by
  funext k
  by_cases c : k = i
  · subst c
    rw [upd_s, logW_lt _ _ _ _ hi, upd_n _ _ h11, upd_s]
  · rw [upd_n _ _ c]
    unfold logW
    rw [upd_n _ _ (Ne.symm h11), upd_n _ _ (Ne.symm h3), upd_n _ _ c]
    by_cases d : 97 ≤ k ∧ k < 333
    · rw [if_pos d, if_pos d, upd_n _ _ (by omega)]
    · rw [if_neg d, if_neg d]
theorem GW.take {w : Nat → Int32} (G : GW w) {p : Nat} (hp : p < 16) : GW (upd (upd w 7 (wo9 (w 7) p)) (62 + p) 0) := by
  rw [upd_comm _ (by omega)]
  have G1 : GW (upd w (62 + p) 0) := G.set (n := 0) (by omega) (spc_n (by omega)) (Nat.zero_le _) (by omega) (fun _ => by omega) (fun _ _ => Or.inr rfl) (fun k _ => by omega)
  refine G1.setpins (S16_wo G.pins) (fun q hq h => ?_)
  by_cases c : q = p
  · subst c; exact upd_s _ _ _
  · rw [upd_n _ _ (by omega)]
    rw [has9_wo _ (by omega) (by omega)] at h
    simp [c] at h
    exact G.norust hq h
theorem GW.put {w : Nat → Int32} (G : GW w) {p r : Nat} (hp : p < 16) (hr : r ≤ 99) : GW (upd (upd w 7 (w 7 ||| bit9 p)) (62 + p) (nI r)) := by
  have G1 : GW (upd w 7 (w 7 ||| bit9 p)) := G.setpins (S16_or G.pins (S16_bit hp)) (fun q hq h => by
    rw [has9_or] at h
    simp at h
    exact G.norust hq h.1)
  refine G1.set (by omega) (spc_n (by omega)) (by rw [hiT_r hp]; exact hr) (by omega) (fun _ => by omega) (fun _ _ => Or.inl ?_) (fun k _ => by omega)
  rw [upd_s, show 62 + p - 62 = p by omega, has9_or, has9_bit (by omega)]
  simp
theorem setPin_x {h : Hp} {b : Nat} {w : Nat → Int32} (S : SKY h b w) {p r : Nat} (hp : p < 16) (hr : r ≤ 99) : ∃ h', fX7_setPin h b (nI p) (nI r) = some h' ∧ SKY h' b (upd (upd w 7 (w 7 ||| bit9 p)) (62 + p) (nI r)) ∧ FR (fun k => k = b ∨ k = b + 4) h h' := by
  have e7 : h b 5 = w 7 := S.1.get (i := 7) (c := 0) rfl (by decide) (by decide)
  refine ⟨up2 (up2 h b 5 (w 7 ||| bit9 p)) (b + 4) p (nI r), ?_, ?_, (FR.up2 (C := fun k => k = b ∨ k = b + 4) h _ _ (Or.inl rfl)).trans (FR.up2 _ _ _ (Or.inr rfl))⟩
  · unfold fX7_setPin
    simp only [gd_in hp (show 16 < 2 ^ 31 by decide), nI_clamp (show p < 2 ^ 31 by omega), lt9_e]
    rw [e7, bit9_def]
  · have L1 : SKL (up2 h b 5 (w 7 ||| bit9 p)) b (upd w 7 (w 7 ||| bit9 p)) := S.l.up (i := 7) (c := 0) rfl (by decide) (by decide) (by decide) _
    have L2 : SKL (up2 (up2 h b 5 (w 7 ||| bit9 p)) (b + 4) p (nI r)) b (upd (upd w 7 (w 7 ||| bit9 p)) (62 + p) (nI r)) := L1.up (loc_r hp) (by omega) (by omega) (by omega) _
    exact L2.y (S.2.1.put hp hr)
theorem takePin_x {h : Hp} {b : Nat} {w : Nat → Int32} (S : SKY h b w) {p : Nat} (hp : p < 16) : ∃ h', fX7_takePin h b (nI p) = some h' ∧ SKY h' b (upd (upd w 7 (wo9 (w 7) p)) (62 + p) 0) ∧ FR (fun k => k = b ∨ k = b + 4) h h' := by
  have e7 : h b 5 = w 7 := S.1.get (i := 7) (c := 0) rfl (by decide) (by decide)
  refine ⟨up2 (up2 h b 5 (wo9 (w 7) p)) (b + 4) p 0, ?_, ?_, (FR.up2 (C := fun k => k = b ∨ k = b + 4) h _ _ (Or.inl rfl)).trans (FR.up2 _ _ _ (Or.inr rfl))⟩
  · unfold fX7_takePin
    simp only [gd_in hp (show 16 < 2 ^ 31 by decide), nI_clamp (show p < 2 ^ 31 by omega), lt9_e]
    rw [e7, bit9_def, wo9_def]
  · have L1 : SKL (up2 h b 5 (wo9 (w 7) p)) b (upd w 7 (wo9 (w 7) p)) := S.l.up (i := 7) (c := 0) rfl (by decide) (by decide) (by decide) _
    have L2 : SKL (up2 (up2 h b 5 (wo9 (w 7) p)) (b + 4) p 0) b (upd (upd w 7 (wo9 (w 7) p)) (62 + p) 0) := L1.up (loc_r hp) (by omega) (by omega) (by omega) _
    exact L2.y (S.2.1.take hp)
theorem SKY.day {h : Hp} {b : Nat} {w : Nat → Int32} (S : SKY h b w) : h b 13 = w 3 := S.1.get (i := 3) (c := 0) rfl (by decide) (by decide)
theorem brass_GW {w : Nat → Int32} (G : GW w) {k n : Nat} (hk : k < 5) (hn : n ≤ 30) : GW (upd w (80 + 3 * k) (nI n)) := G.set (by omega) (spc_n (by omega)) (by rw [hiT_br hk]; exact hn) (by omega) (fun _ => by omega) (fun q => by omega) (fun k _ => by omega)
def pinW (w : Nat → Int32) (k p br : Nat) : Nat → Int32 := logW (upd (upd (upd w (80 + 3 * k) (nI (br - 1))) 7 (w 7 ||| bit9 p)) (62 + p) 0) (nI p) 0 0
theorem pin_T {h : Hp} {σ : St} (C : RC h σ) (x : Int32) : OpT h σ [(1, 1), (4, 2)] (fX11_pin h x) (fun ha => fX12_pin ha x) := by
  have H := C.cs
  obtain ⟨n, hn, en⟩ := H.2.1.n0
  have e0 : h 37 0 = nI n := by rw [← en]; exact H.f0
  rcases pinner_cases x hn e0 with ⟨c1, c2⟩ | ⟨k, hk, rfl, c1, c2⟩
  · exact thr_T C 1 1 (by simp) (by decide) (by unfold fX11_pin; rw [c1]; rfl) (fun ha w => by unfold fX12_pin; simp only [lt9_e]; rw [c2 _ (by rw [up2_n _ _ _ (by decide), w]; exact en)]; rfl)
  · have hk5 : k < 5 := by omega
    obtain ⟨p, hp1, ep⟩ := H.2.1.spot hk5
    have hp : p < 16 := by omega
    obtain ⟨br, hbr, eb⟩ := H.2.1.brass hk5
    have ex : fX11_pin h (nI k) = if has9 (σ.1 13) p = false ∧ has9 (σ.1 7) p = false ∧ 1 ≤ br then cl9 (fX5_remember h 32) (fun h11 => cl9 (fX7_setPin (up2 h11 (32 + 8) k (h11 (32 + 8) k - 1)) 32 (nI p) 0) (fun h16 => cl9 (fX4_add h16 32 (h16 32 13) (nI p) 0 0) (fun h18 => some (nI p, 0, h18)))) else some (0, 4, h) := by
      unfold fX11_pin fX7_hasLadder fX7_hasPin
      simp only [gd_in hk5 (show 5 < 2 ^ 31 by decide), nI_clamp (show k < 2 ^ 31 by omega), lt9_e]
      rw [c1, if_pos rfl, H.spot hk5, ep, H.brass hk5, eb, H.f13, H.f7, has_x _ (by omega), has_x _ (by omega)]
      cases d1 : has9 (σ.1 13) p with
      | true => rfl
      | false =>
        cases d2 : has9 (σ.1 7) p with
        | true => simp [bI, cl9_some]
        | false =>
          by_cases d3 : 1 ≤ br
          · have : (1 : Int32) ≤ nI br := nI_le d3 (by omega)
            simp [bI, this, d3, cl9_some]
          · have : ¬ (1 : Int32) ≤ nI br := nI_ge (a := br) (b := 1) (by omega) (by decide)
            simp [bI, this, d3, cl9_some]
    have em : ∀ ha, ha 209 = σ.1 → fX12_pin ha (nI k) = if has9 (σ.1 13) p = false ∧ has9 (σ.1 7) p = false ∧ 1 ≤ br then cl9 (fX12_remembers (up2 ha 208 0 0)) (fun h24 => cl9 (fX12_tells (up2 (up2 (up2 h24 209 (80 + 3 * k) (h24 209 (80 + 3 * k) - 1)) 209 7 ((up2 h24 209 (80 + 3 * k) (h24 209 (80 + 3 * k) - 1)) 209 7 ||| bit9 p)) 209 (62 + p) 0) (nI p) 0 0) (fun h33 => some (nI p, h33))) else some (0, up2 (up2 ha 208 0 0) 208 0 2) := by
      intro ha wa
      have w1 : (up2 ha 208 0 0) 209 = σ.1 := by rw [up2_n _ _ _ (by decide)]; exact wa
      unfold fX12_pin fX12_hasLadder fX12_hasPin fX12_pins
      simp only [lt9_e]
      rw [c2 _ (by rw [w1]; exact en), throws_0, cl2_some, if_pos rfl, of_0 w1 hk5, cl9_some, of_2 w1 hk5, cl9_some, w1, ep, eb, has_m _ (by omega), has_m _ (by omega)]
      have e62 : (62 : Int32) + nI p = nI (62 + p) := by rw [i_62, nI_add]
      simp only [at_2, e62, i_7, gd_in (show 80 + 3 * k < 2031 by omega) (show 2031 < 2 ^ 31 by decide), gd_in (show 62 + p < 2031 by omega) (show 2031 < 2 ^ 31 by decide), gd_in (show 7 < 2031 by omega) (show 2031 < 2 ^ 31 by decide), nI_clamp (show 80 + 3 * k < 2 ^ 31 by omega), nI_clamp (show 62 + p < 2 ^ 31 by omega), nI_clamp (show 7 < 2 ^ 31 by omega), bit9_def]
      cases d1 : has9 (σ.1 13) p with
      | true => rfl
      | false =>
        cases d2 : has9 (σ.1 7) p with
        | true => simp [bI, cl9_some, throws_1, cl2_some]
        | false =>
          by_cases d3 : 1 ≤ br
          · have : ¬ nI br = 0 := nI_ne0 (by omega) (by omega)
            simp [bI, this, d3, cl9_some, throws_0, cl2_some]
          · have : nI br = 0 := by rw [show br = 0 by omega]; rfl
            simp [bI, this, d3, cl9_some, throws_1, cl2_some]
    by_cases ok : has9 (σ.1 13) p = false ∧ has9 (σ.1 7) p = false ∧ 1 ≤ br
    · obtain ⟨h1, e1, C1, F1⟩ := remember_x C
      have S1 : SKY h1 32 σ.1 := by have := C1.sky; rw [rem9_1] at this; exact this
      have eb1 : h1 (32 + 8) k - 1 = nI (br - 1) := by
        have : h1 (32 + 8) k = σ.1 (80 + 3 * k) := S1.1.get (loc_br hk5) (by omega) (by omega)
        rw [this, eb, i_1, nI_subN ok.2.2]
      have S2 : SKY (up2 h1 (32 + 8) k (nI (br - 1))) 32 (upd σ.1 (80 + 3 * k) (nI (br - 1))) := S1.up (loc_br hk5) (by omega) (by omega) (by omega) (brass_GW S1.2.1 hk5 (by omega))
      obtain ⟨h16, e16, S16', F16⟩ := setPin_x S2 hp (r := 0) (by decide)
      obtain ⟨h18, e18, S18, F18⟩ := add_x S16' hp (a := 0) (r := 0) (by decide) (by decide)
      have e16' : fX7_setPin (up2 h1 (32 + 8) k (nI (br - 1))) 32 (nI p) 0 = some h16 := e16
      rw [← S16'.day] at e18
      have e18' : fX4_add h16 32 (h16 32 13) (nI p) 0 0 = some h18 := e18
      have ew : logW (upd (upd (upd σ.1 (80 + 3 * k) (nI (br - 1))) 7 (upd σ.1 (80 + 3 * k) (nI (br - 1)) 7 ||| bit9 p)) (62 + p) (nI 0)) (nI p) (nI 0) (nI 0) = pinW σ.1 k p br := by
        unfold pinW
        rw [upd_n _ _ (by omega)]; rfl
      rw [ew] at S18
      refine opT_act C C1 F1 (r := nI p) (h2 := h18) ?_ S18 ?_ ?_ (fun i h3 h4 => ?_) (fun ha hb eb' wb wa => ?_)
      · rw [ex, if_pos ok, e1, cl9_some, eb1, e16', cl9_some, e18', cl9_some]
      · exact ((FR.up2 (C := fun k => 32 ≤ k ∧ k ≤ 42) h1 _ _ (by omega)).trans (F16.mono (fun k q => by omega))).trans (F18.mono (fun k q => by omega))
      · unfold pinW
        rw [logW_lt _ _ _ _ (by decide), upd_n _ _ (by decide), upd_n _ _ (by omega), upd_n _ _ (by decide), upd_n _ _ (by omega)]
      · unfold pinW
        rw [logW_ge _ _ _ _ h3, upd_n _ _ (by omega), upd_n _ _ (by omega), upd_n _ _ (by omega)]
      · rw [em ha wa, if_pos ok, eb', cl9_some, tells_m rfl, cl9_some]
        refine ⟨_, rfl, ?_, ?_⟩
        · rw [upA_s, up2_s, up2_s, up2_s, wb, eb, i_1, nI_subN ok.2.2, upd_n _ _ (by omega)]
          rfl
        · exact (((FI.up2 (C := fun k _ => k = 209) hb _ rfl).trans (FI.up2 _ _ rfl)).trans (FI.up2 _ _ rfl)).trans (FI.upA _ _ (fun _ => rfl))
    · refine thr_T C 4 2 (by simp) (by decide) ?_ (fun ha wa => ?_)
      · rw [ex, if_neg ok]
      · rw [em ha wa, if_neg ok]
def changeW (w : Nat → Int32) (k p br : Nat) : Nat → Int32 := logW (upd (upd w (80 + 3 * k) (nI (br - 1))) (62 + p) 0) (nI p) 1 (w (62 + p))
theorem or_bit_self {S : Int32} {p : Nat} (hp : p < 32) (h : has9 S p = true) : S ||| bit9 p = S := by
  apply has9_ext
  intro q hq
  rw [has9_or, has9_bit hp]
  by_cases c : q = p
  · subst c; simp [h]
  · simp [c]
theorem change_T {h : Hp} {σ : St} (C : RC h σ) (x : Int32) : OpT h σ [(1, 1), (4, 2)] (fX11_change h x) (fun ha => fX12_change ha x) := by
  have H := C.cs
  obtain ⟨n, hn, en⟩ := H.2.1.n0
  have e0 : h 37 0 = nI n := by rw [← en]; exact H.f0
  rcases pinner_cases x hn e0 with ⟨c1, c2⟩ | ⟨k, hk, rfl, c1, c2⟩
  · exact thr_T C 1 1 (by simp) (by decide) (by unfold fX11_change; rw [c1]; rfl) (fun ha w => by unfold fX12_change; simp only [lt9_e]; rw [c2 _ (by rw [up2_n _ _ _ (by decide), w]; exact en)]; rfl)
  · have hk5 : k < 5 := by omega
    obtain ⟨p, hp1, ep⟩ := H.2.1.spot hk5
    have hp : p < 16 := by omega
    obtain ⟨br, hbr, eb⟩ := H.2.1.brass hk5
    obtain ⟨ru, hru, eru⟩ := H.2.1.rust hp
    have ex : fX11_change h (nI k) = if has9 (σ.1 13) p = false ∧ has9 (σ.1 7) p = true ∧ 1 ≤ br then cl9 (fX5_remember h 32) (fun h11 => cl9 (fX7_setPin (up2 h11 (32 + 8) k (h11 (32 + 8) k - 1)) 32 (nI p) 0) (fun h16 => cl9 (fX4_add h16 32 (h16 32 13) (nI p) 1 (h11 (32 + 4) p)) (fun h18 => some (h11 (32 + 4) p, 0, h18)))) else some (0, 4, h) := by
      unfold fX11_change fX7_hasLadder fX7_hasPin
      simp only [gd_in hk5 (show 5 < 2 ^ 31 by decide), nI_clamp (show k < 2 ^ 31 by omega), lt9_e]
      rw [c1, if_pos rfl, H.spot hk5, ep, H.brass hk5, eb, H.f13, H.f7, has_x _ (by omega), has_x _ (by omega)]
      simp only [gd_in hp (show 16 < 2 ^ 31 by decide), nI_clamp (show p < 2 ^ 31 by omega)]
      cases d1 : has9 (σ.1 13) p with
      | true => rfl
      | false =>
        cases d2 : has9 (σ.1 7) p with
        | false => simp [bI, cl9_some]
        | true =>
          by_cases d3 : 1 ≤ br
          · have : (1 : Int32) ≤ nI br := nI_le d3 (by omega)
            simp [bI, this, d3, cl9_some]
          · have : ¬ (1 : Int32) ≤ nI br := nI_ge (a := br) (b := 1) (by omega) (by decide)
            simp [bI, this, d3, cl9_some]
    have em : ∀ ha, ha 209 = σ.1 → fX12_change ha (nI k) = if has9 (σ.1 13) p = false ∧ has9 (σ.1 7) p = true ∧ 1 ≤ br then cl9 (fX12_remembers (up2 ha 208 0 0)) (fun h24 => cl9 (fX12_tells (up2 (up2 h24 209 (80 + 3 * k) (h24 209 (80 + 3 * k) - 1)) 209 (62 + p) 0) (nI p) 1 (h24 209 (62 + p))) (fun h33 => some (h24 209 (62 + p), h33))) else some (0, up2 (up2 ha 208 0 0) 208 0 2) := by
      intro ha wa
      have w1 : (up2 ha 208 0 0) 209 = σ.1 := by rw [up2_n _ _ _ (by decide)]; exact wa
      unfold fX12_change fX12_hasLadder fX12_hasPin fX12_pins
      simp only [lt9_e]
      rw [c2 _ (by rw [w1]; exact en), throws_0, cl2_some, if_pos rfl, of_0 w1 hk5, cl9_some, of_2 w1 hk5, cl9_some, w1, ep, eb, has_m _ (by omega), has_m _ (by omega)]
      have e62 : (62 : Int32) + nI p = nI (62 + p) := by rw [i_62, nI_add]
      simp only [at_2, e62, gd_in (show 80 + 3 * k < 2031 by omega) (show 2031 < 2 ^ 31 by decide), gd_in (show 62 + p < 2031 by omega) (show 2031 < 2 ^ 31 by decide), nI_clamp (show 80 + 3 * k < 2 ^ 31 by omega), nI_clamp (show 62 + p < 2 ^ 31 by omega)]
      cases d1 : has9 (σ.1 13) p with
      | true => rfl
      | false =>
        cases d2 : has9 (σ.1 7) p with
        | false => simp [bI, cl9_some, throws_1, cl2_some]
        | true =>
          by_cases d3 : 1 ≤ br
          · have : ¬ nI br = 0 := nI_ne0 (by omega) (by omega)
            simp [bI, this, d3, cl9_some, throws_0, cl2_some]
          · have : nI br = 0 := by rw [show br = 0 by omega]; rfl
            simp [bI, this, d3, cl9_some, throws_1, cl2_some]
    by_cases ok : has9 (σ.1 13) p = false ∧ has9 (σ.1 7) p = true ∧ 1 ≤ br
    · obtain ⟨h1, e1, C1, F1⟩ := remember_x C
      have S1 : SKY h1 32 σ.1 := by have := C1.sky; rw [rem9_1] at this; exact this
      have eb1 : h1 (32 + 8) k - 1 = nI (br - 1) := by
        have : h1 (32 + 8) k = σ.1 (80 + 3 * k) := S1.1.get (loc_br hk5) (by omega) (by omega)
        rw [this, eb, i_1, nI_subN ok.2.2]
      have er1 : h1 (32 + 4) p = nI ru := by rw [← eru]; exact S1.1.get (loc_r hp) (by omega) (by omega)
      have S2 : SKY (up2 h1 (32 + 8) k (nI (br - 1))) 32 (upd σ.1 (80 + 3 * k) (nI (br - 1))) := S1.up (loc_br hk5) (by omega) (by omega) (by omega) (brass_GW S1.2.1 hk5 (by omega))
      obtain ⟨h16, e16, S16', F16⟩ := setPin_x S2 hp (r := 0) (by decide)
      obtain ⟨h18, e18, S18, F18⟩ := add_x S16' hp (a := 1) (r := ru) (by decide) hru
      have e16' : fX7_setPin (up2 h1 (32 + 8) k (nI (br - 1))) 32 (nI p) 0 = some h16 := e16
      rw [← S16'.day] at e18
      have e18' : fX4_add h16 32 (h16 32 13) (nI p) 1 (nI ru) = some h18 := e18
      have ew : logW (upd (upd (upd σ.1 (80 + 3 * k) (nI (br - 1))) 7 (upd σ.1 (80 + 3 * k) (nI (br - 1)) 7 ||| bit9 p)) (62 + p) (nI 0)) (nI p) (nI 1) (nI ru) = changeW σ.1 k p br := by
        unfold changeW
        have e7 : upd σ.1 (80 + 3 * k) (nI (br - 1)) 7 = σ.1 7 := upd_n _ _ (by omega)
        have e8 : upd (upd σ.1 (80 + 3 * k) (nI (br - 1))) 7 (upd σ.1 (80 + 3 * k) (nI (br - 1)) 7 ||| bit9 p) = upd σ.1 (80 + 3 * k) (nI (br - 1)) := by
          rw [e7, or_bit_self (by omega) ok.2.1, ← e7, upd_id]
        rw [e8, eru]; rfl
      rw [ew] at S18
      refine opT_act C C1 F1 (r := nI ru) (h2 := h18) ?_ S18 ?_ ?_ (fun i h3 h4 => ?_) (fun ha hb eb' wb wa => ?_)
      · rw [ex, if_pos ok, e1, cl9_some, eb1, e16', cl9_some, er1, e18', cl9_some]
      · exact ((FR.up2 (C := fun k => 32 ≤ k ∧ k ≤ 42) h1 _ _ (by omega)).trans (F16.mono (fun k q => by omega))).trans (F18.mono (fun k q => by omega))
      · unfold changeW
        rw [logW_lt _ _ _ _ (by decide), upd_n _ _ (by decide), upd_n _ _ (by omega), upd_n _ _ (by omega)]
      · unfold changeW
        rw [logW_ge _ _ _ _ h3, upd_n _ _ (by omega), upd_n _ _ (by omega)]
      · rw [em ha wa, if_pos ok, eb', cl9_some, tells_m rfl, cl9_some, wb, eru]
        refine ⟨_, rfl, ?_, ?_⟩
        · rw [upA_s, up2_s, up2_s, wb, eb, i_1, nI_subN ok.2.2]
          unfold changeW
          rw [eru]; rfl
        · exact ((FI.up2 (C := fun k _ => k = 209) hb _ rfl).trans (FI.up2 _ _ rfl)).trans (FI.upA _ _ (fun _ => rfl))
    · refine thr_T C 4 2 (by simp) (by decide) ?_ (fun ha wa => ?_)
      · rw [ex, if_neg ok]
      · rw [em ha wa, if_neg ok]
/-! a pin taken out -/
def takeW (w : Nat → Int32) (p : Nat) (a : Int32) : Nat → Int32 := upd (upd (logW w (nI p) a (w (62 + p))) 7 (wo9 (w 7) p)) (62 + p) 0
theorem takesOut_m {h : Hp} {w : Nat → Int32} (hw : h 209 = w) {p : Nat} (hp : p < 16) (a : Int32) : fX12_takesOut h (nI p) a = some (upA h 209 (takeW w p a)) := by
  unfold fX12_takesOut
  have e62 : (62 : Int32) + nI p = nI (62 + p) := by rw [i_62, nI_add]
  simp only [e62, i_7, gd_in (show 62 + p < 2031 by omega) (show 2031 < 2 ^ 31 by decide), gd_in (show 7 < 2031 by omega) (show 2031 < 2 ^ 31 by decide), nI_clamp (show 62 + p < 2 ^ 31 by omega), nI_clamp (show 7 < 2 ^ 31 by omega), bit9_def, lt9_e]
  rw [tells_m hw, cl9_some, hw]
  unfold up2 takeW
  rw [upA_s, upA_s, upA_upA, upA_upA, logW_lt _ _ _ _ (by decide), upd_n _ _ (by decide)]
  rfl
theorem take_add {w : Nat → Int32} {p : Nat} (hp : p < 16) (a : Int32) : logW (upd (upd w 7 (wo9 (w 7) p)) (62 + p) 0) (nI p) a (w (62 + p)) = takeW w p a := by
  unfold takeW
  rw [logW_upd _ _ _ _ (by omega) (by omega) (by omega), logW_upd _ _ _ _ (by omega) (by omega) (by omega)]
theorem pull_T {h : Hp} {σ : St} (C : RC h σ) (x : Int32) : OpT h σ [(1, 1), (4, 2)] (fX11_pull h x) (fun ha => fX12_pull ha x) := by
  have H := C.cs
  rcases place_cases x with ⟨c1, c2⟩ | ⟨p, hp, rfl, c1, c2⟩
  · exact thr_T C 1 1 (by simp) (by decide) (by unfold fX11_pull; rw [c1]; rfl) (fun ha w => by unfold fX12_pull; rw [c2]; rfl)
  · obtain ⟨ru, hru, eru⟩ := H.2.1.rust hp
    obtain ⟨st, hst, est⟩ := H.2.1.n6
    cases d : has9 (σ.1 7) p with
    | false =>
      refine thr_T C 4 2 (by simp) (by decide) ?_ (fun ha wa => ?_)
      · unfold fX11_pull fX7_hasPin
        rw [c1, if_pos rfl, H.f7, has_x _ (by omega), d]; rfl
      · have w1 : (up2 ha 208 0 0) 209 = σ.1 := by rw [up2_n _ _ _ (by decide)]; exact wa
        unfold fX12_pull fX12_hasPin fX12_pins
        simp only [lt9_e]
        rw [c2, throws_0, cl2_some, if_pos rfl, w1, has_m _ (by omega), d]; rfl
    | true =>
      obtain ⟨h1, e1, C1, F1⟩ := remember_x C
      have S1 : SKY h1 32 σ.1 := by have := C1.sky; rw [rem9_1] at this; exact this
      have er1 : h1 (32 + 4) p = nI ru := by rw [← eru]; exact S1.1.get (loc_r hp) (by omega) (by omega)
      obtain ⟨h6, e6, S6, F6⟩ := takePin_x S1 hp
      obtain ⟨h8, e8, S8, F8⟩ := add_x S6 hp (a := 2) (r := ru) (by decide) hru
      rw [← S6.day] at e8
      have e8' : fX4_add h6 32 (h6 32 13) (nI p) 2 (nI ru) = some h8 := e8
      have ew : logW (upd (upd σ.1 7 (wo9 (σ.1 7) p)) (62 + p) 0) (nI p) (nI 2) (nI ru) = takeW σ.1 p 2 := by
        rw [← take_add hp, eru]; rfl
      rw [ew] at S8
      have t6 : takeW σ.1 p 2 6 = nI st := by
        unfold takeW
        rw [upd_n _ _ (by omega), upd_n _ _ (by decide), logW_lt _ _ _ _ (by decide), upd_n _ _ (by decide), est]
      have e12 : jmin (h8 32 12 + 1) 999 = nI (min (st + 1) 999) := by
        have : h8 32 12 = takeW σ.1 p 2 6 := S8.1.get (i := 6) (c := 0) rfl (by decide) (by decide)
        rw [this, t6, nI_1, i_999, jmin_n (by omega) (by decide)]
      have S9 : SKY (up2 h8 32 12 (nI (min (st + 1) 999))) 32 (upd (takeW σ.1 p 2) 6 (nI (min (st + 1) 999))) := S8.up (i := 6) (c := 0) rfl (by decide) (by decide) (by decide) (S8.2.1.set (by decide) rfl (show min (st + 1) 999 ≤ 999 by omega) (by decide) (fun q => by cases q) (fun q => by omega) (fun k _ => by omega))
      refine opT_act C C1 F1 (r := nI ru) (h2 := up2 h8 32 12 (nI (min (st + 1) 999))) ?_ S9 ?_ ?_ (fun i h3 h4 => ?_) (fun ha hb eb' wb wa => ?_)
      · unfold fX11_pull fX7_hasPin
        simp only [gd_in hp (show 16 < 2 ^ 31 by decide), nI_clamp (show p < 2 ^ 31 by omega), lt9_e]
        rw [c1, if_pos rfl, H.f7, has_x _ (by omega), d, if_neg (by decide), e1, cl9_some, e6, cl9_some, er1, e8', cl9_some, e12]
      · exact ((F6.mono (D := fun k => 32 ≤ k ∧ k ≤ 42) (fun k q => by omega)).trans (F8.mono (fun k q => by omega))).trans (FR.up2 _ _ _ (by omega))
      · unfold takeW
        rw [upd_n _ _ (by decide), upd_n _ _ (by omega), upd_n _ _ (by decide), logW_lt _ _ _ _ (by decide), upd_n _ _ (by decide)]
      · unfold takeW
        rw [upd_n _ _ (by omega), upd_n _ _ (by omega), upd_n _ _ (by omega), logW_ge _ _ _ _ h3]
      · have w1 : (up2 ha 208 0 0) 209 = σ.1 := by rw [up2_n _ _ _ (by decide)]; exact wa
        have e62 : (62 : Int32) + nI p = nI (62 + p) := by rw [i_62, nI_add]
        refine ⟨up2 (upA hb 209 (takeW σ.1 p 2)) 209 6 (nI (min (st + 1) 999)), ?_, by rw [up2_s, upA_s], (FI.upA (C := fun k _ => k = 209) hb _ (fun _ => rfl)).trans (FI.up2 _ _ rfl)⟩
        unfold fX12_pull fX12_hasPin fX12_pins
        simp only [lt9_e, e62, gd_in (show 62 + p < 2031 by omega) (show 2031 < 2 ^ 31 by decide), i_6, gd_in (show 6 < 2031 by omega) (show 2031 < 2 ^ 31 by decide), nI_clamp (show 62 + p < 2 ^ 31 by omega), nI_clamp (show 6 < 2 ^ 31 by omega)]
        rw [c2, throws_0, cl2_some, if_pos rfl, w1, has_m _ (by omega), d, if_neg (by decide), cl9_some, throws_0, cl2_some, if_pos rfl, eb', cl9_some, takesOut_m wb hp, cl9_some, wb, eru, upA_s, t6, nI_1, i_999, jmin_n (by decide) (by omega), Nat.min_comm]
/-! hand, seed -/
theorem hand_T {h : Hp} {σ : St} (C : RC h σ) (x y : Int32) : OpT h σ [(1, 1), (3, 2), (4, 3)] (fX11_hand h x y) (fun ha => fX12_hand ha x y) := by
  have H := C.cs
  obtain ⟨n, hn, en⟩ := H.2.1.n0
  obtain ⟨st, hst, est⟩ := H.2.1.n6
  have e0 : h 37 0 = nI n := by rw [← en]; exact H.f0
  rcases pinner_cases x hn e0 with ⟨c1, c2⟩ | ⟨k, hk, rfl, c1, c2⟩
  · exact thr_T C 1 1 (by simp) (by decide) (by unfold fX11_hand; rw [c1]; rfl) (fun ha w => by unfold fX12_hand; simp only [lt9_e]; rw [c2 _ (by rw [up2_n _ _ _ (by decide), w]; exact en)]; rfl)
  · have hk5 : k < 5 := by omega
    obtain ⟨br, hbr, eb⟩ := H.2.1.brass hk5
    rcases num_cases y 1 30 (by decide) (by decide) with ⟨d1, d2⟩ | ⟨m, hm1, hm, rfl, d1, d2⟩
    · have d1' : fX11_checkNumber y 1 30 = 3 := d1
      have d2' : fX12_in y 1 30 = 0 := d2
      exact thr_T C 3 2 (by simp) (by decide) (by unfold fX11_hand; rw [c1, d1']; rfl) (fun ha w => by unfold fX12_hand; simp only [lt9_e]; rw [c2 _ (by rw [up2_n _ _ _ (by decide), w]; exact en), d2']; rfl)
    · have d1' : fX11_checkNumber (nI m) 1 30 = 0 := d1
      have d2' : fX12_in (nI m) 1 30 = 1 := d2
      have ex : fX11_hand h (nI k) (nI m) = if m ≤ st ∧ br + m ≤ 30 then cl9 (fX5_remember h 32) (fun h10 => some (up2 (up2 h10 32 12 (h10 32 12 - nI m)) (32 + 8) k (up2 h10 32 12 (h10 32 12 - nI m) (32 + 8) k + nI m) (32 + 8) k, 0, up2 (up2 h10 32 12 (h10 32 12 - nI m)) (32 + 8) k (up2 h10 32 12 (h10 32 12 - nI m) (32 + 8) k + nI m))) else some (0, 4, h) := by
        unfold fX11_hand
        simp only [gd_in hk5 (show 5 < 2 ^ 31 by decide), nI_clamp (show k < 2 ^ 31 by omega), lt9_e]
        rw [c1, if_pos rfl, d1', if_pos rfl, H.f6, est, H.brass hk5, eb, nI_add]
        by_cases q1 : m ≤ st
        · rw [if_neg (nI_nlt q1 (by omega))]
          by_cases q2 : br + m ≤ 30
          · rw [i_30, if_pos (nI_le q2 (by decide)), cl9_some, if_pos (show m ≤ st ∧ br + m ≤ 30 from ⟨q1, q2⟩)]; rfl
          · rw [i_30, if_neg (nI_ge (by omega) (by omega)), cl9_some, if_neg (show ¬ (m ≤ st ∧ br + m ≤ 30) from fun q => q2 q.2)]; rfl
        · rw [if_pos (nI_lt (by omega) (by omega)), cl9_some, if_neg (show ¬ (m ≤ st ∧ br + m ≤ 30) from fun q => q1 q.1)]; rfl
      have em : ∀ ha, ha 209 = σ.1 → fX12_hand ha (nI k) (nI m) = if m ≤ st ∧ br + m ≤ 30 then cl9 (fX12_remembers (up2 ha 208 0 0)) (fun h29 => cl9 (fX12_of (up2 (up2 h29 209 6 (h29 209 6 - nI m)) 209 (80 + 3 * k) (up2 h29 209 6 (h29 209 6 - nI m) 209 (80 + 3 * k) + nI m)) (nI k) 2) (fun x36 => some (x36, up2 (up2 h29 209 6 (h29 209 6 - nI m)) 209 (80 + 3 * k) (up2 h29 209 6 (h29 209 6 - nI m) 209 (80 + 3 * k) + nI m)))) else some (0, up2 (up2 ha 208 0 0) 208 0 3) := by
        intro ha wa
        have w1 : (up2 ha 208 0 0) 209 = σ.1 := by rw [up2_n _ _ _ (by decide)]; exact wa
        unfold fX12_hand
        simp only [lt9_e, at_2, i_6, gd_in (show 6 < 2031 by omega) (show 2031 < 2 ^ 31 by decide), nI_clamp (show 6 < 2 ^ 31 by omega), gd_in (show 80 + 3 * k < 2031 by omega) (show 2031 < 2 ^ 31 by decide), nI_clamp (show 80 + 3 * k < 2 ^ 31 by omega)]
        rw [c2 _ (by rw [w1]; exact en), throws_0, cl2_some, if_pos rfl, d2', if_neg (by decide), cl9_some, throws_0, cl2_some, if_pos rfl, w1, est, of_2 w1 hk5, cl9_some, eb, nI_add]
        by_cases q1 : m ≤ st
        · rw [if_neg (nI_nlt q1 (by omega))]
          by_cases q2 : br + m ≤ 30
          · rw [i_30, if_pos (nI_le q2 (by decide)), cl9_some, if_pos (show m ≤ st ∧ br + m ≤ 30 from ⟨q1, q2⟩)]; rfl
          · rw [i_30, if_neg (nI_ge (by omega) (by omega)), cl9_some, if_neg (show ¬ (m ≤ st ∧ br + m ≤ 30) from fun q => q2 q.2)]; rfl
        · rw [if_pos (nI_lt (by omega) (by omega)), cl9_some, if_neg (show ¬ (m ≤ st ∧ br + m ≤ 30) from fun q => q1 q.1)]; rfl
      by_cases ok : m ≤ st ∧ br + m ≤ 30
      · obtain ⟨h1, e1, C1, F1⟩ := remember_x C
        have S1 : SKY h1 32 σ.1 := by have := C1.sky; rw [rem9_1] at this; exact this
        have e12 : h1 32 12 - nI m = nI (st - m) := by
          have : h1 32 12 = σ.1 6 := S1.1.get (i := 6) (c := 0) rfl (by decide) (by decide)
          rw [this, est, nI_subN ok.1]
        have eb1 : up2 h1 32 12 (nI (st - m)) (32 + 8) k + nI m = nI (br + m) := by
          have : h1 (32 + 8) k = σ.1 (80 + 3 * k) := S1.1.get (loc_br hk5) (by omega) (by omega)
          rw [up2_n _ _ _ (by omega), this, eb, nI_add]
        have S2 : SKY (up2 h1 32 12 (nI (st - m))) 32 (upd σ.1 6 (nI (st - m))) := S1.up (i := 6) (c := 0) rfl (by decide) (by decide) (by decide) (S1.2.1.set (by decide) rfl (show st - m ≤ 999 by omega) (by decide) (fun q => by cases q) (fun q => by omega) (fun k _ => by omega))
        have S3 : SKY (up2 (up2 h1 32 12 (nI (st - m))) (32 + 8) k (nI (br + m))) 32 (upd (upd σ.1 6 (nI (st - m))) (80 + 3 * k) (nI (br + m))) := S2.up (loc_br hk5) (by omega) (by omega) (by omega) (brass_GW S2.2.1 hk5 (by omega))
        refine opT_act C C1 F1 (r := nI (br + m)) (h2 := up2 (up2 h1 32 12 (nI (st - m))) (32 + 8) k (nI (br + m))) ?_ S3 ?_ ?_ (fun i h3 h4 => ?_) (fun ha hb eb' wb wa => ?_)
        · rw [ex, if_pos ok, e1, cl9_some, e12, eb1, up2_s, upd_s]
        · exact (FR.up2 (C := fun k => 32 ≤ k ∧ k ≤ 42) h1 _ _ (by omega)).trans (FR.up2 _ _ _ (by omega))
        · rw [upd_n _ _ (by omega), upd_n _ _ (by decide)]
        · rw [upd_n _ _ (by omega), upd_n _ _ (by omega)]
        · have e6 : hb 209 6 - nI m = nI (st - m) := by rw [wb, est, nI_subN ok.1]
          have e7 : up2 hb 209 6 (nI (st - m)) 209 (80 + 3 * k) + nI m = nI (br + m) := by rw [up2_s, upd_n _ _ (by omega), wb, eb, nI_add]
          have e8 : (up2 (up2 hb 209 6 (nI (st - m))) 209 (80 + 3 * k) (nI (br + m))) 209 = upd (upd σ.1 6 (nI (st - m))) (80 + 3 * k) (nI (br + m)) := by rw [up2_s, up2_s, wb]
          refine ⟨up2 (up2 hb 209 6 (nI (st - m))) 209 (80 + 3 * k) (nI (br + m)), ?_, e8, (FI.up2 (C := fun k _ => k = 209) hb _ rfl).trans (FI.up2 _ _ rfl)⟩
          rw [em ha wa, if_pos ok, eb', cl9_some, e6, e7, of_2 e8 hk5, cl9_some, upd_s]
      · refine thr_T C 4 3 (by simp) (by decide) ?_ (fun ha wa => ?_)
        · rw [ex, if_neg ok]
        · rw [em ha wa, if_neg ok]
theorem seed_N {h : Hp} {σ : St} (C : RC h σ) (x : Int32) : OpN h σ (fX11_seed h x) (fun ha => fX12_seed ha x) := by
  have S2 : SKY (up2 h 32 14 x) 32 (upd σ.1 12 x) := C.sky.up (i := 12) (c := 0) rfl (by decide) (by decide) (by decide) (C.sky.2.1.any (Or.inr rfl) x)
  refine ⟨σ.1 12, up2 h 32 14 x, setW σ (upd σ.1 12 x), ?_, C.setw S2 (FR.up2 _ _ _ (by omega)) (upd_n _ _ (by decide)) (fun i _ _ => upd_n _ _ (by omega)), FR.up2 _ _ _ (by unfold cX; omega), fun ha M => ⟨up2 (up2 ha 208 0 0) 209 12 x, ?_, ?_, ?_⟩⟩
  · unfold fX11_seed
    simp only [lt9_e]
    rw [C.cs.f12]
  · unfold fX12_seed
    simp only [lt9_e]
    rw [i_12, gd_in (by decide) (by decide), w00 M 0 0]
    rfl
  · exact RM_setw (M.sm (t0s (j := 0) ha 0 (by omega))) (FI.up2 _ _ (Or.inl rfl)) (by rw [up2_s, w00 M 0 0])
  · exact (t0M ha 0 0).trans (FI.up2 _ _ (by unfold cM; omega))

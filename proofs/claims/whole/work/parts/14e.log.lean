/-! log, led, feed -/
theorem row_0 {d p a r : Nat} (hd : d ≤ 9999) (hp : p < 16) (ha : a < 4) (hr : r ≤ 99) : ushr (nI (d * 65536 + p * 4096 + a * 256 + r)) 16 = nI d := by
  rw [ushr_n (by omega) 16 16 (by decide)]
  exact congrArg nI (by omega)
theorem row_1 {d p a r : Nat} (hd : d ≤ 9999) (hp : p < 16) (ha : a < 4) (hr : r ≤ 99) : (ushr (nI (d * 65536 + p * 4096 + a * 256 + r)) 12) &&& 15 = nI p := by
  rw [ushr_n (by omega) 12 12 (by decide), pk_andN (by omega) 4 (by decide)]
  exact congrArg nI (by omega)
theorem row_2 {d p a r : Nat} (hd : d ≤ 9999) (hp : p < 16) (ha : a < 4) (hr : r ≤ 99) : (ushr (nI (d * 65536 + p * 4096 + a * 256 + r)) 8) &&& 15 = nI a := by
  rw [ushr_n (by omega) 8 8 (by decide), pk_andN (by omega) 4 (by decide)]
  exact congrArg nI (by omega)
theorem row_3 {d p a r : Nat} (hd : d ≤ 9999) (hp : p < 16) (ha : a < 4) (hr : r ≤ 99) : nI (d * 65536 + p * 4096 + a * 256 + r) &&& 255 = nI r := by
  rw [pk_andN (by omega) 8 (by decide)]
  exact congrArg nI (by omega)
theorem sub_add_c (x y z : Int32) : x - y + z = x + z - y := by
  rw [Int32.sub_eq_add_neg, Int32.sub_eq_add_neg, Int32.add_assoc, Int32.add_comm (-y) z, ← Int32.add_assoc]
theorem ago_n {nx j : Nat} (hnx : nx < 60) (hj : j < 60) : ((nI nx - 1) - nI j) + 120 = nI (nx + 119 - j) := by
  have e : ((nI nx - 1) - nI j) + 120 = (nI nx + 120) - 1 - nI j := by
    rw [sub_add_c, sub_add_c (nI nx)]
  rw [e, i_120, nI_add, i_1, nI_subN (by omega), nI_subN (by omega)]
  exact congrArg nI (by omega)
theorem tell_x {h : Hp} {b : Nat} {w : Nat → Int32} (S : SKY h b w) {m : Nat} (em : w 11 = nI m) (hm : m ≤ 60) {j c : Nat} (hj : j < m) (hc : c < 4) : fX4_tell h b (nI j) (nI c) = some (w (93 + 4 * j + c)) := by
  obtain ⟨S1, G, nx, m', hnx, hm', em', enx, hl⟩ := S
  have : m' = m := by rw [em] at em'; exact ((nI_eq (by omega) (by omega)).mp em').symm
  subst this
  obtain ⟨d, p, a, r, hd, hp, ha, hr, e1, e2, e3, e4, e5⟩ := hl j hj
  have e1' : h (b + 10) ((nx + 59 - j) % 60) = nI (d * 65536 + p * 4096 + a * 256 + r) := e1
  have enx' : h (b + 9) 2 = nI nx := enx
  have e11 : h (b + 9) 1 = nI m' := by rw [← em]; exact S1.get (i := 11) (c := 9) rfl (by decide) (by decide)
  have er : fX4_rowAgo h b (nI j) = some (nI (d * 65536 + p * 4096 + a * 256 + r)) := by
    unfold fX4_rowAgo
    rw [enx', ago_n hnx (by omega), i_60, irem_n (by omega) (by decide) (by decide)]
    simp only [lt9_e]
    rw [if_pos (nI_pos' (by omega)), gd_in (Nat.mod_lt _ (by decide)) (by decide), nI_clamp (by omega), show (nx + 119 - j) % 60 = (nx + 59 - j) % 60 by omega, e1']
  unfold fX4_tell
  rw [e11, if_neg (nI_pos (by omega)), if_pos (nI_lt hj (by omega)), cl9_some, er, cl9_some]
  rcases (show c = 0 ∨ c = 1 ∨ c = 2 ∨ c = 3 by omega) with rfl | rfl | rfl | rfl
  · rw [Nat.add_zero, e2, row_0 hd hp ha hr]; rfl
  · rw [show 93 + 4 * j + 1 = 94 + 4 * j by omega, e3, row_1 hd hp ha hr]; rfl
  · rw [show 93 + 4 * j + 2 = 95 + 4 * j by omega, e4, row_2 hd hp ha hr]; rfl
  · rw [show 93 + 4 * j + 3 = 96 + 4 * j by omega, e5, row_3 hd hp ha hr]; rfl
theorem ofLog_m {h : Hp} {w : Nat → Int32} (hw : h 209 = w) {j c : Nat} (hj : j < 60) (hc : c < 4) : fX12_ofLog h (nI j) (nI c) = some (w (93 + 4 * j + c)) := by
  unfold fX12_ofLog
  rw [i_93, i_4, nI_mul, nI_add, nI_add, gd_in (by omega) (by decide), nI_clamp (by omega), hw]
theorem log_T {h : Hp} {σ : St} (C : RC h σ) (x y : Int32) : OpT h σ [(2, 1)] (fX11_log h x y) (fun ha => fX12_log ha x y) := by
  have H := C.cs
  obtain ⟨m, hm, em⟩ := H.2.1.n11
  have e11 : h (32 + 9) 1 = nI m := by rw [← em]; exact H.f11
  have em' : ∀ ha, ha 209 = σ.1 → fX12_log ha x y = if fX12_in y 0 3 = 0 then some (0, up2 (up2 ha 208 0 0) 208 0 1) else if fX12_in x 0 (nI m - 1) = 0 then some (-1, up2 ha 208 0 0) else cl9 (fX12_ofLog (up2 ha 208 0 0) x y) (fun x11 => some (x11, up2 ha 208 0 0)) := by
    intro ha wa
    have w1 : (up2 ha 208 0 0) 209 = σ.1 := by rw [up2_n _ _ _ (by decide)]; exact wa
    unfold fX12_log
    simp only [lt9_e]
    by_cases d : fX12_in y 0 3 = 0
    · rw [if_pos d, if_pos d]; rfl
    · rw [if_neg d, if_neg d, cl9_some, throws_0, cl2_some, if_pos rfl, w1, em]
  rcases what_cases y 3 (by decide) with ⟨d, dn⟩ | ⟨c, hc, rfl, d⟩
  · have d' : fX12_in y 0 3 = 0 := d
    refine thr_T C 2 1 (by simp) (by decide) ?_ (fun ha wa => by rw [em' ha wa, if_pos d'])
    unfold fX11_log
    unfold fX12_in at d'
    by_cases q : y < 0
    · rw [if_pos q]; rfl
    · rw [if_neg q] at d' ⊢
      by_cases q2 : 3 < y
      · rw [if_neg (Int32.not_le.mpr q2)]; rfl
      · rw [if_neg q2] at d'; cases d'
  · have d' : ¬ fX12_in (nI c) 0 3 = 0 := by
      have : fX12_in (nI c) 0 3 = 1 := d
      rw [this]; decide
    have ex : fX11_log h x (nI c) = cl9 (fX4_tell h 32 x (nI c)) (fun x7 => some (x7, 0, h)) := by
      unfold fX11_log
      rw [if_neg (nI_pos (by omega)), i_3, if_pos (nI_le hc (by decide))]; rfl
    have out : (x < 0 ∨ ¬ x < nI m) → fX12_in x 0 (nI m - 1) = 0 → OpT h σ [(2, 1)] (fX11_log h x (nI c)) (fun ha => fX12_log ha x (nI c)) := by
      intro q q3
      refine opT_ask C (r := -1) (k := 0) (c := 0) (h1 := h) ?_ (by simp) (FR.refl _ _) (fun ha M => ⟨-1, up2 ha 208 0 0, ?_, a0 (j := 0) ha 0 (by omega), z00 ha, fun _ => rfl⟩)
      · rw [ex]
        unfold fX4_tell
        rw [e11]
        by_cases q1 : x < 0
        · rw [if_pos q1]; rfl
        · rw [if_neg q1, if_neg (q.resolve_left q1)]; rfl
      · rw [em' ha M.w, if_neg d', if_pos q3]
    rcases pk_ix x (n := m) (by omega) with q | q | ⟨j, hj, rfl⟩
    · refine out (Or.inl q) ?_
      unfold fX12_in
      rw [if_pos q]
    · have q1 : ¬ x < 0 := by
        rw [Int32.le_iff_toInt_le, nI_toInt (by omega)] at q
        rw [Int32.lt_iff_toInt_lt]
        have : (0 : Int32).toInt = 0 := rfl
        omega
      refine out (Or.inr (Int32.not_lt.mpr q)) ?_
      unfold fX12_in
      have d2 : nI m - 1 < x := by
        rw [Int32.lt_iff_toInt_lt, show (1 : Int32) = nI 1 from rfl, pk_sub_toInt (by omega) (by decide)]
        rw [Int32.le_iff_toInt_le, nI_toInt (by omega)] at q
        omega
      rw [if_neg q1, if_pos d2]
    · refine opT_ask C (r := σ.1 (93 + 4 * j + c)) (k := 0) (c := 0) (h1 := h) ?_ (by simp) (FR.refl _ _) (fun ha M => ⟨σ.1 (93 + 4 * j + c), up2 ha 208 0 0, ?_, a0 (j := 0) ha 0 (by omega), z00 ha, fun _ => rfl⟩)
      · rw [ex, tell_x C.sky em hm hj (by omega), cl9_some]
      · have q3 : ¬ fX12_in (nI j) 0 (nI m - 1) = 0 := by
          have : fX12_in (nI j) (nI 0) (nI (m - 1)) = 1 := in_n (by omega) (by omega) (by omega)
          rw [i_1, nI_subN (by omega)]
          show ¬ fX12_in (nI j) (nI 0) (nI (m - 1)) = 0
          rw [this]; decide
        rw [em' ha M.w, if_neg d', if_neg q3, ofLog_m (w00 M 0 0) (by omega) (by omega), cl9_some]
/-! led -/
def cntD (w : Nat → Int32) (p : Nat) : Nat → Nat → Nat
  | 0, _ => 0
  | m + 1, j => (if w (94 + 4 * j) = nI p then 1 else 0) + cntD w p m (j + 1)
def latD (w : Nat → Int32) (p : Nat) : Nat → Nat → Int32
  | 0, _ => -1
  | m + 1, j => if w (94 + 4 * j) = nI p then w (93 + 4 * j) else latD w p m (j + 1)
theorem cntD_s (w : Nat → Int32) (p m j : Nat) : cntD w p (m + 1) j = (if w (94 + 4 * j) = nI p then 1 else 0) + cntD w p m (j + 1) := rfl
theorem latD_s (w : Nat → Int32) (p m j : Nat) : latD w p (m + 1) j = if w (94 + 4 * j) = nI p then w (93 + 4 * j) else latD w p m (j + 1) := rfl
theorem rowsOf_L {h : Hp} {b : Nat} {w : Nat → Int32} (S : SKY h b w) {m : Nat} (em : w 11 = nI m) (hm : m ≤ 60) (p : Nat) : ∀ (k n j a : Nat), j + k = m → k < n → LX4_rowsOf h b n (nI p) (nI a) (nI j) = some (nI (a + cntD w p k j)) := by
  have e11 : h (b + 9) 1 = nI m := by rw [← em]; exact S.1.get (i := 11) (c := 9) rfl (by decide) (by decide)
  intro k
  induction k with
  | zero =>
    intro n j a hj hn
    obtain ⟨n, rfl⟩ : ∃ k, n = k + 1 := ⟨n - 1, by omega⟩
    rw [LX4_rowsOf, BX4_rowsOf_0, e11, if_pos (nI_le (by omega) (by omega))]; rfl
  | succ k ih =>
    intro n j a hj hn
    obtain ⟨n, rfl⟩ : ∃ k, n = k + 1 := ⟨n - 1, by omega⟩
    have et := tell_x S em hm (j := j) (c := 1) (by omega) (by decide)
    rw [show 93 + 4 * j + 1 = 94 + 4 * j by omega] at et
    have et' : fX4_tell h b (nI j) 1 = some (w (94 + 4 * j)) := et
    rw [LX4_rowsOf, BX4_rowsOf_0, e11, if_neg (nI_ge (by omega) (by omega)), et', cl9_some, nI_1, nI_1, cntD_s]
    simp only [lt9_e]
    by_cases c : w (94 + 4 * j) = nI p
    · rw [if_pos c, if_pos c, ih n (j + 1) (a + 1) (by omega) (by omega)]
      exact congrArg (fun x => some (nI x)) (by omega)
    · rw [if_neg c, if_neg c, ih n (j + 1) a (by omega) (by omega)]
      exact congrArg (fun x => some (nI x)) (by omega)
theorem latest_L {h : Hp} {b : Nat} {w : Nat → Int32} (S : SKY h b w) {m : Nat} (em : w 11 = nI m) (hm : m ≤ 60) (p : Nat) : ∀ (k n j : Nat), j + k = m → k < n → LX4_latestDayOf h b n (nI p) (nI j) = some (latD w p k j) := by
  have e11 : h (b + 9) 1 = nI m := by rw [← em]; exact S.1.get (i := 11) (c := 9) rfl (by decide) (by decide)
  intro k
  induction k with
  | zero =>
    intro n j hj hn
    obtain ⟨n, rfl⟩ : ∃ k, n = k + 1 := ⟨n - 1, by omega⟩
    rw [LX4_latestDayOf, BX4_latestDayOf_0, e11, if_pos (nI_le (by omega) (by omega))]; rfl
  | succ k ih =>
    intro n j hj hn
    obtain ⟨n, rfl⟩ : ∃ k, n = k + 1 := ⟨n - 1, by omega⟩
    have et := tell_x S em hm (j := j) (c := 1) (by omega) (by decide)
    rw [show 93 + 4 * j + 1 = 94 + 4 * j by omega] at et
    have et' : fX4_tell h b (nI j) 1 = some (w (94 + 4 * j)) := et
    have e0 : fX4_tell h b (nI j) 0 = some (w (93 + 4 * j)) := tell_x S em hm (j := j) (c := 0) (by omega) (by decide)
    rw [LX4_latestDayOf, BX4_latestDayOf_0, e11, if_neg (nI_ge (by omega) (by omega)), et', cl9_some, e0, cl9_some, nI_1, latD_s]
    simp only [lt9_e]
    by_cases c : w (94 + 4 * j) = nI p
    · rw [if_pos c, if_pos c]
    · rw [if_neg c, if_neg c, ih n (j + 1) (by omega) (by omega)]
theorem led_L {h : Hp} {w : Nat → Int32} (hw : h 209 = w) {m : Nat} (hm : m ≤ 60) (p : Nat) (z : Int32) : ∀ (j n : Nat), j ≤ m → j < n → LX12_led n h (nI p) z (nI (cntD w p (m - j) j)) (latD w p (m - j) j) (nI j - 1) = some (if z = 0 then nI (cntD w p m 0) else latD w p m 0, h) := by
  intro j
  induction j with
  | zero =>
    intro n hj hn
    obtain ⟨n, rfl⟩ : ∃ k, n = k + 1 := ⟨n - 1, by omega⟩
    rw [LX12_led, BX12_led_0, if_pos (by decide), Nat.sub_zero]
    by_cases c : z = 0
    · rw [if_pos c, if_pos c]
    · rw [if_neg c, if_neg c]
  | succ j ih =>
    intro n hj hn
    obtain ⟨n, rfl⟩ : ∃ k, n = k + 1 := ⟨n - 1, by omega⟩
    have e1 : fX12_ofLog h (nI j) 1 = some (w (94 + 4 * j)) := by
      have := ofLog_m hw (j := j) (c := 1) (by omega) (by decide)
      rw [show 93 + 4 * j + 1 = 94 + 4 * j by omega] at this
      exact this
    have e0 : fX12_ofLog h (nI j) 0 = some (w (93 + 4 * j)) := ofLog_m hw (j := j) (c := 0) (by omega) (by decide)
    have em : nI j + (-1) = nI j - 1 := (Int32.sub_eq_add_neg _ _).symm
    have s1 : m - j = (m - (j + 1)) + 1 := by omega
    rw [LX12_led, BX12_led_0, nI_pred, if_neg (nI_pos (by omega)), e1, cl9_some]
    simp only [lt9_e, e0, cl9_some, em, nI_1]
    have := ih n (by omega) (by omega)
    rw [s1, cntD_s, latD_s] at this
    by_cases c : w (94 + 4 * j) = nI p
    · rw [if_pos c]
      rw [if_pos c, if_pos c, Nat.add_comm 1] at this
      exact this
    · rw [if_neg c]
      rw [if_neg c, if_neg c, Nat.zero_add] at this
      exact this
theorem led_T {h : Hp} {σ : St} (C : RC h σ) (x z : Int32) : OpT h σ [(1, 1)] (fX11_led h x z) (fun ha => fX12_led ha x z) := by
  have H := C.cs
  obtain ⟨m, hm, em⟩ := H.2.1.n11
  rcases place_cases x with ⟨c1, c2⟩ | ⟨p, hp, rfl, c1, c2⟩
  · exact thr_T C 1 1 (by simp) (by decide) (by unfold fX11_led; rw [c1]; rfl) (fun ha w => by unfold fX12_led; rw [c2]; rfl)
  · refine opT_ask C (r := if z = 0 then nI (cntD σ.1 p m 0) else latD σ.1 p m 0) (k := 0) (c := 0) (h1 := h) ?_ (by simp) (FR.refl _ _) (fun ha M => ⟨_, up2 ha 208 0 0, ?_, a0 (j := 0) ha 0 (by omega), z00 ha, fun _ => rfl⟩)
    · unfold fX11_led fX4_rowsOf fX4_latestDayOf
      have r1 : LX4_rowsOf h 32 big (nI p) 0 0 = some (nI (0 + cntD σ.1 p m 0)) := rowsOf_L C.sky em hm p m big 0 0 (by omega) (by unfold big; omega)
      have r2 : LX4_latestDayOf h 32 big (nI p) 0 = some (latD σ.1 p m 0) := latest_L C.sky em hm p m big 0 (by omega) (by unfold big; omega)
      rw [c1, if_pos rfl, r1, r2, cl9_some, cl9_some, Nat.zero_add]
      by_cases c : z = 0
      · rw [if_pos c, if_pos c]
      · rw [if_neg c, if_neg c]
    · unfold fX12_led
      simp only [lt9_e]
      rw [c2, throws_0, cl2_some, if_pos rfl, w00 M 0 0, em]
      have := led_L (w00 M 0 0) hm p z m big (Nat.le_refl _) (by unfold big; omega)
      rw [Nat.sub_self] at this
      exact this
/-! feed -/
def byt (x : Int32) (i : Nat) : Int32 := (ushr x (nI (24 - 8 * i))).toInt8.toInt32
theorem int8_bits {x y : Int32} (h : ∀ q, q < 8 → has9 x q = has9 y q) : x.toInt8 = y.toInt8 := by
  apply Int8.toBitVec_inj.mp
  apply BitVec.eq_of_getLsbD_eq
  intro i hi
  have := h i hi
  unfold has9 at this
  rw [Int32.toBitVec_toInt8, Int32.toBitVec_toInt8, BitVec.getLsbD_signExtend, BitVec.getLsbD_signExtend, if_pos (by omega), if_pos (by omega), this]
theorem byt_r (x : Int32) {i : Nat} (hi : i < 4) : (x >>> (((24 : Int32) - (8 : Int32) * nI i) &&& 31)).toInt8.toInt32 = byt x i := by
  unfold byt
  have e : (24 : Int32) - (8 : Int32) * nI i = nI (24 - 8 * i) := by rw [i_24, i_8, nI_mul, nI_subN (by omega)]
  rw [e]
  congr 1
  exact int8_bits (fun q hq => by rw [has9_shr x (by omega) (by omega), has9_ushr x (by omega)])
theorem byt_3 (x : Int32) : x.toInt8.toInt32 = byt x 3 := by
  unfold byt
  congr 1
  all_goals exact int8_bits (fun q hq => by rw [has9_ushr x (by decide)]; simp)
theorem byt_R (x : Int32) (i : Nat) : byteR (byt x i) := by
  unfold byteR byt
  rw [Int8.toInt8_toInt32]
def fedT (T : Nat → Int32) (t : Nat) (a : Nat → Int32) (n : Nat) : Nat → Int32 := fun j => if t ≤ j ∧ j < t + n then byt (a ((j - t) / 4)) ((j - t) % 4) else T j
def five (a b c d e : Int32) : Nat → Int32 := fun i => if i = 0 then a else if i = 1 then b else if i = 2 then c else if i = 3 then d else e
theorem tadd_x {h : Hp} {t : Nat} (et : h 1 1 = nI t) (ht : t + 4 ≤ 400) (x : Int32) : ∃ h', fX9_add h x = some h' ∧ FR (fun k => k = 1 ∨ k = 2) h h' ∧ h' 1 1 = nI (t + 4) ∧ (∀ j, j ≠ 1 → h' 1 j = h 1 j) ∧ h' 2 = (fun j => if t ≤ j ∧ j < t + 4 then byt x (j - t) else h 2 j) := by
  let h3 : Hp := up2 h 2 t (byt x 0)
  let h5 : Hp := up2 h3 2 (t + 1) (byt x 1)
  let h7 : Hp := up2 h5 2 (t + 2) (byt x 2)
  let h9 : Hp := up2 h7 2 (t + 3) (byt x 3)
  have v0 : vp_nar .byte ((ushr x 24).toInt8.toInt32) = byt x 0 := pk_vb _
  have v1 : vp_nar .byte ((ushr x 16).toInt8.toInt32) = byt x 1 := pk_vb _
  have v2 : vp_nar .byte ((ushr x 8).toInt8.toInt32) = byt x 2 := pk_vb _
  have v3 : vp_nar .byte (x.toInt8.toInt32) = byt x 3 := (pk_vb _).trans (byt_3 x)
  refine ⟨up2 h9 1 1 (nI (t + 4)), ?_, ?_, by rw [up2_s, upd_s], ?_, ?_⟩
  · have u21 : ∀ (hh : Hp) (j : Nat) (v : Int32), up2 hh 2 j v 1 = hh 1 := fun hh j v => up2_n hh j v (by decide)
    have e1 : nI t + 1 = nI (t + 1) := nI_1 t
    have e2 : nI t + 2 = nI (t + 2) := by rw [i_2, nI_add]
    have e3 : nI t + 3 = nI (t + 3) := by rw [i_3, nI_add]
    have e4 : nI t + 4 = nI (t + 4) := by rw [i_4, nI_add]
    unfold fX9_add
    rw [if_pos (by rw [et, e4, i_400]; exact nI_le ht (by decide))]
    simp only [lt9_e, u21, et, e1, e2, e3, e4, gd_in (show t < 400 by omega) (show 400 < 2 ^ 31 by decide), gd_in (show t + 1 < 400 by omega) (show 400 < 2 ^ 31 by decide), gd_in (show t + 2 < 400 by omega) (show 400 < 2 ^ 31 by decide), gd_in (show t + 3 < 400 by omega) (show 400 < 2 ^ 31 by decide), nI_clamp (show t < 2 ^ 31 by omega), nI_clamp (show t + 1 < 2 ^ 31 by omega), nI_clamp (show t + 2 < 2 ^ 31 by omega), nI_clamp (show t + 3 < 2 ^ 31 by omega), v0, v1, v2, v3]
    all_goals rfl
  · exact ((((FR.up2 (C := fun k => k = 1 ∨ k = 2) h _ _ (Or.inr rfl)).trans (FR.up2 _ _ _ (Or.inr rfl))).trans (FR.up2 _ _ _ (Or.inr rfl))).trans (FR.up2 _ _ _ (Or.inr rfl))).trans (FR.up2 _ _ _ (Or.inl rfl))
  · intro j hj
    rw [up2_s, upd_n _ _ hj]
    show up2 h7 2 (t + 3) (byt x 3) 1 j = _
    rw [up2_n _ _ _ (by decide)]
    show up2 h5 2 (t + 2) (byt x 2) 1 j = _
    rw [up2_n _ _ _ (by decide)]
    show up2 h3 2 (t + 1) (byt x 1) 1 j = _
    rw [up2_n _ _ _ (by decide)]
    show up2 h 2 t (byt x 0) 1 j = _
    rw [up2_n _ _ _ (by decide)]
  · rw [up2_n _ _ _ (by decide)]
    show up2 (up2 (up2 (up2 h 2 t (byt x 0)) 2 (t + 1) (byt x 1)) 2 (t + 2) (byt x 2)) 2 (t + 3) (byt x 3) 2 = _
    rw [up2_s, up2_s, up2_s, up2_s]
    funext j
    by_cases c3 : j = t + 3
    · subst c3; rw [upd_s, if_pos (by omega), show t + 3 - t = 3 by omega]
    · rw [upd_n _ _ c3]
      by_cases c2 : j = t + 2
      · subst c2; rw [upd_s, if_pos (by omega), show t + 2 - t = 2 by omega]
      · rw [upd_n _ _ c2]
        by_cases c1 : j = t + 1
        · subst c1; rw [upd_s, if_pos (by omega), show t + 1 - t = 1 by omega]
        · rw [upd_n _ _ c1]
          by_cases c0 : j = t
          · subst c0; rw [upd_s, if_pos (by omega), Nat.sub_self]
          · rw [upd_n _ _ c0, if_neg (by omega)]
theorem feed_N {h : Hp} {σ : St} (C : RC h σ) (a b c d e : Int32) : OpN h σ (fX11_feed h a b c d e) (fun ha => fX12_feed ha a b c d e) := by
  obtain ⟨w, s, P, g, I, t, T, Fa⟩ := σ
  have C0 := C
  obtain ⟨h1, h2, h3, h4, h5, ⟨ht, et, hT⟩, h7⟩ := C
  by_cases room : t + 20 ≤ 400
  · obtain ⟨ha, ea, Fa', ta, -, ba⟩ := tadd_x et (by omega) a
    obtain ⟨hb, eb, Fb, tb, -, bb⟩ := tadd_x ta (by omega) b
    obtain ⟨hc, ec, Fc, tc, -, bc⟩ := tadd_x tb (by omega) c
    obtain ⟨hd, ed, Fd, td, -, bd⟩ := tadd_x tc (by omega) d
    obtain ⟨he, ee, Fe, te, -, be⟩ := tadd_x td (by omega) e
    have F1 : FR (fun k => k = 1 ∨ k = 2) h he := (((Fa'.trans Fb).trans Fc).trans Fd).trans Fe
    have bytes : ∀ j, j < t + 20 → he 2 j = fedT T t (five a b c d e) 20 j ∧ byteR (fedT T t (five a b c d e) 20 j) := by
      intro j hj
      unfold fedT five
      rw [be, bd, bc, bb, ba]
      dsimp only
      by_cases q : j < t
      · rw [if_neg (by omega), if_neg (by omega), if_neg (by omega), if_neg (by omega), if_neg (by omega), if_neg (by omega)]
        exact hT j q
      · rw [if_pos (show t ≤ j ∧ j < t + 20 by omega)]
        refine ⟨?_, byt_R _ _⟩
        by_cases q0 : j < t + 4
        · rw [if_neg (by omega), if_neg (by omega), if_neg (by omega), if_neg (by omega), if_pos (by omega), if_pos (by omega), show (j - t) % 4 = j - t by omega]
        · by_cases q1 : j < t + 4 + 4
          · rw [if_neg (by omega), if_neg (by omega), if_neg (by omega), if_pos (by omega), if_neg (by omega), if_pos (by omega), show (j - t) % 4 = j - (t + 4) by omega]
          · by_cases q2 : j < t + 4 + 4 + 4
            · rw [if_neg (by omega), if_neg (by omega), if_pos (by omega), if_neg (by omega), if_neg (by omega), if_pos (by omega), show (j - t) % 4 = j - (t + 4 + 4) by omega]
            · by_cases q3 : j < t + 4 + 4 + 4 + 4
              · rw [if_neg (by omega), if_pos (by omega), if_neg (by omega), if_neg (by omega), if_neg (by omega), if_pos (by omega), show (j - t) % 4 = j - (t + 4 + 4 + 4) by omega]
              · rw [if_pos (by omega), if_neg (by omega), if_neg (by omega), if_neg (by omega), if_neg (by omega), show (j - t) % 4 = j - (t + 4 + 4 + 4 + 4) by omega]
    refine ⟨nI (t + 20), he, (w, s, P, g, I, t + 20, fedT T t (five a b c d e) 20, Fa), ?_, ⟨h1.fr F1 (fun j hj q => by omega), h2, h3.fr F1 (fun j hj q => by omega), h4.fr F1 (fun k q => by omega), h5.fr F1 (fun k q => by omega), ⟨by omega, te, bytes⟩, by rw [F1 0 (by omega)]; exact h7⟩, F1.mono (fun k q => by unfold cX; omega), fun hm M => ?_⟩
    · unfold fX11_feed fX9_hasRoom
      rw [et, i_20, nI_add, i_400, if_neg (nI_nlt (by omega) (by omega)), if_neg (by decide), ea, cl9_some, eb, cl9_some, ec, cl9_some, ed, cl9_some, ee, cl9_some, te]
    · obtain ⟨m1, m2, m3, ⟨m4, m4'⟩, m5⟩ := M
      let h0 : Hp := up2 (up2 (up2 (up2 (up2 (up2 hm 208 0 0) 215 0 a) 215 1 b) 215 2 c) 215 3 d) 215 4 e
      have F0 : FI (fun k j => k = 215 ∨ k = 214 ∨ (k = 208 ∧ (j = 0 ∨ j = 9))) hm h0 := (((((FI.up2 (C := fun k j => k = 215 ∨ k = 214 ∨ (k = 208 ∧ (j = 0 ∨ j = 9))) hm _ (by omega)).trans (FI.up2 _ _ (by omega))).trans (FI.up2 _ _ (by omega))).trans (FI.up2 _ _ (by omega))).trans (FI.up2 _ _ (by omega))).trans (FI.up2 _ _ (by omega))
      have v0 : h0 215 = upd (upd (upd (upd (upd (hm 215) 0 a) 1 b) 2 c) 3 d) 4 e := by
        show up2 (up2 (up2 (up2 (up2 (up2 hm 208 0 0) 215 0 a) 215 1 b) 215 2 c) 215 3 d) 215 4 e 215 = _
        rw [up2_s, up2_s, up2_s, up2_s, up2_s, up2_n _ _ _ (by decide)]
      have vi : ∀ i, i < 5 → h0 215 i = five a b c d e i := by
        intro i hi
        rw [v0]
        rcases (show i = 0 ∨ i = 1 ∨ i = 2 ∨ i = 3 ∨ i = 4 by omega) with rfl | rfl | rfl | rfl | rfl <;> rfl
      have s0 : h0 208 9 = nI t := by
        show up2 (up2 (up2 (up2 (up2 (up2 hm 208 0 0) 215 0 a) 215 1 b) 215 2 c) 215 3 d) 215 4 e 208 9 = _
        rw [up2_n _ _ _ (by decide), up2_n _ _ _ (by decide), up2_n _ _ _ (by decide), up2_n _ _ _ (by decide), up2_n _ _ _ (by decide), up2_s, upd_n _ _ (by decide)]
        exact m4
      have b0 : h0 214 = hm 214 := by
        show up2 (up2 (up2 (up2 (up2 (up2 hm 208 0 0) 215 0 a) 215 1 b) 215 2 c) 215 3 d) 215 4 e 214 = _
        rw [up2_n _ _ _ (by decide), up2_n _ _ _ (by decide), up2_n _ _ _ (by decide), up2_n _ _ _ (by decide), up2_n _ _ _ (by decide), up2_n _ _ _ (by decide)]
      obtain ⟨r, er, q⟩ := loop0 (σ := Hp) (ρ := Int32 × Hp) 20 (fun m i x => LX12_feed m x (nI i)) (fun i x => x = upA h0 214 (fedT (hm 214) t (five a b c d e) i)) (fun r => r = (nI (t + 20), up2 (upA h0 214 (fedT (hm 214) t (five a b c d e) 20)) 208 9 (nI (t + 20)))) h0 (by decide) (by
          rw [show fedT (hm 214) t (five a b c d e) 0 = h0 214 from by funext j; unfold fedT; rw [if_neg (by omega), b0], upA_id]) (by
        rintro m i x hi rfl
        left
        refine ⟨_, rfl, ?_⟩
        try dsimp only
        have e4 : nI i / 4 = nI (i / 4) := pk_div (a := i) (d := 4) (by omega) (by decide) (by decide)
        have e5 : irem (nI i) 4 = nI (i % 4) := irem_n (a := i) (d := 4) (by omega) (by decide) (by decide)
        rw [LX12_feed, BX12_feed_0, i_20, if_neg (nI_ge hi (by decide)), e4, e5, upA_n _ _ (by decide), upA_n _ _ (by decide), s0, nI_add, gd_in (show i / 4 < 5 by omega) (by decide), gd_in (show t + i < 400 by omega) (by decide), nI_clamp (by omega), nI_clamp (by omega), vi (i / 4) (by omega), byt_r _ (Nat.mod_lt _ (by decide)), nI_1]
        simp only [lt9_e]
        congr 1
        unfold up2
        rw [upA_s, upA_upA]
        congr 1
        funext j
        have vb : vp_nar .byte (byt (five a b c d e (i / 4)) (i % 4)) = byt (five a b c d e (i / 4)) (i % 4) := pk_vb _
        rw [vb]
        unfold fedT
        by_cases q : j = t + i
        · subst q
          rw [upd_s, if_pos (by omega), show t + i - t = i by omega]
        · rw [upd_n _ _ q]
          by_cases q2 : t ≤ j ∧ j < t + i
          · rw [if_pos q2, if_pos (by omega)]
          · rw [if_neg q2, if_neg (by omega)]) (by
        rintro m x rfl
        refine ⟨_, ?_, rfl⟩
        try dsimp only
        rw [LX12_feed, BX12_feed_0, i_20, if_pos (nI_le (Nat.le_refl _) (by decide))]
        simp only [lt9_e]
        rw [upA_n _ _ (by decide), s0, nI_add, up2_s, upd_s])
      have F8 : FI (fun k j => k = 215 ∨ k = 214 ∨ (k = 208 ∧ (j = 0 ∨ j = 9))) hm (up2 (upA h0 214 (fedT (hm 214) t (five a b c d e) 20)) 208 9 (nI (t + 20))) := (F0.trans (FI.upA _ _ (fun j => by omega))).trans (FI.up2 _ _ (by omega))
      refine ⟨_, ?_, ⟨?_, ?_, ?_, ⟨by rw [up2_s, upd_s], fun j hj => ?_⟩, ?_⟩, F8.mono (fun k j q => by unfold cM; omega)⟩
      · unfold fX12_feed
        simp only [lt9_e]
        rw [up2_s, upd_n _ _ (by decide), m4, i_20, nI_add, i_400, if_pos (nI_le room (by decide))]
        simp only [i_0, i_1, i_2, i_3, i_4, gd_in (show 0 < 5 by decide) (show 5 < 2 ^ 31 by decide), gd_in (show 1 < 5 by decide) (show 5 < 2 ^ 31 by decide), gd_in (show 2 < 5 by decide) (show 5 < 2 ^ 31 by decide), gd_in (show 3 < 5 by decide) (show 5 < 2 ^ 31 by decide), gd_in (show 4 < 5 by decide) (show 5 < 2 ^ 31 by decide), nI_clamp (show 0 < 2 ^ 31 by decide), nI_clamp (show 1 < 2 ^ 31 by decide), nI_clamp (show 2 < 2 ^ 31 by decide), nI_clamp (show 3 < 2 ^ 31 by decide), nI_clamp (show 4 < 2 ^ 31 by decide)]
        rw [q] at er
        exact er
      · rw [F8.cell (fun j q => by omega)]; exact m1
      · unfold pastM
        rw [F8 208 7 (by omega), F8.cell (k := 213) (fun j q => by omega)]; exact m2
      · unfold imgM
        rw [F8 208 6 (by omega), F8.cell (k := 210) (fun j q => by omega)]; exact m3
      · rw [up2_n _ _ _ (by decide), upA_s]
        unfold fedT
        by_cases q : t ≤ j ∧ j < t + 20
        · rw [if_pos q, if_pos q]
        · rw [if_neg q, if_neg q]; exact m4' j (by omega)
      · rw [F8 208 14 (by omega)]; exact m5
  · refine ⟨-1, h, _, ?_, C0, FR.refl _ _, fun ha M => ⟨up2 ha 208 0 0, ?_, M.sm (t0s (j := 0) ha 0 (by omega)), t0M ha 0 0⟩⟩
    · unfold fX11_feed fX9_hasRoom
      rw [et, i_20, nI_add, i_400, if_pos (nI_lt (by omega) (by omega)), if_pos rfl]
    · unfold fX12_feed
      simp only [lt9_e]
      rw [up2_s, upd_n _ _ (by decide), M.2.2.2.1.1, i_20, nI_add, i_400, if_neg (nI_ge (by omega) (by omega))]

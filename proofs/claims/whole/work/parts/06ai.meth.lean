def BX6_take_0 (b : Nat) (rec : Hp → Int32 → Option (Int32 × Hp)) (h : Hp) (y3 : Int32) : Option (Int32 × Hp) := (if (h (b + 5) 0) ≤ y3 then some ((1 : Int32), h) else cl9 (fX9_byteAt h y3) (fun x2 => gd (inb y3 5) (lt9 (up2 h 21 y3.toNatClampNeg x2) (fun h5 => gd (inb y3 5) ((if (h5 21 y3.toNatClampNeg) ≤ (15 : Int32) then lt9 (y3 + (1 : Int32)) (fun x8 => rec h5 x8) else some ((0 : Int32), h5)))))))
def LX6_take (b : Nat) : Nat → Hp → Int32 → Option (Int32 × Hp)
  | 0, _, _ => none
  | n + 1, h, y3 => BX6_take_0 b (LX6_take b n) h y3
def fX6_take (h : Hp) (b : Nat) : Option (Int32 × Hp) := (if (h 1 2) = (h (b + 5) 0) then LX6_take b big h (0 : Int32) else some ((0 : Int32), h))
set_option maxHeartbeats 4000000 in
set_option maxRecDepth 100000 in
theorem wX6_take {X : Cx} {b : Nat} (hb : isSky b) (C : OK X cX6_take 4 RX6 (some .boolean)) (hR : xR X = { frames := 2, cells := 0, slots := 0, locals := 128 }) (hcs : True) {rr : Int32} {hh : Hp} (hF : FinR X (some (.int rr)) hh) : ∀ n : Nat, (∀ (h : Hp) (y3 : Int32), LX6_take b n h y3 = some (rr, hh) → VW X 4 h 0 0 15 [(0, .ref (gad (xG X) 20)), (1, .ref (gad (xG X) 1)), (2, .ref (gad (xG X) (b + 5))), (3, .int y3)] []) := by
  intro n
  induction n with
  | zero => exact (fun _ _ hf => (by rw [LX6_take] at hf; cases hf))
  | succ n ih =>
    intro h y3 hf
    rw [LX6_take] at hf
    unfold BX6_take_0 at hf
    refine r_iload_n (i := 3) C dX6_take_15 rfl 3 rfl ?_
    refine r_aload_n (i := 2) C dX6_take_16 rfl 2 rfl ?_
    refine g_X6_29 hb C dX6_take_17 ?_
    refine r_icmp_ge C 53 dX6_take_20 (by decide) (fun c1 => ?_) (fun c1 => ?_)
    · rw [if_pos c1] at hf
      refine r_iconst (v := 1) C dX6_take_53 (by decide) ?_
      have zz : (1 : Int32) = 0 ∨ (1 : Int32) = 1 := (Or.inr rfl)
      cases hf
      exact r_zret C zz hF dX6_take_54
    · rw [if_neg c1] at hf
      refine r_aload_n (i := 0) C dX6_take_23 rfl 0 rfl ?_
      refine g_X6_11 C dX6_take_24 ?_
      refine r_iload_n (i := 3) C dX6_take_27 rfl 3 rfl ?_
      refine r_aload_n (i := 1) C dX6_take_28 rfl 1 rfl ?_
      refine r_iload_n (i := 3) C dX6_take_29 rfl 3 rfl ?_
      obtain ⟨x2, e3, hf⟩ := cl_of hf
      refine r_callNVi (As := [.int y3]) (st := [.int y3, .ref (gad (xG X) 21)]) C 1 rfl (by decide) rfl (kX9_byteAt (xG X) e3) cw_X6_32 rfl rfl (Nat.le_of_ble_eq_true rfl) (zr2 hR rfl rfl) (zrcs hcs) dX6_take_30 ?_
      obtain ⟨g4, hf⟩ := gd_of hf
      obtain ⟨h5, eh5, hf⟩ := lt_of hf
      refine r_iast C 21 eh5 rfl (by decide) g4 dX6_take_33 ?_
      refine r_aload_n (i := 0) C dX6_take_34 rfl 0 rfl ?_
      refine g_X6_11 C dX6_take_35 ?_
      refine r_iload_n (i := 3) C dX6_take_38 rfl 3 rfl ?_
      obtain ⟨g6, hf⟩ := gd_of hf
      refine r_iald C 21 rfl (by decide) g6 dX6_take_39 ?_
      refine r_bipush (v := 15) C dX6_take_40 (by decide) ?_
      refine r_icmp_le C 47 dX6_take_42 (by decide) (fun c7 => ?_) (fun c7 => ?_)
      · rw [if_pos c7] at hf
        obtain ⟨x8, ex8, hf⟩ := lt_of hf
        refine r_iinc (j := 3) (v := x8) (lv' := [(0, .ref (gad (xG X) 20)), (1, .ref (gad (xG X) 1)), (2, .ref (gad (xG X) (b + 5))), (3, .int x8)]) C dX6_take_47 rfl (by rw [ex8]; rfl) (by decide) [1, 2, 3, 0] rfl ?_
        refine r_goto C 15 dX6_take_50 (by decide) ?_
        exact r_lv [0, 1, 2, 3] rfl (ih _ _ hf)
      · rw [if_neg c7] at hf
        refine r_iconst (v := 0) C dX6_take_45 (by decide) ?_
        have zz : (0 : Int32) = 0 ∨ (0 : Int32) = 1 := (Or.inl rfl)
        cases hf
        exact r_zret C zz hF dX6_take_46
set_option maxHeartbeats 4000000 in
set_option maxRecDepth 100000 in
theorem kX6_take (G : Gx) {b : Nat} (hb : isSky b) {h : Hp}  {rr : Int32} {hh : Hp} (hf : fX6_take h b = some (rr, hh)) : MC G yX6_take cX6_take 4 (some .boolean) 2 128 h [.ref (gad G 20), .ref (gad G 1), .ref (gad G (b + 5))] (some (.int rr)) hh := by
  refine MC.of RX6 (by decide) rfl (Nat.le_of_ble_eq_true rfl) rfl (fun X C hG hR hF => ?_)
  subst hG
  have hcs : True := trivial
  unfold fX6_take at hf
  refine r_aload_n (i := 1) C dX6_take_0 rfl 1 rfl ?_
  refine g_X6_23 C dX6_take_1 ?_
  refine r_aload_n (i := 2) C dX6_take_4 rfl 2 rfl ?_
  refine g_X6_29 hb C dX6_take_5 ?_
  refine r_icmp_eq C 13 dX6_take_8 (by decide) (fun c9 => ?_) (fun c9 => ?_)
  · rw [if_pos c9] at hf
    refine r_iconst (v := 0) C dX6_take_13 (by decide) ?_
    refine r_istore_n (i := 3) (lv' := [(0, .ref (gad (xG X) 20)), (1, .ref (gad (xG X) 1)), (2, .ref (gad (xG X) (b + 5))), (3, .int (0 : Int32))]) C dX6_take_14 rfl (by decide) [1, 2, 3, 0] rfl ?_
    exact r_lv [0, 1, 2, 3] rfl ((wX6_take hb C hR hcs hF big) _ _ hf)
  · rw [if_neg c9] at hf
    refine r_iconst (v := 0) C dX6_take_11 (by decide) ?_
    have zz : (0 : Int32) = 0 ∨ (0 : Int32) = 1 := (Or.inl rfl)
    cases hf
    exact r_zret C zz hF dX6_take_12
def fX7_hasLadder (h : Hp) (b : Nat) (a1 : Int32) : Int32 := (if (fX11_has (h b 4) a1) = (0 : Int32) then (1 : Int32) else (0 : Int32))
set_option maxHeartbeats 4000000 in
set_option maxRecDepth 100000 in
theorem kX7_hasLadder (G : Gx) {b : Nat} (hb : isSky b) {h : Hp} {a1 : Int32} : MC G yX7_hasLadder cX7_hasLadder 2 (some .boolean) 2 128 h [.ref (gad G b), .int a1] (some (.int (fX7_hasLadder h b a1))) h := by
  refine MC.of RX7 (by decide) rfl (Nat.le_of_ble_eq_true rfl) rfl (fun X C hG hR hF => ?_)
  subst hG
  have hcs : True := trivial
  obtain ⟨rr, hf⟩ : ∃ rr, fX7_hasLadder h b a1 = rr := ⟨_, rfl⟩
  rw [hf] at hF
  unfold fX7_hasLadder at hf
  refine r_aload_n (i := 0) C dX7_hasLadder_0 rfl 0 rfl ?_
  refine g_X7_54 hb C dX7_hasLadder_1 ?_
  refine r_iload_n (i := 1) C dX7_hasLadder_4 rfl 1 rfl ?_
  refine r_callNSi (As := [.int (h b 4), .int a1]) (st := []) C (kX11_has (xG X)) cw_X7_85 rfl rfl (Nat.le_of_ble_eq_true rfl) (zr2 hR rfl rfl) (zrcs hcs) dX7_hasLadder_5 ?_
  refine r_if_ne C 15 dX7_hasLadder_8 (by decide) (fun c1 => ?_) (fun c1 => ?_)
  · rw [if_neg c1] at hf
    refine r_iconst (v := 0) C dX7_hasLadder_15 (by decide) ?_
    subst hf
    exact r_zret C (Or.inl rfl) hF dX7_hasLadder_16
  · rw [if_pos c1] at hf
    refine r_iconst (v := 1) C dX7_hasLadder_11 (by decide) ?_
    refine r_goto C 16 dX7_hasLadder_12 (by decide) ?_
    subst hf
    exact r_zret C (Or.inr rfl) hF dX7_hasLadder_16
theorem zX7_hasLadder {h : Hp} {b : Nat} {a1 : Int32} : fX7_hasLadder h b a1 = 0 ∨ fX7_hasLadder h b a1 = 1 := by
  unfold fX7_hasLadder
  exact by repeat' (first | exact Or.inl rfl | exact Or.inr rfl | (apply b_ite) | (unfold lt9) | assumption | exact zqq)
def fX7_hasPin (h : Hp) (b : Nat) (a1 : Int32) : Int32 := (fX11_has (h b 5) a1)
set_option maxHeartbeats 4000000 in
set_option maxRecDepth 100000 in
theorem kX7_hasPin (G : Gx) {b : Nat} (hb : isSky b) {h : Hp} {a1 : Int32} : MC G yX7_hasPin cX7_hasPin 2 (some .boolean) 2 128 h [.ref (gad G b), .int a1] (some (.int (fX7_hasPin h b a1))) h := by
  refine MC.of RX7 (by decide) rfl (Nat.le_of_ble_eq_true rfl) rfl (fun X C hG hR hF => ?_)
  subst hG
  have hcs : True := trivial
  obtain ⟨rr, hf⟩ : ∃ rr, fX7_hasPin h b a1 = rr := ⟨_, rfl⟩
  rw [hf] at hF
  unfold fX7_hasPin at hf
  refine r_aload_n (i := 0) C dX7_hasPin_0 rfl 0 rfl ?_
  refine g_X7_57 hb C dX7_hasPin_1 ?_
  refine r_iload_n (i := 1) C dX7_hasPin_4 rfl 1 rfl ?_
  refine r_callNSi (As := [.int (h b 5), .int a1]) (st := []) C (kX11_has (xG X)) cw_X7_85 rfl rfl (Nat.le_of_ble_eq_true rfl) (zr2 hR rfl rfl) (zrcs hcs) dX7_hasPin_5 ?_
  subst hf
  exact r_zret C (zX11_has) hF dX7_hasPin_8
theorem zX7_hasPin {h : Hp} {b : Nat} {a1 : Int32} : fX7_hasPin h b a1 = 0 ∨ fX7_hasPin h b a1 = 1 := by
  unfold fX7_hasPin
  exact by repeat' (first | exact Or.inl rfl | exact Or.inr rfl | (apply b_ite) | (unfold lt9) | assumption | exact zqq)
def BX7_losePins_0 (b : Nat) (rec : Hp → Int32 → Int32 → Option (Hp)) (h : Hp) (y1 : Int32) (y2 : Int32) : Option (Hp) := (if (16 : Int32) ≤ y2 then some h else (if (fX11_has y1 y2) = (0 : Int32) then lt9 (y2 + (1 : Int32)) (fun x3 => rec h y1 x3) else gd (inb y2 16) (cl9 (fX4_add h b (h b 13) y2 (3 : Int32) (h (b + 4) y2.toNatClampNeg)) (fun h5 => cl9 (fX7_takePin h5 b y2) (fun h7 => lt9 (up2 h7 b 15 ((h7 b 15) + (1 : Int32))) (fun h9 => lt9 (y2 + (1 : Int32)) (fun x10 => rec h9 y1 x10)))))))
def LX7_losePins (b : Nat) : Nat → Hp → Int32 → Int32 → Option (Hp)
  | 0, _, _, _ => none
  | n + 1, h, y1, y2 => BX7_losePins_0 b (LX7_losePins b n) h y1 y2
def fX7_losePins (h : Hp) (b : Nat) (a1 : Int32) : Option (Hp) := LX7_losePins b big h a1 (0 : Int32)
set_option maxHeartbeats 4000000 in
set_option maxRecDepth 100000 in
theorem wX7_losePins {X : Cx} {b : Nat} (hb : isSky b) (C : OK X cX7_losePins 3 RX7 none) (hR : xR X = { frames := 3, cells := 0, slots := 0, locals := 192 }) (hcs : True) {hh : Hp} (hF : FinR X none hh) : ∀ n : Nat, (∀ (h : Hp) (y1 : Int32) (y2 : Int32), LX7_losePins b n h y1 y2 = some hh → VW X 3 h 0 0 2 [(0, .ref (gad (xG X) b)), (1, .int y1), (2, .int y2)] []) := by
  intro n
  induction n with
  | zero => exact (fun _ _ _ hf => (by rw [LX7_losePins] at hf; cases hf))
  | succ n ih =>
    intro h y1 y2 hf
    rw [LX7_losePins] at hf
    unfold BX7_losePins_0 at hf
    refine r_iload_n (i := 2) C dX7_losePins_2 rfl 2 rfl ?_
    refine r_bipush (v := 16) C dX7_losePins_3 (by decide) ?_
    refine r_icmp_ge C 56 dX7_losePins_5 (by decide) (fun c1 => ?_) (fun c1 => ?_)
    · rw [if_pos c1] at hf
      cases hf
      exact r_vret C hF dX7_losePins_56
    · rw [if_neg c1] at hf
      refine r_iload_n (i := 1) C dX7_losePins_8 rfl 1 rfl ?_
      refine r_iload_n (i := 2) C dX7_losePins_9 rfl 2 rfl ?_
      refine r_callNSi (As := [.int y1, .int y2]) (st := []) C (kX11_has (xG X)) cw_X7_85 rfl rfl (Nat.le_of_ble_eq_true rfl) (zr2 hR rfl rfl) (zrcs hcs) dX7_losePins_10 ?_
      refine r_if_eq C 50 dX7_losePins_13 (by decide) (fun c2 => ?_) (fun c2 => ?_)
      · rw [if_pos c2] at hf
        obtain ⟨x3, ex3, hf⟩ := lt_of hf
        refine r_iinc (j := 2) (v := x3) (lv' := [(0, .ref (gad (xG X) b)), (1, .int y1), (2, .int x3)]) C dX7_losePins_50 rfl (by rw [ex3]; rfl) (by decide) [1, 2, 0] rfl ?_
        refine r_goto C 2 dX7_losePins_53 (by decide) ?_
        exact r_lv [0, 1, 2] rfl (ih _ _ _ hf)
      · rw [if_neg c2] at hf
        refine r_aload_n (i := 0) C dX7_losePins_16 rfl 0 rfl ?_
        refine g_X7_34 hb C dX7_losePins_17 ?_
        refine r_aload_n (i := 0) C dX7_losePins_20 rfl 0 rfl ?_
        refine g_X7_76 hb C dX7_losePins_21 ?_
        refine r_iload_n (i := 2) C dX7_losePins_24 rfl 2 rfl ?_
        refine r_iconst (v := 3) C dX7_losePins_25 (by decide) ?_
        refine r_aload_n (i := 0) C dX7_losePins_26 rfl 0 rfl ?_
        refine g_X7_21 hb C dX7_losePins_27 ?_
        refine r_iload_n (i := 2) C dX7_losePins_30 rfl 2 rfl ?_
        obtain ⟨g4, hf⟩ := gd_of hf
        refine r_iald C (b + 4) (sky_dsc hb 4 (by decide)) (sky_lt hb 4 (by decide)) g4 dX7_losePins_31 ?_
        obtain ⟨h5, e6, hf⟩ := cl_of hf
        refine r_callNVv (As := [.int (h b 13), .int y2, .int (3 : Int32), .int (h (b + 4) y2.toNatClampNeg)]) (st := []) C (b + 9) (sky_dsc hb 9 (by decide)) (sky_lt hb 9 (by decide)) rfl (kX4_add (xG X) hb e6) cw_X7_96 rfl rfl (Nat.le_of_ble_eq_true rfl) (zr2 hR rfl rfl) (zrcs hcs) dX7_losePins_32 ?_
        refine r_aload_n (i := 0) C dX7_losePins_35 rfl 0 rfl ?_
        refine r_iload_n (i := 2) C dX7_losePins_36 rfl 2 rfl ?_
        obtain ⟨h7, e8, hf⟩ := cl_of hf
        refine r_callVv (As := [.int y2]) (st := []) C b (sky_d0 hb) (sky_l0 hb) rfl (kX7_takePin (xG X) hb e8) cw_X7_100 rfl rfl (Nat.le_of_ble_eq_true rfl) (zr2 hR rfl rfl) (zrcs hcs) dX7_losePins_37 ?_
        refine r_aload_n (i := 0) C dX7_losePins_40 rfl 0 rfl ?_
        refine r_dup C dX7_losePins_41 rfl ?_
        refine g_X7_79 hb C dX7_losePins_42 ?_
        refine r_iconst (v := 1) C dX7_losePins_45 (by decide) ?_
        refine r_iadd C dX7_losePins_46 ?_
        obtain ⟨h9, eh9, hf⟩ := lt_of hf
        refine p_X7_79 hb C eh9 dX7_losePins_47 ?_
        obtain ⟨x10, ex10, hf⟩ := lt_of hf
        refine r_iinc (j := 2) (v := x10) (lv' := [(0, .ref (gad (xG X) b)), (1, .int y1), (2, .int x10)]) C dX7_losePins_50 rfl (by rw [ex10]; rfl) (by decide) [1, 2, 0] rfl ?_
        refine r_goto C 2 dX7_losePins_53 (by decide) ?_
        exact r_lv [0, 1, 2] rfl (ih _ _ _ hf)
set_option maxHeartbeats 4000000 in
set_option maxRecDepth 100000 in
theorem kX7_losePins (G : Gx) {b : Nat} (hb : isSky b) {h : Hp} {a1 : Int32} {hh : Hp} (hf : fX7_losePins h b a1 = some hh) : MC G yX7_losePins cX7_losePins 3 none 3 192 h [.ref (gad G b), .int a1] none hh := by
  refine MC.of RX7 (by decide) rfl (Nat.le_of_ble_eq_true rfl) rfl (fun X C hG hR hF => ?_)
  subst hG
  have hcs : True := trivial
  unfold fX7_losePins at hf
  refine r_iconst (v := 0) C dX7_losePins_0 (by decide) ?_
  refine r_istore_n (i := 2) (lv' := [(0, .ref (gad (xG X) b)), (1, .int a1), (2, .int (0 : Int32))]) C dX7_losePins_1 rfl (by decide) [1, 2, 0] rfl ?_
  exact r_lv [0, 1, 2] rfl ((wX7_losePins hb C hR hcs hF big) _ _ _ hf)
def fX7_skyAt (h : Hp) (b : Nat) (a1 : Int32) (a2 : Int32) (a3 : Int32) (a4 : Int32) : Option (Int32) := (if a2 = (0 : Int32) then some (0 : Int32) else cl9 (fX11_distance h a2 a1) (fun x2 => lt9 (jmax (0 : Int32) (a3 - (a4 * x2))) (fun x4 => gd (inb a1 16) (some (jmax (0 : Int32) (x4 - ((2 : Int32) * (h (b + 3) a1.toNatClampNeg))))))))
set_option maxHeartbeats 4000000 in
set_option maxRecDepth 100000 in
theorem kX7_skyAt (G : Gx) {b : Nat} (hb : isSky b) {h : Hp} {a1 : Int32} {a2 : Int32} {a3 : Int32} {a4 : Int32} {rr : Int32} (hf : fX7_skyAt h b a1 a2 a3 a4 = some rr) : MC G yX7_skyAt cX7_skyAt 6 (some .int) 3 192 h [.ref (gad G b), .int a1, .int a2, .int a3, .int a4] (some (.int rr)) h := by
  refine MC.of RX7 (by decide) rfl (Nat.le_of_ble_eq_true rfl) rfl (fun X C hG hR hF => ?_)
  subst hG
  have hcs : True := trivial
  unfold fX7_skyAt at hf
  refine r_iload_n (i := 2) C dX7_skyAt_0 rfl 2 rfl ?_
  refine r_if_ne C 6 dX7_skyAt_1 (by decide) (fun c1 => ?_) (fun c1 => ?_)
  · rw [if_neg c1] at hf
    refine r_iconst (v := 0) C dX7_skyAt_6 (by decide) ?_
    refine r_iload_n (i := 3) C dX7_skyAt_7 rfl 3 rfl ?_
    refine r_iload (i := 4) C dX7_skyAt_8 4 rfl ?_
    refine r_iload_n (i := 2) C dX7_skyAt_10 rfl 2 rfl ?_
    refine r_iload_n (i := 1) C dX7_skyAt_11 rfl 1 rfl ?_
    obtain ⟨x2, e3, hf⟩ := cl_of hf
    refine r_callNSi (As := [.int a2, .int a1]) (st := [.int a4, .int a3, .int (0 : Int32)]) C (kX11_distance (xG X) e3) cw_X7_105 rfl rfl (Nat.le_of_ble_eq_true rfl) (zr2 hR rfl rfl) (zrcs hcs) dX7_skyAt_12 ?_
    refine r_imul C dX7_skyAt_15 ?_
    refine r_isub C dX7_skyAt_16 ?_
    refine r_mmax9 C gw_615 gm_max_s gm_i gm_max_c (zr1 hR rfl) (zr0 hR (Nat.le_of_ble_eq_true rfl)) (zrcs hcs) dX7_skyAt_17 ?_
    obtain ⟨x4, ex4, hf⟩ := lt_of hf
    refine r_top ex4 ?_
    refine r_istore (i := 5) (lv' := [(0, .ref (gad (xG X) b)), (1, .int a1), (2, .int a2), (3, .int a3), (4, .int a4), (5, .int x4)]) C dX7_skyAt_20 (by decide) [1, 2, 3, 4, 5, 0] rfl ?_
    refine r_iconst (v := 0) C dX7_skyAt_22 (by decide) ?_
    refine r_iload (i := 5) C dX7_skyAt_23 5 rfl ?_
    refine r_iconst (v := 2) C dX7_skyAt_25 (by decide) ?_
    refine r_aload_n (i := 0) C dX7_skyAt_26 rfl 0 rfl ?_
    refine g_X7_18 hb C dX7_skyAt_27 ?_
    refine r_iload_n (i := 1) C dX7_skyAt_30 rfl 1 rfl ?_
    obtain ⟨g5, hf⟩ := gd_of hf
    refine r_iald C (b + 3) (sky_dsc hb 3 (by decide)) (sky_lt hb 3 (by decide)) g5 dX7_skyAt_31 ?_
    refine r_imul C dX7_skyAt_32 ?_
    refine r_isub C dX7_skyAt_33 ?_
    refine r_mmax9 C gw_615 gm_max_s gm_i gm_max_c (zr1 hR rfl) (zr0 hR (Nat.le_of_ble_eq_true rfl)) (zrcs hcs) dX7_skyAt_34 ?_
    cases hf
    exact r_iret C hF dX7_skyAt_37
  · rw [if_pos c1] at hf
    refine r_iconst (v := 0) C dX7_skyAt_4 (by decide) ?_
    cases hf
    exact r_iret C hF dX7_skyAt_5
def BX7_standing_0 (h : Hp) (b : Nat) (rec : Int32 → Int32 → Int32 → Int32 → Int32 → Option (Int32)) (y1 : Int32) (y2 : Int32) (y3 : Int32) (y4 : Int32) (y5 : Int32) : Option (Int32) := (if (16 : Int32) ≤ y5 then some y4 else cl9 (fX7_skyAt h b y5 y1 y2 y3) (fun x2 => gd (inb y5 16) (gd (inb y5 16) ((if (x2 - (h (b + 1) y5.toNatClampNeg)) < (h (b + 2) y5.toNatClampNeg) then lt9 (y5 + (1 : Int32)) (fun x7 => rec y1 y2 y3 y4 x7) else lt9 (y4 ||| ((1 : Int32) <<< (y5 &&& 31))) (fun x8 => lt9 (y5 + (1 : Int32)) (fun x9 => rec y1 y2 y3 x8 x9)))))))
def LX7_standing (h : Hp) (b : Nat) : Nat → Int32 → Int32 → Int32 → Int32 → Int32 → Option (Int32)
  | 0, _, _, _, _, _ => none
  | n + 1, y1, y2, y3, y4, y5 => BX7_standing_0 h b (LX7_standing h b n) y1 y2 y3 y4 y5
def fX7_standing (h : Hp) (b : Nat) (a1 : Int32) (a2 : Int32) (a3 : Int32) : Option (Int32) := LX7_standing h b big a1 a2 a3 (0 : Int32) (0 : Int32)
set_option maxHeartbeats 4000000 in
set_option maxRecDepth 100000 in
theorem wX7_standing {X : Cx} {h : Hp} {b : Nat} (hb : isSky b) (C : OK X cX7_standing 6 RX7 (some .int)) (hR : xR X = { frames := 4, cells := 0, slots := 0, locals := 256 }) (hcs : True) {rr : Int32} (hF : FinR X (some (.int rr)) h) : ∀ n : Nat, (∀ (y1 : Int32) (y2 : Int32) (y3 : Int32) (y4 : Int32) (y5 : Int32), LX7_standing h b n y1 y2 y3 y4 y5 = some rr → VW X 6 h 0 0 6 [(0, .ref (gad (xG X) b)), (1, .int y1), (2, .int y2), (3, .int y3), (4, .int y4), (5, .int y5)] []) := by
  intro n
  induction n with
  | zero => exact (fun _ _ _ _ _ hf => (by rw [LX7_standing] at hf; cases hf))
  | succ n ih =>
    intro y1 y2 y3 y4 y5 hf
    rw [LX7_standing] at hf
    unfold BX7_standing_0 at hf
    refine r_iload (i := 5) C dX7_standing_6 5 rfl ?_
    refine r_bipush (v := 16) C dX7_standing_8 (by decide) ?_
    refine r_icmp_ge C 55 dX7_standing_10 (by decide) (fun c1 => ?_) (fun c1 => ?_)
    · rw [if_pos c1] at hf
      refine r_iload (i := 4) C dX7_standing_55 4 rfl ?_
      cases hf
      exact r_iret C hF dX7_standing_57
    · rw [if_neg c1] at hf
      refine r_aload_n (i := 0) C dX7_standing_13 rfl 0 rfl ?_
      refine r_iload (i := 5) C dX7_standing_14 5 rfl ?_
      refine r_iload_n (i := 1) C dX7_standing_16 rfl 1 rfl ?_
      refine r_iload_n (i := 2) C dX7_standing_17 rfl 2 rfl ?_
      refine r_iload_n (i := 3) C dX7_standing_18 rfl 3 rfl ?_
      obtain ⟨x2, e3, hf⟩ := cl_of hf
      refine r_callVi (As := [.int y5, .int y1, .int y2, .int y3]) (st := []) C b (sky_d0 hb) (sky_l0 hb) rfl (kX7_skyAt (xG X) hb e3) cw_X7_111 rfl rfl (Nat.le_of_ble_eq_true rfl) (zr2 hR rfl rfl) (zrcs hcs) dX7_standing_19 ?_
      refine r_aload_n (i := 0) C dX7_standing_22 rfl 0 rfl ?_
      refine g_X7_9 hb C dX7_standing_23 ?_
      refine r_iload (i := 5) C dX7_standing_26 5 rfl ?_
      obtain ⟨g4, hf⟩ := gd_of hf
      refine r_iald C (b + 1) (sky_dsc hb 1 (by decide)) (sky_lt hb 1 (by decide)) g4 dX7_standing_28 ?_
      refine r_isub C dX7_standing_29 ?_
      refine r_aload_n (i := 0) C dX7_standing_30 rfl 0 rfl ?_
      refine g_X7_15 hb C dX7_standing_31 ?_
      refine r_iload (i := 5) C dX7_standing_34 5 rfl ?_
      obtain ⟨g5, hf⟩ := gd_of hf
      refine r_iald C (b + 2) (sky_dsc hb 2 (by decide)) (sky_lt hb 2 (by decide)) g5 dX7_standing_36 ?_
      refine r_icmp_lt C 49 dX7_standing_37 (by decide) (fun c6 => ?_) (fun c6 => ?_)
      · rw [if_pos c6] at hf
        obtain ⟨x7, ex7, hf⟩ := lt_of hf
        refine r_iinc (j := 5) (v := x7) (lv' := [(0, .ref (gad (xG X) b)), (1, .int y1), (2, .int y2), (3, .int y3), (4, .int y4), (5, .int x7)]) C dX7_standing_49 rfl (by rw [ex7]; rfl) (by decide) [1, 2, 3, 4, 5, 0] rfl ?_
        refine r_goto C 6 dX7_standing_52 (by decide) ?_
        exact r_lv [0, 1, 2, 3, 4, 5] rfl (ih _ _ _ _ _ hf)
      · rw [if_neg c6] at hf
        refine r_iload (i := 4) C dX7_standing_40 4 rfl ?_
        refine r_iconst (v := 1) C dX7_standing_42 (by decide) ?_
        refine r_iload (i := 5) C dX7_standing_43 5 rfl ?_
        refine r_ishl C dX7_standing_45 ?_
        refine r_ior C dX7_standing_46 ?_
        obtain ⟨x8, ex8, hf⟩ := lt_of hf
        refine r_top ex8 ?_
        refine r_istore (i := 4) (lv' := [(0, .ref (gad (xG X) b)), (1, .int y1), (2, .int y2), (3, .int y3), (4, .int x8), (5, .int y5)]) C dX7_standing_47 (by decide) [1, 2, 3, 4, 0, 5] rfl ?_
        obtain ⟨x9, ex9, hf⟩ := lt_of hf
        refine r_iinc (j := 5) (v := x9) (lv' := [(0, .ref (gad (xG X) b)), (1, .int y1), (2, .int y2), (3, .int y3), (4, .int x8), (5, .int x9)]) C dX7_standing_49 rfl (by rw [ex9]; rfl) (by decide) [1, 2, 3, 4, 5, 0] rfl ?_
        refine r_goto C 6 dX7_standing_52 (by decide) ?_
        exact r_lv [0, 1, 2, 3, 4, 5] rfl (ih _ _ _ _ _ hf)
set_option maxHeartbeats 4000000 in
set_option maxRecDepth 100000 in
theorem kX7_standing (G : Gx) {b : Nat} (hb : isSky b) {h : Hp} {a1 : Int32} {a2 : Int32} {a3 : Int32} {rr : Int32} (hf : fX7_standing h b a1 a2 a3 = some rr) : MC G yX7_standing cX7_standing 6 (some .int) 4 256 h [.ref (gad G b), .int a1, .int a2, .int a3] (some (.int rr)) h := by
  refine MC.of RX7 (by decide) rfl (Nat.le_of_ble_eq_true rfl) rfl (fun X C hG hR hF => ?_)
  subst hG
  have hcs : True := trivial
  unfold fX7_standing at hf
  refine r_iconst (v := 0) C dX7_standing_0 (by decide) ?_
  refine r_istore (i := 4) (lv' := [(0, .ref (gad (xG X) b)), (1, .int a1), (2, .int a2), (3, .int a3), (4, .int (0 : Int32))]) C dX7_standing_1 (by decide) [1, 2, 3, 4, 0] rfl ?_
  refine r_iconst (v := 0) C dX7_standing_3 (by decide) ?_
  refine r_istore (i := 5) (lv' := [(0, .ref (gad (xG X) b)), (1, .int a1), (2, .int a2), (3, .int a3), (4, .int (0 : Int32)), (5, .int (0 : Int32))]) C dX7_standing_4 (by decide) [1, 2, 3, 4, 5, 0] rfl ?_
  exact r_lv [0, 1, 2, 3, 4, 5] rfl ((wX7_standing hb C hR hcs hF big) _ _ _ _ _ hf)
def fX9_failNext (h : Hp) : Option (Hp) := cl9 (fX9_skipBlanks h) (fun h1 => cl9 (fX9_fail h1 (h1 1 3)) (fun h3 => some h3))
set_option maxHeartbeats 4000000 in
set_option maxRecDepth 100000 in
theorem kX9_failNext (G : Gx)  {h : Hp}  {hh : Hp} (hf : fX9_failNext h = some hh) : MC G yX9_failNext cX9_failNext 1 none 2 128 h [.ref (gad G 1)] none hh := by
  refine MC.of RX9 (by decide) rfl (Nat.le_of_ble_eq_true rfl) rfl (fun X C hG hR hF => ?_)
  subst hG
  have hcs : True := trivial
  unfold fX9_failNext at hf
  refine r_aload_n (i := 0) C dX9_failNext_0 rfl 0 rfl ?_
  obtain ⟨h1, e2, hf⟩ := cl_of hf
  refine r_callVv (As := []) (st := []) C 1 rfl (by decide) rfl (kX9_skipBlanks (xG X) e2) cw_X9_31 rfl rfl (Nat.le_of_ble_eq_true rfl) (zr2 hR rfl rfl) (zrcs hcs) dX9_failNext_1 ?_
  refine r_aload_n (i := 0) C dX9_failNext_4 rfl 0 rfl ?_
  refine r_aload_n (i := 0) C dX9_failNext_5 rfl 0 rfl ?_
  refine g_X9_25 C dX9_failNext_6 ?_
  obtain ⟨h3, e4, hf⟩ := cl_of hf
  refine r_callVv (As := [.int (h1 1 3)]) (st := []) C 1 rfl (by decide) rfl (kX9_fail (xG X) e4) cw_X9_34 rfl rfl (Nat.le_of_ble_eq_true rfl) (zr2 hR rfl rfl) (zrcs hcs) dX9_failNext_9 ?_
  cases hf
  exact r_vret C hF dX9_failNext_12
def fX9_atDigit (h : Hp) : Option (Int32 × Hp) := cl9 (fX9_skipBlanks h) (fun h1 => cl9 (fX9_byteAt h1 (h1 1 3)) (fun x3 => some ((fX9_isDigit x3), h1)))
set_option maxHeartbeats 4000000 in
set_option maxRecDepth 100000 in
theorem kX9_atDigit (G : Gx)  {h : Hp}  {rr : Int32} {hh : Hp} (hf : fX9_atDigit h = some (rr, hh)) : MC G yX9_atDigit cX9_atDigit 1 (some .boolean) 2 128 h [.ref (gad G 1)] (some (.int rr)) hh := by
  refine MC.of RX9 (by decide) rfl (Nat.le_of_ble_eq_true rfl) rfl (fun X C hG hR hF => ?_)
  subst hG
  have hcs : True := trivial
  unfold fX9_atDigit at hf
  refine r_aload_n (i := 0) C dX9_atDigit_0 rfl 0 rfl ?_
  obtain ⟨h1, e2, hf⟩ := cl_of hf
  refine r_callVv (As := []) (st := []) C 1 rfl (by decide) rfl (kX9_skipBlanks (xG X) e2) cw_X9_31 rfl rfl (Nat.le_of_ble_eq_true rfl) (zr2 hR rfl rfl) (zrcs hcs) dX9_atDigit_1 ?_
  refine r_aload_n (i := 0) C dX9_atDigit_4 rfl 0 rfl ?_
  refine r_aload_n (i := 0) C dX9_atDigit_5 rfl 0 rfl ?_
  refine g_X9_25 C dX9_atDigit_6 ?_
  obtain ⟨x3, e4, hf⟩ := cl_of hf
  refine r_callVi (As := [.int (h1 1 3)]) (st := []) C 1 rfl (by decide) rfl (kX9_byteAt (xG X) e4) cw_X9_38 rfl rfl (Nat.le_of_ble_eq_true rfl) (zr2 hR rfl rfl) (zrcs hcs) dX9_atDigit_9 ?_
  refine r_callSi (As := [.int x3]) (st := []) C (kX9_isDigit (xG X)) cw_X9_42 rfl rfl (Nat.le_of_ble_eq_true rfl) (zr2 hR rfl rfl) (zrcs hcs) dX9_atDigit_12 ?_
  have zz : (fX9_isDigit x3) = 0 ∨ (fX9_isDigit x3) = 1 := (zX9_isDigit)
  cases hf
  exact r_zret C zz hF dX9_atDigit_15
def BX9_takeNumber_0  (rec : Nat → Hp → Int32 → Int32 → Int32 → Option (Int32 × Hp)) (h : Hp) (y1 : Int32) (y2 : Int32) (y3 : Int32) : Option (Int32 × Hp) := (if (h 1 2) ≤ (h 1 3) then rec 1 h y1 y2 y3 else cl9 (fX9_byteAt h (h 1 3)) (fun x2 => (if (fX9_isDigit x2) = (0 : Int32) then rec 1 h y1 y2 y3 else cl9 ((if (3 : Int32) ≤ ((h 1 3) - (h 1 4)) then some y3 else cl9 (fX9_byteAt h (h 1 3)) (fun x9 => lt9 (((y3 * (10 : Int32)) + x9) - (48 : Int32)) (fun x11 => some x11))) : Option (Int32)) (fun x5 => lt9 (up2 h 1 3 ((h 1 3) + (1 : Int32))) (fun h12 => rec 0 h12 y1 y2 x5)))))
def BX9_takeNumber_1  (rec : Nat → Hp → Int32 → Int32 → Int32 → Option (Int32 × Hp)) (h : Hp) (y1 : Int32) (y2 : Int32) (y3 : Int32) : Option (Int32 × Hp) := lt9 ((h 1 3) - (h 1 4)) (fun x13 => cl9 ((if x13 = (0 : Int32) then some true else (if (3 : Int32) < x13 then some true else (if y3 < y1 then some true else (if y3 ≤ y2 then some false else some true)))) : Option Bool) (fun q14 => if q14 = true then cl9 (fX9_fail h (h 1 4)) (fun h22 => some ((-1 : Int32), h22)) else some (y3, h)))
def LX9_takeNumber  : Nat → Nat → Hp → Int32 → Int32 → Int32 → Option (Int32 × Hp)
  | 0, _, _, _, _, _ => none
  | n + 1, lab, h, y1, y2, y3 => if lab = 0 then BX9_takeNumber_0  (LX9_takeNumber  n) h y1 y2 y3 else if lab = 1 then BX9_takeNumber_1  (LX9_takeNumber  n) h y1 y2 y3 else none
def fX9_takeNumber (h : Hp) (a1 : Int32) (a2 : Int32) : Option (Int32 × Hp) := cl9 (fX9_skipBlanks h) (fun h24 => (if (fX9_failed h24) = (0 : Int32) then lt9 (up2 h24 1 4 (h24 1 3)) (fun h27 => LX9_takeNumber big 0 h27 a1 a2 (0 : Int32)) else some ((-1 : Int32), h24)))
set_option maxHeartbeats 4000000 in
set_option maxRecDepth 100000 in
theorem wX9_takeNumber {X : Cx}  (C : OK X cX9_takeNumber 5 RX9 (some .int)) (hR : xR X = { frames := 2, cells := 0, slots := 0, locals := 128 }) (hcs : True) {rr : Int32} {hh : Hp} (hF : FinR X (some (.int rr)) hh) : ∀ n : Nat, (∀ (h : Hp) (y1 : Int32) (y2 : Int32) (y3 : Int32), LX9_takeNumber  n 0 h y1 y2 y3 = some (rr, hh) → VW X 5 h 0 0 23 [(0, .ref (gad (xG X) 1)), (1, .int y1), (2, .int y2), (3, .int y3)] []) ∧ (∀ (h : Hp) (y1 : Int32) (y2 : Int32) (y3 : Int32), LX9_takeNumber  n 1 h y1 y2 y3 = some (rr, hh) → VW X 5 h 0 0 91 [(0, .ref (gad (xG X) 1)), (1, .int y1), (2, .int y2), (3, .int y3)] []) := by
  intro n
  induction n with
  | zero => exact ⟨(fun _ _ _ _ hf => (by rw [LX9_takeNumber] at hf; cases hf)), (fun _ _ _ _ hf => (by rw [LX9_takeNumber] at hf; cases hf))⟩
  | succ n ih =>
    refine ⟨?_, ?_⟩
    · intro h y1 y2 y3 hf
      rw [LX9_takeNumber, if_pos rfl] at hf
      unfold BX9_takeNumber_0 at hf
      refine r_aload_n (i := 0) C dX9_takeNumber_23 rfl 0 rfl ?_
      refine g_X9_25 C dX9_takeNumber_24 ?_
      refine r_aload_n (i := 0) C dX9_takeNumber_27 rfl 0 rfl ?_
      refine g_X9_22 C dX9_takeNumber_28 ?_
      refine r_icmp_ge C 91 dX9_takeNumber_31 (by decide) (fun c1 => ?_) (fun c1 => ?_)
      · rw [if_pos c1] at hf
        exact r_lv [0, 1, 2, 3] rfl (ih.2 _ _ _ _ hf)
      · rw [if_neg c1] at hf
        refine r_aload_n (i := 0) C dX9_takeNumber_34 rfl 0 rfl ?_
        refine r_aload_n (i := 0) C dX9_takeNumber_35 rfl 0 rfl ?_
        refine g_X9_25 C dX9_takeNumber_36 ?_
        obtain ⟨x2, e3, hf⟩ := cl_of hf
        refine r_callVi (As := [.int (h 1 3)]) (st := []) C 1 rfl (by decide) rfl (kX9_byteAt (xG X) e3) cw_X9_38 rfl rfl (Nat.le_of_ble_eq_true rfl) (zr2 hR rfl rfl) (zrcs hcs) dX9_takeNumber_39 ?_
        refine r_callSi (As := [.int x2]) (st := []) C (kX9_isDigit (xG X)) cw_X9_42 rfl rfl (Nat.le_of_ble_eq_true rfl) (zr2 hR rfl rfl) (zrcs hcs) dX9_takeNumber_42 ?_
        refine r_if_eq C 91 dX9_takeNumber_45 (by decide) (fun c4 => ?_) (fun c4 => ?_)
        · rw [if_pos c4] at hf
          exact r_lv [0, 1, 2, 3] rfl (ih.2 _ _ _ _ hf)
        · rw [if_neg c4] at hf
          refine r_aload_n (i := 0) C dX9_takeNumber_48 rfl 0 rfl ?_
          refine g_X9_25 C dX9_takeNumber_49 ?_
          refine r_aload_n (i := 0) C dX9_takeNumber_52 rfl 0 rfl ?_
          refine g_X9_28 C dX9_takeNumber_53 ?_
          refine r_isub C dX9_takeNumber_56 ?_
          refine r_iconst (v := 3) C dX9_takeNumber_57 (by decide) ?_
          obtain ⟨x5, r7, hf⟩ := cl_of hf
          have k6 : VW X 5 h 0 0 78 [(0, .ref (gad (xG X) 1)), (1, .int y1), (2, .int y2), (3, .int x5)] [] := by
            refine r_aload_n (i := 0) C dX9_takeNumber_78 rfl 0 rfl ?_
            refine r_dup C dX9_takeNumber_79 rfl ?_
            refine g_X9_25 C dX9_takeNumber_80 ?_
            refine r_iconst (v := 1) C dX9_takeNumber_83 (by decide) ?_
            refine r_iadd C dX9_takeNumber_84 ?_
            obtain ⟨h12, eh12, hf⟩ := lt_of hf
            refine p_X9_25 C eh12 dX9_takeNumber_85 ?_
            refine r_goto C 23 dX9_takeNumber_88 (by decide) ?_
            exact r_lv [0, 1, 2, 3] rfl (ih.1 _ _ _ _ hf)
          clear hf
          have hf := r7
          refine r_icmp_ge C 78 dX9_takeNumber_58 (by decide) (fun c8 => ?_) (fun c8 => ?_)
          · rw [if_pos c8] at hf
            cases hf
            exact k6
          · rw [if_neg c8] at hf
            refine r_iload_n (i := 3) C dX9_takeNumber_61 rfl 3 rfl ?_
            refine r_bipush (v := 10) C dX9_takeNumber_62 (by decide) ?_
            refine r_imul C dX9_takeNumber_64 ?_
            refine r_aload_n (i := 0) C dX9_takeNumber_65 rfl 0 rfl ?_
            refine r_aload_n (i := 0) C dX9_takeNumber_66 rfl 0 rfl ?_
            refine g_X9_25 C dX9_takeNumber_67 ?_
            obtain ⟨x9, e10, hf⟩ := cl_of hf
            refine r_callVi (As := [.int (h 1 3)]) (st := [.int (y3 * (10 : Int32))]) C 1 rfl (by decide) rfl (kX9_byteAt (xG X) e10) cw_X9_38 rfl rfl (Nat.le_of_ble_eq_true rfl) (zr2 hR rfl rfl) (zrcs hcs) dX9_takeNumber_70 ?_
            refine r_iadd C dX9_takeNumber_73 ?_
            refine r_bipush (v := 48) C dX9_takeNumber_74 (by decide) ?_
            refine r_isub C dX9_takeNumber_76 ?_
            obtain ⟨x11, ex11, hf⟩ := lt_of hf
            refine r_top ex11 ?_
            refine r_istore_n (i := 3) (lv' := [(0, .ref (gad (xG X) 1)), (1, .int y1), (2, .int y2), (3, .int x11)]) C dX9_takeNumber_77 rfl (by decide) [1, 2, 3, 0] rfl ?_
            cases hf
            exact k6
    · intro h y1 y2 y3 hf
      rw [LX9_takeNumber, if_neg (by decide), if_pos rfl] at hf
      unfold BX9_takeNumber_1 at hf
      refine r_aload_n (i := 0) C dX9_takeNumber_91 rfl 0 rfl ?_
      refine g_X9_25 C dX9_takeNumber_92 ?_
      refine r_aload_n (i := 0) C dX9_takeNumber_95 rfl 0 rfl ?_
      refine g_X9_28 C dX9_takeNumber_96 ?_
      refine r_isub C dX9_takeNumber_99 ?_
      obtain ⟨x13, ex13, hf⟩ := lt_of hf
      refine r_top ex13 ?_
      refine r_istore (i := 4) (lv' := [(0, .ref (gad (xG X) 1)), (1, .int y1), (2, .int y2), (3, .int y3), (4, .int x13)]) C dX9_takeNumber_100 (by decide) [1, 2, 3, 4, 0] rfl ?_
      refine r_iload (i := 4) C dX9_takeNumber_102 4 rfl ?_
      obtain ⟨q14, r17, hf⟩ := cl_of hf
      have k15 : q14 = true → VW X 5 h 0 0 123 [(0, .ref (gad (xG X) 1)), (1, .int y1), (2, .int y2), (3, .int y3), (4, .int x13)] [] := fun qq => by
        rw [if_pos qq] at hf
        refine r_aload_n (i := 0) C dX9_takeNumber_123 rfl 0 rfl ?_
        refine r_aload_n (i := 0) C dX9_takeNumber_124 rfl 0 rfl ?_
        refine g_X9_28 C dX9_takeNumber_125 ?_
        obtain ⟨h22, e23, hf⟩ := cl_of hf
        refine r_callVv (As := [.int (h 1 4)]) (st := []) C 1 rfl (by decide) rfl (kX9_fail (xG X) e23) cw_X9_34 rfl rfl (Nat.le_of_ble_eq_true rfl) (zr2 hR rfl rfl) (zrcs hcs) dX9_takeNumber_128 ?_
        refine r_iconst (v := (-1)) C dX9_takeNumber_131 (by decide) ?_
        cases hf
        exact r_iret C hF dX9_takeNumber_132
      have k16 : q14 = false → VW X 5 h 0 0 133 [(0, .ref (gad (xG X) 1)), (1, .int y1), (2, .int y2), (3, .int y3), (4, .int x13)] [] := fun qq => by
        rw [if_neg (by rw [qq]; decide)] at hf
        refine r_iload_n (i := 3) C dX9_takeNumber_133 rfl 3 rfl ?_
        cases hf
        exact r_iret C hF dX9_takeNumber_134
      clear hf
      have hf := r17
      refine r_if_eq C 123 dX9_takeNumber_104 (by decide) (fun c18 => ?_) (fun c18 => ?_)
      · rw [if_pos c18] at hf
        exact k15 (Option.some.inj hf).symm
      · rw [if_neg c18] at hf
        refine r_iload (i := 4) C dX9_takeNumber_107 4 rfl ?_
        refine r_iconst (v := 3) C dX9_takeNumber_109 (by decide) ?_
        refine r_icmp_gt C 123 dX9_takeNumber_110 (by decide) (fun c19 => ?_) (fun c19 => ?_)
        · rw [if_pos c19] at hf
          exact k15 (Option.some.inj hf).symm
        · rw [if_neg c19] at hf
          refine r_iload_n (i := 3) C dX9_takeNumber_113 rfl 3 rfl ?_
          refine r_iload_n (i := 1) C dX9_takeNumber_114 rfl 1 rfl ?_
          refine r_icmp_lt C 123 dX9_takeNumber_115 (by decide) (fun c20 => ?_) (fun c20 => ?_)
          · rw [if_pos c20] at hf
            exact k15 (Option.some.inj hf).symm
          · rw [if_neg c20] at hf
            refine r_iload_n (i := 3) C dX9_takeNumber_118 rfl 3 rfl ?_
            refine r_iload_n (i := 2) C dX9_takeNumber_119 rfl 2 rfl ?_
            refine r_icmp_le C 133 dX9_takeNumber_120 (by decide) (fun c21 => ?_) (fun c21 => ?_)
            · rw [if_pos c21] at hf
              exact k16 (Option.some.inj hf).symm
            · rw [if_neg c21] at hf
              exact k15 (Option.some.inj hf).symm
set_option maxHeartbeats 4000000 in
set_option maxRecDepth 100000 in
theorem kX9_takeNumber (G : Gx)  {h : Hp} {a1 : Int32} {a2 : Int32} {rr : Int32} {hh : Hp} (hf : fX9_takeNumber h a1 a2 = some (rr, hh)) : MC G yX9_takeNumber cX9_takeNumber 5 (some .int) 2 128 h [.ref (gad G 1), .int a1, .int a2] (some (.int rr)) hh := by
  refine MC.of RX9 (by decide) rfl (Nat.le_of_ble_eq_true rfl) rfl (fun X C hG hR hF => ?_)
  subst hG
  have hcs : True := trivial
  unfold fX9_takeNumber at hf
  refine r_aload_n (i := 0) C dX9_takeNumber_0 rfl 0 rfl ?_
  obtain ⟨h24, e25, hf⟩ := cl_of hf
  refine r_callVv (As := []) (st := []) C 1 rfl (by decide) rfl (kX9_skipBlanks (xG X) e25) cw_X9_31 rfl rfl (Nat.le_of_ble_eq_true rfl) (zr2 hR rfl rfl) (zrcs hcs) dX9_takeNumber_1 ?_
  refine r_aload_n (i := 0) C dX9_takeNumber_4 rfl 0 rfl ?_
  refine r_callVi (As := []) (st := []) C 1 rfl (by decide) rfl (kX9_failed (xG X)) cw_X9_46 rfl rfl (Nat.le_of_ble_eq_true rfl) (zr2 hR rfl rfl) (zrcs hcs) dX9_takeNumber_5 ?_
  refine r_if_eq C 13 dX9_takeNumber_8 (by decide) (fun c26 => ?_) (fun c26 => ?_)
  · rw [if_pos c26] at hf
    refine r_aload_n (i := 0) C dX9_takeNumber_13 rfl 0 rfl ?_
    refine r_aload_n (i := 0) C dX9_takeNumber_14 rfl 0 rfl ?_
    refine g_X9_25 C dX9_takeNumber_15 ?_
    obtain ⟨h27, eh27, hf⟩ := lt_of hf
    refine p_X9_28 C eh27 dX9_takeNumber_18 ?_
    refine r_iconst (v := 0) C dX9_takeNumber_21 (by decide) ?_
    refine r_istore_n (i := 3) (lv' := [(0, .ref (gad (xG X) 1)), (1, .int a1), (2, .int a2), (3, .int (0 : Int32))]) C dX9_takeNumber_22 rfl (by decide) [1, 2, 3, 0] rfl ?_
    exact r_lv [0, 1, 2, 3] rfl ((wX9_takeNumber  C hR hcs hF big).1 _ _ _ _ hf)
  · rw [if_neg c26] at hf
    refine r_iconst (v := (-1)) C dX9_takeNumber_11 (by decide) ?_
    cases hf
    exact r_iret C hF dX9_takeNumber_12
def fX11_undo (h : Hp) : Option (Int32 × Hp) := cl2 (fX5_takeBack h 32) (fun x3 h1 => gd (x3 = 0 ∨ x3 = 1) (some (x3, h1)))
set_option maxHeartbeats 4000000 in
set_option maxRecDepth 100000 in
theorem kX11_undo (G : Gx)  {h : Hp}  {rr : Int32} {hh : Hp} (hf : fX11_undo h = some (rr, hh)) : MC G yX11_undo cX11_undo 1 (some .boolean) 6 384 h [.ref (gad G 0)] (some (.int rr)) hh := by
  refine MC.of RX11 (by decide) rfl (Nat.le_of_ble_eq_true rfl) rfl (fun X C hG hR hF => ?_)
  subst hG
  have hcs : True := trivial
  unfold fX11_undo at hf
  refine r_aload_n (i := 0) C dX11_undo_0 rfl 0 rfl ?_
  refine g_X11_40 C dX11_undo_1 ?_
  refine r_aload_n (i := 0) C dX11_undo_4 rfl 0 rfl ?_
  refine g_X11_54 C dX11_undo_5 ?_
  obtain ⟨x3, h1, e2, hf⟩ := cl2_of hf
  refine r_callNVi (As := [.ref (gad (xG X) 32)]) (st := []) C 18 rfl (by decide) rfl (kX5_takeBack (xG X) sk32 e2) cw_X11_360 rfl rfl (Nat.le_of_ble_eq_true rfl) (zr2 hR rfl rfl) (zrcs hcs) dX11_undo_8 ?_
  obtain ⟨zz, hf⟩ := gd_of hf
  cases hf
  exact r_zret C zz hF dX11_undo_11
def fX11_nextOfSameSize (h : Hp) (a1 : Int32) : Option (Int32) := lt9 (a1 + (a1 &&& (-a1))) (fun x1 => cl9 (fJ_numberOfTrailingZeros h a1) (fun x2 => some (x1 ||| (ushr (a1 ^^^ x1) ((2 : Int32) + x2)))))
set_option maxHeartbeats 4000000 in
set_option maxRecDepth 100000 in
theorem kX11_nextOfSameSize (G : Gx)  {h : Hp} {a1 : Int32} {rr : Int32} (hf : fX11_nextOfSameSize h a1 = some rr) : MC G yX11_nextOfSameSize cX11_nextOfSameSize 2 (some .int) 2 128 h [.int a1] (some (.int rr)) h := by
  refine MC.of RX11 (by decide) rfl (Nat.le_of_ble_eq_true rfl) rfl (fun X C hG hR hF => ?_)
  subst hG
  have hcs : True := trivial
  unfold fX11_nextOfSameSize at hf
  refine r_iload_n (i := 0) C dX11_nextOfSameSize_0 rfl 0 rfl ?_
  refine r_iload_n (i := 0) C dX11_nextOfSameSize_1 rfl 0 rfl ?_
  refine r_iload_n (i := 0) C dX11_nextOfSameSize_2 rfl 0 rfl ?_
  refine r_ineg C dX11_nextOfSameSize_3 ?_
  refine r_iand C dX11_nextOfSameSize_4 ?_
  refine r_iadd C dX11_nextOfSameSize_5 ?_
  obtain ⟨x1, ex1, hf⟩ := lt_of hf
  refine r_top ex1 ?_
  refine r_istore_n (i := 1) (lv' := [(0, .int a1), (1, .int x1)]) C dX11_nextOfSameSize_6 rfl (by decide) [1, 0] rfl ?_
  refine r_iload_n (i := 1) C dX11_nextOfSameSize_7 rfl 1 rfl ?_
  refine r_iload_n (i := 0) C dX11_nextOfSameSize_8 rfl 0 rfl ?_
  refine r_iload_n (i := 1) C dX11_nextOfSameSize_9 rfl 1 rfl ?_
  refine r_ixor C dX11_nextOfSameSize_10 ?_
  refine r_iconst (v := 2) C dX11_nextOfSameSize_11 (by decide) ?_
  refine r_iload_n (i := 0) C dX11_nextOfSameSize_12 rfl 0 rfl ?_
  obtain ⟨x2, e3, hf⟩ := cl_of hf
  refine r_callSi (As := [.int a1]) (st := [.int (2 : Int32), .int (a1 ^^^ x1), .int x1]) C (kJ_numberOfTrailingZeros (xG X) e3) cw_X11_282 rfl rfl (Nat.le_of_ble_eq_true rfl) (zr2 hR rfl rfl) (zrcs hcs) dX11_nextOfSameSize_13 ?_
  refine r_iadd C dX11_nextOfSameSize_16 ?_
  refine r_iushr C dX11_nextOfSameSize_17 ?_
  refine r_ior C dX11_nextOfSameSize_18 ?_
  cases hf
  exact r_iret C hF dX11_nextOfSameSize_19
def fX12_readAt (h : Hp) (a1 : Int32) (a2 : Int32) : Option (Int32 × Hp) := cl2 (fX12_placeTold h) (fun x3 h1 => (if x3 < (0 : Int32) then some ((0 : Int32), h1) else cl2 (fX12_readNumber h1 (a1 + x3) (0 : Int32) a2) (fun x7 h5 => (if x7 = (0 : Int32) then some ((0 : Int32), h5) else some ((1 : Int32), h5)))))
set_option maxHeartbeats 4000000 in
set_option maxRecDepth 100000 in
theorem kX12_readAt (G : Gx)  {h : Hp} {a1 : Int32} {a2 : Int32} {rr : Int32} {hh : Hp} (hf : fX12_readAt h a1 a2 = some (rr, hh)) : MC G yX12_readAt cX12_readAt 4 (some .boolean) 5 320 h [.ref (gad G 208), .int a1, .int a2] (some (.int rr)) hh := by
  refine MC.of RX12 (by decide) rfl (Nat.le_of_ble_eq_true rfl) rfl (fun X C hG hR hF => ?_)
  subst hG
  have hcs : True := trivial
  unfold fX12_readAt at hf
  refine r_aload_n (i := 0) C dX12_readAt_0 rfl 0 rfl ?_
  obtain ⟨x3, h1, e2, hf⟩ := cl2_of hf
  refine r_callVi (As := []) (st := []) C 208 rfl (by decide) rfl (kX12_placeTold (xG X) e2) cw_X12_119 rfl rfl (Nat.le_of_ble_eq_true rfl) (zr2 hR rfl rfl) (zrcs hcs) dX12_readAt_1 ?_
  refine r_istore_n (i := 3) (lv' := [(0, .ref (gad (xG X) 208)), (1, .int a1), (2, .int a2), (3, .int x3)]) C dX12_readAt_4 rfl (by decide) [1, 2, 3, 0] rfl ?_
  refine r_iload_n (i := 3) C dX12_readAt_5 rfl 3 rfl ?_
  refine r_if_lt C 25 dX12_readAt_6 (by decide) (fun c4 => ?_) (fun c4 => ?_)
  · rw [if_pos c4] at hf
    refine r_iconst (v := 0) C dX12_readAt_25 (by decide) ?_
    have zz : (0 : Int32) = 0 ∨ (0 : Int32) = 1 := (Or.inl rfl)
    cases hf
    exact r_zret C zz hF dX12_readAt_26
  · rw [if_neg c4] at hf
    refine r_aload_n (i := 0) C dX12_readAt_9 rfl 0 rfl ?_
    refine r_iload_n (i := 1) C dX12_readAt_10 rfl 1 rfl ?_
    refine r_iload_n (i := 3) C dX12_readAt_11 rfl 3 rfl ?_
    refine r_iadd C dX12_readAt_12 ?_
    refine r_iconst (v := 0) C dX12_readAt_13 (by decide) ?_
    refine r_iload_n (i := 2) C dX12_readAt_14 rfl 2 rfl ?_
    obtain ⟨x7, h5, e6, hf⟩ := cl2_of hf
    refine r_callVi (As := [.int (a1 + x3), .int (0 : Int32), .int a2]) (st := []) C 208 rfl (by decide) rfl (kX12_readNumber (xG X) e6) cw_X12_131 rfl rfl (Nat.le_of_ble_eq_true rfl) (zr2 hR rfl rfl) (zrcs hcs) dX12_readAt_15 ?_
    refine r_if_eq C 25 dX12_readAt_18 (by decide) (fun c8 => ?_) (fun c8 => ?_)
    · rw [if_pos c8] at hf
      refine r_iconst (v := 0) C dX12_readAt_25 (by decide) ?_
      have zz : (0 : Int32) = 0 ∨ (0 : Int32) = 1 := (Or.inl rfl)
      cases hf
      exact r_zret C zz hF dX12_readAt_26
    · rw [if_neg c8] at hf
      refine r_iconst (v := 1) C dX12_readAt_21 (by decide) ?_
      refine r_goto C 26 dX12_readAt_22 (by decide) ?_
      have zz : (1 : Int32) = 0 ∨ (1 : Int32) = 1 := (Or.inr rfl)
      cases hf
      exact r_zret C zz hF dX12_readAt_26
def BX12_key_0  (rec : Hp → Int32 → Int32 → Int32 → Option (Int32 × Hp)) (h : Hp) (y1 : Int32) (y2 : Int32) (y3 : Int32) : Option (Int32 × Hp) := (if (16 : Int32) ≤ y3 then some (y2, h) else (if (fX12_hasPin h y3) = (0 : Int32) then lt9 (y2 ||| (0 : Int32)) (fun x3 => lt9 (y3 + (1 : Int32)) (fun x4 => rec h y1 x3 x4)) else cl2 (fX12_standingWith h ((fX12_pins h) &&& (((1 : Int32) <<< (y3 &&& 31)) ^^^ (-1 : Int32)))) (fun x7 h5 => (if y1 ≤ (fJ_bitCount x7) then lt9 (y2 ||| (0 : Int32)) (fun x9 => lt9 (y3 + (1 : Int32)) (fun x10 => rec h5 y1 x9 x10)) else lt9 (y2 ||| ((1 : Int32) <<< (y3 &&& 31))) (fun x11 => lt9 (y3 + (1 : Int32)) (fun x12 => rec h5 y1 x11 x12))))))
def LX12_key  : Nat → Hp → Int32 → Int32 → Int32 → Option (Int32 × Hp)
  | 0, _, _, _, _ => none
  | n + 1, h, y1, y2, y3 => BX12_key_0  (LX12_key  n) h y1 y2 y3
def fX12_key (h : Hp) : Option (Int32 × Hp) := lt9 (up2 h 208 0 (0 : Int32)) (fun h13 => cl2 (fX12_standingNow h13) (fun x16 h14 => lt9 (fJ_bitCount x16) (fun x17 => LX12_key big h14 x17 (0 : Int32) (0 : Int32))))
set_option maxHeartbeats 4000000 in
set_option maxRecDepth 100000 in
theorem wX12_key {X : Cx}  (C : OK X cX12_key 4 RX12 (some .int)) (hR : xR X = { frames := 12, cells := 0, slots := 0, locals := 768 }) (hcs : True) {rr : Int32} {hh : Hp} (hF : FinR X (some (.int rr)) hh) : ∀ n : Nat, (∀ (h : Hp) (y1 : Int32) (y2 : Int32) (y3 : Int32), LX12_key  n h y1 y2 y3 = some (rr, hh) → VW X 4 h 0 0 17 [(0, .ref (gad (xG X) 208)), (1, .int y1), (2, .int y2), (3, .int y3)] []) := by
  intro n
  induction n with
  | zero => exact (fun _ _ _ _ hf => (by rw [LX12_key] at hf; cases hf))
  | succ n ih =>
    intro h y1 y2 y3 hf
    rw [LX12_key] at hf
    unfold BX12_key_0 at hf
    refine r_iload_n (i := 3) C dX12_key_17 rfl 3 rfl ?_
    refine r_bipush (v := 16) C dX12_key_18 (by decide) ?_
    refine r_icmp_ge C 68 dX12_key_20 (by decide) (fun c1 => ?_) (fun c1 => ?_)
    · rw [if_pos c1] at hf
      refine r_iload_n (i := 2) C dX12_key_68 rfl 2 rfl ?_
      cases hf
      exact r_iret C hF dX12_key_69
    · rw [if_neg c1] at hf
      refine r_iload_n (i := 2) C dX12_key_23 rfl 2 rfl ?_
      refine r_aload_n (i := 0) C dX12_key_24 rfl 0 rfl ?_
      refine r_iload_n (i := 3) C dX12_key_25 rfl 3 rfl ?_
      refine r_callVi (As := [.int y3]) (st := [.int y2]) C 208 rfl (by decide) rfl (kX12_hasPin (xG X)) cw_X12_122 rfl rfl (Nat.le_of_ble_eq_true rfl) (zr2 hR rfl rfl) (zrcs hcs) dX12_key_26 ?_
      refine r_if_eq C 59 dX12_key_29 (by decide) (fun c2 => ?_) (fun c2 => ?_)
      · rw [if_pos c2] at hf
        refine r_iconst (v := 0) C dX12_key_59 (by decide) ?_
        refine r_ior C dX12_key_60 ?_
        obtain ⟨x3, ex3, hf⟩ := lt_of hf
        refine r_top ex3 ?_
        refine r_istore_n (i := 2) (lv' := [(0, .ref (gad (xG X) 208)), (1, .int y1), (2, .int x3), (3, .int y3)]) C dX12_key_61 rfl (by decide) [1, 2, 0, 3] rfl ?_
        obtain ⟨x4, ex4, hf⟩ := lt_of hf
        refine r_iinc (j := 3) (v := x4) (lv' := [(0, .ref (gad (xG X) 208)), (1, .int y1), (2, .int x3), (3, .int x4)]) C dX12_key_62 rfl (by rw [ex4]; rfl) (by decide) [1, 2, 3, 0] rfl ?_
        refine r_goto C 17 dX12_key_65 (by decide) ?_
        exact r_lv [0, 1, 2, 3] rfl (ih _ _ _ _ hf)
      · rw [if_neg c2] at hf
        refine r_aload_n (i := 0) C dX12_key_32 rfl 0 rfl ?_
        refine r_aload_n (i := 0) C dX12_key_33 rfl 0 rfl ?_
        refine r_callVi (As := []) (st := [.ref (gad (xG X) 208), .int y2]) C 208 rfl (by decide) rfl (kX12_pins (xG X)) cw_X12_65 rfl rfl (Nat.le_of_ble_eq_true rfl) (zr2 hR rfl rfl) (zrcs hcs) dX12_key_34 ?_
        refine r_iconst (v := 1) C dX12_key_37 (by decide) ?_
        refine r_iload_n (i := 3) C dX12_key_38 rfl 3 rfl ?_
        refine r_ishl C dX12_key_39 ?_
        refine r_iconst (v := (-1)) C dX12_key_40 (by decide) ?_
        refine r_ixor C dX12_key_41 ?_
        refine r_iand C dX12_key_42 ?_
        obtain ⟨x7, h5, e6, hf⟩ := cl2_of hf
        refine r_callVi (As := [.int ((fX12_pins h) &&& (((1 : Int32) <<< (y3 &&& 31)) ^^^ (-1 : Int32)))]) (st := [.int y2]) C 208 rfl (by decide) rfl (kX12_standingWith (xG X) e6) cw_X12_302 rfl rfl (Nat.le_of_ble_eq_true rfl) (zr2 hR rfl rfl) (zrcs hcs) dX12_key_43 ?_
        refine r_callSi (As := [.int x7]) (st := [.int y2]) C (kJ_bitCount (xG X)) cw_X12_356 rfl rfl (Nat.le_of_ble_eq_true rfl) (zr2 hR rfl rfl) (zrcs hcs) dX12_key_46 ?_
        refine r_iload_n (i := 1) C dX12_key_49 rfl 1 rfl ?_
        refine r_icmp_ge C 59 dX12_key_50 (by decide) (fun c8 => ?_) (fun c8 => ?_)
        · rw [if_pos c8] at hf
          refine r_iconst (v := 0) C dX12_key_59 (by decide) ?_
          refine r_ior C dX12_key_60 ?_
          obtain ⟨x9, ex9, hf⟩ := lt_of hf
          refine r_top ex9 ?_
          refine r_istore_n (i := 2) (lv' := [(0, .ref (gad (xG X) 208)), (1, .int y1), (2, .int x9), (3, .int y3)]) C dX12_key_61 rfl (by decide) [1, 2, 0, 3] rfl ?_
          obtain ⟨x10, ex10, hf⟩ := lt_of hf
          refine r_iinc (j := 3) (v := x10) (lv' := [(0, .ref (gad (xG X) 208)), (1, .int y1), (2, .int x9), (3, .int x10)]) C dX12_key_62 rfl (by rw [ex10]; rfl) (by decide) [1, 2, 3, 0] rfl ?_
          refine r_goto C 17 dX12_key_65 (by decide) ?_
          exact r_lv [0, 1, 2, 3] rfl (ih _ _ _ _ hf)
        · rw [if_neg c8] at hf
          refine r_iconst (v := 1) C dX12_key_53 (by decide) ?_
          refine r_iload_n (i := 3) C dX12_key_54 rfl 3 rfl ?_
          refine r_ishl C dX12_key_55 ?_
          refine r_goto C 60 dX12_key_56 (by decide) ?_
          refine r_ior C dX12_key_60 ?_
          obtain ⟨x11, ex11, hf⟩ := lt_of hf
          refine r_top ex11 ?_
          refine r_istore_n (i := 2) (lv' := [(0, .ref (gad (xG X) 208)), (1, .int y1), (2, .int x11), (3, .int y3)]) C dX12_key_61 rfl (by decide) [1, 2, 0, 3] rfl ?_
          obtain ⟨x12, ex12, hf⟩ := lt_of hf
          refine r_iinc (j := 3) (v := x12) (lv' := [(0, .ref (gad (xG X) 208)), (1, .int y1), (2, .int x11), (3, .int x12)]) C dX12_key_62 rfl (by rw [ex12]; rfl) (by decide) [1, 2, 3, 0] rfl ?_
          refine r_goto C 17 dX12_key_65 (by decide) ?_
          exact r_lv [0, 1, 2, 3] rfl (ih _ _ _ _ hf)
set_option maxHeartbeats 4000000 in
set_option maxRecDepth 100000 in
theorem kX12_key (G : Gx)  {h : Hp}  {rr : Int32} {hh : Hp} (hf : fX12_key h = some (rr, hh)) : MC G yX12_key cX12_key 4 (some .int) 12 768 h [.ref (gad G 208)] (some (.int rr)) hh := by
  refine MC.of RX12 (by decide) rfl (Nat.le_of_ble_eq_true rfl) rfl (fun X C hG hR hF => ?_)
  subst hG
  have hcs : True := trivial
  unfold fX12_key at hf
  refine r_aload_n (i := 0) C dX12_key_0 rfl 0 rfl ?_
  refine r_iconst (v := 0) C dX12_key_1 (by decide) ?_
  obtain ⟨h13, eh13, hf⟩ := lt_of hf
  refine p_X12_3 C eh13 dX12_key_2 ?_
  refine r_aload_n (i := 0) C dX12_key_5 rfl 0 rfl ?_
  obtain ⟨x16, h14, e15, hf⟩ := cl2_of hf
  refine r_callVi (As := []) (st := []) C 208 rfl (by decide) rfl (kX12_standingNow (xG X) e15) cw_X12_320 rfl rfl (Nat.le_of_ble_eq_true rfl) (zr2 hR rfl rfl) (zrcs hcs) dX12_key_6 ?_
  refine r_callSi (As := [.int x16]) (st := []) C (kJ_bitCount (xG X)) cw_X12_356 rfl rfl (Nat.le_of_ble_eq_true rfl) (zr2 hR rfl rfl) (zrcs hcs) dX12_key_9 ?_
  obtain ⟨x17, ex17, hf⟩ := lt_of hf
  refine r_top ex17 ?_
  refine r_istore_n (i := 1) (lv' := [(0, .ref (gad (xG X) 208)), (1, .int x17)]) C dX12_key_12 rfl (by decide) [1, 0] rfl ?_
  refine r_iconst (v := 0) C dX12_key_13 (by decide) ?_
  refine r_istore_n (i := 2) (lv' := [(0, .ref (gad (xG X) 208)), (1, .int x17), (2, .int (0 : Int32))]) C dX12_key_14 rfl (by decide) [1, 2, 0] rfl ?_
  refine r_iconst (v := 0) C dX12_key_15 (by decide) ?_
  refine r_istore_n (i := 3) (lv' := [(0, .ref (gad (xG X) 208)), (1, .int x17), (2, .int (0 : Int32)), (3, .int (0 : Int32))]) C dX12_key_16 rfl (by decide) [1, 2, 3, 0] rfl ?_
  exact r_lv [0, 1, 2, 3] rfl ((wX12_key  C hR hcs hF big) _ _ _ _ hf)
def BX12_first_0  (rec : Hp → Int32 → Int32 → Int32 → Option (Int32 × Hp)) (h : Hp) (y1 : Int32) (y2 : Int32) (y3 : Int32) : Option (Int32 × Hp) := (if (16 : Int32) ≤ y3 then some (y1, h) else cl2 ((if (fX12_has (fX12_openPlaces h) y3) = (0 : Int32) then some ((-1 : Int32), h) else cl2 (fX12_standingWith h ((fX12_pins h) ||| ((1 : Int32) <<< (y3 &&& 31)))) (fun x9 h7 => some ((fJ_bitCount x9), h7))) : Option (Int32 × Hp)) (fun v2 h3 => cl9 ((if v2 ≤ y2 then some y1 else some y3) : Option (Int32)) (fun v10 => lt9 (jmax y2 v2) (fun x14 => lt9 (y3 + (1 : Int32)) (fun x15 => rec h3 v10 x14 x15)))))
def LX12_first  : Nat → Hp → Int32 → Int32 → Int32 → Option (Int32 × Hp)
  | 0, _, _, _, _ => none
  | n + 1, h, y1, y2, y3 => BX12_first_0  (LX12_first  n) h y1 y2 y3
def fX12_first (h : Hp) : Option (Int32 × Hp) := lt9 (up2 h 208 0 (0 : Int32)) (fun h16 => LX12_first big h16 (-1 : Int32) (-1 : Int32) (0 : Int32))
set_option maxHeartbeats 4000000 in
set_option maxRecDepth 100000 in
theorem wX12_first {X : Cx}  (C : OK X cX12_first 5 RX12 (some .int)) (hR : xR X = { frames := 12, cells := 0, slots := 0, locals := 768 }) (hcs : True) {rr : Int32} {hh : Hp} (hF : FinR X (some (.int rr)) hh) : ∀ n : Nat, (∀ (h : Hp) (y1 : Int32) (y2 : Int32) (y3 : Int32), LX12_first  n h y1 y2 y3 = some (rr, hh) → VW X 5 h 0 0 11 [(0, .ref (gad (xG X) 208)), (1, .int y1), (2, .int y2), (3, .int y3)] []) := by
  intro n
  induction n with
  | zero => exact (fun _ _ _ _ hf => (by rw [LX12_first] at hf; cases hf))
  | succ n ih =>
    intro h y1 y2 y3 hf
    rw [LX12_first] at hf
    unfold BX12_first_0 at hf
    refine r_iload_n (i := 3) C dX12_first_11 rfl 3 rfl ?_
    refine r_bipush (v := 16) C dX12_first_12 (by decide) ?_
    refine r_icmp_ge C 74 dX12_first_14 (by decide) (fun c1 => ?_) (fun c1 => ?_)
    · rw [if_pos c1] at hf
      refine r_iload_n (i := 1) C dX12_first_74 rfl 1 rfl ?_
      cases hf
      exact r_iret C hF dX12_first_75
    · rw [if_neg c1] at hf
      refine r_aload_n (i := 0) C dX12_first_17 rfl 0 rfl ?_
      refine r_callVi (As := []) (st := []) C 208 rfl (by decide) rfl (kX12_openPlaces (xG X)) cw_X12_361 rfl rfl (Nat.le_of_ble_eq_true rfl) (zr2 hR rfl rfl) (zrcs hcs) dX12_first_18 ?_
      refine r_iload_n (i := 3) C dX12_first_21 rfl 3 rfl ?_
      refine r_callSi (As := [.int (fX12_openPlaces h), .int y3]) (st := []) C (kX12_has (xG X)) cw_X12_69 rfl rfl (Nat.le_of_ble_eq_true rfl) (zr2 hR rfl rfl) (zrcs hcs) dX12_first_22 ?_
      obtain ⟨v2, h3, r5, hf⟩ := cl2_of hf
      have k4 : VW X 5 h3 0 0 47 [(0, .ref (gad (xG X) 208)), (1, .int y1), (2, .int y2), (3, .int y3)] [.int v2] := by
        refine r_istore (i := 4) (lv' := [(0, .ref (gad (xG X) 208)), (1, .int y1), (2, .int y2), (3, .int y3), (4, .int v2)]) C dX12_first_47 (by decide) [1, 2, 3, 4, 0] rfl ?_
        refine r_iload (i := 4) C dX12_first_49 4 rfl ?_
        refine r_iload_n (i := 2) C dX12_first_51 rfl 2 rfl ?_
        obtain ⟨v10, r12, hf⟩ := cl_of hf
        have k11 : VW X 5 h3 0 0 60 [(0, .ref (gad (xG X) 208)), (2, .int y2), (3, .int y3), (4, .int v2)] [.int v10] := by
          refine r_istore_n (i := 1) (lv' := [(0, .ref (gad (xG X) 208)), (1, .int v10), (2, .int y2), (3, .int y3), (4, .int v2)]) C dX12_first_60 rfl (by decide) [1, 0, 2, 3, 4] rfl ?_
          refine r_iload_n (i := 2) C dX12_first_61 rfl 2 rfl ?_
          refine r_iload (i := 4) C dX12_first_62 4 rfl ?_
          refine r_mmax9 C gw_1806 gm_max_s gm_i gm_max_c (zr1 hR rfl) (zr0 hR (Nat.le_of_ble_eq_true rfl)) (zrcs hcs) dX12_first_64 ?_
          obtain ⟨x14, ex14, hf⟩ := lt_of hf
          refine r_top ex14 ?_
          refine r_istore_n (i := 2) (lv' := [(0, .ref (gad (xG X) 208)), (1, .int v10), (2, .int x14), (3, .int y3), (4, .int v2)]) C dX12_first_67 rfl (by decide) [1, 2, 0, 3, 4] rfl ?_
          obtain ⟨x15, ex15, hf⟩ := lt_of hf
          refine r_iinc (j := 3) (v := x15) (lv' := [(0, .ref (gad (xG X) 208)), (1, .int v10), (2, .int x14), (3, .int x15), (4, .int v2)]) C dX12_first_68 rfl (by rw [ex15]; rfl) (by decide) [1, 2, 3, 0, 4] rfl ?_
          refine r_goto C 11 dX12_first_71 (by decide) ?_
          exact r_lv [0, 1, 2, 3] rfl (ih _ _ _ _ hf)
        clear hf
        have hf := r12
        refine r_icmp_le C 59 dX12_first_52 (by decide) (fun c13 => ?_) (fun c13 => ?_)
        · rw [if_pos c13] at hf
          refine r_iload_n (i := 1) C dX12_first_59 rfl 1 rfl ?_
          cases hf
          exact r_lv [0, 2, 3, 4] rfl k11
        · rw [if_neg c13] at hf
          refine r_iload_n (i := 3) C dX12_first_55 rfl 3 rfl ?_
          refine r_goto C 60 dX12_first_56 (by decide) ?_
          cases hf
          exact r_lv [0, 2, 3, 4] rfl k11
      clear hf
      have hf := r5
      refine r_if_eq C 46 dX12_first_25 (by decide) (fun c6 => ?_) (fun c6 => ?_)
      · rw [if_pos c6] at hf
        refine r_iconst (v := (-1)) C dX12_first_46 (by decide) ?_
        cases hf
        exact k4
      · rw [if_neg c6] at hf
        refine r_aload_n (i := 0) C dX12_first_28 rfl 0 rfl ?_
        refine r_aload_n (i := 0) C dX12_first_29 rfl 0 rfl ?_
        refine r_callVi (As := []) (st := [.ref (gad (xG X) 208)]) C 208 rfl (by decide) rfl (kX12_pins (xG X)) cw_X12_65 rfl rfl (Nat.le_of_ble_eq_true rfl) (zr2 hR rfl rfl) (zrcs hcs) dX12_first_30 ?_
        refine r_iconst (v := 1) C dX12_first_33 (by decide) ?_
        refine r_iload_n (i := 3) C dX12_first_34 rfl 3 rfl ?_
        refine r_ishl C dX12_first_35 ?_
        refine r_ior C dX12_first_36 ?_
        obtain ⟨x9, h7, e8, hf⟩ := cl2_of hf
        refine r_callVi (As := [.int ((fX12_pins h) ||| ((1 : Int32) <<< (y3 &&& 31)))]) (st := []) C 208 rfl (by decide) rfl (kX12_standingWith (xG X) e8) cw_X12_302 rfl rfl (Nat.le_of_ble_eq_true rfl) (zr2 hR rfl rfl) (zrcs hcs) dX12_first_37 ?_
        refine r_callSi (As := [.int x9]) (st := []) C (kJ_bitCount (xG X)) cw_X12_356 rfl rfl (Nat.le_of_ble_eq_true rfl) (zr2 hR rfl rfl) (zrcs hcs) dX12_first_40 ?_
        refine r_goto C 47 dX12_first_43 (by decide) ?_
        cases hf
        exact k4
set_option maxHeartbeats 4000000 in
set_option maxRecDepth 100000 in
theorem kX12_first (G : Gx)  {h : Hp}  {rr : Int32} {hh : Hp} (hf : fX12_first h = some (rr, hh)) : MC G yX12_first cX12_first 5 (some .int) 12 768 h [.ref (gad G 208)] (some (.int rr)) hh := by
  refine MC.of RX12 (by decide) rfl (Nat.le_of_ble_eq_true rfl) rfl (fun X C hG hR hF => ?_)
  subst hG
  have hcs : True := trivial
  unfold fX12_first at hf
  refine r_aload_n (i := 0) C dX12_first_0 rfl 0 rfl ?_
  refine r_iconst (v := 0) C dX12_first_1 (by decide) ?_
  obtain ⟨h16, eh16, hf⟩ := lt_of hf
  refine p_X12_3 C eh16 dX12_first_2 ?_
  refine r_iconst (v := (-1)) C dX12_first_5 (by decide) ?_
  refine r_istore_n (i := 1) (lv' := [(0, .ref (gad (xG X) 208)), (1, .int (-1 : Int32))]) C dX12_first_6 rfl (by decide) [1, 0] rfl ?_
  refine r_iconst (v := (-1)) C dX12_first_7 (by decide) ?_
  refine r_istore_n (i := 2) (lv' := [(0, .ref (gad (xG X) 208)), (1, .int (-1 : Int32)), (2, .int (-1 : Int32))]) C dX12_first_8 rfl (by decide) [1, 2, 0] rfl ?_
  refine r_iconst (v := 0) C dX12_first_9 (by decide) ?_
  refine r_istore_n (i := 3) (lv' := [(0, .ref (gad (xG X) 208)), (1, .int (-1 : Int32)), (2, .int (-1 : Int32)), (3, .int (0 : Int32))]) C dX12_first_10 rfl (by decide) [1, 2, 3, 0] rfl ?_
  exact r_lv [0, 1, 2, 3] rfl ((wX12_first  C hR hcs hF big) _ _ _ _ hf)
def BX12_fewest_0  (rec : Hp → Int32 → Int32 → Int32 → Int32 → Int32 → Option (Int32 × Hp)) (h : Hp) (y2 : Int32) (y3 : Int32) (y4 : Int32) (y5 : Int32) (y6 : Int32) : Option (Int32 × Hp) := (if (65535 : Int32) < y6 then some (y4, h) else cl9 ((if (y6 &&& (y3 ^^^ (-1 : Int32))) = (0 : Int32) then (if y5 ≤ (fJ_bitCount y6) then some false else some true) else some false) : Option Bool) (fun q2 => if q2 = true then cl2 (fX12_standingWith h ((fX12_pins h) ||| y6)) (fun x10 h8 => (if (y2 &&& (x10 ^^^ (-1 : Int32))) = (0 : Int32) then lt9 (fJ_bitCount y6) (fun x12 => lt9 (y6 + (1 : Int32)) (fun x13 => rec h8 y2 y3 y6 x12 x13)) else lt9 (y6 + (1 : Int32)) (fun x14 => rec h8 y2 y3 y4 y5 x14))) else lt9 (y6 + (1 : Int32)) (fun x15 => rec h y2 y3 y4 y5 x15)))
def LX12_fewest  : Nat → Hp → Int32 → Int32 → Int32 → Int32 → Int32 → Option (Int32 × Hp)
  | 0, _, _, _, _, _, _ => none
  | n + 1, h, y2, y3, y4, y5, y6 => BX12_fewest_0  (LX12_fewest  n) h y2 y3 y4 y5 y6
def fX12_fewest (h : Hp) (a1 : Int32) : Option (Int32 × Hp) := lt9 (up2 h 208 0 (0 : Int32)) (fun h16 => lt9 (a1 &&& (65535 : Int32)) (fun x17 => lt9 (fX12_openPlaces h16) (fun x18 => LX12_fewest big h16 x17 x18 (-1 : Int32) (5 : Int32) (0 : Int32))))
set_option maxHeartbeats 4000000 in
set_option maxRecDepth 100000 in
theorem wX12_fewest {X : Cx}  (C : OK X cX12_fewest 7 RX12 (some .int)) (hR : xR X = { frames := 11, cells := 0, slots := 0, locals := 704 }) (hcs : True) {rr : Int32} {hh : Hp} (hF : FinR X (some (.int rr)) hh) : ∀ n : Nat, (∀ (h : Hp) (y2 : Int32) (y3 : Int32) (y4 : Int32) (y5 : Int32) (y6 : Int32), LX12_fewest  n h y2 y3 y4 y5 y6 = some (rr, hh) → VW X 7 h 0 0 24 [(0, .ref (gad (xG X) 208)), (2, .int y2), (3, .int y3), (4, .int y4), (5, .int y5), (6, .int y6)] []) := by
  intro n
  induction n with
  | zero => exact (fun _ _ _ _ _ _ hf => (by rw [LX12_fewest] at hf; cases hf))
  | succ n ih =>
    intro h y2 y3 y4 y5 y6 hf
    rw [LX12_fewest] at hf
    unfold BX12_fewest_0 at hf
    refine r_iload (i := 6) C dX12_fewest_24 5 rfl ?_
    refine r_ldc (v := 65535) C dX12_fewest_26 gw_1835 ?_
    refine r_icmp_gt C 88 dX12_fewest_28 (by decide) (fun c1 => ?_) (fun c1 => ?_)
    · rw [if_pos c1] at hf
      refine r_iload (i := 4) C dX12_fewest_88 3 rfl ?_
      cases hf
      exact r_iret C hF dX12_fewest_90
    · rw [if_neg c1] at hf
      refine r_iload (i := 6) C dX12_fewest_31 5 rfl ?_
      refine r_iload_n (i := 3) C dX12_fewest_33 rfl 2 rfl ?_
      refine r_iconst (v := (-1)) C dX12_fewest_34 (by decide) ?_
      refine r_ixor C dX12_fewest_35 ?_
      refine r_iand C dX12_fewest_36 ?_
      obtain ⟨q2, r5, hf⟩ := cl_of hf
      have k3 : q2 = true → VW X 7 h 0 0 50 [(0, .ref (gad (xG X) 208)), (2, .int y2), (3, .int y3), (4, .int y4), (5, .int y5), (6, .int y6)] [] := fun qq => by
        rw [if_pos qq] at hf
        refine r_iload_n (i := 2) C dX12_fewest_50 rfl 1 rfl ?_
        refine r_aload_n (i := 0) C dX12_fewest_51 rfl 0 rfl ?_
        refine r_aload_n (i := 0) C dX12_fewest_52 rfl 0 rfl ?_
        refine r_callVi (As := []) (st := [.ref (gad (xG X) 208), .int y2]) C 208 rfl (by decide) rfl (kX12_pins (xG X)) cw_X12_65 rfl rfl (Nat.le_of_ble_eq_true rfl) (zr2 hR rfl rfl) (zrcs hcs) dX12_fewest_53 ?_
        refine r_iload (i := 6) C dX12_fewest_56 5 rfl ?_
        refine r_ior C dX12_fewest_58 ?_
        obtain ⟨x10, h8, e9, hf⟩ := cl2_of hf
        refine r_callVi (As := [.int ((fX12_pins h) ||| y6)]) (st := [.int y2]) C 208 rfl (by decide) rfl (kX12_standingWith (xG X) e9) cw_X12_302 rfl rfl (Nat.le_of_ble_eq_true rfl) (zr2 hR rfl rfl) (zrcs hcs) dX12_fewest_59 ?_
        refine r_iconst (v := (-1)) C dX12_fewest_62 (by decide) ?_
        refine r_ixor C dX12_fewest_63 ?_
        refine r_iand C dX12_fewest_64 ?_
        refine r_if_eq C 71 dX12_fewest_65 (by decide) (fun c11 => ?_) (fun c11 => ?_)
        · rw [if_pos c11] at hf
          refine r_iload (i := 6) C dX12_fewest_71 5 rfl ?_
          refine r_istore (i := 4) (lv' := [(0, .ref (gad (xG X) 208)), (2, .int y2), (3, .int y3), (4, .int y6), (5, .int y5), (6, .int y6)]) C dX12_fewest_73 (by decide) [1, 2, 3, 0, 4, 5] rfl ?_
          refine r_iload (i := 6) C dX12_fewest_75 5 rfl ?_
          refine r_callSi (As := [.int y6]) (st := []) C (kJ_bitCount (xG X)) cw_X12_356 rfl rfl (Nat.le_of_ble_eq_true rfl) (zr2 hR rfl rfl) (zrcs hcs) dX12_fewest_77 ?_
          obtain ⟨x12, ex12, hf⟩ := lt_of hf
          refine r_top ex12 ?_
          refine r_istore (i := 5) (lv' := [(0, .ref (gad (xG X) 208)), (2, .int y2), (3, .int y3), (4, .int y6), (5, .int x12), (6, .int y6)]) C dX12_fewest_80 (by decide) [1, 2, 3, 4, 0, 5] rfl ?_
          obtain ⟨x13, ex13, hf⟩ := lt_of hf
          refine r_iinc (j := 5) (v := x13) (lv' := [(0, .ref (gad (xG X) 208)), (2, .int y2), (3, .int y3), (4, .int y6), (5, .int x12), (6, .int x13)]) C dX12_fewest_82 rfl (by rw [ex13]; rfl) (by decide) [1, 2, 3, 4, 5, 0] rfl ?_
          refine r_goto C 24 dX12_fewest_85 (by decide) ?_
          exact r_lv [0, 1, 2, 3, 4, 5] rfl (ih _ _ _ _ _ _ hf)
        · rw [if_neg c11] at hf
          refine r_goto C 82 dX12_fewest_68 (by decide) ?_
          obtain ⟨x14, ex14, hf⟩ := lt_of hf
          refine r_iinc (j := 5) (v := x14) (lv' := [(0, .ref (gad (xG X) 208)), (2, .int y2), (3, .int y3), (4, .int y4), (5, .int y5), (6, .int x14)]) C dX12_fewest_82 rfl (by rw [ex14]; rfl) (by decide) [1, 2, 3, 4, 5, 0] rfl ?_
          refine r_goto C 24 dX12_fewest_85 (by decide) ?_
          exact r_lv [0, 1, 2, 3, 4, 5] rfl (ih _ _ _ _ _ _ hf)
      have k4 : q2 = false → VW X 7 h 0 0 82 [(0, .ref (gad (xG X) 208)), (2, .int y2), (3, .int y3), (4, .int y4), (5, .int y5), (6, .int y6)] [] := fun qq => by
        rw [if_neg (by rw [qq]; decide)] at hf
        obtain ⟨x15, ex15, hf⟩ := lt_of hf
        refine r_iinc (j := 5) (v := x15) (lv' := [(0, .ref (gad (xG X) 208)), (2, .int y2), (3, .int y3), (4, .int y4), (5, .int y5), (6, .int x15)]) C dX12_fewest_82 rfl (by rw [ex15]; rfl) (by decide) [1, 2, 3, 4, 5, 0] rfl ?_
        refine r_goto C 24 dX12_fewest_85 (by decide) ?_
        exact r_lv [0, 1, 2, 3, 4, 5] rfl (ih _ _ _ _ _ _ hf)
      clear hf
      have hf := r5
      refine r_if_ne C 82 dX12_fewest_37 (by decide) (fun c6 => ?_) (fun c6 => ?_)
      · rw [if_neg c6] at hf
        exact k4 (Option.some.inj hf).symm
      · rw [if_pos c6] at hf
        refine r_iload (i := 6) C dX12_fewest_40 5 rfl ?_
        refine r_callSi (As := [.int y6]) (st := []) C (kJ_bitCount (xG X)) cw_X12_356 rfl rfl (Nat.le_of_ble_eq_true rfl) (zr2 hR rfl rfl) (zrcs hcs) dX12_fewest_42 ?_
        refine r_iload (i := 5) C dX12_fewest_45 4 rfl ?_
        refine r_icmp_ge C 82 dX12_fewest_47 (by decide) (fun c7 => ?_) (fun c7 => ?_)
        · rw [if_pos c7] at hf
          exact k4 (Option.some.inj hf).symm
        · rw [if_neg c7] at hf
          exact k3 (Option.some.inj hf).symm
set_option maxHeartbeats 4000000 in
set_option maxRecDepth 100000 in
theorem kX12_fewest (G : Gx)  {h : Hp} {a1 : Int32} {rr : Int32} {hh : Hp} (hf : fX12_fewest h a1 = some (rr, hh)) : MC G yX12_fewest cX12_fewest 7 (some .int) 11 704 h [.ref (gad G 208), .int a1] (some (.int rr)) hh := by
  refine MC.of RX12 (by decide) rfl (Nat.le_of_ble_eq_true rfl) rfl (fun X C hG hR hF => ?_)
  subst hG
  have hcs : True := trivial
  unfold fX12_fewest at hf
  refine r_aload_n (i := 0) C dX12_fewest_0 rfl 0 rfl ?_
  refine r_iconst (v := 0) C dX12_fewest_1 (by decide) ?_
  obtain ⟨h16, eh16, hf⟩ := lt_of hf
  refine p_X12_3 C eh16 dX12_fewest_2 ?_
  refine r_iload_n (i := 1) C dX12_fewest_5 rfl 1 rfl ?_
  refine r_ldc (v := 65535) C dX12_fewest_6 gw_1835 ?_
  refine r_iand C dX12_fewest_8 ?_
  obtain ⟨x17, ex17, hf⟩ := lt_of hf
  refine r_top ex17 ?_
  refine r_istore_n (i := 2) (lv' := [(0, .ref (gad (xG X) 208)), (1, .int a1), (2, .int x17)]) C dX12_fewest_9 rfl (by decide) [1, 2, 0] rfl ?_
  refine r_aload_n (i := 0) C dX12_fewest_10 rfl 0 rfl ?_
  refine r_callVi (As := []) (st := []) C 208 rfl (by decide) rfl (kX12_openPlaces (xG X)) cw_X12_361 rfl rfl (Nat.le_of_ble_eq_true rfl) (zr2 hR rfl rfl) (zrcs hcs) dX12_fewest_11 ?_
  obtain ⟨x18, ex18, hf⟩ := lt_of hf
  refine r_top ex18 ?_
  refine r_istore_n (i := 3) (lv' := [(0, .ref (gad (xG X) 208)), (1, .int a1), (2, .int x17), (3, .int x18)]) C dX12_fewest_14 rfl (by decide) [1, 2, 3, 0] rfl ?_
  refine r_iconst (v := (-1)) C dX12_fewest_15 (by decide) ?_
  refine r_istore (i := 4) (lv' := [(0, .ref (gad (xG X) 208)), (1, .int a1), (2, .int x17), (3, .int x18), (4, .int (-1 : Int32))]) C dX12_fewest_16 (by decide) [1, 2, 3, 4, 0] rfl ?_
  refine r_iconst (v := 5) C dX12_fewest_18 (by decide) ?_
  refine r_istore (i := 5) (lv' := [(0, .ref (gad (xG X) 208)), (1, .int a1), (2, .int x17), (3, .int x18), (4, .int (-1 : Int32)), (5, .int (5 : Int32))]) C dX12_fewest_19 (by decide) [1, 2, 3, 4, 5, 0] rfl ?_
  refine r_iconst (v := 0) C dX12_fewest_21 (by decide) ?_
  refine r_istore (i := 6) (lv' := [(0, .ref (gad (xG X) 208)), (1, .int a1), (2, .int x17), (3, .int x18), (4, .int (-1 : Int32)), (5, .int (5 : Int32)), (6, .int (0 : Int32))]) C dX12_fewest_22 (by decide) [1, 2, 3, 4, 5, 6, 0] rfl ?_
  exact r_lv [0, 2, 3, 4, 5, 6] rfl ((wX12_fewest  C hR hcs hF big) _ _ _ _ _ _ hf)
def fX12_lowestOf (h : Hp) (a1 : Int32) (a2 : Int32) : Option (Int32) := (if a1 = (0 : Int32) then some a2 else cl9 (fJ_numberOfTrailingZeros h a1) (fun x2 => some (jmin a2 x2)))
set_option maxHeartbeats 4000000 in
set_option maxRecDepth 100000 in
theorem kX12_lowestOf (G : Gx)  {h : Hp} {a1 : Int32} {a2 : Int32} {rr : Int32} (hf : fX12_lowestOf h a1 a2 = some rr) : MC G yX12_lowestOf cX12_lowestOf 3 (some .int) 3 192 h [.ref (gad G 208), .int a1, .int a2] (some (.int rr)) h := by
  refine MC.of RX12 (by decide) rfl (Nat.le_of_ble_eq_true rfl) rfl (fun X C hG hR hF => ?_)
  subst hG
  have hcs : True := trivial
  unfold fX12_lowestOf at hf
  refine r_iload_n (i := 1) C dX12_lowestOf_0 rfl 1 rfl ?_
  refine r_if_ne C 8 dX12_lowestOf_1 (by decide) (fun c1 => ?_) (fun c1 => ?_)
  · rw [if_neg c1] at hf
    refine r_iload_n (i := 2) C dX12_lowestOf_8 rfl 2 rfl ?_
    refine r_iload_n (i := 1) C dX12_lowestOf_9 rfl 1 rfl ?_
    obtain ⟨x2, e3, hf⟩ := cl_of hf
    refine r_callSi (As := [.int a1]) (st := [.int a2]) C (kJ_numberOfTrailingZeros (xG X) e3) cw_X12_364 rfl rfl (Nat.le_of_ble_eq_true rfl) (zr2 hR rfl rfl) (zrcs hcs) dX12_lowestOf_10 ?_
    refine r_mmin9 C gw_1797 gm_min_s gm_i gm_min_c (zr1 hR rfl) (zr0 hR (Nat.le_of_ble_eq_true rfl)) (zrcs hcs) dX12_lowestOf_13 ?_
    cases hf
    exact r_iret C hF dX12_lowestOf_16
  · rw [if_pos c1] at hf
    refine r_iload_n (i := 2) C dX12_lowestOf_4 rfl 2 rfl ?_
    refine r_goto C 16 dX12_lowestOf_5 (by decide) ?_
    cases hf
    exact r_iret C hF dX12_lowestOf_16
def fX12_highestOf (h : Hp) (a1 : Int32) (a2 : Int32) : Option (Int32) := (if a1 = (0 : Int32) then some a2 else cl9 (fJ_numberOfLeadingZeros h a1) (fun x2 => some (jmax a2 ((31 : Int32) - x2))))
set_option maxHeartbeats 4000000 in
set_option maxRecDepth 100000 in
theorem kX12_highestOf (G : Gx)  {h : Hp} {a1 : Int32} {a2 : Int32} {rr : Int32} (hf : fX12_highestOf h a1 a2 = some rr) : MC G yX12_highestOf cX12_highestOf 3 (some .int) 3 192 h [.ref (gad G 208), .int a1, .int a2] (some (.int rr)) h := by
  refine MC.of RX12 (by decide) rfl (Nat.le_of_ble_eq_true rfl) rfl (fun X C hG hR hF => ?_)
  subst hG
  have hcs : True := trivial
  unfold fX12_highestOf at hf
  refine r_iload_n (i := 1) C dX12_highestOf_0 rfl 1 rfl ?_
  refine r_if_ne C 8 dX12_highestOf_1 (by decide) (fun c1 => ?_) (fun c1 => ?_)
  · rw [if_neg c1] at hf
    refine r_iload_n (i := 2) C dX12_highestOf_8 rfl 2 rfl ?_
    refine r_bipush (v := 31) C dX12_highestOf_9 (by decide) ?_
    refine r_iload_n (i := 1) C dX12_highestOf_11 rfl 1 rfl ?_
    obtain ⟨x2, e3, hf⟩ := cl_of hf
    refine r_callSi (As := [.int a1]) (st := [.int (31 : Int32), .int a2]) C (kJ_numberOfLeadingZeros (xG X) e3) cw_X12_367 rfl rfl (Nat.le_of_ble_eq_true rfl) (zr2 hR rfl rfl) (zrcs hcs) dX12_highestOf_12 ?_
    refine r_isub C dX12_highestOf_15 ?_
    refine r_mmax9 C gw_1806 gm_max_s gm_i gm_max_c (zr1 hR rfl) (zr0 hR (Nat.le_of_ble_eq_true rfl)) (zrcs hcs) dX12_highestOf_16 ?_
    cases hf
    exact r_iret C hF dX12_highestOf_19
  · rw [if_pos c1] at hf
    refine r_iload_n (i := 2) C dX12_highestOf_4 rfl 2 rfl ?_
    refine r_goto C 19 dX12_highestOf_5 (by decide) ?_
    cases hf
    exact r_iret C hF dX12_highestOf_19
def fX12_round (h : Hp) (a1 : Int32) (a2 : Int32) (a3 : Int32) : Option (Int32 × Hp) := lt9 (up2 h 208 0 (0 : Int32)) (fun h1 => cl2 (fX12_throwsIf h1 (fX12_noPinner h1 a1) (1 : Int32)) (fun x4 h2 => (if x4 = (0 : Int32) then cl9 (fX12_of h2 a1 (0 : Int32)) (fun x6 => lt9 (a2 &&& (65535 : Int32)) (fun x8 => cl9 (fX12_lowestOf h2 x8 x6) (fun x9 => cl9 (fX12_highestOf h2 x8 x6) (fun x11 => lt9 (x6 - x9) (fun x13 => lt9 (x11 - x6) (fun x14 => (if a3 = (0 : Int32) then some (((x13 + x14) + (jmin x13 x14)), h2) else (if x13 = (0 : Int32) then some (x11, h2) else (if x14 = (0 : Int32) then some (x9, h2) else (if x13 < x14 then some (x11, h2) else some (x9, h2))))))))))) else some ((0 : Int32), h2))))
set_option maxHeartbeats 4000000 in
set_option maxRecDepth 100000 in
theorem kX12_round (G : Gx)  {h : Hp} {a1 : Int32} {a2 : Int32} {a3 : Int32} {rr : Int32} {hh : Hp} (hf : fX12_round h a1 a2 a3 = some (rr, hh)) : MC G yX12_round cX12_round 10 (some .int) 5 320 h [.ref (gad G 208), .int a1, .int a2, .int a3] (some (.int rr)) hh := by
  refine MC.of RX12 (by decide) rfl (Nat.le_of_ble_eq_true rfl) rfl (fun X C hG hR hF => ?_)
  subst hG
  have hcs : True := trivial
  unfold fX12_round at hf
  refine r_aload_n (i := 0) C dX12_round_0 rfl 0 rfl ?_
  refine r_iconst (v := 0) C dX12_round_1 (by decide) ?_
  obtain ⟨h1, eh1, hf⟩ := lt_of hf
  refine p_X12_3 C eh1 dX12_round_2 ?_
  refine r_aload_n (i := 0) C dX12_round_5 rfl 0 rfl ?_
  refine r_aload_n (i := 0) C dX12_round_6 rfl 0 rfl ?_
  refine r_iload_n (i := 1) C dX12_round_7 rfl 1 rfl ?_
  refine r_callVi (As := [.int a1]) (st := [.ref (gad (xG X) 208)]) C 208 rfl (by decide) rfl (kX12_noPinner (xG X)) cw_X12_311 rfl rfl (Nat.le_of_ble_eq_true rfl) (zr2 hR rfl rfl) (zrcs hcs) dX12_round_8 ?_
  refine r_iconst (v := 1) C dX12_round_11 (by decide) ?_
  obtain ⟨x4, h2, e3, hf⟩ := cl2_of hf
  refine r_callVi (As := [.int (fX12_noPinner h1 a1), .int (1 : Int32)]) (st := []) C 208 rfl (by decide) rfl (kX12_throwsIf (xG X) e3) cw_X12_247 rfl rfl (Nat.le_of_ble_eq_true rfl) (zr2 hR rfl rfl) (zrcs hcs) dX12_round_12 ?_
  refine r_if_eq C 20 dX12_round_15 (by decide) (fun c5 => ?_) (fun c5 => ?_)
  · rw [if_pos c5] at hf
    refine r_aload_n (i := 0) C dX12_round_20 rfl 0 rfl ?_
    refine r_iload_n (i := 1) C dX12_round_21 rfl 1 rfl ?_
    refine r_iconst (v := 0) C dX12_round_22 (by decide) ?_
    obtain ⟨x6, e7, hf⟩ := cl_of hf
    refine r_callVi (As := [.int a1, .int (0 : Int32)]) (st := []) C 208 rfl (by decide) rfl (kX12_of (xG X) e7) cw_X12_314 rfl rfl (Nat.le_of_ble_eq_true rfl) (zr2 hR rfl rfl) (zrcs hcs) dX12_round_23 ?_
    refine r_istore (i := 4) (lv' := [(0, .ref (gad (xG X) 208)), (1, .int a1), (2, .int a2), (3, .int a3), (4, .int x6)]) C dX12_round_26 (by decide) [1, 2, 3, 4, 0] rfl ?_
    refine r_iload_n (i := 2) C dX12_round_28 rfl 2 rfl ?_
    refine r_ldc (v := 65535) C dX12_round_29 gw_1835 ?_
    refine r_iand C dX12_round_31 ?_
    obtain ⟨x8, ex8, hf⟩ := lt_of hf
    refine r_top ex8 ?_
    refine r_istore (i := 5) (lv' := [(0, .ref (gad (xG X) 208)), (1, .int a1), (2, .int a2), (3, .int a3), (4, .int x6), (5, .int x8)]) C dX12_round_32 (by decide) [1, 2, 3, 4, 5, 0] rfl ?_
    refine r_aload_n (i := 0) C dX12_round_34 rfl 0 rfl ?_
    refine r_iload (i := 5) C dX12_round_35 5 rfl ?_
    refine r_iload (i := 4) C dX12_round_37 4 rfl ?_
    obtain ⟨x9, e10, hf⟩ := cl_of hf
    refine r_callVi (As := [.int x8, .int x6]) (st := []) C 208 rfl (by decide) rfl (kX12_lowestOf (xG X) e10) cw_X12_370 rfl rfl (Nat.le_of_ble_eq_true rfl) (zr2 hR rfl rfl) (zrcs hcs) dX12_round_39 ?_
    refine r_istore (i := 6) (lv' := [(0, .ref (gad (xG X) 208)), (1, .int a1), (2, .int a2), (3, .int a3), (4, .int x6), (5, .int x8), (6, .int x9)]) C dX12_round_42 (by decide) [1, 2, 3, 4, 5, 6, 0] rfl ?_
    refine r_aload_n (i := 0) C dX12_round_44 rfl 0 rfl ?_
    refine r_iload (i := 5) C dX12_round_45 5 rfl ?_
    refine r_iload (i := 4) C dX12_round_47 4 rfl ?_
    obtain ⟨x11, e12, hf⟩ := cl_of hf
    refine r_callVi (As := [.int x8, .int x6]) (st := []) C 208 rfl (by decide) rfl (kX12_highestOf (xG X) e12) cw_X12_373 rfl rfl (Nat.le_of_ble_eq_true rfl) (zr2 hR rfl rfl) (zrcs hcs) dX12_round_49 ?_
    refine r_istore (i := 7) (lv' := [(0, .ref (gad (xG X) 208)), (1, .int a1), (2, .int a2), (3, .int a3), (4, .int x6), (5, .int x8), (6, .int x9), (7, .int x11)]) C dX12_round_52 (by decide) [1, 2, 3, 4, 5, 6, 7, 0] rfl ?_
    refine r_iload (i := 4) C dX12_round_54 4 rfl ?_
    refine r_iload (i := 6) C dX12_round_56 6 rfl ?_
    refine r_isub C dX12_round_58 ?_
    obtain ⟨x13, ex13, hf⟩ := lt_of hf
    refine r_top ex13 ?_
    refine r_istore (i := 8) (lv' := [(0, .ref (gad (xG X) 208)), (1, .int a1), (2, .int a2), (3, .int a3), (4, .int x6), (5, .int x8), (6, .int x9), (7, .int x11), (8, .int x13)]) C dX12_round_59 (by decide) [1, 2, 3, 4, 5, 6, 7, 8, 0] rfl ?_
    refine r_iload (i := 7) C dX12_round_61 7 rfl ?_
    refine r_iload (i := 4) C dX12_round_63 4 rfl ?_
    refine r_isub C dX12_round_65 ?_
    obtain ⟨x14, ex14, hf⟩ := lt_of hf
    refine r_top ex14 ?_
    refine r_istore (i := 9) (lv' := [(0, .ref (gad (xG X) 208)), (1, .int a1), (2, .int a2), (3, .int a3), (4, .int x6), (5, .int x8), (6, .int x9), (7, .int x11), (8, .int x13), (9, .int x14)]) C dX12_round_66 (by decide) [1, 2, 3, 4, 5, 6, 7, 8, 9, 0] rfl ?_
    refine r_iload_n (i := 3) C dX12_round_68 rfl 3 rfl ?_
    refine r_if_ne C 86 dX12_round_69 (by decide) (fun c15 => ?_) (fun c15 => ?_)
    · rw [if_neg c15] at hf
      refine r_iload (i := 8) C dX12_round_86 8 rfl ?_
      refine r_if_ne C 96 dX12_round_88 (by decide) (fun c16 => ?_) (fun c16 => ?_)
      · rw [if_neg c16] at hf
        refine r_iload (i := 9) C dX12_round_96 9 rfl ?_
        refine r_if_eq C 108 dX12_round_98 (by decide) (fun c17 => ?_) (fun c17 => ?_)
        · rw [if_pos c17] at hf
          refine r_iload (i := 6) C dX12_round_108 6 rfl ?_
          refine r_goto C 115 dX12_round_110 (by decide) ?_
          cases hf
          exact r_iret C hF dX12_round_115
        · rw [if_neg c17] at hf
          refine r_iload (i := 9) C dX12_round_101 9 rfl ?_
          refine r_iload (i := 8) C dX12_round_103 8 rfl ?_
          refine r_icmp_gt C 113 dX12_round_105 (by decide) (fun c18 => ?_) (fun c18 => ?_)
          · rw [if_pos c18] at hf
            refine r_iload (i := 7) C dX12_round_113 7 rfl ?_
            cases hf
            exact r_iret C hF dX12_round_115
          · rw [if_neg c18] at hf
            refine r_iload (i := 6) C dX12_round_108 6 rfl ?_
            refine r_goto C 115 dX12_round_110 (by decide) ?_
            cases hf
            exact r_iret C hF dX12_round_115
      · rw [if_pos c16] at hf
        refine r_iload (i := 7) C dX12_round_91 7 rfl ?_
        refine r_goto C 115 dX12_round_93 (by decide) ?_
        cases hf
        exact r_iret C hF dX12_round_115
    · rw [if_pos c15] at hf
      refine r_iload (i := 8) C dX12_round_72 8 rfl ?_
      refine r_iload (i := 9) C dX12_round_74 9 rfl ?_
      refine r_iadd C dX12_round_76 ?_
      refine r_iload (i := 8) C dX12_round_77 8 rfl ?_
      refine r_iload (i := 9) C dX12_round_79 9 rfl ?_
      refine r_mmin9 C gw_1797 gm_min_s gm_i gm_min_c (zr1 hR rfl) (zr0 hR (Nat.le_of_ble_eq_true rfl)) (zrcs hcs) dX12_round_81 ?_
      refine r_iadd C dX12_round_84 ?_
      cases hf
      exact r_iret C hF dX12_round_85
  · rw [if_neg c5] at hf
    refine r_iconst (v := 0) C dX12_round_18 (by decide) ?_
    cases hf
    exact r_iret C hF dX12_round_19
def BX12_laysSets_0  (rec : Hp → Int32 → Option (Hp)) (h : Hp) (y1 : Int32) : Option (Hp) := (if (fX12_pins h) < y1 then some h else cl9 ((if (y1 &&& ((fX12_pins h) ^^^ (-1 : Int32))) = (0 : Int32) then (if (2 : Int32) < (fJ_bitCount y1) then some false else some true) else some false) : Option Bool) (fun q2 => if q2 = true then cl2 (fX12_fits h y1) (fun x10 h8 => (if x10 = (0 : Int32) then lt9 (y1 + (1 : Int32)) (fun x16 => rec h8 x16) else gd (inb (h8 208 22) 273) (lt9 (up2 h8 218 (h8 208 22).toNatClampNeg y1) (fun h13 => lt9 (up2 h13 208 22 ((h13 208 22) + (1 : Int32))) (fun h14 => lt9 (y1 + (1 : Int32)) (fun x15 => rec h14 x15)))))) else lt9 (y1 + (1 : Int32)) (fun x17 => rec h x17)))
def LX12_laysSets  : Nat → Hp → Int32 → Option (Hp)
  | 0, _, _ => none
  | n + 1, h, y1 => BX12_laysSets_0  (LX12_laysSets  n) h y1
def fX12_laysSets (h : Hp) : Option (Hp) := lt9 (up2 h 208 22 (0 : Int32)) (fun h18 => LX12_laysSets big h18 (0 : Int32))
set_option maxHeartbeats 4000000 in
set_option maxRecDepth 100000 in
theorem wX12_laysSets {X : Cx}  (C : OK X cX12_laysSets 2 RX12 none) (hR : xR X = { frames := 11, cells := 0, slots := 0, locals := 704 }) (hcs : True) {hh : Hp} (hF : FinR X none hh) : ∀ n : Nat, (∀ (h : Hp) (y1 : Int32), LX12_laysSets  n h y1 = some hh → VW X 2 h 0 0 7 [(0, .ref (gad (xG X) 208)), (1, .int y1)] []) := by
  intro n
  induction n with
  | zero => exact (fun _ _ hf => (by rw [LX12_laysSets] at hf; cases hf))
  | succ n ih =>
    intro h y1 hf
    rw [LX12_laysSets] at hf
    unfold BX12_laysSets_0 at hf
    refine r_iload_n (i := 1) C dX12_laysSets_7 rfl 1 rfl ?_
    refine r_aload_n (i := 0) C dX12_laysSets_8 rfl 0 rfl ?_
    refine r_callVi (As := []) (st := [.int y1]) C 208 rfl (by decide) rfl (kX12_pins (xG X)) cw_X12_65 rfl rfl (Nat.le_of_ble_eq_true rfl) (zr2 hR rfl rfl) (zrcs hcs) dX12_laysSets_9 ?_
    refine r_icmp_gt C 71 dX12_laysSets_12 (by decide) (fun c1 => ?_) (fun c1 => ?_)
    · rw [if_pos c1] at hf
      cases hf
      exact r_vret C hF dX12_laysSets_71
    · rw [if_neg c1] at hf
      refine r_iload_n (i := 1) C dX12_laysSets_15 rfl 1 rfl ?_
      refine r_aload_n (i := 0) C dX12_laysSets_16 rfl 0 rfl ?_
      refine r_callVi (As := []) (st := [.int y1]) C 208 rfl (by decide) rfl (kX12_pins (xG X)) cw_X12_65 rfl rfl (Nat.le_of_ble_eq_true rfl) (zr2 hR rfl rfl) (zrcs hcs) dX12_laysSets_17 ?_
      refine r_iconst (v := (-1)) C dX12_laysSets_20 (by decide) ?_
      refine r_ixor C dX12_laysSets_21 ?_
      refine r_iand C dX12_laysSets_22 ?_
      obtain ⟨q2, r5, hf⟩ := cl_of hf
      have k3 : q2 = true → VW X 2 h 0 0 34 [(0, .ref (gad (xG X) 208)), (1, .int y1)] [] := fun qq => by
        rw [if_pos qq] at hf
        refine r_aload_n (i := 0) C dX12_laysSets_34 rfl 0 rfl ?_
        refine r_iload_n (i := 1) C dX12_laysSets_35 rfl 1 rfl ?_
        obtain ⟨x10, h8, e9, hf⟩ := cl2_of hf
        refine r_callVi (As := [.int y1]) (st := []) C 208 rfl (by decide) rfl (kX12_fits (xG X) e9) cw_X12_392 rfl rfl (Nat.le_of_ble_eq_true rfl) (zr2 hR rfl rfl) (zrcs hcs) dX12_laysSets_36 ?_
        refine r_if_ne C 45 dX12_laysSets_39 (by decide) (fun c11 => ?_) (fun c11 => ?_)
        · rw [if_neg c11] at hf
          refine r_aload_n (i := 0) C dX12_laysSets_45 rfl 0 rfl ?_
          refine g_X12_45 C dX12_laysSets_46 ?_
          refine r_aload_n (i := 0) C dX12_laysSets_49 rfl 0 rfl ?_
          refine g_X12_389 C dX12_laysSets_50 ?_
          refine r_iload_n (i := 1) C dX12_laysSets_53 rfl 1 rfl ?_
          obtain ⟨g12, hf⟩ := gd_of hf
          obtain ⟨h13, eh13, hf⟩ := lt_of hf
          refine r_iast C 218 eh13 rfl (by decide) g12 dX12_laysSets_54 ?_
          refine r_aload_n (i := 0) C dX12_laysSets_55 rfl 0 rfl ?_
          refine r_dup C dX12_laysSets_56 rfl ?_
          refine g_X12_389 C dX12_laysSets_57 ?_
          refine r_iconst (v := 1) C dX12_laysSets_60 (by decide) ?_
          refine r_iadd C dX12_laysSets_61 ?_
          obtain ⟨h14, eh14, hf⟩ := lt_of hf
          refine p_X12_389 C eh14 dX12_laysSets_62 ?_
          obtain ⟨x15, ex15, hf⟩ := lt_of hf
          refine r_iinc (j := 1) (v := x15) (lv' := [(0, .ref (gad (xG X) 208)), (1, .int x15)]) C dX12_laysSets_65 rfl (by rw [ex15]; rfl) (by decide) [1, 0] rfl ?_
          refine r_goto C 7 dX12_laysSets_68 (by decide) ?_
          exact r_lv [0, 1] rfl (ih _ _ hf)
        · rw [if_pos c11] at hf
          refine r_goto C 65 dX12_laysSets_42 (by decide) ?_
          obtain ⟨x16, ex16, hf⟩ := lt_of hf
          refine r_iinc (j := 1) (v := x16) (lv' := [(0, .ref (gad (xG X) 208)), (1, .int x16)]) C dX12_laysSets_65 rfl (by rw [ex16]; rfl) (by decide) [1, 0] rfl ?_
          refine r_goto C 7 dX12_laysSets_68 (by decide) ?_
          exact r_lv [0, 1] rfl (ih _ _ hf)
      have k4 : q2 = false → VW X 2 h 0 0 65 [(0, .ref (gad (xG X) 208)), (1, .int y1)] [] := fun qq => by
        rw [if_neg (by rw [qq]; decide)] at hf
        obtain ⟨x17, ex17, hf⟩ := lt_of hf
        refine r_iinc (j := 1) (v := x17) (lv' := [(0, .ref (gad (xG X) 208)), (1, .int x17)]) C dX12_laysSets_65 rfl (by rw [ex17]; rfl) (by decide) [1, 0] rfl ?_
        refine r_goto C 7 dX12_laysSets_68 (by decide) ?_
        exact r_lv [0, 1] rfl (ih _ _ hf)
      clear hf
      have hf := r5
      refine r_if_ne C 65 dX12_laysSets_23 (by decide) (fun c6 => ?_) (fun c6 => ?_)
      · rw [if_neg c6] at hf
        exact k4 (Option.some.inj hf).symm
      · rw [if_pos c6] at hf
        refine r_iload_n (i := 1) C dX12_laysSets_26 rfl 1 rfl ?_
        refine r_callSi (As := [.int y1]) (st := []) C (kJ_bitCount (xG X)) cw_X12_356 rfl rfl (Nat.le_of_ble_eq_true rfl) (zr2 hR rfl rfl) (zrcs hcs) dX12_laysSets_27 ?_
        refine r_iconst (v := 2) C dX12_laysSets_30 (by decide) ?_
        refine r_icmp_gt C 65 dX12_laysSets_31 (by decide) (fun c7 => ?_) (fun c7 => ?_)
        · rw [if_pos c7] at hf
          exact k4 (Option.some.inj hf).symm
        · rw [if_neg c7] at hf
          exact k3 (Option.some.inj hf).symm
set_option maxHeartbeats 4000000 in
set_option maxRecDepth 100000 in
theorem kX12_laysSets (G : Gx)  {h : Hp}  {hh : Hp} (hf : fX12_laysSets h = some hh) : MC G yX12_laysSets cX12_laysSets 2 none 11 704 h [.ref (gad G 208)] none hh := by
  refine MC.of RX12 (by decide) rfl (Nat.le_of_ble_eq_true rfl) rfl (fun X C hG hR hF => ?_)
  subst hG
  have hcs : True := trivial
  unfold fX12_laysSets at hf
  refine r_aload_n (i := 0) C dX12_laysSets_0 rfl 0 rfl ?_
  refine r_iconst (v := 0) C dX12_laysSets_1 (by decide) ?_
  obtain ⟨h18, eh18, hf⟩ := lt_of hf
  refine p_X12_389 C eh18 dX12_laysSets_2 ?_
  refine r_iconst (v := 0) C dX12_laysSets_5 (by decide) ?_
  refine r_istore_n (i := 1) (lv' := [(0, .ref (gad (xG X) 208)), (1, .int (0 : Int32))]) C dX12_laysSets_6 rfl (by decide) [1, 0] rfl ?_
  exact r_lv [0, 1] rfl ((wX12_laysSets  C hR hcs hF big) _ _ hf)

def BX1_holdingWith_0 (b : Nat) (rec : Hp → Int32 → Int32 → Int32 → Option (Int32 × Hp)) (h : Hp) (y2 : Int32) (y3 : Int32) (y4 : Int32) : Option (Int32 × Hp) := (if (16 : Int32) ≤ y4 then some (y3, h) else (if (fX11_has y2 y4) = (0 : Int32) then lt9 (y4 + (1 : Int32)) (fun x3 => rec h y2 y3 x3) else cl9 (fX1_gap h y2 y4) (fun x4 => cl2 (fX1_holds h b y4 x4) (fun x8 h6 => (if x8 = (0 : Int32) then lt9 (y4 + (1 : Int32)) (fun x10 => rec h6 y2 y3 x10) else lt9 (y3 ||| ((1 : Int32) <<< (y4 &&& 31))) (fun x11 => lt9 (y4 + (1 : Int32)) (fun x12 => rec h6 y2 x11 x12)))))))
def LX1_holdingWith (b : Nat) : Nat → Hp → Int32 → Int32 → Int32 → Option (Int32 × Hp)
  | 0, _, _, _, _ => none
  | n + 1, h, y2, y3, y4 => BX1_holdingWith_0 b (LX1_holdingWith b n) h y2 y3 y4
def fX1_holdingWith (h : Hp) (b : Nat) (a1 : Int32) : Option (Int32 × Hp) := LX1_holdingWith b big h a1 (0 : Int32) (0 : Int32)
set_option maxHeartbeats 4000000 in
set_option maxRecDepth 100000 in
theorem wX1_holdingWith {X : Cx} {b : Nat} (hb : isSky b) {rr : Int32} {hh : Hp} (C : OK X cX1_holdingWith 5 RX1 (some .int)) (hR : xR X = { frames := 5, cells := 0, slots := 0, locals := 320 }) (hcs : True) (hF : FinR X (some (.int rr)) hh) : ∀ n : Nat, (∀ (h : Hp) (y2 : Int32) (y3 : Int32) (y4 : Int32), LX1_holdingWith b n h y2 y3 y4 = some (rr, hh) → VW X 5 h 0 0 5 [(0, .ref (gad (xG X) 3)), (1, .ref (gad (xG X) b)), (2, .int y2), (3, .int y3), (4, .int y4)] []) := by
  intro n
  induction n with
  | zero => exact (fun _ _ _ _ hf => (by rw [LX1_holdingWith] at hf; cases hf))
  | succ n ih =>
    intro h y2 y3 y4 hf
    rw [LX1_holdingWith] at hf
    unfold BX1_holdingWith_0 at hf
    refine r_iload (i := 4) C dX1_holdingWith_5 4 rfl ?_
    refine r_bipush (v := 16) C dX1_holdingWith_7 (by decide) ?_
    refine r_icmp_ge C 50 dX1_holdingWith_9 (by decide) (fun c1 => ?_) (fun c1 => ?_)
    · rw [if_pos c1] at hf
      refine r_iload_n (i := 3) C dX1_holdingWith_50 rfl 3 rfl ?_
      cases hf
      exact r_iret C hF dX1_holdingWith_51
    · rw [if_neg c1] at hf
      refine r_iload_n (i := 2) C dX1_holdingWith_12 rfl 2 rfl ?_
      refine r_iload (i := 4) C dX1_holdingWith_13 4 rfl ?_
      refine r_callNSi (As := [.int y2, .int y4]) (st := []) C (kX11_has (xG X)) cw_X1_79 rfl rfl (Nat.le_of_ble_eq_true rfl) (zr2 hR rfl rfl) (zrcs hcs) dX1_holdingWith_15 ?_
      refine r_if_eq C 44 dX1_holdingWith_18 (by decide) (fun c2 => ?_) (fun c2 => ?_)
      · rw [if_pos c2] at hf
        obtain ⟨x3, ex3, hf⟩ := lt_of hf
        refine r_iinc (j := 4) (v := x3) (lv' := [(0, .ref (gad (xG X) 3)), (1, .ref (gad (xG X) b)), (2, .int y2), (3, .int y3), (4, .int x3)]) C dX1_holdingWith_44 rfl (by rw [ex3]; rfl) (by decide) [1, 2, 3, 4, 0] rfl ?_
        refine r_goto C 5 dX1_holdingWith_47 (by decide) ?_
        exact r_lv [0, 1, 2, 3, 4] rfl (ih _ _ _ _ hf)
      · rw [if_neg c2] at hf
        refine r_aload_n (i := 0) C dX1_holdingWith_21 rfl 0 rfl ?_
        refine r_aload_n (i := 1) C dX1_holdingWith_22 rfl 1 rfl ?_
        refine r_iload (i := 4) C dX1_holdingWith_23 4 rfl ?_
        refine r_iload_n (i := 2) C dX1_holdingWith_25 rfl 2 rfl ?_
        refine r_iload (i := 4) C dX1_holdingWith_26 4 rfl ?_
        obtain ⟨x4, e5, hf⟩ := cl_of hf
        refine r_callSi (As := [.int y2, .int y4]) (st := [.int y4, .ref (gad (xG X) b), .ref (gad (xG X) 3)]) C (kX1_gap (xG X) e5) cw_X1_34 rfl rfl (Nat.le_of_ble_eq_true rfl) (zr2 hR rfl rfl) (zrcs hcs) dX1_holdingWith_28 ?_
        obtain ⟨x8, h6, e7, hf⟩ := cl2_of hf
        refine r_callVi (As := [.ref (gad (xG X) b), .int y4, .int x4]) (st := []) C 3 rfl (by decide) rfl (kX1_holds (xG X) hb e7) cw_X1_83 rfl rfl (Nat.le_of_ble_eq_true rfl) (zr2 hR rfl rfl) (zrcs hcs) dX1_holdingWith_31 ?_
        refine r_if_eq C 44 dX1_holdingWith_34 (by decide) (fun c9 => ?_) (fun c9 => ?_)
        · rw [if_pos c9] at hf
          obtain ⟨x10, ex10, hf⟩ := lt_of hf
          refine r_iinc (j := 4) (v := x10) (lv' := [(0, .ref (gad (xG X) 3)), (1, .ref (gad (xG X) b)), (2, .int y2), (3, .int y3), (4, .int x10)]) C dX1_holdingWith_44 rfl (by rw [ex10]; rfl) (by decide) [1, 2, 3, 4, 0] rfl ?_
          refine r_goto C 5 dX1_holdingWith_47 (by decide) ?_
          exact r_lv [0, 1, 2, 3, 4] rfl (ih _ _ _ _ hf)
        · rw [if_neg c9] at hf
          refine r_iload_n (i := 3) C dX1_holdingWith_37 rfl 3 rfl ?_
          refine r_iconst (v := 1) C dX1_holdingWith_38 (by decide) ?_
          refine r_iload (i := 4) C dX1_holdingWith_39 4 rfl ?_
          refine r_ishl C dX1_holdingWith_41 ?_
          refine r_ior C dX1_holdingWith_42 ?_
          obtain ⟨x11, ex11, hf⟩ := lt_of hf
          refine r_top ex11 ?_
          refine r_istore_n (i := 3) (lv' := [(0, .ref (gad (xG X) 3)), (1, .ref (gad (xG X) b)), (2, .int y2), (3, .int x11), (4, .int y4)]) C dX1_holdingWith_43 rfl (by decide) [1, 2, 3, 0, 4] rfl ?_
          obtain ⟨x12, ex12, hf⟩ := lt_of hf
          refine r_iinc (j := 4) (v := x12) (lv' := [(0, .ref (gad (xG X) 3)), (1, .ref (gad (xG X) b)), (2, .int y2), (3, .int x11), (4, .int x12)]) C dX1_holdingWith_44 rfl (by rw [ex12]; rfl) (by decide) [1, 2, 3, 4, 0] rfl ?_
          refine r_goto C 5 dX1_holdingWith_47 (by decide) ?_
          exact r_lv [0, 1, 2, 3, 4] rfl (ih _ _ _ _ hf)
set_option maxHeartbeats 4000000 in
set_option maxRecDepth 100000 in
theorem kX1_holdingWith (G : Gx) {b : Nat} (hb : isSky b) {h : Hp} {a1 : Int32} {rr : Int32} {hh : Hp} (hf : fX1_holdingWith h b a1 = some (rr, hh)) : MC G yX1_holdingWith cX1_holdingWith 5 (some .int) 5 320 h [.ref (gad G 3), .ref (gad G b), .int a1] (some (.int rr)) hh := by
  refine MC.of RX1 (by decide) rfl (Nat.le_of_ble_eq_true rfl) rfl (fun X C hG hR hF => ?_)
  subst hG
  have hcs : True := trivial
  unfold fX1_holdingWith at hf
  refine r_iconst (v := 0) C dX1_holdingWith_0 (by decide) ?_
  refine r_istore_n (i := 3) (lv' := [(0, .ref (gad (xG X) 3)), (1, .ref (gad (xG X) b)), (2, .int a1), (3, .int (0 : Int32))]) C dX1_holdingWith_1 rfl (by decide) [1, 2, 3, 0] rfl ?_
  refine r_iconst (v := 0) C dX1_holdingWith_2 (by decide) ?_
  refine r_istore (i := 4) (lv' := [(0, .ref (gad (xG X) 3)), (1, .ref (gad (xG X) b)), (2, .int a1), (3, .int (0 : Int32)), (4, .int (0 : Int32))]) C dX1_holdingWith_3 (by decide) [1, 2, 3, 4, 0] rfl ?_
  exact r_lv [0, 1, 2, 3, 4] rfl ((wX1_holdingWith hb C hR hcs hF big) _ _ _ _ hf)
def fX1_standingWith (h : Hp) (b : Nat) (a1 : Int32) : Option (Int32 × Hp) := cl2 (fX1_holdingWith h b a1) (fun x3 h1 => cl9 (fX7_standing h1 b x3 (h1 b 8) (h1 b 9)) (fun x4 => some (x4, h1)))
set_option maxHeartbeats 4000000 in
set_option maxRecDepth 100000 in
theorem kX1_standingWith (G : Gx) {b : Nat} (hb : isSky b) {h : Hp} {a1 : Int32} {rr : Int32} {hh : Hp} (hf : fX1_standingWith h b a1 = some (rr, hh)) : MC G yX1_standingWith cX1_standingWith 3 (some .int) 6 384 h [.ref (gad G 3), .ref (gad G b), .int a1] (some (.int rr)) hh := by
  refine MC.of RX1 (by decide) rfl (Nat.le_of_ble_eq_true rfl) rfl (fun X C hG hR hF => ?_)
  subst hG
  have hcs : True := trivial
  unfold fX1_standingWith at hf
  refine r_aload_n (i := 1) C dX1_standingWith_0 rfl 1 rfl ?_
  refine r_aload_n (i := 0) C dX1_standingWith_1 rfl 0 rfl ?_
  refine r_aload_n (i := 1) C dX1_standingWith_2 rfl 1 rfl ?_
  refine r_iload_n (i := 2) C dX1_standingWith_3 rfl 2 rfl ?_
  obtain ⟨x3, h1, e2, hf⟩ := cl2_of hf
  refine r_callVi (As := [.ref (gad (xG X) b), .int a1]) (st := [.ref (gad (xG X) b)]) C 3 rfl (by decide) rfl (kX1_holdingWith (xG X) hb e2) cw_X1_61 rfl rfl (Nat.le_of_ble_eq_true rfl) (zr2 hR rfl rfl) (zrcs hcs) dX1_standingWith_4 ?_
  refine r_aload_n (i := 1) C dX1_standingWith_7 rfl 1 rfl ?_
  refine g_X1_69 hb C dX1_standingWith_8 ?_
  refine r_aload_n (i := 1) C dX1_standingWith_11 rfl 1 rfl ?_
  refine g_X1_72 hb C dX1_standingWith_12 ?_
  obtain ⟨x4, e5, hf⟩ := cl_of hf
  refine r_callNVi (As := [.int x3, .int (h1 b 8), .int (h1 b 9)]) (st := []) C b (sky_d0 hb) (sky_l0 hb) rfl (kX7_standing (xG X) hb e5) cw_X1_75 rfl rfl (Nat.le_of_ble_eq_true rfl) (zr2 hR rfl rfl) (zrcs hcs) dX1_standingWith_15 ?_
  cases hf
  exact r_iret C hF dX1_standingWith_18
def BX1_dayMore_0 (b : Nat) (rec : Hp → Int32 → Int32 → Option (Int32 × Hp)) (h : Hp) (y2 : Int32) (y3 : Int32) : Option (Int32 × Hp) := (if (16 : Int32) ≤ y3 then cl9 ((if y2 = (0 : Int32) then some h else cl9 (fX1_blow h b) (fun h6 => cl9 (fX1_gnaw h6 b) (fun h8 => some h8))) : Option (Hp)) (fun h2 => cl9 (fX1_startOver h2) (fun h10 => cl2 (fX1_holdingWith h10 b (h10 b 5)) (fun x14 h12 => cl9 (fX7_losePins h12 b ((h10 b 5) &&& (x14 ^^^ (-1 : Int32)))) (fun h15 => cl9 (fX7_endDay h15 b) (fun h17 => some (((h b 5) &&& ((h17 b 5) ^^^ (-1 : Int32))), h17)))))) else (if (fX7_hasPin h b y3) = (0 : Int32) then lt9 (y3 + (1 : Int32)) (fun x20 => rec h y2 x20) else cl9 (fX1_rustsBy h b y3) (fun x21 => cl9 (fX7_rustMore h b y3 x21) (fun h23 => lt9 (y3 + (1 : Int32)) (fun x25 => rec h23 y2 x25)))))
def LX1_dayMore (b : Nat) : Nat → Hp → Int32 → Int32 → Option (Int32 × Hp)
  | 0, _, _, _ => none
  | n + 1, h, y2, y3 => BX1_dayMore_0 b (LX1_dayMore b n) h y2 y3
def fX1_dayMore (h : Hp) (b : Nat) (a1 : Int32) : Option (Int32 × Hp) := LX1_dayMore b big h a1 (0 : Int32)
set_option maxHeartbeats 4000000 in
set_option maxRecDepth 100000 in
theorem wX1_dayMore {X : Cx} {b : Nat} (hb : isSky b) {rr : Int32} {hh : Hp} (C : OK X cX1_dayMore 4 RX1 (some .int)) (hR : xR X = { frames := 6, cells := 0, slots := 0, locals := 384 }) (hcs : True) (hF : FinR X (some (.int rr)) hh) : ∀ n : Nat, (∀ (h : Hp) (y2 : Int32) (y3 : Int32), LX1_dayMore b n h y2 y3 = some (rr, hh) → VW X 4 h 0 0 2 [(0, .ref (gad (xG X) 3)), (1, .ref (gad (xG X) b)), (2, .int y2), (3, .int y3)] []) := by
  intro n
  induction n with
  | zero => exact (fun _ _ _ hf => (by rw [LX1_dayMore] at hf; cases hf))
  | succ n ih =>
    intro h y2 y3 hf
    rw [LX1_dayMore] at hf
    unfold BX1_dayMore_0 at hf
    refine r_iload_n (i := 3) C dX1_dayMore_2 rfl 3 rfl ?_
    refine r_bipush (v := 16) C dX1_dayMore_3 (by decide) ?_
    refine r_icmp_ge C 33 dX1_dayMore_5 (by decide) (fun c1 => ?_) (fun c1 => ?_)
    · rw [if_pos c1] at hf
      refine r_aload_n (i := 1) C dX1_dayMore_33 rfl 1 rfl ?_
      refine g_X1_30 hb C dX1_dayMore_34 ?_
      refine r_istore_n (i := 3) (lv' := [(0, .ref (gad (xG X) 3)), (1, .ref (gad (xG X) b)), (2, .int y2), (3, .int (h b 5))]) C dX1_dayMore_37 rfl (by decide) [1, 2, 3, 0] rfl ?_
      refine r_iload_n (i := 2) C dX1_dayMore_38 rfl 2 rfl ?_
      obtain ⟨h2, r4, hf⟩ := cl_of hf
      have k3 : VW X 4 h2 0 0 50 [(0, .ref (gad (xG X) 3)), (1, .ref (gad (xG X) b)), (3, .int (h b 5))] [] := by
        refine r_aload_n (i := 0) C dX1_dayMore_50 rfl 0 rfl ?_
        obtain ⟨h10, e11, hf⟩ := cl_of hf
        refine r_callVv (As := []) (st := []) C 3 rfl (by decide) rfl (kX1_startOver (xG X) e11) cw_X1_58 rfl rfl (Nat.le_of_ble_eq_true rfl) (zr2 hR rfl rfl) (zrcs hcs) dX1_dayMore_51 ?_
        refine r_aload_n (i := 1) C dX1_dayMore_54 rfl 1 rfl ?_
        refine r_aload_n (i := 1) C dX1_dayMore_55 rfl 1 rfl ?_
        refine g_X1_30 hb C dX1_dayMore_56 ?_
        refine r_aload_n (i := 0) C dX1_dayMore_59 rfl 0 rfl ?_
        refine r_aload_n (i := 1) C dX1_dayMore_60 rfl 1 rfl ?_
        refine r_aload_n (i := 1) C dX1_dayMore_61 rfl 1 rfl ?_
        refine g_X1_30 hb C dX1_dayMore_62 ?_
        obtain ⟨x14, h12, e13, hf⟩ := cl2_of hf
        refine r_callVi (As := [.ref (gad (xG X) b), .int (h10 b 5)]) (st := [.int (h10 b 5), .ref (gad (xG X) b)]) C 3 rfl (by decide) rfl (kX1_holdingWith (xG X) hb e13) cw_X1_61 rfl rfl (Nat.le_of_ble_eq_true rfl) (zr2 hR rfl rfl) (zrcs hcs) dX1_dayMore_65 ?_
        refine r_iconst (v := (-1)) C dX1_dayMore_68 (by decide) ?_
        refine r_ixor C dX1_dayMore_69 ?_
        refine r_iand C dX1_dayMore_70 ?_
        obtain ⟨h15, e16, hf⟩ := cl_of hf
        refine r_callNVv (As := [.int ((h10 b 5) &&& (x14 ^^^ (-1 : Int32)))]) (st := []) C b (sky_d0 hb) (sky_l0 hb) rfl (kX7_losePins (xG X) hb e16) cw_X1_118 rfl rfl (Nat.le_of_ble_eq_true rfl) (zr2 hR rfl rfl) (zrcs hcs) dX1_dayMore_71 ?_
        refine r_aload_n (i := 1) C dX1_dayMore_74 rfl 1 rfl ?_
        obtain ⟨h17, e18, hf⟩ := cl_of hf
        refine r_callNVv (As := []) (st := []) C b (sky_d0 hb) (sky_l0 hb) rfl (kX7_endDay (xG X) hb e18) cw_X1_122 rfl rfl (Nat.le_of_ble_eq_true rfl) (zr2 hR rfl rfl) (zrcs hcs) dX1_dayMore_75 ?_
        refine r_iload_n (i := 3) C dX1_dayMore_78 rfl 2 rfl ?_
        refine r_aload_n (i := 1) C dX1_dayMore_79 rfl 1 rfl ?_
        refine g_X1_30 hb C dX1_dayMore_80 ?_
        refine r_iconst (v := (-1)) C dX1_dayMore_83 (by decide) ?_
        refine r_ixor C dX1_dayMore_84 ?_
        refine r_iand C dX1_dayMore_85 ?_
        cases hf
        exact r_iret C hF dX1_dayMore_86
      clear hf
      have hf := r4
      refine r_if_eq C 50 dX1_dayMore_39 (by decide) (fun c5 => ?_) (fun c5 => ?_)
      · rw [if_pos c5] at hf
        cases hf
        exact r_lv [0, 1, 3] rfl k3
      · rw [if_neg c5] at hf
        refine r_aload_n (i := 1) C dX1_dayMore_42 rfl 1 rfl ?_
        obtain ⟨h6, e7, hf⟩ := cl_of hf
        refine r_callSv (As := [.ref (gad (xG X) b)]) (st := []) C (kX1_blow (xG X) hb e7) cw_X1_111 rfl rfl (Nat.le_of_ble_eq_true rfl) (zr2 hR rfl rfl) (zrcs hcs) dX1_dayMore_43 ?_
        refine r_aload_n (i := 1) C dX1_dayMore_46 rfl 1 rfl ?_
        obtain ⟨h8, e9, hf⟩ := cl_of hf
        refine r_callSv (As := [.ref (gad (xG X) b)]) (st := []) C (kX1_gnaw (xG X) hb e9) cw_X1_115 rfl rfl (Nat.le_of_ble_eq_true rfl) (zr2 hR rfl rfl) (zrcs hcs) dX1_dayMore_47 ?_
        cases hf
        exact r_lv [0, 1, 3] rfl k3
    · rw [if_neg c1] at hf
      refine r_aload_n (i := 1) C dX1_dayMore_8 rfl 1 rfl ?_
      refine r_iload_n (i := 3) C dX1_dayMore_9 rfl 3 rfl ?_
      refine r_callNVi (As := [.int y3]) (st := []) C b (sky_d0 hb) (sky_l0 hb) rfl (kX7_hasPin (xG X) hb) cw_X1_38 rfl rfl (Nat.le_of_ble_eq_true rfl) (zr2 hR rfl rfl) (zrcs hcs) dX1_dayMore_10 ?_
      refine r_if_eq C 27 dX1_dayMore_13 (by decide) (fun c19 => ?_) (fun c19 => ?_)
      · rw [if_pos c19] at hf
        obtain ⟨x20, ex20, hf⟩ := lt_of hf
        refine r_iinc (j := 3) (v := x20) (lv' := [(0, .ref (gad (xG X) 3)), (1, .ref (gad (xG X) b)), (2, .int y2), (3, .int x20)]) C dX1_dayMore_27 rfl (by rw [ex20]; rfl) (by decide) [1, 2, 3, 0] rfl ?_
        refine r_goto C 2 dX1_dayMore_30 (by decide) ?_
        exact r_lv [0, 1, 2, 3] rfl (ih _ _ _ hf)
      · rw [if_neg c19] at hf
        refine r_aload_n (i := 1) C dX1_dayMore_16 rfl 1 rfl ?_
        refine r_iload_n (i := 3) C dX1_dayMore_17 rfl 3 rfl ?_
        refine r_aload_n (i := 0) C dX1_dayMore_18 rfl 0 rfl ?_
        refine r_aload_n (i := 1) C dX1_dayMore_19 rfl 1 rfl ?_
        refine r_iload_n (i := 3) C dX1_dayMore_20 rfl 3 rfl ?_
        obtain ⟨x21, e22, hf⟩ := cl_of hf
        refine r_callVi (As := [.ref (gad (xG X) b), .int y3]) (st := [.int y3, .ref (gad (xG X) b)]) C 3 rfl (by decide) rfl (kX1_rustsBy (xG X) hb e22) cw_X1_104 rfl rfl (Nat.le_of_ble_eq_true rfl) (zr2 hR rfl rfl) (zrcs hcs) dX1_dayMore_21 ?_
        obtain ⟨h23, e24, hf⟩ := cl_of hf
        refine r_callNVv (As := [.int y3, .int x21]) (st := []) C b (sky_d0 hb) (sky_l0 hb) rfl (kX7_rustMore (xG X) hb e24) cw_X1_107 rfl rfl (Nat.le_of_ble_eq_true rfl) (zr2 hR rfl rfl) (zrcs hcs) dX1_dayMore_24 ?_
        obtain ⟨x25, ex25, hf⟩ := lt_of hf
        refine r_iinc (j := 3) (v := x25) (lv' := [(0, .ref (gad (xG X) 3)), (1, .ref (gad (xG X) b)), (2, .int y2), (3, .int x25)]) C dX1_dayMore_27 rfl (by rw [ex25]; rfl) (by decide) [1, 2, 3, 0] rfl ?_
        refine r_goto C 2 dX1_dayMore_30 (by decide) ?_
        exact r_lv [0, 1, 2, 3] rfl (ih _ _ _ hf)
set_option maxHeartbeats 4000000 in
set_option maxRecDepth 100000 in
theorem kX1_dayMore (G : Gx) {b : Nat} (hb : isSky b) {h : Hp} {a1 : Int32} {rr : Int32} {hh : Hp} (hf : fX1_dayMore h b a1 = some (rr, hh)) : MC G yX1_dayMore cX1_dayMore 4 (some .int) 6 384 h [.ref (gad G 3), .ref (gad G b), .int a1] (some (.int rr)) hh := by
  refine MC.of RX1 (by decide) rfl (Nat.le_of_ble_eq_true rfl) rfl (fun X C hG hR hF => ?_)
  subst hG
  have hcs : True := trivial
  unfold fX1_dayMore at hf
  refine r_iconst (v := 0) C dX1_dayMore_0 (by decide) ?_
  refine r_istore_n (i := 3) (lv' := [(0, .ref (gad (xG X) 3)), (1, .ref (gad (xG X) b)), (2, .int a1), (3, .int (0 : Int32))]) C dX1_dayMore_1 rfl (by decide) [1, 2, 3, 0] rfl ?_
  exact r_lv [0, 1, 2, 3] rfl ((wX1_dayMore hb C hR hcs hF big) _ _ _ hf)
def fX11_sky (h : Hp) : Option (Int32 × Nat × Hp) := cl9 (fX7_become h 65 32) (fun h1 => cl2 (fX10_readS h1 (14 : Int32)) (fun x5 h3 => lt9 (up2 h3 0 11 x5) (fun h6 => (if (h6 0 11) = (-1 : Int32) then (if (h6 32 16) < (12 : Int32) then cl9 (fX7_become h6 32 65) (fun h9 => lt9 (up2 h9 32 16 ((h9 32 16) + (1 : Int32))) (fun h11 => cl9 (fX5_forget h11) (fun h12 => some ((h12 32 16), 0, h12)))) else some ((0 : Int32), 5, h6)) else some ((0 : Int32), 3, h6)))))
set_option maxHeartbeats 4000000 in
set_option maxRecDepth 100000 in
theorem kX11_sky (G : Gx)  {h : Hp}  {rr : Int32} {kk : Nat} {hh : Hp} (hf : fX11_sky h = some (rr, kk, hh)) : MX G yX11_sky cX11_sky 1 (some .int) 10 640 h [.ref (gad G 0)] (some (.int rr)) kk hh := by
  refine MX.of RX11 (by decide) rfl (Nat.le_of_ble_eq_true rfl) rfl (fun X C hG hR hE => ?_)
  subst hG
  have hcs : True := trivial
  unfold fX11_sky at hf
  refine r_aload_n (i := 0) C dX11_sky_0 rfl 0 rfl ?_
  refine g_X11_26 C dX11_sky_1 ?_
  refine g_X11_100 C dX11_sky_4 ?_
  refine r_aload_n (i := 0) C dX11_sky_7 rfl 0 rfl ?_
  refine g_X11_54 C dX11_sky_8 ?_
  obtain ⟨h1, e2, hf⟩ := cl_of hf
  refine r_callNVv (As := [.ref (gad (xG X) 32)]) (st := []) C 65 (sky_d0 sk65) (sky_l0 sk65) rfl (kX7_become (xG X) sk65 sk32 e2) cw_X11_101 rfl rfl (Nat.le_of_ble_eq_true rfl) (zq2 hR rfl rfl) (zrcs hcs) dX11_sky_11 ?_
  refine r_aload_n (i := 0) C dX11_sky_14 rfl 0 rfl ?_
  refine r_aload_n (i := 0) C dX11_sky_15 rfl 0 rfl ?_
  refine g_X11_26 C dX11_sky_16 ?_
  refine r_aload_n (i := 0) C dX11_sky_19 rfl 0 rfl ?_
  refine g_X11_10 C dX11_sky_20 ?_
  refine r_bipush (v := 14) C dX11_sky_23 (by decide) ?_
  obtain ⟨x5, h3, e4, hf⟩ := cl2_of hf
  refine r_callUi (As := [.ref (gad (xG X) 1), .int (14 : Int32)]) (st := [.ref (gad (xG X) 0)]) C 11 rfl (by decide) rfl (kX10_readS (xG X) e4) cu_X11_105_X8 rfl rfl (Nat.le_of_ble_eq_true rfl) (zq2 hR rfl rfl) (zrcs hcs) dX11_sky_25 ?_
  obtain ⟨h6, eh6, hf⟩ := lt_of hf
  refine p_X11_71 C eh6 dX11_sky_28 ?_
  refine r_aload_n (i := 0) C dX11_sky_31 rfl 0 rfl ?_
  refine g_X11_71 C dX11_sky_32 ?_
  refine r_iconst (v := (-1)) C dX11_sky_35 (by decide) ?_
  refine r_icmp_eq C 47 dX11_sky_36 (by decide) (fun c7 => ?_) (fun c7 => ?_)
  · rw [if_pos c7] at hf
    refine r_aload_n (i := 0) C dX11_sky_47 rfl 0 rfl ?_
    refine g_X11_54 C dX11_sky_48 ?_
    refine g_X11_112 sk32 C dX11_sky_51 ?_
    refine r_bipush (v := 12) C dX11_sky_54 (by decide) ?_
    refine r_icmp_lt C 67 dX11_sky_56 (by decide) (fun c8 => ?_) (fun c8 => ?_)
    · rw [if_pos c8] at hf
      refine r_aload_n (i := 0) C dX11_sky_67 rfl 0 rfl ?_
      refine g_X11_54 C dX11_sky_68 ?_
      refine r_aload_n (i := 0) C dX11_sky_71 rfl 0 rfl ?_
      refine g_X11_26 C dX11_sky_72 ?_
      refine g_X11_100 C dX11_sky_75 ?_
      obtain ⟨h9, e10, hf⟩ := cl_of hf
      refine r_callNVv (As := [.ref (gad (xG X) 65)]) (st := []) C 32 (sky_d0 sk32) (sky_l0 sk32) rfl (kX7_become (xG X) sk32 sk65 e10) cw_X11_101 rfl rfl (Nat.le_of_ble_eq_true rfl) (zq2 hR rfl rfl) (zrcs hcs) dX11_sky_78 ?_
      refine r_aload_n (i := 0) C dX11_sky_81 rfl 0 rfl ?_
      refine g_X11_54 C dX11_sky_82 ?_
      refine r_dup C dX11_sky_85 rfl ?_
      refine g_X11_112 sk32 C dX11_sky_86 ?_
      refine r_iconst (v := 1) C dX11_sky_89 (by decide) ?_
      refine r_iadd C dX11_sky_90 ?_
      obtain ⟨h11, eh11, hf⟩ := lt_of hf
      refine p_X11_112 sk32 C eh11 dX11_sky_91 ?_
      refine r_aload_n (i := 0) C dX11_sky_94 rfl 0 rfl ?_
      refine g_X11_40 C dX11_sky_95 ?_
      obtain ⟨h12, e13, hf⟩ := cl_of hf
      refine r_callNVv (As := []) (st := []) C 18 rfl (by decide) rfl (kX5_forget (xG X) e13) cw_X11_118 rfl rfl (Nat.le_of_ble_eq_true rfl) (zq2 hR rfl rfl) (zrcs hcs) dX11_sky_98 ?_
      refine r_aload_n (i := 0) C dX11_sky_101 rfl 0 rfl ?_
      refine g_X11_54 C dX11_sky_102 ?_
      refine g_X11_112 sk32 C dX11_sky_105 ?_
      cases hf
      exact r_iret C (hE.1 rfl) dX11_sky_108
    · rw [if_neg c8] at hf
      cases hf
      exact r_throw C (by decide) (hE.2 (by decide)) (zqt (by decide) hR rfl rfl) tw_5 (Nat.le_of_ble_eq_true rfl) dX11_sky_59 dX11_sky_62 dX11_sky_63 dX11_sky_66
  · rw [if_neg c7] at hf
    cases hf
    exact r_throw C (by decide) (hE.2 (by decide)) (zqt (by decide) hR rfl rfl) tw_3 (Nat.le_of_ble_eq_true rfl) dX11_sky_39 dX11_sky_42 dX11_sky_43 dX11_sky_46
def fX11_law (h : Hp) : Option (Int32 × Nat × Hp) := cl9 (fX2_clear h 13) (fun h1 => cl2 (fX10_readL h1 (12 : Int32)) (fun x5 h3 => lt9 (up2 h3 0 11 x5) (fun h6 => (if (h6 0 11) = (-1 : Int32) then cl9 (fX2_become h6 6 13) (fun h8 => cl9 (fX5_forget h8) (fun h10 => some ((h10 6 0), 0, h10))) else some ((0 : Int32), 3, h6)))))
set_option maxHeartbeats 4000000 in
set_option maxRecDepth 100000 in
theorem kX11_law (G : Gx)  {h : Hp}  {rr : Int32} {kk : Nat} {hh : Hp} (hf : fX11_law h = some (rr, kk, hh)) : MX G yX11_law cX11_law 1 (some .int) 87 5568 h [.ref (gad G 0)] (some (.int rr)) kk hh := by
  refine MX.of RX11 (by decide) rfl (Nat.le_of_ble_eq_true rfl) rfl (fun X C hG hR hE => ?_)
  subst hG
  have hcs : True := trivial
  unfold fX11_law at hf
  refine r_aload_n (i := 0) C dX11_law_0 rfl 0 rfl ?_
  refine g_X11_33 C dX11_law_1 ?_
  refine g_X11_121 C dX11_law_4 ?_
  obtain ⟨h1, e2, hf⟩ := cl_of hf
  refine r_callNVv (As := []) (st := []) C 13 (law_d0 lk13) (law_l0 lk13) rfl (kX2_clear (xG X) lk13 e2) cw_X11_123 rfl rfl (Nat.le_of_ble_eq_true rfl) (zq2 hR rfl rfl) (zrcs hcs) dX11_law_7 ?_
  refine r_aload_n (i := 0) C dX11_law_10 rfl 0 rfl ?_
  refine r_aload_n (i := 0) C dX11_law_11 rfl 0 rfl ?_
  refine g_X11_33 C dX11_law_12 ?_
  refine r_aload_n (i := 0) C dX11_law_15 rfl 0 rfl ?_
  refine g_X11_10 C dX11_law_16 ?_
  refine r_bipush (v := 12) C dX11_law_19 (by decide) ?_
  obtain ⟨x5, h3, e4, hf⟩ := cl2_of hf
  refine r_callUi (As := [.ref (gad (xG X) 1), .int (12 : Int32)]) (st := [.ref (gad (xG X) 0)]) C 12 rfl (by decide) rfl (kX10_readL (xG X) e4) cu_X11_126_X3 rfl rfl (Nat.le_of_ble_eq_true rfl) (zq2 hR rfl rfl) (zrcs hcs) dX11_law_21 ?_
  obtain ⟨h6, eh6, hf⟩ := lt_of hf
  refine p_X11_71 C eh6 dX11_law_24 ?_
  refine r_aload_n (i := 0) C dX11_law_27 rfl 0 rfl ?_
  refine g_X11_71 C dX11_law_28 ?_
  refine r_iconst (v := (-1)) C dX11_law_31 (by decide) ?_
  refine r_icmp_eq C 43 dX11_law_32 (by decide) (fun c7 => ?_) (fun c7 => ?_)
  · rw [if_pos c7] at hf
    refine r_aload_n (i := 0) C dX11_law_43 rfl 0 rfl ?_
    refine g_X11_19 C dX11_law_44 ?_
    refine g_X11_127 C dX11_law_47 ?_
    refine r_aload_n (i := 0) C dX11_law_50 rfl 0 rfl ?_
    refine g_X11_33 C dX11_law_51 ?_
    refine g_X11_121 C dX11_law_54 ?_
    obtain ⟨h8, e9, hf⟩ := cl_of hf
    refine r_callNVv (As := [.ref (gad (xG X) 13)]) (st := []) C 6 (law_d0 lk6) (law_l0 lk6) rfl (kX2_become (xG X) lk6 lk13 e9) cw_X11_130 rfl rfl (Nat.le_of_ble_eq_true rfl) (zq2 hR rfl rfl) (zrcs hcs) dX11_law_57 ?_
    refine r_aload_n (i := 0) C dX11_law_60 rfl 0 rfl ?_
    refine g_X11_40 C dX11_law_61 ?_
    obtain ⟨h10, e11, hf⟩ := cl_of hf
    refine r_callNVv (As := []) (st := []) C 18 rfl (by decide) rfl (kX5_forget (xG X) e11) cw_X11_118 rfl rfl (Nat.le_of_ble_eq_true rfl) (zq2 hR rfl rfl) (zrcs hcs) dX11_law_64 ?_
    refine r_aload_n (i := 0) C dX11_law_67 rfl 0 rfl ?_
    refine g_X11_19 C dX11_law_68 ?_
    refine g_X11_127 C dX11_law_71 ?_
    refine g_X11_133 lk6 C dX11_law_74 ?_
    cases hf
    exact r_iret C (hE.1 rfl) dX11_law_77
  · rw [if_neg c7] at hf
    cases hf
    exact r_throw C (by decide) (hE.2 (by decide)) (zqt (by decide) hR rfl rfl) tw_3 (Nat.le_of_ble_eq_true rfl) dX11_law_35 dX11_law_38 dX11_law_39 dX11_law_42
def BX11_gives_0  (rec : Hp → Int32 → Int32 → Option (Int32 × Hp)) (h : Hp) (y1 : Int32) (y2 : Int32) : Option (Int32 × Hp) := (if (60 : Int32) < y2 then (if y1 = (0 : Int32) then some ((-1 : Int32), h) else some ((0 : Int32), h)) else cl2 (fX1_dayMore h 43 (0 : Int32)) (fun x5 h3 => (if x5 = (0 : Int32) then lt9 (y2 + (1 : Int32)) (fun x7 => rec h3 y1 x7) else (if y1 = (0 : Int32) then some (y2, h3) else some (x5, h3)))))
def LX11_gives  : Nat → Hp → Int32 → Int32 → Option (Int32 × Hp)
  | 0, _, _, _ => none
  | n + 1, h, y1, y2 => BX11_gives_0  (LX11_gives  n) h y1 y2
def fX11_gives (h : Hp) (a1 : Int32) : Option (Int32 × Hp) := cl9 (fX7_become h 43 32) (fun h9 => LX11_gives big h9 a1 (1 : Int32))
set_option maxHeartbeats 4000000 in
set_option maxRecDepth 100000 in
theorem wX11_gives {X : Cx}  {rr : Int32} {hh : Hp} (C : OK X cX11_gives 4 RX11 (some .int)) (hR : xR X = { frames := 7, cells := 0, slots := 0, locals := 448 }) (hcs : True) (hF : FinR X (some (.int rr)) hh) : ∀ n : Nat, (∀ (h : Hp) (y1 : Int32) (y2 : Int32), LX11_gives  n h y1 y2 = some (rr, hh) → VW X 4 h 0 0 13 [(0, .ref (gad (xG X) 0)), (1, .int y1), (2, .int y2)] []) := by
  intro n
  induction n with
  | zero => exact (fun _ _ _ hf => (by rw [LX11_gives] at hf; cases hf))
  | succ n ih =>
    intro h y1 y2 hf
    rw [LX11_gives] at hf
    unfold BX11_gives_0 at hf
    refine r_iload_n (i := 2) C dX11_gives_13 rfl 2 rfl ?_
    refine r_bipush (v := 60) C dX11_gives_14 (by decide) ?_
    refine r_icmp_gt C 52 dX11_gives_16 (by decide) (fun c1 => ?_) (fun c1 => ?_)
    · rw [if_pos c1] at hf
      refine r_iload_n (i := 1) C dX11_gives_52 rfl 1 rfl ?_
      refine r_if_eq C 60 dX11_gives_53 (by decide) (fun c2 => ?_) (fun c2 => ?_)
      · rw [if_pos c2] at hf
        refine r_iconst (v := (-1)) C dX11_gives_60 (by decide) ?_
        cases hf
        exact r_iret C hF dX11_gives_61
      · rw [if_neg c2] at hf
        refine r_iconst (v := 0) C dX11_gives_56 (by decide) ?_
        refine r_goto C 61 dX11_gives_57 (by decide) ?_
        cases hf
        exact r_iret C hF dX11_gives_61
    · rw [if_neg c1] at hf
      refine r_aload_n (i := 0) C dX11_gives_19 rfl 0 rfl ?_
      refine g_X11_19 C dX11_gives_20 ?_
      refine r_aload_n (i := 0) C dX11_gives_23 rfl 0 rfl ?_
      refine g_X11_58 C dX11_gives_24 ?_
      refine r_iconst (v := 0) C dX11_gives_27 (by decide) ?_
      obtain ⟨x5, h3, e4, hf⟩ := cl2_of hf
      refine r_callNVi (As := [.ref (gad (xG X) 43), .int (0 : Int32)]) (st := []) C 3 rfl (by decide) rfl (kX1_dayMore (xG X) sk43 e4) cw_X11_253 rfl rfl (Nat.le_of_ble_eq_true rfl) (zr2 hR rfl rfl) (zrcs hcs) dX11_gives_28 ?_
      refine r_istore_n (i := 3) (lv' := [(0, .ref (gad (xG X) 0)), (1, .int y1), (2, .int y2), (3, .int x5)]) C dX11_gives_31 rfl (by decide) [1, 2, 3, 0] rfl ?_
      refine r_iload_n (i := 3) C dX11_gives_32 rfl 3 rfl ?_
      refine r_if_eq C 46 dX11_gives_33 (by decide) (fun c6 => ?_) (fun c6 => ?_)
      · rw [if_pos c6] at hf
        obtain ⟨x7, ex7, hf⟩ := lt_of hf
        refine r_iinc (j := 2) (v := x7) (lv' := [(0, .ref (gad (xG X) 0)), (1, .int y1), (2, .int x7), (3, .int x5)]) C dX11_gives_46 rfl (by rw [ex7]; rfl) (by decide) [1, 2, 0, 3] rfl ?_
        refine r_goto C 13 dX11_gives_49 (by decide) ?_
        exact r_lv [0, 1, 2] rfl (ih _ _ _ hf)
      · rw [if_neg c6] at hf
        refine r_iload_n (i := 1) C dX11_gives_36 rfl 1 rfl ?_
        refine r_if_eq C 44 dX11_gives_37 (by decide) (fun c8 => ?_) (fun c8 => ?_)
        · rw [if_pos c8] at hf
          refine r_iload_n (i := 2) C dX11_gives_44 rfl 2 rfl ?_
          cases hf
          exact r_iret C hF dX11_gives_45
        · rw [if_neg c8] at hf
          refine r_iload_n (i := 3) C dX11_gives_40 rfl 3 rfl ?_
          refine r_goto C 45 dX11_gives_41 (by decide) ?_
          cases hf
          exact r_iret C hF dX11_gives_45
set_option maxHeartbeats 4000000 in
set_option maxRecDepth 100000 in
theorem kX11_gives (G : Gx)  {h : Hp} {a1 : Int32} {rr : Int32} {hh : Hp} (hf : fX11_gives h a1 = some (rr, hh)) : MC G yX11_gives cX11_gives 4 (some .int) 7 448 h [.ref (gad G 0), .int a1] (some (.int rr)) hh := by
  refine MC.of RX11 (by decide) rfl (Nat.le_of_ble_eq_true rfl) rfl (fun X C hG hR hF => ?_)
  subst hG
  have hcs : True := trivial
  unfold fX11_gives at hf
  refine r_aload_n (i := 0) C dX11_gives_0 rfl 0 rfl ?_
  refine g_X11_58 C dX11_gives_1 ?_
  refine r_aload_n (i := 0) C dX11_gives_4 rfl 0 rfl ?_
  refine g_X11_54 C dX11_gives_5 ?_
  obtain ⟨h9, e10, hf⟩ := cl_of hf
  refine r_callNVv (As := [.ref (gad (xG X) 32)]) (st := []) C 43 (sky_d0 sk43) (sky_l0 sk43) rfl (kX7_become (xG X) sk43 sk32 e10) cw_X11_101 rfl rfl (Nat.le_of_ble_eq_true rfl) (zr2 hR rfl rfl) (zrcs hcs) dX11_gives_8 ?_
  refine r_iconst (v := 1) C dX11_gives_11 (by decide) ?_
  refine r_istore_n (i := 2) (lv' := [(0, .ref (gad (xG X) 0)), (1, .int a1), (2, .int (1 : Int32))]) C dX11_gives_12 rfl (by decide) [1, 2, 0] rfl ?_
  exact r_lv [0, 1, 2] rfl ((wX11_gives  C hR hcs hF big) _ _ _ hf)
def BX11_first_0  (rec : Hp → Int32 → Int32 → Int32 → Int32 → Option (Int32 × Hp)) (h : Hp) (y1 : Int32) (y2 : Int32) (y3 : Int32) (y4 : Int32) : Option (Int32 × Hp) := (if (16 : Int32) ≤ y4 then some (y2, h) else (if (fX11_has y1 y4) = (0 : Int32) then lt9 (y4 + (1 : Int32)) (fun x3 => rec h y1 y2 y3 x3) else cl2 (fX1_standingWith h 32 ((h 32 5) ||| ((1 : Int32) <<< (y4 &&& 31)))) (fun x6 h4 => lt9 (fJ_bitCount x6) (fun x7 => (if x7 ≤ y3 then lt9 (y4 + (1 : Int32)) (fun x9 => rec h4 y1 y2 y3 x9) else lt9 (y4 + (1 : Int32)) (fun x10 => rec h4 y1 y4 x7 x10))))))
def LX11_first  : Nat → Hp → Int32 → Int32 → Int32 → Int32 → Option (Int32 × Hp)
  | 0, _, _, _, _, _ => none
  | n + 1, h, y1, y2, y3, y4 => BX11_first_0  (LX11_first  n) h y1 y2 y3 y4
def fX11_first (h : Hp) : Option (Int32 × Hp) := cl9 (fX1_startOver h) (fun h11 => lt9 (fX7_free h11 32) (fun x13 => LX11_first big h11 x13 (-1 : Int32) (-1 : Int32) (0 : Int32)))
set_option maxHeartbeats 4000000 in
set_option maxRecDepth 100000 in
theorem wX11_first {X : Cx}  {rr : Int32} {hh : Hp} (C : OK X cX11_first 6 RX11 (some .int)) (hR : xR X = { frames := 7, cells := 0, slots := 0, locals := 448 }) (hcs : True) (hF : FinR X (some (.int rr)) hh) : ∀ n : Nat, (∀ (h : Hp) (y1 : Int32) (y2 : Int32) (y3 : Int32) (y4 : Int32), LX11_first  n h y1 y2 y3 y4 = some (rr, hh) → VW X 6 h 0 0 22 [(0, .ref (gad (xG X) 0)), (1, .int y1), (2, .int y2), (3, .int y3), (4, .int y4)] []) := by
  intro n
  induction n with
  | zero => exact (fun _ _ _ _ _ hf => (by rw [LX11_first] at hf; cases hf))
  | succ n ih =>
    intro h y1 y2 y3 y4 hf
    rw [LX11_first] at hf
    unfold BX11_first_0 at hf
    refine r_iload (i := 4) C dX11_first_22 4 rfl ?_
    refine r_bipush (v := 16) C dX11_first_24 (by decide) ?_
    refine r_icmp_ge C 84 dX11_first_26 (by decide) (fun c1 => ?_) (fun c1 => ?_)
    · rw [if_pos c1] at hf
      refine r_iload_n (i := 2) C dX11_first_84 rfl 2 rfl ?_
      cases hf
      exact r_iret C hF dX11_first_85
    · rw [if_neg c1] at hf
      refine r_iload_n (i := 1) C dX11_first_29 rfl 1 rfl ?_
      refine r_iload (i := 4) C dX11_first_30 4 rfl ?_
      refine r_callSi (As := [.int y1, .int y4]) (st := []) C (kX11_has (xG X)) cw_X11_165 rfl rfl (Nat.le_of_ble_eq_true rfl) (zr2 hR rfl rfl) (zrcs hcs) dX11_first_32 ?_
      refine r_if_eq C 78 dX11_first_35 (by decide) (fun c2 => ?_) (fun c2 => ?_)
      · rw [if_pos c2] at hf
        obtain ⟨x3, ex3, hf⟩ := lt_of hf
        refine r_iinc (j := 4) (v := x3) (lv' := [(0, .ref (gad (xG X) 0)), (1, .int y1), (2, .int y2), (3, .int y3), (4, .int x3)]) C dX11_first_78 rfl (by rw [ex3]; rfl) (by decide) [1, 2, 3, 4, 0] rfl ?_
        refine r_goto C 22 dX11_first_81 (by decide) ?_
        exact r_lv [0, 1, 2, 3, 4] rfl (ih _ _ _ _ _ hf)
      · rw [if_neg c2] at hf
        refine r_aload_n (i := 0) C dX11_first_38 rfl 0 rfl ?_
        refine g_X11_19 C dX11_first_39 ?_
        refine r_aload_n (i := 0) C dX11_first_42 rfl 0 rfl ?_
        refine g_X11_54 C dX11_first_43 ?_
        refine r_aload_n (i := 0) C dX11_first_46 rfl 0 rfl ?_
        refine g_X11_54 C dX11_first_47 ?_
        refine g_X11_276 sk32 C dX11_first_50 ?_
        refine r_iconst (v := 1) C dX11_first_53 (by decide) ?_
        refine r_iload (i := 4) C dX11_first_54 4 rfl ?_
        refine r_ishl C dX11_first_56 ?_
        refine r_ior C dX11_first_57 ?_
        obtain ⟨x6, h4, e5, hf⟩ := cl2_of hf
        refine r_callNVi (As := [.ref (gad (xG X) 32), .int ((h 32 5) ||| ((1 : Int32) <<< (y4 &&& 31)))]) (st := []) C 3 rfl (by decide) rfl (kX1_standingWith (xG X) sk32 e5) cw_X11_279 rfl rfl (Nat.le_of_ble_eq_true rfl) (zr2 hR rfl rfl) (zrcs hcs) dX11_first_58 ?_
        refine r_callSi (As := [.int x6]) (st := []) C (kJ_bitCount (xG X)) cw_X11_257 rfl rfl (Nat.le_of_ble_eq_true rfl) (zr2 hR rfl rfl) (zrcs hcs) dX11_first_61 ?_
        obtain ⟨x7, ex7, hf⟩ := lt_of hf
        refine r_top ex7 ?_
        refine r_istore (i := 5) (lv' := [(0, .ref (gad (xG X) 0)), (1, .int y1), (2, .int y2), (3, .int y3), (4, .int y4), (5, .int x7)]) C dX11_first_64 (by decide) [1, 2, 3, 4, 5, 0] rfl ?_
        refine r_iload (i := 5) C dX11_first_66 5 rfl ?_
        refine r_iload_n (i := 3) C dX11_first_68 rfl 3 rfl ?_
        refine r_icmp_le C 78 dX11_first_69 (by decide) (fun c8 => ?_) (fun c8 => ?_)
        · rw [if_pos c8] at hf
          obtain ⟨x9, ex9, hf⟩ := lt_of hf
          refine r_iinc (j := 4) (v := x9) (lv' := [(0, .ref (gad (xG X) 0)), (1, .int y1), (2, .int y2), (3, .int y3), (4, .int x9), (5, .int x7)]) C dX11_first_78 rfl (by rw [ex9]; rfl) (by decide) [1, 2, 3, 4, 0, 5] rfl ?_
          refine r_goto C 22 dX11_first_81 (by decide) ?_
          exact r_lv [0, 1, 2, 3, 4] rfl (ih _ _ _ _ _ hf)
        · rw [if_neg c8] at hf
          refine r_iload (i := 5) C dX11_first_72 5 rfl ?_
          refine r_istore_n (i := 3) (lv' := [(0, .ref (gad (xG X) 0)), (1, .int y1), (2, .int y2), (3, .int x7), (4, .int y4), (5, .int x7)]) C dX11_first_74 rfl (by decide) [1, 2, 3, 0, 4, 5] rfl ?_
          refine r_iload (i := 4) C dX11_first_75 4 rfl ?_
          refine r_istore_n (i := 2) (lv' := [(0, .ref (gad (xG X) 0)), (1, .int y1), (2, .int y4), (3, .int x7), (4, .int y4), (5, .int x7)]) C dX11_first_77 rfl (by decide) [1, 2, 0, 3, 4, 5] rfl ?_
          obtain ⟨x10, ex10, hf⟩ := lt_of hf
          refine r_iinc (j := 4) (v := x10) (lv' := [(0, .ref (gad (xG X) 0)), (1, .int y1), (2, .int y4), (3, .int x7), (4, .int x10), (5, .int x7)]) C dX11_first_78 rfl (by rw [ex10]; rfl) (by decide) [1, 2, 3, 4, 0, 5] rfl ?_
          refine r_goto C 22 dX11_first_81 (by decide) ?_
          exact r_lv [0, 1, 2, 3, 4] rfl (ih _ _ _ _ _ hf)
set_option maxHeartbeats 4000000 in
set_option maxRecDepth 100000 in
theorem kX11_first (G : Gx)  {h : Hp}  {rr : Int32} {hh : Hp} (hf : fX11_first h = some (rr, hh)) : MC G yX11_first cX11_first 6 (some .int) 7 448 h [.ref (gad G 0)] (some (.int rr)) hh := by
  refine MC.of RX11 (by decide) rfl (Nat.le_of_ble_eq_true rfl) rfl (fun X C hG hR hF => ?_)
  subst hG
  have hcs : True := trivial
  unfold fX11_first at hf
  refine r_aload_n (i := 0) C dX11_first_0 rfl 0 rfl ?_
  refine g_X11_19 C dX11_first_1 ?_
  obtain ⟨h11, e12, hf⟩ := cl_of hf
  refine r_callNVv (As := []) (st := []) C 3 rfl (by decide) rfl (kX1_startOver (xG X) e12) cw_X11_273 rfl rfl (Nat.le_of_ble_eq_true rfl) (zr2 hR rfl rfl) (zrcs hcs) dX11_first_4 ?_
  refine r_aload_n (i := 0) C dX11_first_7 rfl 0 rfl ?_
  refine g_X11_54 C dX11_first_8 ?_
  refine r_callNVi (As := []) (st := []) C 32 (sky_d0 sk32) (sky_l0 sk32) rfl (kX7_free (xG X) sk32) cw_X11_265 rfl rfl (Nat.le_of_ble_eq_true rfl) (zr2 hR rfl rfl) (zrcs hcs) dX11_first_11 ?_
  obtain ⟨x13, ex13, hf⟩ := lt_of hf
  refine r_top ex13 ?_
  refine r_istore_n (i := 1) (lv' := [(0, .ref (gad (xG X) 0)), (1, .int x13)]) C dX11_first_14 rfl (by decide) [1, 0] rfl ?_
  refine r_iconst (v := (-1)) C dX11_first_15 (by decide) ?_
  refine r_istore_n (i := 2) (lv' := [(0, .ref (gad (xG X) 0)), (1, .int x13), (2, .int (-1 : Int32))]) C dX11_first_16 rfl (by decide) [1, 2, 0] rfl ?_
  refine r_iconst (v := (-1)) C dX11_first_17 (by decide) ?_
  refine r_istore_n (i := 3) (lv' := [(0, .ref (gad (xG X) 0)), (1, .int x13), (2, .int (-1 : Int32)), (3, .int (-1 : Int32))]) C dX11_first_18 rfl (by decide) [1, 2, 3, 0] rfl ?_
  refine r_iconst (v := 0) C dX11_first_19 (by decide) ?_
  refine r_istore (i := 4) (lv' := [(0, .ref (gad (xG X) 0)), (1, .int x13), (2, .int (-1 : Int32)), (3, .int (-1 : Int32)), (4, .int (0 : Int32))]) C dX11_first_20 (by decide) [1, 2, 3, 4, 0] rfl ?_
  exact r_lv [0, 1, 2, 3, 4] rfl ((wX11_first  C hR hcs hF big) _ _ _ _ _ hf)
def fX11_standingWithout (h : Hp) (a1 : Int32) : Option (Int32 × Hp) := cl2 (fX1_standingWith h 32 ((h 32 5) &&& (((1 : Int32) <<< (a1 &&& 31)) ^^^ (-1 : Int32)))) (fun x3 h1 => some (x3, h1))
set_option maxHeartbeats 4000000 in
set_option maxRecDepth 100000 in
theorem kX11_standingWithout (G : Gx)  {h : Hp} {a1 : Int32} {rr : Int32} {hh : Hp} (hf : fX11_standingWithout h a1 = some (rr, hh)) : MC G yX11_standingWithout cX11_standingWithout 2 (some .int) 7 448 h [.ref (gad G 0), .int a1] (some (.int rr)) hh := by
  refine MC.of RX11 (by decide) rfl (Nat.le_of_ble_eq_true rfl) rfl (fun X C hG hR hF => ?_)
  subst hG
  have hcs : True := trivial
  unfold fX11_standingWithout at hf
  refine r_aload_n (i := 0) C dX11_standingWithout_0 rfl 0 rfl ?_
  refine g_X11_19 C dX11_standingWithout_1 ?_
  refine r_aload_n (i := 0) C dX11_standingWithout_4 rfl 0 rfl ?_
  refine g_X11_54 C dX11_standingWithout_5 ?_
  refine r_aload_n (i := 0) C dX11_standingWithout_8 rfl 0 rfl ?_
  refine g_X11_54 C dX11_standingWithout_9 ?_
  refine g_X11_276 sk32 C dX11_standingWithout_12 ?_
  refine r_iconst (v := 1) C dX11_standingWithout_15 (by decide) ?_
  refine r_iload_n (i := 1) C dX11_standingWithout_16 rfl 1 rfl ?_
  refine r_ishl C dX11_standingWithout_17 ?_
  refine r_iconst (v := (-1)) C dX11_standingWithout_18 (by decide) ?_
  refine r_ixor C dX11_standingWithout_19 ?_
  refine r_iand C dX11_standingWithout_20 ?_
  obtain ⟨x3, h1, e2, hf⟩ := cl2_of hf
  refine r_callNVi (As := [.ref (gad (xG X) 32), .int ((h 32 5) &&& (((1 : Int32) <<< (a1 &&& 31)) ^^^ (-1 : Int32)))]) (st := []) C 3 rfl (by decide) rfl (kX1_standingWith (xG X) sk32 e2) cw_X11_279 rfl rfl (Nat.le_of_ble_eq_true rfl) (zr2 hR rfl rfl) (zrcs hcs) dX11_standingWithout_21 ?_
  cases hf
  exact r_iret C hF dX11_standingWithout_24
def BX11_leastPins_0  (rec : Hp → Int32 → Int32 → Int32 → Int32 → Option (Int32 × Hp)) (h : Hp) (y2 : Int32) (y3 : Int32) (y4 : Int32) (y5 : Int32) : Option (Int32 × Hp) := (if (65535 : Int32) ≤ y5 then some ((-1 : Int32), h) else (if (65535 : Int32) < y4 then some ((-1 : Int32), h) else (if (y4 &&& (y2 ^^^ (-1 : Int32))) = (0 : Int32) then cl2 (fX1_standingWith h 32 ((h 32 5) ||| y4)) (fun x9 h7 => (if (y3 &&& (x9 ^^^ (-1 : Int32))) = (0 : Int32) then some (y4, h7) else cl9 (fX11_nextOfSameSize h7 y4) (fun x11 => lt9 (y5 + (1 : Int32)) (fun x13 => rec h7 y2 y3 x11 x13)))) else cl9 (fX11_nextOfSameSize h y4) (fun x4 => lt9 (y5 + (1 : Int32)) (fun x6 => rec h y2 y3 x4 x6)))))
def LX11_leastPins  : Nat → Hp → Int32 → Int32 → Int32 → Int32 → Option (Int32 × Hp)
  | 0, _, _, _, _, _ => none
  | n + 1, h, y2, y3, y4, y5 => BX11_leastPins_0  (LX11_leastPins  n) h y2 y3 y4 y5
def fX11_leastPins (h : Hp) (a1 : Int32) (a2 : Int32) (a3 : Int32) : Option (Int32 × Hp) := lt9 (((1 : Int32) <<< (a1 &&& 31)) - (1 : Int32)) (fun x14 => LX11_leastPins big h a2 a3 x14 (0 : Int32))
set_option maxHeartbeats 4000000 in
set_option maxRecDepth 100000 in
theorem wX11_leastPins {X : Cx}  {rr : Int32} {hh : Hp} (C : OK X cX11_leastPins 6 RX11 (some .int)) (hR : xR X = { frames := 7, cells := 0, slots := 0, locals := 448 }) (hcs : True) (hF : FinR X (some (.int rr)) hh) : ∀ n : Nat, (∀ (h : Hp) (y2 : Int32) (y3 : Int32) (y4 : Int32) (y5 : Int32), LX11_leastPins  n h y2 y3 y4 y5 = some (rr, hh) → VW X 6 h 0 0 10 [(0, .ref (gad (xG X) 0)), (2, .int y2), (3, .int y3), (4, .int y4), (5, .int y5)] []) := by
  intro n
  induction n with
  | zero => exact (fun _ _ _ _ _ hf => (by rw [LX11_leastPins] at hf; cases hf))
  | succ n ih =>
    intro h y2 y3 y4 y5 hf
    rw [LX11_leastPins] at hf
    unfold BX11_leastPins_0 at hf
    refine r_iload (i := 5) C dX11_leastPins_10 4 rfl ?_
    refine r_ldc (v := 65535) C dX11_leastPins_12 gw_555 ?_
    refine r_icmp_ge C 77 dX11_leastPins_14 (by decide) (fun c1 => ?_) (fun c1 => ?_)
    · rw [if_pos c1] at hf
      refine r_iconst (v := (-1)) C dX11_leastPins_77 (by decide) ?_
      cases hf
      exact r_iret C hF dX11_leastPins_78
    · rw [if_neg c1] at hf
      refine r_iload (i := 4) C dX11_leastPins_17 3 rfl ?_
      refine r_ldc (v := 65535) C dX11_leastPins_19 gw_555 ?_
      refine r_icmp_gt C 77 dX11_leastPins_21 (by decide) (fun c2 => ?_) (fun c2 => ?_)
      · rw [if_pos c2] at hf
        refine r_iconst (v := (-1)) C dX11_leastPins_77 (by decide) ?_
        cases hf
        exact r_iret C hF dX11_leastPins_78
      · rw [if_neg c2] at hf
        refine r_iload (i := 4) C dX11_leastPins_24 3 rfl ?_
        refine r_iload_n (i := 2) C dX11_leastPins_26 rfl 1 rfl ?_
        refine r_iconst (v := (-1)) C dX11_leastPins_27 (by decide) ?_
        refine r_ixor C dX11_leastPins_28 ?_
        refine r_iand C dX11_leastPins_29 ?_
        refine r_if_ne C 64 dX11_leastPins_30 (by decide) (fun c3 => ?_) (fun c3 => ?_)
        · rw [if_neg c3] at hf
          refine r_iload (i := 4) C dX11_leastPins_64 3 rfl ?_
          obtain ⟨x4, e5, hf⟩ := cl_of hf
          refine r_callSi (As := [.int y4]) (st := []) C (kX11_nextOfSameSize (xG X) e5) cw_X11_379 rfl rfl (Nat.le_of_ble_eq_true rfl) (zr2 hR rfl rfl) (zrcs hcs) dX11_leastPins_66 ?_
          refine r_istore (i := 4) (lv' := [(0, .ref (gad (xG X) 0)), (2, .int y2), (3, .int y3), (4, .int x4), (5, .int y5)]) C dX11_leastPins_69 (by decide) [1, 2, 3, 0, 4] rfl ?_
          obtain ⟨x6, ex6, hf⟩ := lt_of hf
          refine r_iinc (j := 4) (v := x6) (lv' := [(0, .ref (gad (xG X) 0)), (2, .int y2), (3, .int y3), (4, .int x4), (5, .int x6)]) C dX11_leastPins_71 rfl (by rw [ex6]; rfl) (by decide) [1, 2, 3, 4, 0] rfl ?_
          refine r_goto C 10 dX11_leastPins_74 (by decide) ?_
          exact r_lv [0, 1, 2, 3, 4] rfl (ih _ _ _ _ _ hf)
        · rw [if_pos c3] at hf
          refine r_iload_n (i := 3) C dX11_leastPins_33 rfl 2 rfl ?_
          refine r_aload_n (i := 0) C dX11_leastPins_34 rfl 0 rfl ?_
          refine g_X11_19 C dX11_leastPins_35 ?_
          refine r_aload_n (i := 0) C dX11_leastPins_38 rfl 0 rfl ?_
          refine g_X11_54 C dX11_leastPins_39 ?_
          refine r_aload_n (i := 0) C dX11_leastPins_42 rfl 0 rfl ?_
          refine g_X11_54 C dX11_leastPins_43 ?_
          refine g_X11_276 sk32 C dX11_leastPins_46 ?_
          refine r_iload (i := 4) C dX11_leastPins_49 3 rfl ?_
          refine r_ior C dX11_leastPins_51 ?_
          obtain ⟨x9, h7, e8, hf⟩ := cl2_of hf
          refine r_callNVi (As := [.ref (gad (xG X) 32), .int ((h 32 5) ||| y4)]) (st := [.int y3]) C 3 rfl (by decide) rfl (kX1_standingWith (xG X) sk32 e8) cw_X11_279 rfl rfl (Nat.le_of_ble_eq_true rfl) (zr2 hR rfl rfl) (zrcs hcs) dX11_leastPins_52 ?_
          refine r_iconst (v := (-1)) C dX11_leastPins_55 (by decide) ?_
          refine r_ixor C dX11_leastPins_56 ?_
          refine r_iand C dX11_leastPins_57 ?_
          refine r_if_ne C 64 dX11_leastPins_58 (by decide) (fun c10 => ?_) (fun c10 => ?_)
          · rw [if_neg c10] at hf
            refine r_iload (i := 4) C dX11_leastPins_64 3 rfl ?_
            obtain ⟨x11, e12, hf⟩ := cl_of hf
            refine r_callSi (As := [.int y4]) (st := []) C (kX11_nextOfSameSize (xG X) e12) cw_X11_379 rfl rfl (Nat.le_of_ble_eq_true rfl) (zr2 hR rfl rfl) (zrcs hcs) dX11_leastPins_66 ?_
            refine r_istore (i := 4) (lv' := [(0, .ref (gad (xG X) 0)), (2, .int y2), (3, .int y3), (4, .int x11), (5, .int y5)]) C dX11_leastPins_69 (by decide) [1, 2, 3, 0, 4] rfl ?_
            obtain ⟨x13, ex13, hf⟩ := lt_of hf
            refine r_iinc (j := 4) (v := x13) (lv' := [(0, .ref (gad (xG X) 0)), (2, .int y2), (3, .int y3), (4, .int x11), (5, .int x13)]) C dX11_leastPins_71 rfl (by rw [ex13]; rfl) (by decide) [1, 2, 3, 4, 0] rfl ?_
            refine r_goto C 10 dX11_leastPins_74 (by decide) ?_
            exact r_lv [0, 1, 2, 3, 4] rfl (ih _ _ _ _ _ hf)
          · rw [if_pos c10] at hf
            refine r_iload (i := 4) C dX11_leastPins_61 3 rfl ?_
            cases hf
            exact r_iret C hF dX11_leastPins_63
set_option maxHeartbeats 4000000 in
set_option maxRecDepth 100000 in
theorem kX11_leastPins (G : Gx)  {h : Hp} {a1 : Int32} {a2 : Int32} {a3 : Int32} {rr : Int32} {hh : Hp} (hf : fX11_leastPins h a1 a2 a3 = some (rr, hh)) : MC G yX11_leastPins cX11_leastPins 6 (some .int) 7 448 h [.ref (gad G 0), .int a1, .int a2, .int a3] (some (.int rr)) hh := by
  refine MC.of RX11 (by decide) rfl (Nat.le_of_ble_eq_true rfl) rfl (fun X C hG hR hF => ?_)
  subst hG
  have hcs : True := trivial
  unfold fX11_leastPins at hf
  refine r_iconst (v := 1) C dX11_leastPins_0 (by decide) ?_
  refine r_iload_n (i := 1) C dX11_leastPins_1 rfl 1 rfl ?_
  refine r_ishl C dX11_leastPins_2 ?_
  refine r_iconst (v := 1) C dX11_leastPins_3 (by decide) ?_
  refine r_isub C dX11_leastPins_4 ?_
  obtain ⟨x14, ex14, hf⟩ := lt_of hf
  refine r_top ex14 ?_
  refine r_istore (i := 4) (lv' := [(0, .ref (gad (xG X) 0)), (1, .int a1), (2, .int a2), (3, .int a3), (4, .int x14)]) C dX11_leastPins_5 (by decide) [1, 2, 3, 4, 0] rfl ?_
  refine r_iconst (v := 0) C dX11_leastPins_7 (by decide) ?_
  refine r_istore (i := 5) (lv' := [(0, .ref (gad (xG X) 0)), (1, .int a1), (2, .int a2), (3, .int a3), (4, .int x14), (5, .int (0 : Int32))]) C dX11_leastPins_8 (by decide) [1, 2, 3, 4, 5, 0] rfl ?_
  exact r_lv [0, 2, 3, 4, 5] rfl ((wX11_leastPins  C hR hcs hF big) _ _ _ _ _ hf)
def BX11_explains_0  (rec : Hp → Int32 → Int32 → Option (Int32 × Hp)) (h : Hp) (y2 : Int32) (y3 : Int32) : Option (Int32 × Hp) := (if (h 1 2) ≤ y3 then some ((1 : Int32), h) else cl9 (fX9_byteAt h y3) (fun x2 => (if x2 < (0 : Int32) then some ((0 : Int32), h) else (if (15 : Int32) < x2 then some ((0 : Int32), h) else cl9 (fX7_skyAt h 32 x2 y2 (h 32 8) (h 32 9)) (fun x6 => cl9 (fX9_byteAt h (y3 + (1 : Int32))) (fun x8 => (if x6 = x8 then lt9 (y3 + (2 : Int32)) (fun x11 => rec h y2 x11) else some ((0 : Int32), h))))))))
def LX11_explains  : Nat → Hp → Int32 → Int32 → Option (Int32 × Hp)
  | 0, _, _, _ => none
  | n + 1, h, y2, y3 => BX11_explains_0  (LX11_explains  n) h y2 y3
def fX11_explains (h : Hp) (a1 : Int32) : Option (Int32 × Hp) := cl2 (fX1_holdingWith h 32 ((h 32 5) &&& (a1 ^^^ (-1 : Int32)))) (fun x14 h12 => LX11_explains big h12 x14 (0 : Int32))
set_option maxHeartbeats 4000000 in
set_option maxRecDepth 100000 in
theorem wX11_explains {X : Cx}  {rr : Int32} {hh : Hp} (C : OK X cX11_explains 5 RX11 (some .boolean)) (hR : xR X = { frames := 6, cells := 0, slots := 0, locals := 384 }) (hcs : True) (hF : FinR X (some (.int rr)) hh) : ∀ n : Nat, (∀ (h : Hp) (y2 : Int32) (y3 : Int32), LX11_explains  n h y2 y3 = some (rr, hh) → VW X 5 h 0 0 25 [(0, .ref (gad (xG X) 0)), (2, .int y2), (3, .int y3)] []) := by
  intro n
  induction n with
  | zero => exact (fun _ _ _ hf => (by rw [LX11_explains] at hf; cases hf))
  | succ n ih =>
    intro h y2 y3 hf
    rw [LX11_explains] at hf
    unfold BX11_explains_0 at hf
    refine r_iload_n (i := 3) C dX11_explains_25 rfl 2 rfl ?_
    refine r_aload_n (i := 0) C dX11_explains_26 rfl 0 rfl ?_
    refine g_X11_10 C dX11_explains_27 ?_
    refine g_X11_382 C dX11_explains_30 ?_
    refine r_icmp_ge C 103 dX11_explains_33 (by decide) (fun c1 => ?_) (fun c1 => ?_)
    · rw [if_pos c1] at hf
      refine r_iconst (v := 1) C dX11_explains_103 (by decide) ?_
      have zz : (1 : Int32) = 0 ∨ (1 : Int32) = 1 := (Or.inr rfl)
      cases hf
      exact r_zret C zz hF dX11_explains_104
    · rw [if_neg c1] at hf
      refine r_aload_n (i := 0) C dX11_explains_36 rfl 0 rfl ?_
      refine g_X11_10 C dX11_explains_37 ?_
      refine r_iload_n (i := 3) C dX11_explains_40 rfl 2 rfl ?_
      obtain ⟨x2, e3, hf⟩ := cl_of hf
      refine r_callNVi (As := [.int y3]) (st := []) C 1 rfl (by decide) rfl (kX9_byteAt (xG X) e3) cw_X11_385 rfl rfl (Nat.le_of_ble_eq_true rfl) (zr2 hR rfl rfl) (zrcs hcs) dX11_explains_41 ?_
      refine r_istore (i := 4) (lv' := [(0, .ref (gad (xG X) 0)), (2, .int y2), (3, .int y3), (4, .int x2)]) C dX11_explains_44 (by decide) [1, 2, 3, 0] rfl ?_
      refine r_iload (i := 4) C dX11_explains_46 3 rfl ?_
      refine r_if_lt C 95 dX11_explains_48 (by decide) (fun c4 => ?_) (fun c4 => ?_)
      · rw [if_pos c4] at hf
        refine r_iconst (v := 0) C dX11_explains_95 (by decide) ?_
        have zz : (0 : Int32) = 0 ∨ (0 : Int32) = 1 := (Or.inl rfl)
        cases hf
        exact r_zret C zz hF dX11_explains_96
      · rw [if_neg c4] at hf
        refine r_iload (i := 4) C dX11_explains_51 3 rfl ?_
        refine r_bipush (v := 15) C dX11_explains_53 (by decide) ?_
        refine r_icmp_gt C 95 dX11_explains_55 (by decide) (fun c5 => ?_) (fun c5 => ?_)
        · rw [if_pos c5] at hf
          refine r_iconst (v := 0) C dX11_explains_95 (by decide) ?_
          have zz : (0 : Int32) = 0 ∨ (0 : Int32) = 1 := (Or.inl rfl)
          cases hf
          exact r_zret C zz hF dX11_explains_96
        · rw [if_neg c5] at hf
          refine r_aload_n (i := 0) C dX11_explains_58 rfl 0 rfl ?_
          refine g_X11_54 C dX11_explains_59 ?_
          refine r_iload (i := 4) C dX11_explains_62 3 rfl ?_
          refine r_iload_n (i := 2) C dX11_explains_64 rfl 1 rfl ?_
          refine r_aload_n (i := 0) C dX11_explains_65 rfl 0 rfl ?_
          refine g_X11_54 C dX11_explains_66 ?_
          refine g_X11_169 sk32 C dX11_explains_69 ?_
          refine r_aload_n (i := 0) C dX11_explains_72 rfl 0 rfl ?_
          refine g_X11_54 C dX11_explains_73 ?_
          refine g_X11_172 sk32 C dX11_explains_76 ?_
          obtain ⟨x6, e7, hf⟩ := cl_of hf
          refine r_callNVi (As := [.int x2, .int y2, .int (h 32 8), .int (h 32 9)]) (st := []) C 32 (sky_d0 sk32) (sky_l0 sk32) rfl (kX7_skyAt (xG X) sk32 e7) cw_X11_175 rfl rfl (Nat.le_of_ble_eq_true rfl) (zr2 hR rfl rfl) (zrcs hcs) dX11_explains_79 ?_
          refine r_aload_n (i := 0) C dX11_explains_82 rfl 0 rfl ?_
          refine g_X11_10 C dX11_explains_83 ?_
          refine r_iload_n (i := 3) C dX11_explains_86 rfl 2 rfl ?_
          refine r_iconst (v := 1) C dX11_explains_87 (by decide) ?_
          refine r_iadd C dX11_explains_88 ?_
          obtain ⟨x8, e9, hf⟩ := cl_of hf
          refine r_callNVi (As := [.int (y3 + (1 : Int32))]) (st := [.int x6]) C 1 rfl (by decide) rfl (kX9_byteAt (xG X) e9) cw_X11_385 rfl rfl (Nat.le_of_ble_eq_true rfl) (zr2 hR rfl rfl) (zrcs hcs) dX11_explains_89 ?_
          refine r_icmp_eq C 97 dX11_explains_92 (by decide) (fun c10 => ?_) (fun c10 => ?_)
          · rw [if_pos c10] at hf
            obtain ⟨x11, ex11, hf⟩ := lt_of hf
            refine r_iinc (j := 2) (v := x11) (lv' := [(0, .ref (gad (xG X) 0)), (2, .int y2), (3, .int x11), (4, .int x2)]) C dX11_explains_97 rfl (by rw [ex11]; rfl) (by decide) [1, 2, 0, 3] rfl ?_
            refine r_goto C 25 dX11_explains_100 (by decide) ?_
            exact r_lv [0, 1, 2] rfl (ih _ _ _ hf)
          · rw [if_neg c10] at hf
            refine r_iconst (v := 0) C dX11_explains_95 (by decide) ?_
            have zz : (0 : Int32) = 0 ∨ (0 : Int32) = 1 := (Or.inl rfl)
            cases hf
            exact r_zret C zz hF dX11_explains_96
set_option maxHeartbeats 4000000 in
set_option maxRecDepth 100000 in
theorem kX11_explains (G : Gx)  {h : Hp} {a1 : Int32} {rr : Int32} {hh : Hp} (hf : fX11_explains h a1 = some (rr, hh)) : MC G yX11_explains cX11_explains 5 (some .boolean) 6 384 h [.ref (gad G 0), .int a1] (some (.int rr)) hh := by
  refine MC.of RX11 (by decide) rfl (Nat.le_of_ble_eq_true rfl) rfl (fun X C hG hR hF => ?_)
  subst hG
  have hcs : True := trivial
  unfold fX11_explains at hf
  refine r_aload_n (i := 0) C dX11_explains_0 rfl 0 rfl ?_
  refine g_X11_19 C dX11_explains_1 ?_
  refine r_aload_n (i := 0) C dX11_explains_4 rfl 0 rfl ?_
  refine g_X11_54 C dX11_explains_5 ?_
  refine r_aload_n (i := 0) C dX11_explains_8 rfl 0 rfl ?_
  refine g_X11_54 C dX11_explains_9 ?_
  refine g_X11_276 sk32 C dX11_explains_12 ?_
  refine r_iload_n (i := 1) C dX11_explains_15 rfl 1 rfl ?_
  refine r_iconst (v := (-1)) C dX11_explains_16 (by decide) ?_
  refine r_ixor C dX11_explains_17 ?_
  refine r_iand C dX11_explains_18 ?_
  obtain ⟨x14, h12, e13, hf⟩ := cl2_of hf
  refine r_callNVi (As := [.ref (gad (xG X) 32), .int ((h 32 5) &&& (a1 ^^^ (-1 : Int32)))]) (st := []) C 3 rfl (by decide) rfl (kX1_holdingWith (xG X) sk32 e13) cw_X11_394 rfl rfl (Nat.le_of_ble_eq_true rfl) (zr2 hR rfl rfl) (zrcs hcs) dX11_explains_19 ?_
  refine r_istore_n (i := 2) (lv' := [(0, .ref (gad (xG X) 0)), (1, .int a1), (2, .int x14)]) C dX11_explains_22 rfl (by decide) [1, 2, 0] rfl ?_
  refine r_iconst (v := 0) C dX11_explains_23 (by decide) ?_
  refine r_istore_n (i := 3) (lv' := [(0, .ref (gad (xG X) 0)), (1, .int a1), (2, .int x14), (3, .int (0 : Int32))]) C dX11_explains_24 rfl (by decide) [1, 2, 3, 0] rfl ?_
  exact r_lv [0, 2, 3] rfl ((wX11_explains  C hR hcs hF big) _ _ _ hf)
def BX11_greatestPart_0  (rec : Hp → Int32 → Int32 → Int32 → Int32 → Option (Int32 × Hp)) (h : Hp) (y1 : Int32) (y2 : Int32) (y3 : Int32) (y4 : Int32) : Option (Int32 × Hp) := (if y2 ≤ y4 then some (y3, h) else gd (inb y4 137) (cl2 (fX1_holdingWith h 32 ((h 32 5) &&& ((h 29 y4.toNatClampNeg) ^^^ (-1 : Int32)))) (fun x5 h3 => cl9 (fX7_skyAt h3 32 y1 x5 (h3 32 8) (h3 32 9)) (fun x6 => cl9 ((if x6 < (0 : Int32) then some false else (if (40 : Int32) < x6 then some false else some true)) : Option Bool) (fun q8 => if q8 = true then gd (inb x6 41) (gd (inb x6 41) (lt9 (up2 h3 30 x6.toNatClampNeg ((h3 30 x6.toNatClampNeg) + (1 : Int32))) (fun h16 => gd (inb x6 41) (lt9 (jmax y3 (h16 30 x6.toNatClampNeg)) (fun x18 => lt9 (y4 + (1 : Int32)) (fun x19 => rec h16 y1 y2 x18 x19)))))) else lt9 (y4 + (1 : Int32)) (fun x20 => rec h3 y1 y2 y3 x20))))))
def LX11_greatestPart  : Nat → Hp → Int32 → Int32 → Int32 → Int32 → Option (Int32 × Hp)
  | 0, _, _, _, _, _ => none
  | n + 1, h, y1, y2, y3, y4 => BX11_greatestPart_0  (LX11_greatestPart  n) h y1 y2 y3 y4
def fX11_greatestPart (h : Hp) (a1 : Int32) (a2 : Int32) : Option (Int32 × Hp) := cl9 (fJ_fill h 30 41 (0 : Int32)) (fun h21 => LX11_greatestPart big h21 a1 a2 (0 : Int32) (0 : Int32))
set_option maxHeartbeats 4000000 in
set_option maxRecDepth 100000 in
theorem wX11_greatestPart {X : Cx}  {rr : Int32} {hh : Hp} (C : OK X cX11_greatestPart 7 RX11 (some .int)) (hR : xR X = { frames := 7, cells := 0, slots := 0, locals := 448 }) (hcs : True) (hF : FinR X (some (.int rr)) hh) : ∀ n : Nat, (∀ (h : Hp) (y1 : Int32) (y2 : Int32) (y3 : Int32) (y4 : Int32), LX11_greatestPart  n h y1 y2 y3 y4 = some (rr, hh) → VW X 7 h 0 0 13 [(0, .ref (gad (xG X) 0)), (1, .int y1), (2, .int y2), (3, .int y3), (4, .int y4)] []) := by
  intro n
  induction n with
  | zero => exact (fun _ _ _ _ _ hf => (by rw [LX11_greatestPart] at hf; cases hf))
  | succ n ih =>
    intro h y1 y2 y3 y4 hf
    rw [LX11_greatestPart] at hf
    unfold BX11_greatestPart_0 at hf
    refine r_iload (i := 4) C dX11_greatestPart_13 4 rfl ?_
    refine r_iload_n (i := 2) C dX11_greatestPart_15 rfl 2 rfl ?_
    refine r_icmp_ge C 116 dX11_greatestPart_16 (by decide) (fun c1 => ?_) (fun c1 => ?_)
    · rw [if_pos c1] at hf
      refine r_iload_n (i := 3) C dX11_greatestPart_116 rfl 3 rfl ?_
      cases hf
      exact r_iret C hF dX11_greatestPart_117
    · rw [if_neg c1] at hf
      refine r_aload_n (i := 0) C dX11_greatestPart_19 rfl 0 rfl ?_
      refine g_X11_19 C dX11_greatestPart_20 ?_
      refine r_aload_n (i := 0) C dX11_greatestPart_23 rfl 0 rfl ?_
      refine g_X11_54 C dX11_greatestPart_24 ?_
      refine r_aload_n (i := 0) C dX11_greatestPart_27 rfl 0 rfl ?_
      refine g_X11_54 C dX11_greatestPart_28 ?_
      refine g_X11_276 sk32 C dX11_greatestPart_31 ?_
      refine r_aload_n (i := 0) C dX11_greatestPart_34 rfl 0 rfl ?_
      refine g_X11_75 C dX11_greatestPart_35 ?_
      refine r_iload (i := 4) C dX11_greatestPart_38 4 rfl ?_
      obtain ⟨g2, hf⟩ := gd_of hf
      refine r_iald C 29 rfl (by decide) g2 dX11_greatestPart_40 ?_
      refine r_iconst (v := (-1)) C dX11_greatestPart_41 (by decide) ?_
      refine r_ixor C dX11_greatestPart_42 ?_
      refine r_iand C dX11_greatestPart_43 ?_
      obtain ⟨x5, h3, e4, hf⟩ := cl2_of hf
      refine r_callNVi (As := [.ref (gad (xG X) 32), .int ((h 32 5) &&& ((h 29 y4.toNatClampNeg) ^^^ (-1 : Int32)))]) (st := []) C 3 rfl (by decide) rfl (kX1_holdingWith (xG X) sk32 e4) cw_X11_394 rfl rfl (Nat.le_of_ble_eq_true rfl) (zr2 hR rfl rfl) (zrcs hcs) dX11_greatestPart_44 ?_
      refine r_istore (i := 5) (lv' := [(0, .ref (gad (xG X) 0)), (1, .int y1), (2, .int y2), (3, .int y3), (4, .int y4), (5, .int x5)]) C dX11_greatestPart_47 (by decide) [1, 2, 3, 4, 5, 0] rfl ?_
      refine r_aload_n (i := 0) C dX11_greatestPart_49 rfl 0 rfl ?_
      refine g_X11_54 C dX11_greatestPart_50 ?_
      refine r_iload_n (i := 1) C dX11_greatestPart_53 rfl 1 rfl ?_
      refine r_iload (i := 5) C dX11_greatestPart_54 5 rfl ?_
      refine r_aload_n (i := 0) C dX11_greatestPart_56 rfl 0 rfl ?_
      refine g_X11_54 C dX11_greatestPart_57 ?_
      refine g_X11_169 sk32 C dX11_greatestPart_60 ?_
      refine r_aload_n (i := 0) C dX11_greatestPart_63 rfl 0 rfl ?_
      refine g_X11_54 C dX11_greatestPart_64 ?_
      refine g_X11_172 sk32 C dX11_greatestPart_67 ?_
      obtain ⟨x6, e7, hf⟩ := cl_of hf
      refine r_callNVi (As := [.int y1, .int x5, .int (h3 32 8), .int (h3 32 9)]) (st := []) C 32 (sky_d0 sk32) (sky_l0 sk32) rfl (kX7_skyAt (xG X) sk32 e7) cw_X11_175 rfl rfl (Nat.le_of_ble_eq_true rfl) (zr2 hR rfl rfl) (zrcs hcs) dX11_greatestPart_70 ?_
      refine r_istore (i := 6) (lv' := [(0, .ref (gad (xG X) 0)), (1, .int y1), (2, .int y2), (3, .int y3), (4, .int y4), (5, .int x5), (6, .int x6)]) C dX11_greatestPart_73 (by decide) [1, 2, 3, 4, 5, 6, 0] rfl ?_
      refine r_iload (i := 6) C dX11_greatestPart_75 6 rfl ?_
      obtain ⟨q8, r11, hf⟩ := cl_of hf
      have k9 : q8 = true → VW X 7 h3 0 0 87 [(0, .ref (gad (xG X) 0)), (1, .int y1), (2, .int y2), (3, .int y3), (4, .int y4), (5, .int x5), (6, .int x6)] [] := fun qq => by
        rw [if_pos qq] at hf
        refine r_aload_n (i := 0) C dX11_greatestPart_87 rfl 0 rfl ?_
        refine g_X11_79 C dX11_greatestPart_88 ?_
        refine r_iload (i := 6) C dX11_greatestPart_91 6 rfl ?_
        refine r_dup2 C dX11_greatestPart_93 rfl rfl ?_
        obtain ⟨g14, hf⟩ := gd_of hf
        refine r_iald C 30 rfl (by decide) g14 dX11_greatestPart_94 ?_
        refine r_iconst (v := 1) C dX11_greatestPart_95 (by decide) ?_
        refine r_iadd C dX11_greatestPart_96 ?_
        obtain ⟨g15, hf⟩ := gd_of hf
        obtain ⟨h16, eh16, hf⟩ := lt_of hf
        refine r_iast C 30 eh16 rfl (by decide) g15 dX11_greatestPart_97 ?_
        refine r_iload_n (i := 3) C dX11_greatestPart_98 rfl 3 rfl ?_
        refine r_aload_n (i := 0) C dX11_greatestPart_99 rfl 0 rfl ?_
        refine g_X11_79 C dX11_greatestPart_100 ?_
        refine r_iload (i := 6) C dX11_greatestPart_103 6 rfl ?_
        obtain ⟨g17, hf⟩ := gd_of hf
        refine r_iald C 30 rfl (by decide) g17 dX11_greatestPart_105 ?_
        refine r_mmax9 C gw_791 gm_max_s gm_i gm_max_c (zr1 hR rfl) (zr0 hR (Nat.le_of_ble_eq_true rfl)) (zrcs hcs) dX11_greatestPart_106 ?_
        obtain ⟨x18, ex18, hf⟩ := lt_of hf
        refine r_top ex18 ?_
        refine r_istore_n (i := 3) (lv' := [(0, .ref (gad (xG X) 0)), (1, .int y1), (2, .int y2), (3, .int x18), (4, .int y4), (5, .int x5), (6, .int x6)]) C dX11_greatestPart_109 rfl (by decide) [1, 2, 3, 0, 4, 5, 6] rfl ?_
        obtain ⟨x19, ex19, hf⟩ := lt_of hf
        refine r_iinc (j := 4) (v := x19) (lv' := [(0, .ref (gad (xG X) 0)), (1, .int y1), (2, .int y2), (3, .int x18), (4, .int x19), (5, .int x5), (6, .int x6)]) C dX11_greatestPart_110 rfl (by rw [ex19]; rfl) (by decide) [1, 2, 3, 4, 0, 5, 6] rfl ?_
        refine r_goto C 13 dX11_greatestPart_113 (by decide) ?_
        exact r_lv [0, 1, 2, 3, 4] rfl (ih _ _ _ _ _ hf)
      have k10 : q8 = false → VW X 7 h3 0 0 110 [(0, .ref (gad (xG X) 0)), (1, .int y1), (2, .int y2), (3, .int y3), (4, .int y4), (5, .int x5), (6, .int x6)] [] := fun qq => by
        rw [if_neg (by rw [qq]; decide)] at hf
        obtain ⟨x20, ex20, hf⟩ := lt_of hf
        refine r_iinc (j := 4) (v := x20) (lv' := [(0, .ref (gad (xG X) 0)), (1, .int y1), (2, .int y2), (3, .int y3), (4, .int x20), (5, .int x5), (6, .int x6)]) C dX11_greatestPart_110 rfl (by rw [ex20]; rfl) (by decide) [1, 2, 3, 4, 0, 5, 6] rfl ?_
        refine r_goto C 13 dX11_greatestPart_113 (by decide) ?_
        exact r_lv [0, 1, 2, 3, 4] rfl (ih _ _ _ _ _ hf)
      clear hf
      have hf := r11
      refine r_if_lt C 110 dX11_greatestPart_77 (by decide) (fun c12 => ?_) (fun c12 => ?_)
      · rw [if_pos c12] at hf
        exact k10 (Option.some.inj hf).symm
      · rw [if_neg c12] at hf
        refine r_iload (i := 6) C dX11_greatestPart_80 6 rfl ?_
        refine r_bipush (v := 40) C dX11_greatestPart_82 (by decide) ?_
        refine r_icmp_gt C 110 dX11_greatestPart_84 (by decide) (fun c13 => ?_) (fun c13 => ?_)
        · rw [if_pos c13] at hf
          exact k10 (Option.some.inj hf).symm
        · rw [if_neg c13] at hf
          exact k9 (Option.some.inj hf).symm
set_option maxHeartbeats 4000000 in
set_option maxRecDepth 100000 in
theorem kX11_greatestPart (G : Gx)  {h : Hp} {a1 : Int32} {a2 : Int32} {rr : Int32} {hh : Hp} (hf : fX11_greatestPart h a1 a2 = some (rr, hh)) : MC G yX11_greatestPart cX11_greatestPart 7 (some .int) 7 448 h [.ref (gad G 0), .int a1, .int a2] (some (.int rr)) hh := by
  refine MC.of RX11 (by decide) rfl (Nat.le_of_ble_eq_true rfl) rfl (fun X C hG hR hF => ?_)
  subst hG
  have hcs : True := trivial
  unfold fX11_greatestPart at hf
  refine r_aload_n (i := 0) C dX11_greatestPart_0 rfl 0 rfl ?_
  refine g_X11_79 C dX11_greatestPart_1 ?_
  refine r_iconst (v := 0) C dX11_greatestPart_4 (by decide) ?_
  obtain ⟨h21, e22, hf⟩ := cl_of hf
  refine r_callSv (As := [.ref (gad (xG X) 30), .int (0 : Int32)]) (st := []) C (kJ_fill (xG X) rfl (by decide) e22) cw_X11_397 rfl rfl (Nat.le_of_ble_eq_true rfl) (zr2 hR rfl rfl) (zrcs hcs) dX11_greatestPart_5 ?_
  refine r_iconst (v := 0) C dX11_greatestPart_8 (by decide) ?_
  refine r_istore_n (i := 3) (lv' := [(0, .ref (gad (xG X) 0)), (1, .int a1), (2, .int a2), (3, .int (0 : Int32))]) C dX11_greatestPart_9 rfl (by decide) [1, 2, 3, 0] rfl ?_
  refine r_iconst (v := 0) C dX11_greatestPart_10 (by decide) ?_
  refine r_istore (i := 4) (lv' := [(0, .ref (gad (xG X) 0)), (1, .int a1), (2, .int a2), (3, .int (0 : Int32)), (4, .int (0 : Int32))]) C dX11_greatestPart_11 (by decide) [1, 2, 3, 4, 0] rfl ?_
  exact r_lv [0, 1, 2, 3, 4] rfl ((wX11_greatestPart  C hR hcs hF big) _ _ _ _ _ hf)
def BX11_playGame_0  (rec : Nat → Hp → Int32 → Int32 → Int32 → Option (Hp)) (h : Hp) (y1 : Int32) (y2 : Int32) (y3 : Int32) : Option (Hp) := (if (16 : Int32) ≤ y2 then some h else rec 1 h y1 y2 (-1 : Int32))
def BX11_playGame_1  (rec : Nat → Hp → Int32 → Int32 → Int32 → Option (Hp)) (h : Hp) (y1 : Int32) (y2 : Int32) (y3 : Int32) : Option (Hp) := (if (16 : Int32) ≤ y3 then lt9 (y2 + (1 : Int32)) (fun x3 => rec 0 h y1 x3 0) else cl9 ((if (fX11_canChoose (h 32 5) y2) = (0 : Int32) then some false else (if (fX11_canChoose y1 y3) = (0 : Int32) then some false else some true)) : Option Bool) (fun q4 => if q4 = true then lt9 (((h 32 5) &&& ((fX11_bitOf y2) ^^^ (-1 : Int32))) ||| (fX11_bitOf y3)) (fun x10 => cl2 (fX1_standingWith h 32 x10) (fun x13 h11 => gd (inb (fX11_pair y2 y3) 289) (lt9 (up2 h11 31 (fX11_pair y2 y3).toNatClampNeg (fJ_bitCount x13)) (fun h15 => lt9 (y3 + (1 : Int32)) (fun x16 => rec 1 h15 y1 y2 x16))))) else lt9 (y3 + (1 : Int32)) (fun x17 => rec 1 h y1 y2 x17)))
def LX11_playGame  : Nat → Nat → Hp → Int32 → Int32 → Int32 → Option (Hp)
  | 0, _, _, _, _, _ => none
  | n + 1, lab, h, y1, y2, y3 => if lab = 0 then BX11_playGame_0  (LX11_playGame  n) h y1 y2 y3 else if lab = 1 then BX11_playGame_1  (LX11_playGame  n) h y1 y2 y3 else none
def fX11_playGame (h : Hp) (a1 : Int32) : Option (Hp) := cl9 (fX1_startOver h) (fun h18 => LX11_playGame big 0 h18 a1 (-1 : Int32) 0)
set_option maxHeartbeats 4000000 in
set_option maxRecDepth 100000 in
theorem wX11_playGame {X : Cx}  {hh : Hp} (C : OK X cX11_playGame 5 RX11 none) (hR : xR X = { frames := 7, cells := 0, slots := 0, locals := 448 }) (hcs : True) (hF : FinR X none hh) : ∀ n : Nat, (∀ (h : Hp) (y1 : Int32) (y2 : Int32) (y3 : Int32), LX11_playGame  n 0 h y1 y2 y3 = some hh → VW X 5 h 0 0 9 [(0, .ref (gad (xG X) 0)), (1, .int y1), (2, .int y2)] []) ∧ (∀ (h : Hp) (y1 : Int32) (y2 : Int32) (y3 : Int32), LX11_playGame  n 1 h y1 y2 y3 = some hh → VW X 5 h 0 0 17 [(0, .ref (gad (xG X) 0)), (1, .int y1), (2, .int y2), (3, .int y3)] []) := by
  intro n
  induction n with
  | zero => exact ⟨(fun _ _ _ _ hf => (by rw [LX11_playGame] at hf; cases hf)), (fun _ _ _ _ hf => (by rw [LX11_playGame] at hf; cases hf))⟩
  | succ n ih =>
    refine ⟨?_, ?_⟩
    · intro h y1 y2 y3 hf
      rw [LX11_playGame, if_pos rfl] at hf
      unfold BX11_playGame_0 at hf
      refine r_iload_n (i := 2) C dX11_playGame_9 rfl 2 rfl ?_
      refine r_bipush (v := 16) C dX11_playGame_10 (by decide) ?_
      refine r_icmp_ge C 104 dX11_playGame_12 (by decide) (fun c1 => ?_) (fun c1 => ?_)
      · rw [if_pos c1] at hf
        cases hf
        exact r_vret C hF dX11_playGame_104
      · rw [if_neg c1] at hf
        refine r_iconst (v := (-1)) C dX11_playGame_15 (by decide) ?_
        refine r_istore_n (i := 3) (lv' := [(0, .ref (gad (xG X) 0)), (1, .int y1), (2, .int y2), (3, .int (-1 : Int32))]) C dX11_playGame_16 rfl (by decide) [1, 2, 3, 0] rfl ?_
        exact r_lv [0, 1, 2, 3] rfl (ih.2 _ _ _ _ hf)
    · intro h y1 y2 y3 hf
      rw [LX11_playGame, if_neg (by decide), if_pos rfl] at hf
      unfold BX11_playGame_1 at hf
      refine r_iload_n (i := 3) C dX11_playGame_17 rfl 3 rfl ?_
      refine r_bipush (v := 16) C dX11_playGame_18 (by decide) ?_
      refine r_icmp_ge C 98 dX11_playGame_20 (by decide) (fun c2 => ?_) (fun c2 => ?_)
      · rw [if_pos c2] at hf
        obtain ⟨x3, ex3, hf⟩ := lt_of hf
        refine r_iinc (j := 2) (v := x3) (lv' := [(0, .ref (gad (xG X) 0)), (1, .int y1), (2, .int x3), (3, .int y3)]) C dX11_playGame_98 rfl (by rw [ex3]; rfl) (by decide) [1, 2, 0, 3] rfl ?_
        refine r_goto C 9 dX11_playGame_101 (by decide) ?_
        exact r_lv [0, 1, 2] rfl (ih.1 _ _ _ _ hf)
      · rw [if_neg c2] at hf
        refine r_aload_n (i := 0) C dX11_playGame_23 rfl 0 rfl ?_
        refine g_X11_54 C dX11_playGame_24 ?_
        refine g_X11_276 sk32 C dX11_playGame_27 ?_
        refine r_iload_n (i := 2) C dX11_playGame_30 rfl 2 rfl ?_
        refine r_callSi (As := [.int (h 32 5), .int y2]) (st := []) C (kX11_canChoose (xG X)) cw_X11_318 rfl rfl (Nat.le_of_ble_eq_true rfl) (zr2 hR rfl rfl) (zrcs hcs) dX11_playGame_31 ?_
        obtain ⟨q4, r7, hf⟩ := cl_of hf
        have k5 : q4 = true → VW X 5 h 0 0 45 [(0, .ref (gad (xG X) 0)), (1, .int y1), (2, .int y2), (3, .int y3)] [] := fun qq => by
          rw [if_pos qq] at hf
          refine r_aload_n (i := 0) C dX11_playGame_45 rfl 0 rfl ?_
          refine g_X11_54 C dX11_playGame_46 ?_
          refine g_X11_276 sk32 C dX11_playGame_49 ?_
          refine r_iload_n (i := 2) C dX11_playGame_52 rfl 2 rfl ?_
          refine r_callSi (As := [.int y2]) (st := [.int (h 32 5)]) C (kX11_bitOf (xG X)) cw_X11_388 rfl rfl (Nat.le_of_ble_eq_true rfl) (zr2 hR rfl rfl) (zrcs hcs) dX11_playGame_53 ?_
          refine r_iconst (v := (-1)) C dX11_playGame_56 (by decide) ?_
          refine r_ixor C dX11_playGame_57 ?_
          refine r_iand C dX11_playGame_58 ?_
          refine r_iload_n (i := 3) C dX11_playGame_59 rfl 3 rfl ?_
          refine r_callSi (As := [.int y3]) (st := [.int ((h 32 5) &&& ((fX11_bitOf y2) ^^^ (-1 : Int32)))]) C (kX11_bitOf (xG X)) cw_X11_388 rfl rfl (Nat.le_of_ble_eq_true rfl) (zr2 hR rfl rfl) (zrcs hcs) dX11_playGame_60 ?_
          refine r_ior C dX11_playGame_63 ?_
          obtain ⟨x10, ex10, hf⟩ := lt_of hf
          refine r_top ex10 ?_
          refine r_istore (i := 4) (lv' := [(0, .ref (gad (xG X) 0)), (1, .int y1), (2, .int y2), (3, .int y3), (4, .int x10)]) C dX11_playGame_64 (by decide) [1, 2, 3, 4, 0] rfl ?_
          refine r_aload_n (i := 0) C dX11_playGame_66 rfl 0 rfl ?_
          refine g_X11_82 C dX11_playGame_67 ?_
          refine r_iload_n (i := 2) C dX11_playGame_70 rfl 2 rfl ?_
          refine r_iload_n (i := 3) C dX11_playGame_71 rfl 3 rfl ?_
          refine r_callSi (As := [.int y2, .int y3]) (st := [.ref (gad (xG X) 31)]) C (kX11_pair (xG X)) cw_X11_403 rfl rfl (Nat.le_of_ble_eq_true rfl) (zr2 hR rfl rfl) (zrcs hcs) dX11_playGame_72 ?_
          refine r_aload_n (i := 0) C dX11_playGame_75 rfl 0 rfl ?_
          refine g_X11_19 C dX11_playGame_76 ?_
          refine r_aload_n (i := 0) C dX11_playGame_79 rfl 0 rfl ?_
          refine g_X11_54 C dX11_playGame_80 ?_
          refine r_iload (i := 4) C dX11_playGame_83 4 rfl ?_
          obtain ⟨x13, h11, e12, hf⟩ := cl2_of hf
          refine r_callNVi (As := [.ref (gad (xG X) 32), .int x10]) (st := [.int (fX11_pair y2 y3), .ref (gad (xG X) 31)]) C 3 rfl (by decide) rfl (kX1_standingWith (xG X) sk32 e12) cw_X11_279 rfl rfl (Nat.le_of_ble_eq_true rfl) (zr2 hR rfl rfl) (zrcs hcs) dX11_playGame_85 ?_
          refine r_callSi (As := [.int x13]) (st := [.int (fX11_pair y2 y3), .ref (gad (xG X) 31)]) C (kJ_bitCount (xG X)) cw_X11_257 rfl rfl (Nat.le_of_ble_eq_true rfl) (zr2 hR rfl rfl) (zrcs hcs) dX11_playGame_88 ?_
          obtain ⟨g14, hf⟩ := gd_of hf
          obtain ⟨h15, eh15, hf⟩ := lt_of hf
          refine r_iast C 31 eh15 rfl (by decide) g14 dX11_playGame_91 ?_
          obtain ⟨x16, ex16, hf⟩ := lt_of hf
          refine r_iinc (j := 3) (v := x16) (lv' := [(0, .ref (gad (xG X) 0)), (1, .int y1), (2, .int y2), (3, .int x16), (4, .int x10)]) C dX11_playGame_92 rfl (by rw [ex16]; rfl) (by decide) [1, 2, 3, 0, 4] rfl ?_
          refine r_goto C 17 dX11_playGame_95 (by decide) ?_
          exact r_lv [0, 1, 2, 3] rfl (ih.2 _ _ _ _ hf)
        have k6 : q4 = false → VW X 5 h 0 0 92 [(0, .ref (gad (xG X) 0)), (1, .int y1), (2, .int y2), (3, .int y3)] [] := fun qq => by
          rw [if_neg (by rw [qq]; decide)] at hf
          obtain ⟨x17, ex17, hf⟩ := lt_of hf
          refine r_iinc (j := 3) (v := x17) (lv' := [(0, .ref (gad (xG X) 0)), (1, .int y1), (2, .int y2), (3, .int x17)]) C dX11_playGame_92 rfl (by rw [ex17]; rfl) (by decide) [1, 2, 3, 0] rfl ?_
          refine r_goto C 17 dX11_playGame_95 (by decide) ?_
          exact r_lv [0, 1, 2, 3] rfl (ih.2 _ _ _ _ hf)
        clear hf
        have hf := r7
        refine r_if_eq C 92 dX11_playGame_34 (by decide) (fun c8 => ?_) (fun c8 => ?_)
        · rw [if_pos c8] at hf
          exact k6 (Option.some.inj hf).symm
        · rw [if_neg c8] at hf
          refine r_iload_n (i := 1) C dX11_playGame_37 rfl 1 rfl ?_
          refine r_iload_n (i := 3) C dX11_playGame_38 rfl 3 rfl ?_
          refine r_callSi (As := [.int y1, .int y3]) (st := []) C (kX11_canChoose (xG X)) cw_X11_318 rfl rfl (Nat.le_of_ble_eq_true rfl) (zr2 hR rfl rfl) (zrcs hcs) dX11_playGame_39 ?_
          refine r_if_eq C 92 dX11_playGame_42 (by decide) (fun c9 => ?_) (fun c9 => ?_)
          · rw [if_pos c9] at hf
            exact k6 (Option.some.inj hf).symm
          · rw [if_neg c9] at hf
            exact k5 (Option.some.inj hf).symm
set_option maxHeartbeats 4000000 in
set_option maxRecDepth 100000 in
theorem kX11_playGame (G : Gx)  {h : Hp} {a1 : Int32} {hh : Hp} (hf : fX11_playGame h a1 = some hh) : MC G yX11_playGame cX11_playGame 5 none 7 448 h [.ref (gad G 0), .int a1] none hh := by
  refine MC.of RX11 (by decide) rfl (Nat.le_of_ble_eq_true rfl) rfl (fun X C hG hR hF => ?_)
  subst hG
  have hcs : True := trivial
  unfold fX11_playGame at hf
  refine r_aload_n (i := 0) C dX11_playGame_0 rfl 0 rfl ?_
  refine g_X11_19 C dX11_playGame_1 ?_
  obtain ⟨h18, e19, hf⟩ := cl_of hf
  refine r_callNVv (As := []) (st := []) C 3 rfl (by decide) rfl (kX1_startOver (xG X) e19) cw_X11_273 rfl rfl (Nat.le_of_ble_eq_true rfl) (zr2 hR rfl rfl) (zrcs hcs) dX11_playGame_4 ?_
  refine r_iconst (v := (-1)) C dX11_playGame_7 (by decide) ?_
  refine r_istore_n (i := 2) (lv' := [(0, .ref (gad (xG X) 0)), (1, .int a1), (2, .int (-1 : Int32))]) C dX11_playGame_8 rfl (by decide) [1, 2, 0] rfl ?_
  exact r_lv [0, 1, 2] rfl ((wX11_playGame  C hR hcs hF big).1 _ _ _ _ hf)
def fX1_holding (h : Hp) (b : Nat) : Option (Int32 × Hp) := cl9 (fX1_startOver h) (fun h1 => cl2 (fX1_holdingWith h1 b (h1 b 5)) (fun x5 h3 => some (x5, h3)))
set_option maxHeartbeats 4000000 in
set_option maxRecDepth 100000 in
theorem kX1_holding (G : Gx) {b : Nat} (hb : isSky b) {h : Hp}  {rr : Int32} {hh : Hp} (hf : fX1_holding h b = some (rr, hh)) : MC G yX1_holding cX1_holding 2 (some .int) 6 384 h [.ref (gad G 3), .ref (gad G b)] (some (.int rr)) hh := by
  refine MC.of RX1 (by decide) rfl (Nat.le_of_ble_eq_true rfl) rfl (fun X C hG hR hF => ?_)
  subst hG
  have hcs : True := trivial
  unfold fX1_holding at hf
  refine r_aload_n (i := 0) C dX1_holding_0 rfl 0 rfl ?_
  obtain ⟨h1, e2, hf⟩ := cl_of hf
  refine r_callVv (As := []) (st := []) C 3 rfl (by decide) rfl (kX1_startOver (xG X) e2) cw_X1_58 rfl rfl (Nat.le_of_ble_eq_true rfl) (zr2 hR rfl rfl) (zrcs hcs) dX1_holding_1 ?_
  refine r_aload_n (i := 0) C dX1_holding_4 rfl 0 rfl ?_
  refine r_aload_n (i := 1) C dX1_holding_5 rfl 1 rfl ?_
  refine r_aload_n (i := 1) C dX1_holding_6 rfl 1 rfl ?_
  refine g_X1_30 hb C dX1_holding_7 ?_
  obtain ⟨x5, h3, e4, hf⟩ := cl2_of hf
  refine r_callVi (As := [.ref (gad (xG X) b), .int (h1 b 5)]) (st := []) C 3 rfl (by decide) rfl (kX1_holdingWith (xG X) hb e4) cw_X1_61 rfl rfl (Nat.le_of_ble_eq_true rfl) (zr2 hR rfl rfl) (zrcs hcs) dX1_holding_10 ?_
  cases hf
  exact r_iret C hF dX1_holding_13
def fX1_standing (h : Hp) (b : Nat) : Option (Int32 × Hp) := cl2 (fX1_holding h b) (fun x3 h1 => cl9 (fX7_standing h1 b x3 (h1 b 8) (h1 b 9)) (fun x4 => some (x4, h1)))
set_option maxHeartbeats 4000000 in
set_option maxRecDepth 100000 in
theorem kX1_standing (G : Gx) {b : Nat} (hb : isSky b) {h : Hp}  {rr : Int32} {hh : Hp} (hf : fX1_standing h b = some (rr, hh)) : MC G yX1_standing cX1_standing 2 (some .int) 7 448 h [.ref (gad G 3), .ref (gad G b)] (some (.int rr)) hh := by
  refine MC.of RX1 (by decide) rfl (Nat.le_of_ble_eq_true rfl) rfl (fun X C hG hR hF => ?_)
  subst hG
  have hcs : True := trivial
  unfold fX1_standing at hf
  refine r_aload_n (i := 1) C dX1_standing_0 rfl 1 rfl ?_
  refine r_aload_n (i := 0) C dX1_standing_1 rfl 0 rfl ?_
  refine r_aload_n (i := 1) C dX1_standing_2 rfl 1 rfl ?_
  obtain ⟨x3, h1, e2, hf⟩ := cl2_of hf
  refine r_callVi (As := [.ref (gad (xG X) b)]) (st := [.ref (gad (xG X) b)]) C 3 rfl (by decide) rfl (kX1_holding (xG X) hb e2) cw_X1_65 rfl rfl (Nat.le_of_ble_eq_true rfl) (zr2 hR rfl rfl) (zrcs hcs) dX1_standing_3 ?_
  refine r_aload_n (i := 1) C dX1_standing_6 rfl 1 rfl ?_
  refine g_X1_69 hb C dX1_standing_7 ?_
  refine r_aload_n (i := 1) C dX1_standing_10 rfl 1 rfl ?_
  refine g_X1_72 hb C dX1_standing_11 ?_
  obtain ⟨x4, e5, hf⟩ := cl_of hf
  refine r_callNVi (As := [.int x3, .int (h1 b 8), .int (h1 b 9)]) (st := []) C b (sky_d0 hb) (sky_l0 hb) rfl (kX7_standing (xG X) hb e5) cw_X1_75 rfl rfl (Nat.le_of_ble_eq_true rfl) (zr2 hR rfl rfl) (zrcs hcs) dX1_standing_14 ?_
  cases hf
  exact r_iret C hF dX1_standing_17
def BX1_daysMore_0 (b : Nat) (rec : Hp → Int32 → Int32 → Int32 → Int32 → Option (Int32 × Hp)) (h : Hp) (y2 : Int32) (y3 : Int32) (y4 : Int32) (y5 : Int32) : Option (Int32 × Hp) := (if y2 ≤ y5 then some (y4, h) else cl2 (fX1_dayMore h b y3) (fun x4 h2 => lt9 (y4 + (fJ_bitCount x4)) (fun x5 => lt9 (y5 + (1 : Int32)) (fun x6 => rec h2 y2 y3 x5 x6))))
def LX1_daysMore (b : Nat) : Nat → Hp → Int32 → Int32 → Int32 → Int32 → Option (Int32 × Hp)
  | 0, _, _, _, _, _ => none
  | n + 1, h, y2, y3, y4, y5 => BX1_daysMore_0 b (LX1_daysMore b n) h y2 y3 y4 y5
def fX1_daysMore (h : Hp) (b : Nat) (a1 : Int32) (a2 : Int32) : Option (Int32 × Hp) := LX1_daysMore b big h a1 a2 (0 : Int32) (0 : Int32)
set_option maxHeartbeats 4000000 in
set_option maxRecDepth 100000 in
theorem wX1_daysMore {X : Cx} {b : Nat} (hb : isSky b) {rr : Int32} {hh : Hp} (C : OK X cX1_daysMore 6 RX1 (some .int)) (hR : xR X = { frames := 7, cells := 0, slots := 0, locals := 448 }) (hcs : True) (hF : FinR X (some (.int rr)) hh) : ∀ n : Nat, (∀ (h : Hp) (y2 : Int32) (y3 : Int32) (y4 : Int32) (y5 : Int32), LX1_daysMore b n h y2 y3 y4 y5 = some (rr, hh) → VW X 6 h 0 0 6 [(0, .ref (gad (xG X) 3)), (1, .ref (gad (xG X) b)), (2, .int y2), (3, .int y3), (4, .int y4), (5, .int y5)] []) := by
  intro n
  induction n with
  | zero => exact (fun _ _ _ _ _ hf => (by rw [LX1_daysMore] at hf; cases hf))
  | succ n ih =>
    intro h y2 y3 y4 y5 hf
    rw [LX1_daysMore] at hf
    unfold BX1_daysMore_0 at hf
    refine r_iload (i := 5) C dX1_daysMore_6 5 rfl ?_
    refine r_iload_n (i := 2) C dX1_daysMore_8 rfl 2 rfl ?_
    refine r_icmp_ge C 32 dX1_daysMore_9 (by decide) (fun c1 => ?_) (fun c1 => ?_)
    · rw [if_pos c1] at hf
      refine r_iload (i := 4) C dX1_daysMore_32 4 rfl ?_
      cases hf
      exact r_iret C hF dX1_daysMore_34
    · rw [if_neg c1] at hf
      refine r_iload (i := 4) C dX1_daysMore_12 4 rfl ?_
      refine r_aload_n (i := 0) C dX1_daysMore_14 rfl 0 rfl ?_
      refine r_aload_n (i := 1) C dX1_daysMore_15 rfl 1 rfl ?_
      refine r_iload_n (i := 3) C dX1_daysMore_16 rfl 3 rfl ?_
      obtain ⟨x4, h2, e3, hf⟩ := cl2_of hf
      refine r_callVi (As := [.ref (gad (xG X) b), .int y3]) (st := [.int y4]) C 3 rfl (by decide) rfl (kX1_dayMore (xG X) hb e3) cw_X1_94 rfl rfl (Nat.le_of_ble_eq_true rfl) (zr2 hR rfl rfl) (zrcs hcs) dX1_daysMore_17 ?_
      refine r_callSi (As := [.int x4]) (st := [.int y4]) C (kJ_bitCount (xG X)) cw_X1_98 rfl rfl (Nat.le_of_ble_eq_true rfl) (zr2 hR rfl rfl) (zrcs hcs) dX1_daysMore_20 ?_
      refine r_iadd C dX1_daysMore_23 ?_
      obtain ⟨x5, ex5, hf⟩ := lt_of hf
      refine r_top ex5 ?_
      refine r_istore (i := 4) (lv' := [(0, .ref (gad (xG X) 3)), (1, .ref (gad (xG X) b)), (2, .int y2), (3, .int y3), (4, .int x5), (5, .int y5)]) C dX1_daysMore_24 (by decide) [1, 2, 3, 4, 0, 5] rfl ?_
      obtain ⟨x6, ex6, hf⟩ := lt_of hf
      refine r_iinc (j := 5) (v := x6) (lv' := [(0, .ref (gad (xG X) 3)), (1, .ref (gad (xG X) b)), (2, .int y2), (3, .int y3), (4, .int x5), (5, .int x6)]) C dX1_daysMore_26 rfl (by rw [ex6]; rfl) (by decide) [1, 2, 3, 4, 5, 0] rfl ?_
      refine r_goto C 6 dX1_daysMore_29 (by decide) ?_
      exact r_lv [0, 1, 2, 3, 4, 5] rfl (ih _ _ _ _ _ hf)
set_option maxHeartbeats 4000000 in
set_option maxRecDepth 100000 in
theorem kX1_daysMore (G : Gx) {b : Nat} (hb : isSky b) {h : Hp} {a1 : Int32} {a2 : Int32} {rr : Int32} {hh : Hp} (hf : fX1_daysMore h b a1 a2 = some (rr, hh)) : MC G yX1_daysMore cX1_daysMore 6 (some .int) 7 448 h [.ref (gad G 3), .ref (gad G b), .int a1, .int a2] (some (.int rr)) hh := by
  refine MC.of RX1 (by decide) rfl (Nat.le_of_ble_eq_true rfl) rfl (fun X C hG hR hF => ?_)
  subst hG
  have hcs : True := trivial
  unfold fX1_daysMore at hf
  refine r_iconst (v := 0) C dX1_daysMore_0 (by decide) ?_
  refine r_istore (i := 4) (lv' := [(0, .ref (gad (xG X) 3)), (1, .ref (gad (xG X) b)), (2, .int a1), (3, .int a2), (4, .int (0 : Int32))]) C dX1_daysMore_1 (by decide) [1, 2, 3, 4, 0] rfl ?_
  refine r_iconst (v := 0) C dX1_daysMore_3 (by decide) ?_
  refine r_istore (i := 5) (lv' := [(0, .ref (gad (xG X) 3)), (1, .ref (gad (xG X) b)), (2, .int a1), (3, .int a2), (4, .int (0 : Int32)), (5, .int (0 : Int32))]) C dX1_daysMore_4 (by decide) [1, 2, 3, 4, 5, 0] rfl ?_
  exact r_lv [0, 1, 2, 3, 4, 5] rfl ((wX1_daysMore hb C hR hcs hF big) _ _ _ _ _ hf)

def BX12_standingBy_0 (h : Hp) (rec : Int32 → Int32 → Int32 → Option (Int32)) (y1 : Int32) (y2 : Int32) (y3 : Int32) : Option (Int32) := (if (16 : Int32) ≤ y3 then some y2 else cl9 (fX12_skyBy h y1 y3) (fun x2 => gd (inb ((14 : Int32) + y3) 2031) (gd (inb ((30 : Int32) + y3) 2031) ((if (x2 - (h 209 ((14 : Int32) + y3).toNatClampNeg)) < (h 209 ((30 : Int32) + y3).toNatClampNeg) then lt9 (y2 ||| (0 : Int32)) (fun x7 => lt9 (y3 + (1 : Int32)) (fun x8 => rec y1 x7 x8)) else lt9 (y2 ||| ((1 : Int32) <<< (y3 &&& 31))) (fun x9 => lt9 (y3 + (1 : Int32)) (fun x10 => rec y1 x9 x10)))))))
def LX12_standingBy (h : Hp) : Nat → Int32 → Int32 → Int32 → Option (Int32)
  | 0, _, _, _ => none
  | n + 1, y1, y2, y3 => BX12_standingBy_0 h (LX12_standingBy h n) y1 y2 y3
def fX12_standingBy (h : Hp) (a1 : Int32) : Option (Int32) := LX12_standingBy h big a1 (0 : Int32) (0 : Int32)
set_option maxHeartbeats 4000000 in
set_option maxRecDepth 100000 in
theorem wX12_standingBy {X : Cx} {h : Hp}  {rr : Int32} (C : OK X cX12_standingBy 4 RX12 (some .int)) (hR : xR X = { frames := 4, cells := 0, slots := 0, locals := 256 }) (hcs : True) (hF : FinR X (some (.int rr)) h) : ∀ n : Nat, (∀ (y1 : Int32) (y2 : Int32) (y3 : Int32), LX12_standingBy h n y1 y2 y3 = some rr → VW X 4 h 0 0 4 [(0, .ref (gad (xG X) 208)), (1, .int y1), (2, .int y2), (3, .int y3)] []) := by
  intro n
  induction n with
  | zero => exact (fun _ _ _ hf => (by rw [LX12_standingBy] at hf; cases hf))
  | succ n ih =>
    intro y1 y2 y3 hf
    rw [LX12_standingBy] at hf
    unfold BX12_standingBy_0 at hf
    refine r_iload_n (i := 3) C dX12_standingBy_4 rfl 3 rfl ?_
    refine r_bipush (v := 16) C dX12_standingBy_5 (by decide) ?_
    refine r_icmp_ge C 54 dX12_standingBy_7 (by decide) (fun c1 => ?_) (fun c1 => ?_)
    · rw [if_pos c1] at hf
      refine r_iload_n (i := 2) C dX12_standingBy_54 rfl 2 rfl ?_
      cases hf
      exact r_iret C hF dX12_standingBy_55
    · rw [if_neg c1] at hf
      refine r_iload_n (i := 2) C dX12_standingBy_10 rfl 2 rfl ?_
      refine r_aload_n (i := 0) C dX12_standingBy_11 rfl 0 rfl ?_
      refine r_iload_n (i := 1) C dX12_standingBy_12 rfl 1 rfl ?_
      refine r_iload_n (i := 3) C dX12_standingBy_13 rfl 3 rfl ?_
      obtain ⟨x2, e3, hf⟩ := cl_of hf
      refine r_callVi (As := [.int y1, .int y3]) (st := [.int y2]) C 208 rfl (by decide) rfl (kX12_skyBy (xG X) e3) cw_X12_296 rfl rfl (Nat.le_of_ble_eq_true rfl) (zr2 hR rfl rfl) (zrcs hcs) dX12_standingBy_14 ?_
      refine r_aload_n (i := 0) C dX12_standingBy_17 rfl 0 rfl ?_
      refine g_X12_13 C dX12_standingBy_18 ?_
      refine r_bipush (v := 14) C dX12_standingBy_21 (by decide) ?_
      refine r_iload_n (i := 3) C dX12_standingBy_23 rfl 3 rfl ?_
      refine r_iadd C dX12_standingBy_24 ?_
      obtain ⟨g4, hf⟩ := gd_of hf
      refine r_iald C 209 rfl (by decide) g4 dX12_standingBy_25 ?_
      refine r_isub C dX12_standingBy_26 ?_
      refine r_aload_n (i := 0) C dX12_standingBy_27 rfl 0 rfl ?_
      refine g_X12_13 C dX12_standingBy_28 ?_
      refine r_bipush (v := 30) C dX12_standingBy_31 (by decide) ?_
      refine r_iload_n (i := 3) C dX12_standingBy_33 rfl 3 rfl ?_
      refine r_iadd C dX12_standingBy_34 ?_
      obtain ⟨g5, hf⟩ := gd_of hf
      refine r_iald C 209 rfl (by decide) g5 dX12_standingBy_35 ?_
      refine r_icmp_lt C 45 dX12_standingBy_36 (by decide) (fun c6 => ?_) (fun c6 => ?_)
      · rw [if_pos c6] at hf
        refine r_iconst (v := 0) C dX12_standingBy_45 (by decide) ?_
        refine r_ior C dX12_standingBy_46 ?_
        obtain ⟨x7, ex7, hf⟩ := lt_of hf
        refine r_top ex7 ?_
        refine r_istore_n (i := 2) (lv' := [(0, .ref (gad (xG X) 208)), (1, .int y1), (2, .int x7), (3, .int y3)]) C dX12_standingBy_47 rfl (by decide) [1, 2, 0, 3] rfl ?_
        obtain ⟨x8, ex8, hf⟩ := lt_of hf
        refine r_iinc (j := 3) (v := x8) (lv' := [(0, .ref (gad (xG X) 208)), (1, .int y1), (2, .int x7), (3, .int x8)]) C dX12_standingBy_48 rfl (by rw [ex8]; rfl) (by decide) [1, 2, 3, 0] rfl ?_
        refine r_goto C 4 dX12_standingBy_51 (by decide) ?_
        exact r_lv [0, 1, 2, 3] rfl (ih _ _ _ hf)
      · rw [if_neg c6] at hf
        refine r_iconst (v := 1) C dX12_standingBy_39 (by decide) ?_
        refine r_iload_n (i := 3) C dX12_standingBy_40 rfl 3 rfl ?_
        refine r_ishl C dX12_standingBy_41 ?_
        refine r_goto C 46 dX12_standingBy_42 (by decide) ?_
        refine r_ior C dX12_standingBy_46 ?_
        obtain ⟨x9, ex9, hf⟩ := lt_of hf
        refine r_top ex9 ?_
        refine r_istore_n (i := 2) (lv' := [(0, .ref (gad (xG X) 208)), (1, .int y1), (2, .int x9), (3, .int y3)]) C dX12_standingBy_47 rfl (by decide) [1, 2, 0, 3] rfl ?_
        obtain ⟨x10, ex10, hf⟩ := lt_of hf
        refine r_iinc (j := 3) (v := x10) (lv' := [(0, .ref (gad (xG X) 208)), (1, .int y1), (2, .int x9), (3, .int x10)]) C dX12_standingBy_48 rfl (by rw [ex10]; rfl) (by decide) [1, 2, 3, 0] rfl ?_
        refine r_goto C 4 dX12_standingBy_51 (by decide) ?_
        exact r_lv [0, 1, 2, 3] rfl (ih _ _ _ hf)
set_option maxHeartbeats 4000000 in
set_option maxRecDepth 100000 in
theorem kX12_standingBy (G : Gx)  {h : Hp} {a1 : Int32} {rr : Int32} (hf : fX12_standingBy h a1 = some rr) : MC G yX12_standingBy cX12_standingBy 4 (some .int) 4 256 h [.ref (gad G 208), .int a1] (some (.int rr)) h := by
  refine MC.of RX12 (by decide) rfl (Nat.le_of_ble_eq_true rfl) rfl (fun X C hG hR hF => ?_)
  subst hG
  have hcs : True := trivial
  unfold fX12_standingBy at hf
  refine r_iconst (v := 0) C dX12_standingBy_0 (by decide) ?_
  refine r_istore_n (i := 2) (lv' := [(0, .ref (gad (xG X) 208)), (1, .int a1), (2, .int (0 : Int32))]) C dX12_standingBy_1 rfl (by decide) [1, 2, 0] rfl ?_
  refine r_iconst (v := 0) C dX12_standingBy_2 (by decide) ?_
  refine r_istore_n (i := 3) (lv' := [(0, .ref (gad (xG X) 208)), (1, .int a1), (2, .int (0 : Int32)), (3, .int (0 : Int32))]) C dX12_standingBy_3 rfl (by decide) [1, 2, 3, 0] rfl ?_
  exact r_lv [0, 1, 2, 3] rfl ((wX12_standingBy  C hR hcs hF big) _ _ _ hf)
def fX12_standingWith (h : Hp) (a1 : Int32) : Option (Int32 × Hp) := cl2 (fX12_holdingOf h a1) (fun x3 h1 => cl9 (fX12_standingBy h1 x3) (fun x4 => some (x4, h1)))
set_option maxHeartbeats 4000000 in
set_option maxRecDepth 100000 in
theorem kX12_standingWith (G : Gx)  {h : Hp} {a1 : Int32} {rr : Int32} {hh : Hp} (hf : fX12_standingWith h a1 = some (rr, hh)) : MC G yX12_standingWith cX12_standingWith 2 (some .int) 10 640 h [.ref (gad G 208), .int a1] (some (.int rr)) hh := by
  refine MC.of RX12 (by decide) rfl (Nat.le_of_ble_eq_true rfl) rfl (fun X C hG hR hF => ?_)
  subst hG
  have hcs : True := trivial
  unfold fX12_standingWith at hf
  refine r_aload_n (i := 0) C dX12_standingWith_0 rfl 0 rfl ?_
  refine r_aload_n (i := 0) C dX12_standingWith_1 rfl 0 rfl ?_
  refine r_iload_n (i := 1) C dX12_standingWith_2 rfl 1 rfl ?_
  obtain ⟨x3, h1, e2, hf⟩ := cl2_of hf
  refine r_callVi (As := [.int a1]) (st := [.ref (gad (xG X) 208)]) C 208 rfl (by decide) rfl (kX12_holdingOf (xG X) e2) cw_X12_290 rfl rfl (Nat.le_of_ble_eq_true rfl) (zr2 hR rfl rfl) (zrcs hcs) dX12_standingWith_3 ?_
  obtain ⟨x4, e5, hf⟩ := cl_of hf
  refine r_callVi (As := [.int x3]) (st := []) C 208 rfl (by decide) rfl (kX12_standingBy (xG X) e5) cw_X12_299 rfl rfl (Nat.le_of_ble_eq_true rfl) (zr2 hR rfl rfl) (zrcs hcs) dX12_standingWith_6 ?_
  cases hf
  exact r_iret C hF dX12_standingWith_9
def fX12_standingNow (h : Hp) : Option (Int32 × Hp) := cl2 (fX12_standingWith h (fX12_pins h)) (fun x3 h1 => some (x3, h1))
set_option maxHeartbeats 4000000 in
set_option maxRecDepth 100000 in
theorem kX12_standingNow (G : Gx)  {h : Hp}  {rr : Int32} {hh : Hp} (hf : fX12_standingNow h = some (rr, hh)) : MC G yX12_standingNow cX12_standingNow 1 (some .int) 11 704 h [.ref (gad G 208)] (some (.int rr)) hh := by
  refine MC.of RX12 (by decide) rfl (Nat.le_of_ble_eq_true rfl) rfl (fun X C hG hR hF => ?_)
  subst hG
  have hcs : True := trivial
  unfold fX12_standingNow at hf
  refine r_aload_n (i := 0) C dX12_standingNow_0 rfl 0 rfl ?_
  refine r_aload_n (i := 0) C dX12_standingNow_1 rfl 0 rfl ?_
  refine r_callVi (As := []) (st := [.ref (gad (xG X) 208)]) C 208 rfl (by decide) rfl (kX12_pins (xG X)) cw_X12_65 rfl rfl (Nat.le_of_ble_eq_true rfl) (zr2 hR rfl rfl) (zrcs hcs) dX12_standingNow_2 ?_
  obtain ⟨x3, h1, e2, hf⟩ := cl2_of hf
  refine r_callVi (As := [.int (fX12_pins h)]) (st := []) C 208 rfl (by decide) rfl (kX12_standingWith (xG X) e2) cw_X12_302 rfl rfl (Nat.le_of_ble_eq_true rfl) (zr2 hR rfl rfl) (zrcs hcs) dX12_standingNow_5 ?_
  cases hf
  exact r_iret C hF dX12_standingNow_8
def fX12_place (h : Hp) (a1 : Int32) (a2 : Int32) : Option (Int32 × Hp) := lt9 (up2 h 208 0 (0 : Int32)) (fun h1 => cl2 (fX12_throwsIf h1 (fX12_noPlace a1) (1 : Int32)) (fun x4 h2 => (if x4 = (0 : Int32) then cl9 ((if (fX12_in a2 (0 : Int32) (9 : Int32)) = (0 : Int32) then some (1 : Int32) else some (0 : Int32)) : Option (Int32)) (fun v6 => cl2 (fX12_throwsIf h2 v6 (2 : Int32)) (fun x12 h10 => (if x12 = (0 : Int32) then cl2 (fX12_holdingNow h10) (fun x16 h14 => (if a2 = (0 : Int32) then gd (inb ((14 : Int32) + a1) 2031) (some ((h14 209 ((14 : Int32) + a1).toNatClampNeg), h14)) else (if a2 = (1 : Int32) then gd (inb ((30 : Int32) + a1) 2031) (some ((h14 209 ((30 : Int32) + a1).toNatClampNeg), h14)) else (if a2 = (2 : Int32) then gd (inb ((46 : Int32) + a1) 2031) (some ((h14 209 ((46 : Int32) + a1).toNatClampNeg), h14)) else (if a2 = (3 : Int32) then (if (fX12_hasLadder h14 a1) = (0 : Int32) then some ((0 : Int32), h14) else some ((1 : Int32), h14)) else (if a2 = (4 : Int32) then (if (fX12_hasPin h14 a1) = (0 : Int32) then some ((0 : Int32), h14) else some ((1 : Int32), h14)) else (if a2 = (5 : Int32) then cl9 (fX12_rustOf h14 a1) (fun x28 => some (x28, h14)) else (if a2 = (6 : Int32) then cl2 (fX12_strainOf h14 a1) (fun x33 h31 => some (x33, h31)) else (if a2 = (7 : Int32) then some (((x16 >>> (a1 &&& 31)) &&& (1 : Int32)), h14) else (if a2 = (8 : Int32) then cl9 (fX12_skyBy h14 x16 a1) (fun x36 => some (x36, h14)) else cl9 (fX12_standingBy h14 x16) (fun x38 => some (((x38 >>> (a1 &&& 31)) &&& (1 : Int32)), h14)))))))))))) else some ((0 : Int32), h10)))) else some ((0 : Int32), h2))))
set_option maxHeartbeats 4000000 in
set_option maxRecDepth 100000 in
theorem kX12_place (G : Gx)  {h : Hp} {a1 : Int32} {a2 : Int32} {rr : Int32} {hh : Hp} (hf : fX12_place h a1 a2 = some (rr, hh)) : MC G yX12_place cX12_place 4 (some .int) 11 704 h [.ref (gad G 208), .int a1, .int a2] (some (.int rr)) hh := by
  refine MC.of RX12 (by decide) rfl (Nat.le_of_ble_eq_true rfl) rfl (fun X C hG hR hF => ?_)
  subst hG
  have hcs : True := trivial
  unfold fX12_place at hf
  refine r_aload_n (i := 0) C dX12_place_0 rfl 0 rfl ?_
  refine r_iconst (v := 0) C dX12_place_1 (by decide) ?_
  obtain ⟨h1, eh1, hf⟩ := lt_of hf
  refine p_X12_3 C eh1 dX12_place_2 ?_
  refine r_aload_n (i := 0) C dX12_place_5 rfl 0 rfl ?_
  refine r_iload_n (i := 1) C dX12_place_6 rfl 1 rfl ?_
  refine r_callSi (As := [.int a1]) (st := [.ref (gad (xG X) 208)]) C (kX12_noPlace (xG X)) cw_X12_305 rfl rfl (Nat.le_of_ble_eq_true rfl) (zr2 hR rfl rfl) (zrcs hcs) dX12_place_7 ?_
  refine r_iconst (v := 1) C dX12_place_10 (by decide) ?_
  obtain ⟨x4, h2, e3, hf⟩ := cl2_of hf
  refine r_callVi (As := [.int (fX12_noPlace a1), .int (1 : Int32)]) (st := []) C 208 rfl (by decide) rfl (kX12_throwsIf (xG X) e3) cw_X12_247 rfl rfl (Nat.le_of_ble_eq_true rfl) (zr2 hR rfl rfl) (zrcs hcs) dX12_place_11 ?_
  refine r_if_ne C 40 dX12_place_14 (by decide) (fun c5 => ?_) (fun c5 => ?_)
  · rw [if_neg c5] at hf
    refine r_iconst (v := 0) C dX12_place_40 (by decide) ?_
    cases hf
    exact r_iret C hF dX12_place_41
  · rw [if_pos c5] at hf
    refine r_aload_n (i := 0) C dX12_place_17 rfl 0 rfl ?_
    refine r_iload_n (i := 2) C dX12_place_18 rfl 2 rfl ?_
    refine r_iconst (v := 0) C dX12_place_19 (by decide) ?_
    refine r_bipush (v := 9) C dX12_place_20 (by decide) ?_
    refine r_callSi (As := [.int a2, .int (0 : Int32), .int (9 : Int32)]) (st := [.ref (gad (xG X) 208)]) C (kX12_in (xG X)) cw_X12_76 rfl rfl (Nat.le_of_ble_eq_true rfl) (zr2 hR rfl rfl) (zrcs hcs) dX12_place_22 ?_
    obtain ⟨v6, r8, hf⟩ := cl_of hf
    have k7 : VW X 4 h2 0 0 33 [(0, .ref (gad (xG X) 208)), (1, .int a1), (2, .int a2)] [.int v6, .ref (gad (xG X) 208)] := by
      refine r_iconst (v := 2) C dX12_place_33 (by decide) ?_
      obtain ⟨x12, h10, e11, hf⟩ := cl2_of hf
      refine r_callVi (As := [.int v6, .int (2 : Int32)]) (st := []) C 208 rfl (by decide) rfl (kX12_throwsIf (xG X) e11) cw_X12_247 rfl rfl (Nat.le_of_ble_eq_true rfl) (zr2 hR rfl rfl) (zrcs hcs) dX12_place_34 ?_
      refine r_if_eq C 42 dX12_place_37 (by decide) (fun c13 => ?_) (fun c13 => ?_)
      · rw [if_pos c13] at hf
        refine r_aload_n (i := 0) C dX12_place_42 rfl 0 rfl ?_
        obtain ⟨x16, h14, e15, hf⟩ := cl2_of hf
        refine r_callVi (As := []) (st := []) C 208 rfl (by decide) rfl (kX12_holdingNow (xG X) e15) cw_X12_308 rfl rfl (Nat.le_of_ble_eq_true rfl) (zr2 hR rfl rfl) (zrcs hcs) dX12_place_43 ?_
        refine r_istore_n (i := 3) (lv' := [(0, .ref (gad (xG X) 208)), (1, .int a1), (2, .int a2), (3, .int x16)]) C dX12_place_46 rfl (by decide) [1, 2, 3, 0] rfl ?_
        refine r_iload_n (i := 2) C dX12_place_47 rfl 2 rfl ?_
        by_cases c17 : a2 = (0 : Int32)
        · rw [if_pos c17] at hf
          refine r_tableIn C 100 dX12_place_48 (by rw [c17] <;> decide) (by rw [c17] <;> decide) (by rw [c17] <;> rfl) (by decide) ?_
          refine r_aload_n (i := 0) C dX12_place_100 rfl 0 rfl ?_
          refine g_X12_13 C dX12_place_101 ?_
          refine r_bipush (v := 14) C dX12_place_104 (by decide) ?_
          refine r_iload_n (i := 1) C dX12_place_106 rfl 1 rfl ?_
          refine r_iadd C dX12_place_107 ?_
          obtain ⟨g18, hf⟩ := gd_of hf
          refine r_iald C 209 rfl (by decide) g18 dX12_place_108 ?_
          cases hf
          exact r_iret C hF dX12_place_109
        · rw [if_neg c17] at hf
          by_cases c19 : a2 = (1 : Int32)
          · rw [if_pos c19] at hf
            refine r_tableIn C 110 dX12_place_48 (by rw [c19] <;> decide) (by rw [c19] <;> decide) (by rw [c19] <;> rfl) (by decide) ?_
            refine r_aload_n (i := 0) C dX12_place_110 rfl 0 rfl ?_
            refine g_X12_13 C dX12_place_111 ?_
            refine r_bipush (v := 30) C dX12_place_114 (by decide) ?_
            refine r_iload_n (i := 1) C dX12_place_116 rfl 1 rfl ?_
            refine r_iadd C dX12_place_117 ?_
            obtain ⟨g20, hf⟩ := gd_of hf
            refine r_iald C 209 rfl (by decide) g20 dX12_place_118 ?_
            cases hf
            exact r_iret C hF dX12_place_119
          · rw [if_neg c19] at hf
            by_cases c21 : a2 = (2 : Int32)
            · rw [if_pos c21] at hf
              refine r_tableIn C 120 dX12_place_48 (by rw [c21] <;> decide) (by rw [c21] <;> decide) (by rw [c21] <;> rfl) (by decide) ?_
              refine r_aload_n (i := 0) C dX12_place_120 rfl 0 rfl ?_
              refine g_X12_13 C dX12_place_121 ?_
              refine r_bipush (v := 46) C dX12_place_124 (by decide) ?_
              refine r_iload_n (i := 1) C dX12_place_126 rfl 1 rfl ?_
              refine r_iadd C dX12_place_127 ?_
              obtain ⟨g22, hf⟩ := gd_of hf
              refine r_iald C 209 rfl (by decide) g22 dX12_place_128 ?_
              cases hf
              exact r_iret C hF dX12_place_129
            · rw [if_neg c21] at hf
              by_cases c23 : a2 = (3 : Int32)
              · rw [if_pos c23] at hf
                refine r_tableIn C 130 dX12_place_48 (by rw [c23] <;> decide) (by rw [c23] <;> decide) (by rw [c23] <;> rfl) (by decide) ?_
                refine r_aload_n (i := 0) C dX12_place_130 rfl 0 rfl ?_
                refine r_iload_n (i := 1) C dX12_place_131 rfl 1 rfl ?_
                refine r_callVi (As := [.int a1]) (st := []) C 208 rfl (by decide) rfl (kX12_hasLadder (xG X)) cw_X12_268 rfl rfl (Nat.le_of_ble_eq_true rfl) (zr2 hR rfl rfl) (zrcs hcs) dX12_place_132 ?_
                refine r_if_eq C 142 dX12_place_135 (by decide) (fun c24 => ?_) (fun c24 => ?_)
                · rw [if_pos c24] at hf
                  refine r_iconst (v := 0) C dX12_place_142 (by decide) ?_
                  cases hf
                  exact r_iret C hF dX12_place_143
                · rw [if_neg c24] at hf
                  refine r_iconst (v := 1) C dX12_place_138 (by decide) ?_
                  refine r_goto C 143 dX12_place_139 (by decide) ?_
                  cases hf
                  exact r_iret C hF dX12_place_143
              · rw [if_neg c23] at hf
                by_cases c25 : a2 = (4 : Int32)
                · rw [if_pos c25] at hf
                  refine r_tableIn C 144 dX12_place_48 (by rw [c25] <;> decide) (by rw [c25] <;> decide) (by rw [c25] <;> rfl) (by decide) ?_
                  refine r_aload_n (i := 0) C dX12_place_144 rfl 0 rfl ?_
                  refine r_iload_n (i := 1) C dX12_place_145 rfl 1 rfl ?_
                  refine r_callVi (As := [.int a1]) (st := []) C 208 rfl (by decide) rfl (kX12_hasPin (xG X)) cw_X12_122 rfl rfl (Nat.le_of_ble_eq_true rfl) (zr2 hR rfl rfl) (zrcs hcs) dX12_place_146 ?_
                  refine r_if_eq C 156 dX12_place_149 (by decide) (fun c26 => ?_) (fun c26 => ?_)
                  · rw [if_pos c26] at hf
                    refine r_iconst (v := 0) C dX12_place_156 (by decide) ?_
                    cases hf
                    exact r_iret C hF dX12_place_157
                  · rw [if_neg c26] at hf
                    refine r_iconst (v := 1) C dX12_place_152 (by decide) ?_
                    refine r_goto C 157 dX12_place_153 (by decide) ?_
                    cases hf
                    exact r_iret C hF dX12_place_157
                · rw [if_neg c25] at hf
                  by_cases c27 : a2 = (5 : Int32)
                  · rw [if_pos c27] at hf
                    refine r_tableIn C 158 dX12_place_48 (by rw [c27] <;> decide) (by rw [c27] <;> decide) (by rw [c27] <;> rfl) (by decide) ?_
                    refine r_aload_n (i := 0) C dX12_place_158 rfl 0 rfl ?_
                    refine r_iload_n (i := 1) C dX12_place_159 rfl 1 rfl ?_
                    obtain ⟨x28, e29, hf⟩ := cl_of hf
                    refine r_callVi (As := [.int a1]) (st := []) C 208 rfl (by decide) rfl (kX12_rustOf (xG X) e29) cw_X12_262 rfl rfl (Nat.le_of_ble_eq_true rfl) (zr2 hR rfl rfl) (zrcs hcs) dX12_place_160 ?_
                    cases hf
                    exact r_iret C hF dX12_place_163
                  · rw [if_neg c27] at hf
                    by_cases c30 : a2 = (6 : Int32)
                    · rw [if_pos c30] at hf
                      refine r_tableIn C 164 dX12_place_48 (by rw [c30] <;> decide) (by rw [c30] <;> decide) (by rw [c30] <;> rfl) (by decide) ?_
                      refine r_aload_n (i := 0) C dX12_place_164 rfl 0 rfl ?_
                      refine r_iload_n (i := 1) C dX12_place_165 rfl 1 rfl ?_
                      obtain ⟨x33, h31, e32, hf⟩ := cl2_of hf
                      refine r_callVi (As := [.int a1]) (st := []) C 208 rfl (by decide) rfl (kX12_strainOf (xG X) e32) cw_X12_284 rfl rfl (Nat.le_of_ble_eq_true rfl) (zr2 hR rfl rfl) (zrcs hcs) dX12_place_166 ?_
                      cases hf
                      exact r_iret C hF dX12_place_169
                    · rw [if_neg c30] at hf
                      by_cases c34 : a2 = (7 : Int32)
                      · rw [if_pos c34] at hf
                        refine r_tableIn C 170 dX12_place_48 (by rw [c34] <;> decide) (by rw [c34] <;> decide) (by rw [c34] <;> rfl) (by decide) ?_
                        refine r_iload_n (i := 3) C dX12_place_170 rfl 3 rfl ?_
                        refine r_iload_n (i := 1) C dX12_place_171 rfl 1 rfl ?_
                        refine r_ishr C dX12_place_172 ?_
                        refine r_iconst (v := 1) C dX12_place_173 (by decide) ?_
                        refine r_iand C dX12_place_174 ?_
                        cases hf
                        exact r_iret C hF dX12_place_175
                      · rw [if_neg c34] at hf
                        by_cases c35 : a2 = (8 : Int32)
                        · rw [if_pos c35] at hf
                          refine r_tableIn C 176 dX12_place_48 (by rw [c35] <;> decide) (by rw [c35] <;> decide) (by rw [c35] <;> rfl) (by decide) ?_
                          refine r_aload_n (i := 0) C dX12_place_176 rfl 0 rfl ?_
                          refine r_iload_n (i := 3) C dX12_place_177 rfl 3 rfl ?_
                          refine r_iload_n (i := 1) C dX12_place_178 rfl 1 rfl ?_
                          obtain ⟨x36, e37, hf⟩ := cl_of hf
                          refine r_callVi (As := [.int x16, .int a1]) (st := []) C 208 rfl (by decide) rfl (kX12_skyBy (xG X) e37) cw_X12_296 rfl rfl (Nat.le_of_ble_eq_true rfl) (zr2 hR rfl rfl) (zrcs hcs) dX12_place_179 ?_
                          cases hf
                          exact r_iret C hF dX12_place_182
                        · rw [if_neg c35] at hf
                          refine r_tableOut C 183 dX12_place_48 (sw_out2 (0) (8) 9 (by decide) ?_ (by decide) (by decide)) (by decide) ?_
                          · intro k9 h9
                            match k9, h9 with
                            | 0, _ => exact fun e9 => c17 (e9.trans (by decide))
                            | 1, _ => exact fun e9 => c19 (e9.trans (by decide))
                            | 2, _ => exact fun e9 => c21 (e9.trans (by decide))
                            | 3, _ => exact fun e9 => c23 (e9.trans (by decide))
                            | 4, _ => exact fun e9 => c25 (e9.trans (by decide))
                            | 5, _ => exact fun e9 => c27 (e9.trans (by decide))
                            | 6, _ => exact fun e9 => c30 (e9.trans (by decide))
                            | 7, _ => exact fun e9 => c34 (e9.trans (by decide))
                            | 8, _ => exact fun e9 => c35 (e9.trans (by decide))
                            | k9 + 9, h9 => exact absurd h9 (by omega)
                          refine r_aload_n (i := 0) C dX12_place_183 rfl 0 rfl ?_
                          refine r_iload_n (i := 3) C dX12_place_184 rfl 3 rfl ?_
                          obtain ⟨x38, e39, hf⟩ := cl_of hf
                          refine r_callVi (As := [.int x16]) (st := []) C 208 rfl (by decide) rfl (kX12_standingBy (xG X) e39) cw_X12_299 rfl rfl (Nat.le_of_ble_eq_true rfl) (zr2 hR rfl rfl) (zrcs hcs) dX12_place_185 ?_
                          refine r_iload_n (i := 1) C dX12_place_188 rfl 1 rfl ?_
                          refine r_ishr C dX12_place_189 ?_
                          refine r_iconst (v := 1) C dX12_place_190 (by decide) ?_
                          refine r_iand C dX12_place_191 ?_
                          cases hf
                          exact r_iret C hF dX12_place_192
      · rw [if_neg c13] at hf
        refine r_iconst (v := 0) C dX12_place_40 (by decide) ?_
        cases hf
        exact r_iret C hF dX12_place_41
    clear hf
    have hf := r8
    refine r_if_ne C 32 dX12_place_25 (by decide) (fun c9 => ?_) (fun c9 => ?_)
    · rw [if_neg c9] at hf
      refine r_iconst (v := 0) C dX12_place_32 (by decide) ?_
      cases hf
      exact k7
    · rw [if_pos c9] at hf
      refine r_iconst (v := 1) C dX12_place_28 (by decide) ?_
      refine r_goto C 33 dX12_place_29 (by decide) ?_
      cases hf
      exact k7
def fX12_pinner (h : Hp) (a1 : Int32) (a2 : Int32) : Option (Int32 × Hp) := lt9 (up2 h 208 0 (0 : Int32)) (fun h1 => cl2 (fX12_throwsIf h1 (fX12_noPinner h1 a1) (1 : Int32)) (fun x4 h2 => (if x4 = (0 : Int32) then cl9 ((if (fX12_in a2 (0 : Int32) (2 : Int32)) = (0 : Int32) then some (1 : Int32) else some (0 : Int32)) : Option (Int32)) (fun v6 => cl2 (fX12_throwsIf h2 v6 (2 : Int32)) (fun x12 h10 => (if x12 = (0 : Int32) then cl9 (fX12_of h10 a1 a2) (fun x14 => some (x14, h10)) else some ((0 : Int32), h10)))) else some ((0 : Int32), h2))))
set_option maxHeartbeats 4000000 in
set_option maxRecDepth 100000 in
theorem kX12_pinner (G : Gx)  {h : Hp} {a1 : Int32} {a2 : Int32} {rr : Int32} {hh : Hp} (hf : fX12_pinner h a1 a2 = some (rr, hh)) : MC G yX12_pinner cX12_pinner 3 (some .int) 3 192 h [.ref (gad G 208), .int a1, .int a2] (some (.int rr)) hh := by
  refine MC.of RX12 (by decide) rfl (Nat.le_of_ble_eq_true rfl) rfl (fun X C hG hR hF => ?_)
  subst hG
  have hcs : True := trivial
  unfold fX12_pinner at hf
  refine r_aload_n (i := 0) C dX12_pinner_0 rfl 0 rfl ?_
  refine r_iconst (v := 0) C dX12_pinner_1 (by decide) ?_
  obtain ⟨h1, eh1, hf⟩ := lt_of hf
  refine p_X12_3 C eh1 dX12_pinner_2 ?_
  refine r_aload_n (i := 0) C dX12_pinner_5 rfl 0 rfl ?_
  refine r_aload_n (i := 0) C dX12_pinner_6 rfl 0 rfl ?_
  refine r_iload_n (i := 1) C dX12_pinner_7 rfl 1 rfl ?_
  refine r_callVi (As := [.int a1]) (st := [.ref (gad (xG X) 208)]) C 208 rfl (by decide) rfl (kX12_noPinner (xG X)) cw_X12_311 rfl rfl (Nat.le_of_ble_eq_true rfl) (zr2 hR rfl rfl) (zrcs hcs) dX12_pinner_8 ?_
  refine r_iconst (v := 1) C dX12_pinner_11 (by decide) ?_
  obtain ⟨x4, h2, e3, hf⟩ := cl2_of hf
  refine r_callVi (As := [.int (fX12_noPinner h1 a1), .int (1 : Int32)]) (st := []) C 208 rfl (by decide) rfl (kX12_throwsIf (xG X) e3) cw_X12_247 rfl rfl (Nat.le_of_ble_eq_true rfl) (zr2 hR rfl rfl) (zrcs hcs) dX12_pinner_12 ?_
  refine r_if_ne C 40 dX12_pinner_15 (by decide) (fun c5 => ?_) (fun c5 => ?_)
  · rw [if_neg c5] at hf
    refine r_iconst (v := 0) C dX12_pinner_40 (by decide) ?_
    refine r_goto C 50 dX12_pinner_41 (by decide) ?_
    cases hf
    exact r_iret C hF dX12_pinner_50
  · rw [if_pos c5] at hf
    refine r_aload_n (i := 0) C dX12_pinner_18 rfl 0 rfl ?_
    refine r_iload_n (i := 2) C dX12_pinner_19 rfl 2 rfl ?_
    refine r_iconst (v := 0) C dX12_pinner_20 (by decide) ?_
    refine r_iconst (v := 2) C dX12_pinner_21 (by decide) ?_
    refine r_callSi (As := [.int a2, .int (0 : Int32), .int (2 : Int32)]) (st := [.ref (gad (xG X) 208)]) C (kX12_in (xG X)) cw_X12_76 rfl rfl (Nat.le_of_ble_eq_true rfl) (zr2 hR rfl rfl) (zrcs hcs) dX12_pinner_22 ?_
    obtain ⟨v6, r8, hf⟩ := cl_of hf
    have k7 : VW X 3 h2 0 0 33 [(0, .ref (gad (xG X) 208)), (1, .int a1), (2, .int a2)] [.int v6, .ref (gad (xG X) 208)] := by
      refine r_iconst (v := 2) C dX12_pinner_33 (by decide) ?_
      obtain ⟨x12, h10, e11, hf⟩ := cl2_of hf
      refine r_callVi (As := [.int v6, .int (2 : Int32)]) (st := []) C 208 rfl (by decide) rfl (kX12_throwsIf (xG X) e11) cw_X12_247 rfl rfl (Nat.le_of_ble_eq_true rfl) (zr2 hR rfl rfl) (zrcs hcs) dX12_pinner_34 ?_
      refine r_if_eq C 44 dX12_pinner_37 (by decide) (fun c13 => ?_) (fun c13 => ?_)
      · rw [if_pos c13] at hf
        refine r_aload_n (i := 0) C dX12_pinner_44 rfl 0 rfl ?_
        refine r_iload_n (i := 1) C dX12_pinner_45 rfl 1 rfl ?_
        refine r_iload_n (i := 2) C dX12_pinner_46 rfl 2 rfl ?_
        obtain ⟨x14, e15, hf⟩ := cl_of hf
        refine r_callVi (As := [.int a1, .int a2]) (st := []) C 208 rfl (by decide) rfl (kX12_of (xG X) e15) cw_X12_314 rfl rfl (Nat.le_of_ble_eq_true rfl) (zr2 hR rfl rfl) (zrcs hcs) dX12_pinner_47 ?_
        cases hf
        exact r_iret C hF dX12_pinner_50
      · rw [if_neg c13] at hf
        refine r_iconst (v := 0) C dX12_pinner_40 (by decide) ?_
        refine r_goto C 50 dX12_pinner_41 (by decide) ?_
        cases hf
        exact r_iret C hF dX12_pinner_50
    clear hf
    have hf := r8
    refine r_if_ne C 32 dX12_pinner_25 (by decide) (fun c9 => ?_) (fun c9 => ?_)
    · rw [if_neg c9] at hf
      refine r_iconst (v := 0) C dX12_pinner_32 (by decide) ?_
      cases hf
      exact k7
    · rw [if_pos c9] at hf
      refine r_iconst (v := 1) C dX12_pinner_28 (by decide) ?_
      refine r_goto C 33 dX12_pinner_29 (by decide) ?_
      cases hf
      exact k7
def fX12_rusts (h : Hp) (a1 : Int32) : Option (Int32 × Hp) := lt9 (up2 h 208 0 (0 : Int32)) (fun h1 => cl2 (fX12_throwsIf h1 (fX12_noPlace a1) (1 : Int32)) (fun x4 h2 => cl9 ((if x4 = (0 : Int32) then (if (fX12_hasPin h2 a1) = (0 : Int32) then some true else some false) else some true) : Option Bool) (fun q5 => if q5 = true then some ((0 : Int32), h2) else lt9 (up2 h2 208 18 (fX12_pins h2)) (fun h11 => cl2 (fX12_rustsBy h11 a1) (fun x14 h12 => some (x14, h12))))))
set_option maxHeartbeats 4000000 in
set_option maxRecDepth 100000 in
theorem kX12_rusts (G : Gx)  {h : Hp} {a1 : Int32} {rr : Int32} {hh : Hp} (hf : fX12_rusts h a1 = some (rr, hh)) : MC G yX12_rusts cX12_rusts 2 (some .int) 8 512 h [.ref (gad G 208), .int a1] (some (.int rr)) hh := by
  refine MC.of RX12 (by decide) rfl (Nat.le_of_ble_eq_true rfl) rfl (fun X C hG hR hF => ?_)
  subst hG
  have hcs : True := trivial
  unfold fX12_rusts at hf
  refine r_aload_n (i := 0) C dX12_rusts_0 rfl 0 rfl ?_
  refine r_iconst (v := 0) C dX12_rusts_1 (by decide) ?_
  obtain ⟨h1, eh1, hf⟩ := lt_of hf
  refine p_X12_3 C eh1 dX12_rusts_2 ?_
  refine r_aload_n (i := 0) C dX12_rusts_5 rfl 0 rfl ?_
  refine r_iload_n (i := 1) C dX12_rusts_6 rfl 1 rfl ?_
  refine r_callSi (As := [.int a1]) (st := [.ref (gad (xG X) 208)]) C (kX12_noPlace (xG X)) cw_X12_305 rfl rfl (Nat.le_of_ble_eq_true rfl) (zr2 hR rfl rfl) (zrcs hcs) dX12_rusts_7 ?_
  refine r_iconst (v := 1) C dX12_rusts_10 (by decide) ?_
  obtain ⟨x4, h2, e3, hf⟩ := cl2_of hf
  refine r_callVi (As := [.int (fX12_noPlace a1), .int (1 : Int32)]) (st := []) C 208 rfl (by decide) rfl (kX12_throwsIf (xG X) e3) cw_X12_247 rfl rfl (Nat.le_of_ble_eq_true rfl) (zr2 hR rfl rfl) (zrcs hcs) dX12_rusts_11 ?_
  obtain ⟨q5, r8, hf⟩ := cl_of hf
  have k6 : q5 = true → VW X 2 h2 0 0 25 [(0, .ref (gad (xG X) 208)), (1, .int a1)] [] := fun qq => by
    rw [if_pos qq] at hf
    refine r_iconst (v := 0) C dX12_rusts_25 (by decide) ?_
    cases hf
    exact r_iret C hF dX12_rusts_26
  have k7 : q5 = false → VW X 2 h2 0 0 27 [(0, .ref (gad (xG X) 208)), (1, .int a1)] [] := fun qq => by
    rw [if_neg (by rw [qq]; decide)] at hf
    refine r_aload_n (i := 0) C dX12_rusts_27 rfl 0 rfl ?_
    refine r_aload_n (i := 0) C dX12_rusts_28 rfl 0 rfl ?_
    refine r_callVi (As := []) (st := [.ref (gad (xG X) 208)]) C 208 rfl (by decide) rfl (kX12_pins (xG X)) cw_X12_65 rfl rfl (Nat.le_of_ble_eq_true rfl) (zr2 hR rfl rfl) (zrcs hcs) dX12_rusts_29 ?_
    obtain ⟨h11, eh11, hf⟩ := lt_of hf
    refine p_X12_250 C eh11 dX12_rusts_32 ?_
    refine r_aload_n (i := 0) C dX12_rusts_35 rfl 0 rfl ?_
    refine r_iload_n (i := 1) C dX12_rusts_36 rfl 1 rfl ?_
    obtain ⟨x14, h12, e13, hf⟩ := cl2_of hf
    refine r_callVi (As := [.int a1]) (st := []) C 208 rfl (by decide) rfl (kX12_rustsBy (xG X) e13) cw_X12_317 rfl rfl (Nat.le_of_ble_eq_true rfl) (zr2 hR rfl rfl) (zrcs hcs) dX12_rusts_37 ?_
    cases hf
    exact r_iret C hF dX12_rusts_40
  clear hf
  have hf := r8
  refine r_if_ne C 25 dX12_rusts_14 (by decide) (fun c9 => ?_) (fun c9 => ?_)
  · rw [if_neg c9] at hf
    exact k6 (Option.some.inj hf).symm
  · rw [if_pos c9] at hf
    refine r_aload_n (i := 0) C dX12_rusts_17 rfl 0 rfl ?_
    refine r_iload_n (i := 1) C dX12_rusts_18 rfl 1 rfl ?_
    refine r_callVi (As := [.int a1]) (st := []) C 208 rfl (by decide) rfl (kX12_hasPin (xG X)) cw_X12_122 rfl rfl (Nat.le_of_ble_eq_true rfl) (zr2 hR rfl rfl) (zrcs hcs) dX12_rusts_19 ?_
    refine r_if_ne C 27 dX12_rusts_22 (by decide) (fun c10 => ?_) (fun c10 => ?_)
    · rw [if_neg c10] at hf
      exact k7 (Option.some.inj hf).symm
    · rw [if_pos c10] at hf
      exact k6 (Option.some.inj hf).symm
def fX12_low (h : Hp) : Option (Int32 × Hp) := lt9 (up2 h 208 0 (0 : Int32)) (fun h1 => cl2 (fX12_standingNow h1) (fun x4 h2 => some (((65535 : Int32) &&& (x4 ^^^ (-1 : Int32))), h2)))
set_option maxHeartbeats 4000000 in
set_option maxRecDepth 100000 in
theorem kX12_low (G : Gx)  {h : Hp}  {rr : Int32} {hh : Hp} (hf : fX12_low h = some (rr, hh)) : MC G yX12_low cX12_low 1 (some .int) 12 768 h [.ref (gad G 208)] (some (.int rr)) hh := by
  refine MC.of RX12 (by decide) rfl (Nat.le_of_ble_eq_true rfl) rfl (fun X C hG hR hF => ?_)
  subst hG
  have hcs : True := trivial
  unfold fX12_low at hf
  refine r_aload_n (i := 0) C dX12_low_0 rfl 0 rfl ?_
  refine r_iconst (v := 0) C dX12_low_1 (by decide) ?_
  obtain ⟨h1, eh1, hf⟩ := lt_of hf
  refine p_X12_3 C eh1 dX12_low_2 ?_
  refine r_ldc (v := 65535) C dX12_low_5 gw_1835 ?_
  refine r_aload_n (i := 0) C dX12_low_7 rfl 0 rfl ?_
  obtain ⟨x4, h2, e3, hf⟩ := cl2_of hf
  refine r_callVi (As := []) (st := [.int (65535 : Int32)]) C 208 rfl (by decide) rfl (kX12_standingNow (xG X) e3) cw_X12_320 rfl rfl (Nat.le_of_ble_eq_true rfl) (zr2 hR rfl rfl) (zrcs hcs) dX12_low_8 ?_
  refine r_iconst (v := (-1)) C dX12_low_11 (by decide) ?_
  refine r_ixor C dX12_low_12 ?_
  refine r_iand C dX12_low_13 ?_
  cases hf
  exact r_iret C hF dX12_low_14
def fX12_held (h : Hp) : Option (Int32 × Hp) := lt9 (up2 h 208 0 (0 : Int32)) (fun h1 => cl2 (fX12_holdingNow h1) (fun x4 h2 => some (x4, h2)))
set_option maxHeartbeats 4000000 in
set_option maxRecDepth 100000 in
theorem kX12_held (G : Gx)  {h : Hp}  {rr : Int32} {hh : Hp} (hf : fX12_held h = some (rr, hh)) : MC G yX12_held cX12_held 1 (some .int) 11 704 h [.ref (gad G 208)] (some (.int rr)) hh := by
  refine MC.of RX12 (by decide) rfl (Nat.le_of_ble_eq_true rfl) rfl (fun X C hG hR hF => ?_)
  subst hG
  have hcs : True := trivial
  unfold fX12_held at hf
  refine r_aload_n (i := 0) C dX12_held_0 rfl 0 rfl ?_
  refine r_iconst (v := 0) C dX12_held_1 (by decide) ?_
  obtain ⟨h1, eh1, hf⟩ := lt_of hf
  refine p_X12_3 C eh1 dX12_held_2 ?_
  refine r_aload_n (i := 0) C dX12_held_5 rfl 0 rfl ?_
  obtain ⟨x4, h2, e3, hf⟩ := cl2_of hf
  refine r_callVi (As := []) (st := []) C 208 rfl (by decide) rfl (kX12_holdingNow (xG X) e3) cw_X12_308 rfl rfl (Nat.le_of_ble_eq_true rfl) (zr2 hR rfl rfl) (zrcs hcs) dX12_held_6 ?_
  cases hf
  exact r_iret C hF dX12_held_9
def BX12_tells_0  (rec : Hp → Int32 → Int32 → Int32 → Int32 → Option (Hp)) (h : Hp) (y1 : Int32) (y2 : Int32) (y3 : Int32) (y4 : Int32) : Option (Hp) := (if y4 < (4 : Int32) then gd (inb (93 : Int32) 2031) (lt9 (up2 h 209 (93 : Int32).toNatClampNeg (h 209 3)) (fun h3 => gd (inb (94 : Int32) 2031) (lt9 (up2 h3 209 (94 : Int32).toNatClampNeg y1) (fun h5 => gd (inb (95 : Int32) 2031) (lt9 (up2 h5 209 (95 : Int32).toNatClampNeg y2) (fun h7 => gd (inb (96 : Int32) 2031) (lt9 (up2 h7 209 (96 : Int32).toNatClampNeg y3) (fun h9 => gd (inb (11 : Int32) 2031) (lt9 (up2 h9 209 (11 : Int32).toNatClampNeg (jmin (60 : Int32) ((h9 209 11) + (1 : Int32)))) (fun h11 => some h11)))))))))) else gd (inb (((93 : Int32) + y4) - (4 : Int32)) 2031) (gd (inb ((93 : Int32) + y4) 2031) (lt9 (up2 h 209 ((93 : Int32) + y4).toNatClampNeg (h 209 (((93 : Int32) + y4) - (4 : Int32)).toNatClampNeg)) (fun h14 => lt9 (y4 + (-1 : Int32)) (fun x15 => rec h14 y1 y2 y3 x15)))))
def LX12_tells  : Nat → Hp → Int32 → Int32 → Int32 → Int32 → Option (Hp)
  | 0, _, _, _, _, _ => none
  | n + 1, h, y1, y2, y3, y4 => BX12_tells_0  (LX12_tells  n) h y1 y2 y3 y4
def fX12_tells (h : Hp) (a1 : Int32) (a2 : Int32) (a3 : Int32) : Option (Hp) := LX12_tells big h a1 a2 a3 (239 : Int32)
set_option maxHeartbeats 4000000 in
set_option maxRecDepth 100000 in
theorem wX12_tells {X : Cx}  {hh : Hp} (C : OK X cX12_tells 5 RX12 none) (hR : xR X = { frames := 2, cells := 0, slots := 0, locals := 128 }) (hcs : True) (hF : FinR X none hh) : ∀ n : Nat, (∀ (h : Hp) (y1 : Int32) (y2 : Int32) (y3 : Int32) (y4 : Int32), LX12_tells  n h y1 y2 y3 y4 = some hh → VW X 5 h 0 0 5 [(0, .ref (gad (xG X) 208)), (1, .int y1), (2, .int y2), (3, .int y3), (4, .int y4)] []) := by
  intro n
  induction n with
  | zero => exact (fun _ _ _ _ _ hf => (by rw [LX12_tells] at hf; cases hf))
  | succ n ih =>
    intro h y1 y2 y3 y4 hf
    rw [LX12_tells] at hf
    unfold BX12_tells_0 at hf
    refine r_iload (i := 4) C dX12_tells_5 4 rfl ?_
    refine r_iconst (v := 4) C dX12_tells_7 (by decide) ?_
    refine r_icmp_lt C 39 dX12_tells_8 (by decide) (fun c1 => ?_) (fun c1 => ?_)
    · rw [if_pos c1] at hf
      refine r_aload_n (i := 0) C dX12_tells_39 rfl 0 rfl ?_
      refine g_X12_13 C dX12_tells_40 ?_
      refine r_bipush (v := 93) C dX12_tells_43 (by decide) ?_
      refine r_aload_n (i := 0) C dX12_tells_45 rfl 0 rfl ?_
      refine g_X12_13 C dX12_tells_46 ?_
      refine r_iconst (v := 3) C dX12_tells_49 (by decide) ?_
      refine r_ialdc C 209 (m := 3) rfl (by decide) (by decide) (show inb 3 2031 by decide) dX12_tells_50 ?_
      obtain ⟨g2, hf⟩ := gd_of hf
      obtain ⟨h3, eh3, hf⟩ := lt_of hf
      refine r_iast C 209 eh3 rfl (by decide) g2 dX12_tells_51 ?_
      refine r_aload_n (i := 0) C dX12_tells_52 rfl 0 rfl ?_
      refine g_X12_13 C dX12_tells_53 ?_
      refine r_bipush (v := 94) C dX12_tells_56 (by decide) ?_
      refine r_iload_n (i := 1) C dX12_tells_58 rfl 1 rfl ?_
      obtain ⟨g4, hf⟩ := gd_of hf
      obtain ⟨h5, eh5, hf⟩ := lt_of hf
      refine r_iast C 209 eh5 rfl (by decide) g4 dX12_tells_59 ?_
      refine r_aload_n (i := 0) C dX12_tells_60 rfl 0 rfl ?_
      refine g_X12_13 C dX12_tells_61 ?_
      refine r_bipush (v := 95) C dX12_tells_64 (by decide) ?_
      refine r_iload_n (i := 2) C dX12_tells_66 rfl 2 rfl ?_
      obtain ⟨g6, hf⟩ := gd_of hf
      obtain ⟨h7, eh7, hf⟩ := lt_of hf
      refine r_iast C 209 eh7 rfl (by decide) g6 dX12_tells_67 ?_
      refine r_aload_n (i := 0) C dX12_tells_68 rfl 0 rfl ?_
      refine g_X12_13 C dX12_tells_69 ?_
      refine r_bipush (v := 96) C dX12_tells_72 (by decide) ?_
      refine r_iload_n (i := 3) C dX12_tells_74 rfl 3 rfl ?_
      obtain ⟨g8, hf⟩ := gd_of hf
      obtain ⟨h9, eh9, hf⟩ := lt_of hf
      refine r_iast C 209 eh9 rfl (by decide) g8 dX12_tells_75 ?_
      refine r_aload_n (i := 0) C dX12_tells_76 rfl 0 rfl ?_
      refine g_X12_13 C dX12_tells_77 ?_
      refine r_bipush (v := 11) C dX12_tells_80 (by decide) ?_
      refine r_bipush (v := 60) C dX12_tells_82 (by decide) ?_
      refine r_aload_n (i := 0) C dX12_tells_84 rfl 0 rfl ?_
      refine g_X12_13 C dX12_tells_85 ?_
      refine r_bipush (v := 11) C dX12_tells_88 (by decide) ?_
      refine r_ialdc C 209 (m := 11) rfl (by decide) (by decide) (show inb 11 2031 by decide) dX12_tells_90 ?_
      refine r_iconst (v := 1) C dX12_tells_91 (by decide) ?_
      refine r_iadd C dX12_tells_92 ?_
      refine r_mmin9 C gw_1797 gm_min_s gm_i gm_min_c (zr1 hR rfl) (zr0 hR (Nat.le_of_ble_eq_true rfl)) (zrcs hcs) dX12_tells_93 ?_
      obtain ⟨g10, hf⟩ := gd_of hf
      obtain ⟨h11, eh11, hf⟩ := lt_of hf
      refine r_iast C 209 eh11 rfl (by decide) g10 dX12_tells_96 ?_
      cases hf
      exact r_vret C hF dX12_tells_97
    · rw [if_neg c1] at hf
      refine r_aload_n (i := 0) C dX12_tells_11 rfl 0 rfl ?_
      refine g_X12_13 C dX12_tells_12 ?_
      refine r_bipush (v := 93) C dX12_tells_15 (by decide) ?_
      refine r_iload (i := 4) C dX12_tells_17 4 rfl ?_
      refine r_iadd C dX12_tells_19 ?_
      refine r_aload_n (i := 0) C dX12_tells_20 rfl 0 rfl ?_
      refine g_X12_13 C dX12_tells_21 ?_
      refine r_bipush (v := 93) C dX12_tells_24 (by decide) ?_
      refine r_iload (i := 4) C dX12_tells_26 4 rfl ?_
      refine r_iadd C dX12_tells_28 ?_
      refine r_iconst (v := 4) C dX12_tells_29 (by decide) ?_
      refine r_isub C dX12_tells_30 ?_
      obtain ⟨g12, hf⟩ := gd_of hf
      refine r_iald C 209 rfl (by decide) g12 dX12_tells_31 ?_
      obtain ⟨g13, hf⟩ := gd_of hf
      obtain ⟨h14, eh14, hf⟩ := lt_of hf
      refine r_iast C 209 eh14 rfl (by decide) g13 dX12_tells_32 ?_
      obtain ⟨x15, ex15, hf⟩ := lt_of hf
      refine r_iinc (j := 4) (v := x15) (lv' := [(0, .ref (gad (xG X) 208)), (1, .int y1), (2, .int y2), (3, .int y3), (4, .int x15)]) C dX12_tells_33 rfl (by rw [ex15]; rfl) (by decide) [1, 2, 3, 4, 0] rfl ?_
      refine r_goto C 5 dX12_tells_36 (by decide) ?_
      exact r_lv [0, 1, 2, 3, 4] rfl (ih _ _ _ _ _ hf)
set_option maxHeartbeats 4000000 in
set_option maxRecDepth 100000 in
theorem kX12_tells (G : Gx)  {h : Hp} {a1 : Int32} {a2 : Int32} {a3 : Int32} {hh : Hp} (hf : fX12_tells h a1 a2 a3 = some hh) : MC G yX12_tells cX12_tells 5 none 2 128 h [.ref (gad G 208), .int a1, .int a2, .int a3] none hh := by
  refine MC.of RX12 (by decide) rfl (Nat.le_of_ble_eq_true rfl) rfl (fun X C hG hR hF => ?_)
  subst hG
  have hcs : True := trivial
  unfold fX12_tells at hf
  refine r_sipush (v := 239) C dX12_tells_0 (by decide) ?_
  refine r_istore (i := 4) (lv' := [(0, .ref (gad (xG X) 208)), (1, .int a1), (2, .int a2), (3, .int a3), (4, .int (239 : Int32))]) C dX12_tells_3 (by decide) [1, 2, 3, 4, 0] rfl ?_
  exact r_lv [0, 1, 2, 3, 4] rfl ((wX12_tells  C hR hcs hF big) _ _ _ _ _ hf)
def fX12_takesOut (h : Hp) (a1 : Int32) (a2 : Int32) : Option (Hp) := gd (inb ((62 : Int32) + a1) 2031) (cl9 (fX12_tells h a1 a2 (h 209 ((62 : Int32) + a1).toNatClampNeg)) (fun h2 => gd (inb (7 : Int32) 2031) (lt9 (up2 h2 209 (7 : Int32).toNatClampNeg ((h2 209 7) &&& (((1 : Int32) <<< (a1 &&& 31)) ^^^ (-1 : Int32)))) (fun h5 => gd (inb ((62 : Int32) + a1) 2031) (lt9 (up2 h5 209 ((62 : Int32) + a1).toNatClampNeg (0 : Int32)) (fun h7 => some h7))))))
set_option maxHeartbeats 4000000 in
set_option maxRecDepth 100000 in
theorem kX12_takesOut (G : Gx)  {h : Hp} {a1 : Int32} {a2 : Int32} {hh : Hp} (hf : fX12_takesOut h a1 a2 = some hh) : MC G yX12_takesOut cX12_takesOut 3 none 3 192 h [.ref (gad G 208), .int a1, .int a2] none hh := by
  refine MC.of RX12 (by decide) rfl (Nat.le_of_ble_eq_true rfl) rfl (fun X C hG hR hF => ?_)
  subst hG
  have hcs : True := trivial
  unfold fX12_takesOut at hf
  refine r_aload_n (i := 0) C dX12_takesOut_0 rfl 0 rfl ?_
  refine r_iload_n (i := 1) C dX12_takesOut_1 rfl 1 rfl ?_
  refine r_iload_n (i := 2) C dX12_takesOut_2 rfl 2 rfl ?_
  refine r_aload_n (i := 0) C dX12_takesOut_3 rfl 0 rfl ?_
  refine g_X12_13 C dX12_takesOut_4 ?_
  refine r_bipush (v := 62) C dX12_takesOut_7 (by decide) ?_
  refine r_iload_n (i := 1) C dX12_takesOut_9 rfl 1 rfl ?_
  refine r_iadd C dX12_takesOut_10 ?_
  obtain ⟨g1, hf⟩ := gd_of hf
  refine r_iald C 209 rfl (by decide) g1 dX12_takesOut_11 ?_
  obtain ⟨h2, e3, hf⟩ := cl_of hf
  refine r_callVv (As := [.int a1, .int a2, .int (h 209 ((62 : Int32) + a1).toNatClampNeg)]) (st := []) C 208 rfl (by decide) rfl (kX12_tells (xG X) e3) cw_X12_323 rfl rfl (Nat.le_of_ble_eq_true rfl) (zr2 hR rfl rfl) (zrcs hcs) dX12_takesOut_12 ?_
  refine r_aload_n (i := 0) C dX12_takesOut_15 rfl 0 rfl ?_
  refine g_X12_13 C dX12_takesOut_16 ?_
  refine r_bipush (v := 7) C dX12_takesOut_19 (by decide) ?_
  refine r_dup2 C dX12_takesOut_21 rfl rfl ?_
  refine r_ialdc C 209 (m := 7) rfl (by decide) (by decide) (show inb 7 2031 by decide) dX12_takesOut_22 ?_
  refine r_iconst (v := 1) C dX12_takesOut_23 (by decide) ?_
  refine r_iload_n (i := 1) C dX12_takesOut_24 rfl 1 rfl ?_
  refine r_ishl C dX12_takesOut_25 ?_
  refine r_iconst (v := (-1)) C dX12_takesOut_26 (by decide) ?_
  refine r_ixor C dX12_takesOut_27 ?_
  refine r_iand C dX12_takesOut_28 ?_
  obtain ⟨g4, hf⟩ := gd_of hf
  obtain ⟨h5, eh5, hf⟩ := lt_of hf
  refine r_iast C 209 eh5 rfl (by decide) g4 dX12_takesOut_29 ?_
  refine r_aload_n (i := 0) C dX12_takesOut_30 rfl 0 rfl ?_
  refine g_X12_13 C dX12_takesOut_31 ?_
  refine r_bipush (v := 62) C dX12_takesOut_34 (by decide) ?_
  refine r_iload_n (i := 1) C dX12_takesOut_36 rfl 1 rfl ?_
  refine r_iadd C dX12_takesOut_37 ?_
  refine r_iconst (v := 0) C dX12_takesOut_38 (by decide) ?_
  obtain ⟨g6, hf⟩ := gd_of hf
  obtain ⟨h7, eh7, hf⟩ := lt_of hf
  refine r_iast C 209 eh7 rfl (by decide) g6 dX12_takesOut_39 ?_
  cases hf
  exact r_vret C hF dX12_takesOut_40
def fX12_pin (h : Hp) (a1 : Int32) : Option (Int32 × Hp) := lt9 (up2 h 208 0 (0 : Int32)) (fun h1 => cl2 (fX12_throwsIf h1 (fX12_noPinner h1 a1) (1 : Int32)) (fun x4 h2 => (if x4 = (0 : Int32) then cl9 (fX12_of h2 a1 (0 : Int32)) (fun x6 => cl9 (cl9 ((if (fX12_hasLadder h2 x6) = (0 : Int32) then some true else (if (fX12_hasPin h2 x6) = (0 : Int32) then cl9 (fX12_of h2 a1 (2 : Int32)) (fun x17 => (if x17 = (0 : Int32) then some true else some false)) else some true)) : Option Bool) (fun q11 => if q11 = true then some (1 : Int32) else some (0 : Int32)) : Option (Int32)) (fun v8 => cl2 (fX12_throwsIf h2 v8 (2 : Int32)) (fun x22 h20 => (if x22 = (0 : Int32) then cl9 (fX12_remembers h20) (fun h24 => gd (inb (fX12_at a1 (2 : Int32)) 2031) (gd (inb (fX12_at a1 (2 : Int32)) 2031) (lt9 (up2 h24 209 (fX12_at a1 (2 : Int32)).toNatClampNeg ((h24 209 (fX12_at a1 (2 : Int32)).toNatClampNeg) - (1 : Int32))) (fun h28 => gd (inb (7 : Int32) 2031) (lt9 (up2 h28 209 (7 : Int32).toNatClampNeg ((h28 209 7) ||| ((1 : Int32) <<< (x6 &&& 31)))) (fun h30 => gd (inb ((62 : Int32) + x6) 2031) (lt9 (up2 h30 209 ((62 : Int32) + x6).toNatClampNeg (0 : Int32)) (fun h32 => cl9 (fX12_tells h32 x6 (0 : Int32) (0 : Int32)) (fun h33 => some (x6, h33)))))))))) else some ((0 : Int32), h20))))) else some ((0 : Int32), h2))))
set_option maxHeartbeats 4000000 in
set_option maxRecDepth 100000 in
theorem kX12_pin (G : Gx)  {h : Hp} {a1 : Int32} {rr : Int32} {hh : Hp} (hf : fX12_pin h a1 = some (rr, hh)) : MC G yX12_pin cX12_pin 3 (some .int) 3 192 h [.ref (gad G 208), .int a1] (some (.int rr)) hh := by
  refine MC.of RX12 (by decide) rfl (Nat.le_of_ble_eq_true rfl) rfl (fun X C hG hR hF => ?_)
  subst hG
  have hcs : True := trivial
  unfold fX12_pin at hf
  refine r_aload_n (i := 0) C dX12_pin_0 rfl 0 rfl ?_
  refine r_iconst (v := 0) C dX12_pin_1 (by decide) ?_
  obtain ⟨h1, eh1, hf⟩ := lt_of hf
  refine p_X12_3 C eh1 dX12_pin_2 ?_
  refine r_aload_n (i := 0) C dX12_pin_5 rfl 0 rfl ?_
  refine r_aload_n (i := 0) C dX12_pin_6 rfl 0 rfl ?_
  refine r_iload_n (i := 1) C dX12_pin_7 rfl 1 rfl ?_
  refine r_callVi (As := [.int a1]) (st := [.ref (gad (xG X) 208)]) C 208 rfl (by decide) rfl (kX12_noPinner (xG X)) cw_X12_311 rfl rfl (Nat.le_of_ble_eq_true rfl) (zr2 hR rfl rfl) (zrcs hcs) dX12_pin_8 ?_
  refine r_iconst (v := 1) C dX12_pin_11 (by decide) ?_
  obtain ⟨x4, h2, e3, hf⟩ := cl2_of hf
  refine r_callVi (As := [.int (fX12_noPinner h1 a1), .int (1 : Int32)]) (st := []) C 208 rfl (by decide) rfl (kX12_throwsIf (xG X) e3) cw_X12_247 rfl rfl (Nat.le_of_ble_eq_true rfl) (zr2 hR rfl rfl) (zrcs hcs) dX12_pin_12 ?_
  refine r_if_eq C 20 dX12_pin_15 (by decide) (fun c5 => ?_) (fun c5 => ?_)
  · rw [if_pos c5] at hf
    refine r_aload_n (i := 0) C dX12_pin_20 rfl 0 rfl ?_
    refine r_iload_n (i := 1) C dX12_pin_21 rfl 1 rfl ?_
    refine r_iconst (v := 0) C dX12_pin_22 (by decide) ?_
    obtain ⟨x6, e7, hf⟩ := cl_of hf
    refine r_callVi (As := [.int a1, .int (0 : Int32)]) (st := []) C 208 rfl (by decide) rfl (kX12_of (xG X) e7) cw_X12_314 rfl rfl (Nat.le_of_ble_eq_true rfl) (zr2 hR rfl rfl) (zrcs hcs) dX12_pin_23 ?_
    refine r_istore_n (i := 2) (lv' := [(0, .ref (gad (xG X) 208)), (1, .int a1), (2, .int x6)]) C dX12_pin_26 rfl (by decide) [1, 2, 0] rfl ?_
    refine r_aload_n (i := 0) C dX12_pin_27 rfl 0 rfl ?_
    refine r_aload_n (i := 0) C dX12_pin_28 rfl 0 rfl ?_
    refine r_iload_n (i := 2) C dX12_pin_29 rfl 2 rfl ?_
    refine r_callVi (As := [.int x6]) (st := [.ref (gad (xG X) 208)]) C 208 rfl (by decide) rfl (kX12_hasLadder (xG X)) cw_X12_268 rfl rfl (Nat.le_of_ble_eq_true rfl) (zr2 hR rfl rfl) (zrcs hcs) dX12_pin_30 ?_
    obtain ⟨v8, r10, hf⟩ := cl_of hf
    have k9 : VW X 3 h2 0 0 58 [(0, .ref (gad (xG X) 208)), (1, .int a1), (2, .int x6)] [.int v8, .ref (gad (xG X) 208)] := by
      refine r_iconst (v := 2) C dX12_pin_58 (by decide) ?_
      obtain ⟨x22, h20, e21, hf⟩ := cl2_of hf
      refine r_callVi (As := [.int v8, .int (2 : Int32)]) (st := []) C 208 rfl (by decide) rfl (kX12_throwsIf (xG X) e21) cw_X12_247 rfl rfl (Nat.le_of_ble_eq_true rfl) (zr2 hR rfl rfl) (zrcs hcs) dX12_pin_59 ?_
      refine r_if_eq C 67 dX12_pin_62 (by decide) (fun c23 => ?_) (fun c23 => ?_)
      · rw [if_pos c23] at hf
        refine r_aload_n (i := 0) C dX12_pin_67 rfl 0 rfl ?_
        obtain ⟨h24, e25, hf⟩ := cl_of hf
        refine r_callVv (As := []) (st := []) C 208 rfl (by decide) rfl (kX12_remembers (xG X) e25) cw_X12_327 rfl rfl (Nat.le_of_ble_eq_true rfl) (zr2 hR rfl rfl) (zrcs hcs) dX12_pin_68 ?_
        refine r_aload_n (i := 0) C dX12_pin_71 rfl 0 rfl ?_
        refine g_X12_13 C dX12_pin_72 ?_
        refine r_iload_n (i := 1) C dX12_pin_75 rfl 1 rfl ?_
        refine r_iconst (v := 2) C dX12_pin_76 (by decide) ?_
        refine r_callSi (As := [.int a1, .int (2 : Int32)]) (st := [.ref (gad (xG X) 209)]) C (kX12_at (xG X)) cw_X12_61 rfl rfl (Nat.le_of_ble_eq_true rfl) (zr2 hR rfl rfl) (zrcs hcs) dX12_pin_77 ?_
        refine r_dup2 C dX12_pin_80 rfl rfl ?_
        obtain ⟨g26, hf⟩ := gd_of hf
        refine r_iald C 209 rfl (by decide) g26 dX12_pin_81 ?_
        refine r_iconst (v := 1) C dX12_pin_82 (by decide) ?_
        refine r_isub C dX12_pin_83 ?_
        obtain ⟨g27, hf⟩ := gd_of hf
        obtain ⟨h28, eh28, hf⟩ := lt_of hf
        refine r_iast C 209 eh28 rfl (by decide) g27 dX12_pin_84 ?_
        refine r_aload_n (i := 0) C dX12_pin_85 rfl 0 rfl ?_
        refine g_X12_13 C dX12_pin_86 ?_
        refine r_bipush (v := 7) C dX12_pin_89 (by decide) ?_
        refine r_dup2 C dX12_pin_91 rfl rfl ?_
        refine r_ialdc C 209 (m := 7) rfl (by decide) (by decide) (show inb 7 2031 by decide) dX12_pin_92 ?_
        refine r_iconst (v := 1) C dX12_pin_93 (by decide) ?_
        refine r_iload_n (i := 2) C dX12_pin_94 rfl 2 rfl ?_
        refine r_ishl C dX12_pin_95 ?_
        refine r_ior C dX12_pin_96 ?_
        obtain ⟨g29, hf⟩ := gd_of hf
        obtain ⟨h30, eh30, hf⟩ := lt_of hf
        refine r_iast C 209 eh30 rfl (by decide) g29 dX12_pin_97 ?_
        refine r_aload_n (i := 0) C dX12_pin_98 rfl 0 rfl ?_
        refine g_X12_13 C dX12_pin_99 ?_
        refine r_bipush (v := 62) C dX12_pin_102 (by decide) ?_
        refine r_iload_n (i := 2) C dX12_pin_104 rfl 2 rfl ?_
        refine r_iadd C dX12_pin_105 ?_
        refine r_iconst (v := 0) C dX12_pin_106 (by decide) ?_
        obtain ⟨g31, hf⟩ := gd_of hf
        obtain ⟨h32, eh32, hf⟩ := lt_of hf
        refine r_iast C 209 eh32 rfl (by decide) g31 dX12_pin_107 ?_
        refine r_aload_n (i := 0) C dX12_pin_108 rfl 0 rfl ?_
        refine r_iload_n (i := 2) C dX12_pin_109 rfl 2 rfl ?_
        refine r_iconst (v := 0) C dX12_pin_110 (by decide) ?_
        refine r_iconst (v := 0) C dX12_pin_111 (by decide) ?_
        obtain ⟨h33, e34, hf⟩ := cl_of hf
        refine r_callVv (As := [.int x6, .int (0 : Int32), .int (0 : Int32)]) (st := []) C 208 rfl (by decide) rfl (kX12_tells (xG X) e34) cw_X12_323 rfl rfl (Nat.le_of_ble_eq_true rfl) (zr2 hR rfl rfl) (zrcs hcs) dX12_pin_112 ?_
        refine r_iload_n (i := 2) C dX12_pin_115 rfl 2 rfl ?_
        cases hf
        exact r_iret C hF dX12_pin_116
      · rw [if_neg c23] at hf
        refine r_iconst (v := 0) C dX12_pin_65 (by decide) ?_
        cases hf
        exact r_iret C hF dX12_pin_66
    clear hf
    have hf := r10
    obtain ⟨q11, r14, hf⟩ := cl_of hf
    have k12 : q11 = true → VW X 3 h2 0 0 53 [(0, .ref (gad (xG X) 208)), (1, .int a1), (2, .int x6)] [.ref (gad (xG X) 208)] := fun qq => by
      rw [if_pos qq] at hf
      refine r_iconst (v := 1) C dX12_pin_53 (by decide) ?_
      refine r_goto C 58 dX12_pin_54 (by decide) ?_
      cases hf
      exact k9
    have k13 : q11 = false → VW X 3 h2 0 0 57 [(0, .ref (gad (xG X) 208)), (1, .int a1), (2, .int x6)] [.ref (gad (xG X) 208)] := fun qq => by
      rw [if_neg (by rw [qq]; decide)] at hf
      refine r_iconst (v := 0) C dX12_pin_57 (by decide) ?_
      cases hf
      exact k9
    clear hf
    have hf := r14
    refine r_if_eq C 53 dX12_pin_33 (by decide) (fun c15 => ?_) (fun c15 => ?_)
    · rw [if_pos c15] at hf
      exact k12 (Option.some.inj hf).symm
    · rw [if_neg c15] at hf
      refine r_aload_n (i := 0) C dX12_pin_36 rfl 0 rfl ?_
      refine r_iload_n (i := 2) C dX12_pin_37 rfl 2 rfl ?_
      refine r_callVi (As := [.int x6]) (st := [.ref (gad (xG X) 208)]) C 208 rfl (by decide) rfl (kX12_hasPin (xG X)) cw_X12_122 rfl rfl (Nat.le_of_ble_eq_true rfl) (zr2 hR rfl rfl) (zrcs hcs) dX12_pin_38 ?_
      refine r_if_ne C 53 dX12_pin_41 (by decide) (fun c16 => ?_) (fun c16 => ?_)
      · rw [if_neg c16] at hf
        exact k12 (Option.some.inj hf).symm
      · rw [if_pos c16] at hf
        refine r_aload_n (i := 0) C dX12_pin_44 rfl 0 rfl ?_
        refine r_iload_n (i := 1) C dX12_pin_45 rfl 1 rfl ?_
        refine r_iconst (v := 2) C dX12_pin_46 (by decide) ?_
        obtain ⟨x17, e18, hf⟩ := cl_of hf
        refine r_callVi (As := [.int a1, .int (2 : Int32)]) (st := [.ref (gad (xG X) 208)]) C 208 rfl (by decide) rfl (kX12_of (xG X) e18) cw_X12_314 rfl rfl (Nat.le_of_ble_eq_true rfl) (zr2 hR rfl rfl) (zrcs hcs) dX12_pin_47 ?_
        refine r_if_ne C 57 dX12_pin_50 (by decide) (fun c19 => ?_) (fun c19 => ?_)
        · rw [if_neg c19] at hf
          exact k13 (Option.some.inj hf).symm
        · rw [if_pos c19] at hf
          exact k12 (Option.some.inj hf).symm
  · rw [if_neg c5] at hf
    refine r_iconst (v := 0) C dX12_pin_18 (by decide) ?_
    cases hf
    exact r_iret C hF dX12_pin_19
def fX12_change (h : Hp) (a1 : Int32) : Option (Int32 × Hp) := lt9 (up2 h 208 0 (0 : Int32)) (fun h1 => cl2 (fX12_throwsIf h1 (fX12_noPinner h1 a1) (1 : Int32)) (fun x4 h2 => (if x4 = (0 : Int32) then cl9 (fX12_of h2 a1 (0 : Int32)) (fun x6 => cl9 (cl9 ((if (fX12_hasLadder h2 x6) = (0 : Int32) then some true else (if (fX12_hasPin h2 x6) = (0 : Int32) then some true else cl9 (fX12_of h2 a1 (2 : Int32)) (fun x17 => (if x17 = (0 : Int32) then some true else some false)))) : Option Bool) (fun q11 => if q11 = true then some (1 : Int32) else some (0 : Int32)) : Option (Int32)) (fun v8 => cl2 (fX12_throwsIf h2 v8 (2 : Int32)) (fun x22 h20 => (if x22 = (0 : Int32) then cl9 (fX12_remembers h20) (fun h24 => gd (inb ((62 : Int32) + x6) 2031) (gd (inb (fX12_at a1 (2 : Int32)) 2031) (gd (inb (fX12_at a1 (2 : Int32)) 2031) (lt9 (up2 h24 209 (fX12_at a1 (2 : Int32)).toNatClampNeg ((h24 209 (fX12_at a1 (2 : Int32)).toNatClampNeg) - (1 : Int32))) (fun h29 => gd (inb ((62 : Int32) + x6) 2031) (lt9 (up2 h29 209 ((62 : Int32) + x6).toNatClampNeg (0 : Int32)) (fun h31 => cl9 (fX12_tells h31 x6 (1 : Int32) (h24 209 ((62 : Int32) + x6).toNatClampNeg)) (fun h32 => some ((h24 209 ((62 : Int32) + x6).toNatClampNeg), h32))))))))) else some ((0 : Int32), h20))))) else some ((0 : Int32), h2))))
set_option maxHeartbeats 4000000 in
set_option maxRecDepth 100000 in
theorem kX12_change (G : Gx)  {h : Hp} {a1 : Int32} {rr : Int32} {hh : Hp} (hf : fX12_change h a1 = some (rr, hh)) : MC G yX12_change cX12_change 4 (some .int) 3 192 h [.ref (gad G 208), .int a1] (some (.int rr)) hh := by
  refine MC.of RX12 (by decide) rfl (Nat.le_of_ble_eq_true rfl) rfl (fun X C hG hR hF => ?_)
  subst hG
  have hcs : True := trivial
  unfold fX12_change at hf
  refine r_aload_n (i := 0) C dX12_change_0 rfl 0 rfl ?_
  refine r_iconst (v := 0) C dX12_change_1 (by decide) ?_
  obtain ⟨h1, eh1, hf⟩ := lt_of hf
  refine p_X12_3 C eh1 dX12_change_2 ?_
  refine r_aload_n (i := 0) C dX12_change_5 rfl 0 rfl ?_
  refine r_aload_n (i := 0) C dX12_change_6 rfl 0 rfl ?_
  refine r_iload_n (i := 1) C dX12_change_7 rfl 1 rfl ?_
  refine r_callVi (As := [.int a1]) (st := [.ref (gad (xG X) 208)]) C 208 rfl (by decide) rfl (kX12_noPinner (xG X)) cw_X12_311 rfl rfl (Nat.le_of_ble_eq_true rfl) (zr2 hR rfl rfl) (zrcs hcs) dX12_change_8 ?_
  refine r_iconst (v := 1) C dX12_change_11 (by decide) ?_
  obtain ⟨x4, h2, e3, hf⟩ := cl2_of hf
  refine r_callVi (As := [.int (fX12_noPinner h1 a1), .int (1 : Int32)]) (st := []) C 208 rfl (by decide) rfl (kX12_throwsIf (xG X) e3) cw_X12_247 rfl rfl (Nat.le_of_ble_eq_true rfl) (zr2 hR rfl rfl) (zrcs hcs) dX12_change_12 ?_
  refine r_if_eq C 20 dX12_change_15 (by decide) (fun c5 => ?_) (fun c5 => ?_)
  · rw [if_pos c5] at hf
    refine r_aload_n (i := 0) C dX12_change_20 rfl 0 rfl ?_
    refine r_iload_n (i := 1) C dX12_change_21 rfl 1 rfl ?_
    refine r_iconst (v := 0) C dX12_change_22 (by decide) ?_
    obtain ⟨x6, e7, hf⟩ := cl_of hf
    refine r_callVi (As := [.int a1, .int (0 : Int32)]) (st := []) C 208 rfl (by decide) rfl (kX12_of (xG X) e7) cw_X12_314 rfl rfl (Nat.le_of_ble_eq_true rfl) (zr2 hR rfl rfl) (zrcs hcs) dX12_change_23 ?_
    refine r_istore_n (i := 2) (lv' := [(0, .ref (gad (xG X) 208)), (1, .int a1), (2, .int x6)]) C dX12_change_26 rfl (by decide) [1, 2, 0] rfl ?_
    refine r_aload_n (i := 0) C dX12_change_27 rfl 0 rfl ?_
    refine r_aload_n (i := 0) C dX12_change_28 rfl 0 rfl ?_
    refine r_iload_n (i := 2) C dX12_change_29 rfl 2 rfl ?_
    refine r_callVi (As := [.int x6]) (st := [.ref (gad (xG X) 208)]) C 208 rfl (by decide) rfl (kX12_hasLadder (xG X)) cw_X12_268 rfl rfl (Nat.le_of_ble_eq_true rfl) (zr2 hR rfl rfl) (zrcs hcs) dX12_change_30 ?_
    obtain ⟨v8, r10, hf⟩ := cl_of hf
    have k9 : VW X 4 h2 0 0 58 [(0, .ref (gad (xG X) 208)), (1, .int a1), (2, .int x6)] [.int v8, .ref (gad (xG X) 208)] := by
      refine r_iconst (v := 2) C dX12_change_58 (by decide) ?_
      obtain ⟨x22, h20, e21, hf⟩ := cl2_of hf
      refine r_callVi (As := [.int v8, .int (2 : Int32)]) (st := []) C 208 rfl (by decide) rfl (kX12_throwsIf (xG X) e21) cw_X12_247 rfl rfl (Nat.le_of_ble_eq_true rfl) (zr2 hR rfl rfl) (zrcs hcs) dX12_change_59 ?_
      refine r_if_eq C 67 dX12_change_62 (by decide) (fun c23 => ?_) (fun c23 => ?_)
      · rw [if_pos c23] at hf
        refine r_aload_n (i := 0) C dX12_change_67 rfl 0 rfl ?_
        obtain ⟨h24, e25, hf⟩ := cl_of hf
        refine r_callVv (As := []) (st := []) C 208 rfl (by decide) rfl (kX12_remembers (xG X) e25) cw_X12_327 rfl rfl (Nat.le_of_ble_eq_true rfl) (zr2 hR rfl rfl) (zrcs hcs) dX12_change_68 ?_
        refine r_aload_n (i := 0) C dX12_change_71 rfl 0 rfl ?_
        refine g_X12_13 C dX12_change_72 ?_
        refine r_bipush (v := 62) C dX12_change_75 (by decide) ?_
        refine r_iload_n (i := 2) C dX12_change_77 rfl 2 rfl ?_
        refine r_iadd C dX12_change_78 ?_
        obtain ⟨g26, hf⟩ := gd_of hf
        refine r_iald C 209 rfl (by decide) g26 dX12_change_79 ?_
        refine r_istore_n (i := 3) (lv' := [(0, .ref (gad (xG X) 208)), (1, .int a1), (2, .int x6), (3, .int (h24 209 ((62 : Int32) + x6).toNatClampNeg))]) C dX12_change_80 rfl (by decide) [1, 2, 3, 0] rfl ?_
        refine r_aload_n (i := 0) C dX12_change_81 rfl 0 rfl ?_
        refine g_X12_13 C dX12_change_82 ?_
        refine r_iload_n (i := 1) C dX12_change_85 rfl 1 rfl ?_
        refine r_iconst (v := 2) C dX12_change_86 (by decide) ?_
        refine r_callSi (As := [.int a1, .int (2 : Int32)]) (st := [.ref (gad (xG X) 209)]) C (kX12_at (xG X)) cw_X12_61 rfl rfl (Nat.le_of_ble_eq_true rfl) (zr2 hR rfl rfl) (zrcs hcs) dX12_change_87 ?_
        refine r_dup2 C dX12_change_90 rfl rfl ?_
        obtain ⟨g27, hf⟩ := gd_of hf
        refine r_iald C 209 rfl (by decide) g27 dX12_change_91 ?_
        refine r_iconst (v := 1) C dX12_change_92 (by decide) ?_
        refine r_isub C dX12_change_93 ?_
        obtain ⟨g28, hf⟩ := gd_of hf
        obtain ⟨h29, eh29, hf⟩ := lt_of hf
        refine r_iast C 209 eh29 rfl (by decide) g28 dX12_change_94 ?_
        refine r_aload_n (i := 0) C dX12_change_95 rfl 0 rfl ?_
        refine g_X12_13 C dX12_change_96 ?_
        refine r_bipush (v := 62) C dX12_change_99 (by decide) ?_
        refine r_iload_n (i := 2) C dX12_change_101 rfl 2 rfl ?_
        refine r_iadd C dX12_change_102 ?_
        refine r_iconst (v := 0) C dX12_change_103 (by decide) ?_
        obtain ⟨g30, hf⟩ := gd_of hf
        obtain ⟨h31, eh31, hf⟩ := lt_of hf
        refine r_iast C 209 eh31 rfl (by decide) g30 dX12_change_104 ?_
        refine r_aload_n (i := 0) C dX12_change_105 rfl 0 rfl ?_
        refine r_iload_n (i := 2) C dX12_change_106 rfl 2 rfl ?_
        refine r_iconst (v := 1) C dX12_change_107 (by decide) ?_
        refine r_iload_n (i := 3) C dX12_change_108 rfl 3 rfl ?_
        obtain ⟨h32, e33, hf⟩ := cl_of hf
        refine r_callVv (As := [.int x6, .int (1 : Int32), .int (h24 209 ((62 : Int32) + x6).toNatClampNeg)]) (st := []) C 208 rfl (by decide) rfl (kX12_tells (xG X) e33) cw_X12_323 rfl rfl (Nat.le_of_ble_eq_true rfl) (zr2 hR rfl rfl) (zrcs hcs) dX12_change_109 ?_
        refine r_iload_n (i := 3) C dX12_change_112 rfl 3 rfl ?_
        cases hf
        exact r_iret C hF dX12_change_113
      · rw [if_neg c23] at hf
        refine r_iconst (v := 0) C dX12_change_65 (by decide) ?_
        cases hf
        exact r_iret C hF dX12_change_66
    clear hf
    have hf := r10
    obtain ⟨q11, r14, hf⟩ := cl_of hf
    have k12 : q11 = true → VW X 4 h2 0 0 53 [(0, .ref (gad (xG X) 208)), (1, .int a1), (2, .int x6)] [.ref (gad (xG X) 208)] := fun qq => by
      rw [if_pos qq] at hf
      refine r_iconst (v := 1) C dX12_change_53 (by decide) ?_
      refine r_goto C 58 dX12_change_54 (by decide) ?_
      cases hf
      exact k9
    have k13 : q11 = false → VW X 4 h2 0 0 57 [(0, .ref (gad (xG X) 208)), (1, .int a1), (2, .int x6)] [.ref (gad (xG X) 208)] := fun qq => by
      rw [if_neg (by rw [qq]; decide)] at hf
      refine r_iconst (v := 0) C dX12_change_57 (by decide) ?_
      cases hf
      exact k9
    clear hf
    have hf := r14
    refine r_if_eq C 53 dX12_change_33 (by decide) (fun c15 => ?_) (fun c15 => ?_)
    · rw [if_pos c15] at hf
      exact k12 (Option.some.inj hf).symm
    · rw [if_neg c15] at hf
      refine r_aload_n (i := 0) C dX12_change_36 rfl 0 rfl ?_
      refine r_iload_n (i := 2) C dX12_change_37 rfl 2 rfl ?_
      refine r_callVi (As := [.int x6]) (st := [.ref (gad (xG X) 208)]) C 208 rfl (by decide) rfl (kX12_hasPin (xG X)) cw_X12_122 rfl rfl (Nat.le_of_ble_eq_true rfl) (zr2 hR rfl rfl) (zrcs hcs) dX12_change_38 ?_
      refine r_if_eq C 53 dX12_change_41 (by decide) (fun c16 => ?_) (fun c16 => ?_)
      · rw [if_pos c16] at hf
        exact k12 (Option.some.inj hf).symm
      · rw [if_neg c16] at hf
        refine r_aload_n (i := 0) C dX12_change_44 rfl 0 rfl ?_
        refine r_iload_n (i := 1) C dX12_change_45 rfl 1 rfl ?_
        refine r_iconst (v := 2) C dX12_change_46 (by decide) ?_
        obtain ⟨x17, e18, hf⟩ := cl_of hf
        refine r_callVi (As := [.int a1, .int (2 : Int32)]) (st := [.ref (gad (xG X) 208)]) C 208 rfl (by decide) rfl (kX12_of (xG X) e18) cw_X12_314 rfl rfl (Nat.le_of_ble_eq_true rfl) (zr2 hR rfl rfl) (zrcs hcs) dX12_change_47 ?_
        refine r_if_ne C 57 dX12_change_50 (by decide) (fun c19 => ?_) (fun c19 => ?_)
        · rw [if_neg c19] at hf
          exact k13 (Option.some.inj hf).symm
        · rw [if_pos c19] at hf
          exact k12 (Option.some.inj hf).symm
  · rw [if_neg c5] at hf
    refine r_iconst (v := 0) C dX12_change_18 (by decide) ?_
    cases hf
    exact r_iret C hF dX12_change_19
def fX12_go (h : Hp) (a1 : Int32) (a2 : Int32) : Option (Int32 × Hp) := lt9 (up2 h 208 0 (0 : Int32)) (fun h1 => cl9 (cl9 ((if (fX12_noPinner h1 a1) = (0 : Int32) then (if (fX12_noPlace a2) = (0 : Int32) then some false else some true) else some true) : Option Bool) (fun q5 => if q5 = true then some (1 : Int32) else some (0 : Int32)) : Option (Int32)) (fun v2 => cl2 (fX12_throwsIf h1 v2 (1 : Int32)) (fun x13 h11 => (if x13 = (0 : Int32) then cl9 (fX12_of h11 a1 (0 : Int32)) (fun x15 => lt9 (jabs (x15 - a2)) (fun x17 => cl9 (fX12_of h11 a1 (1 : Int32)) (fun x18 => cl9 ((if x17 ≤ x18 then some (0 : Int32) else some (1 : Int32)) : Option (Int32)) (fun v20 => cl2 (fX12_throwsIf h11 v20 (2 : Int32)) (fun x26 h24 => (if x26 = (0 : Int32) then cl9 (fX12_remembers h24) (fun h28 => gd (inb (fX12_at a1 (0 : Int32)) 2031) (lt9 (up2 h28 209 (fX12_at a1 (0 : Int32)).toNatClampNeg a2) (fun h31 => some (x17, h31)))) else some ((0 : Int32), h24))))))) else some ((0 : Int32), h11)))))
set_option maxHeartbeats 4000000 in
set_option maxRecDepth 100000 in
theorem kX12_go (G : Gx)  {h : Hp} {a1 : Int32} {a2 : Int32} {rr : Int32} {hh : Hp} (hf : fX12_go h a1 a2 = some (rr, hh)) : MC G yX12_go cX12_go 4 (some .int) 4 256 h [.ref (gad G 208), .int a1, .int a2] (some (.int rr)) hh := by
  refine MC.of RX12 (by decide) rfl (Nat.le_of_ble_eq_true rfl) rfl (fun X C hG hR hF => ?_)
  subst hG
  have hcs : True := trivial
  unfold fX12_go at hf
  refine r_aload_n (i := 0) C dX12_go_0 rfl 0 rfl ?_
  refine r_iconst (v := 0) C dX12_go_1 (by decide) ?_
  obtain ⟨h1, eh1, hf⟩ := lt_of hf
  refine p_X12_3 C eh1 dX12_go_2 ?_
  refine r_aload_n (i := 0) C dX12_go_5 rfl 0 rfl ?_
  refine r_aload_n (i := 0) C dX12_go_6 rfl 0 rfl ?_
  refine r_iload_n (i := 1) C dX12_go_7 rfl 1 rfl ?_
  refine r_callVi (As := [.int a1]) (st := [.ref (gad (xG X) 208)]) C 208 rfl (by decide) rfl (kX12_noPinner (xG X)) cw_X12_311 rfl rfl (Nat.le_of_ble_eq_true rfl) (zr2 hR rfl rfl) (zrcs hcs) dX12_go_8 ?_
  obtain ⟨v2, r4, hf⟩ := cl_of hf
  have k3 : VW X 4 h1 0 0 26 [(0, .ref (gad (xG X) 208)), (1, .int a1), (2, .int a2)] [.int v2, .ref (gad (xG X) 208)] := by
    refine r_iconst (v := 1) C dX12_go_26 (by decide) ?_
    obtain ⟨x13, h11, e12, hf⟩ := cl2_of hf
    refine r_callVi (As := [.int v2, .int (1 : Int32)]) (st := []) C 208 rfl (by decide) rfl (kX12_throwsIf (xG X) e12) cw_X12_247 rfl rfl (Nat.le_of_ble_eq_true rfl) (zr2 hR rfl rfl) (zrcs hcs) dX12_go_27 ?_
    refine r_if_eq C 35 dX12_go_30 (by decide) (fun c14 => ?_) (fun c14 => ?_)
    · rw [if_pos c14] at hf
      refine r_aload_n (i := 0) C dX12_go_35 rfl 0 rfl ?_
      refine r_iload_n (i := 1) C dX12_go_36 rfl 1 rfl ?_
      refine r_iconst (v := 0) C dX12_go_37 (by decide) ?_
      obtain ⟨x15, e16, hf⟩ := cl_of hf
      refine r_callVi (As := [.int a1, .int (0 : Int32)]) (st := []) C 208 rfl (by decide) rfl (kX12_of (xG X) e16) cw_X12_314 rfl rfl (Nat.le_of_ble_eq_true rfl) (zr2 hR rfl rfl) (zrcs hcs) dX12_go_38 ?_
      refine r_iload_n (i := 2) C dX12_go_41 rfl 2 rfl ?_
      refine r_isub C dX12_go_42 ?_
      refine r_mabs9 C gw_1796 gm_abs_s gm_i gm_abs_c (zr1 hR rfl) (zr0 hR (Nat.le_of_ble_eq_true rfl)) (zrcs hcs) dX12_go_43 ?_
      obtain ⟨x17, ex17, hf⟩ := lt_of hf
      refine r_top ex17 ?_
      refine r_istore_n (i := 3) (lv' := [(0, .ref (gad (xG X) 208)), (1, .int a1), (2, .int a2), (3, .int x17)]) C dX12_go_46 rfl (by decide) [1, 2, 3, 0] rfl ?_
      refine r_aload_n (i := 0) C dX12_go_47 rfl 0 rfl ?_
      refine r_iload_n (i := 3) C dX12_go_48 rfl 3 rfl ?_
      refine r_aload_n (i := 0) C dX12_go_49 rfl 0 rfl ?_
      refine r_iload_n (i := 1) C dX12_go_50 rfl 1 rfl ?_
      refine r_iconst (v := 1) C dX12_go_51 (by decide) ?_
      obtain ⟨x18, e19, hf⟩ := cl_of hf
      refine r_callVi (As := [.int a1, .int (1 : Int32)]) (st := [.int x17, .ref (gad (xG X) 208)]) C 208 rfl (by decide) rfl (kX12_of (xG X) e19) cw_X12_314 rfl rfl (Nat.le_of_ble_eq_true rfl) (zr2 hR rfl rfl) (zrcs hcs) dX12_go_52 ?_
      obtain ⟨v20, r22, hf⟩ := cl_of hf
      have k21 : VW X 4 h11 0 0 63 [(0, .ref (gad (xG X) 208)), (1, .int a1), (2, .int a2), (3, .int x17)] [.int v20, .ref (gad (xG X) 208)] := by
        refine r_iconst (v := 2) C dX12_go_63 (by decide) ?_
        obtain ⟨x26, h24, e25, hf⟩ := cl2_of hf
        refine r_callVi (As := [.int v20, .int (2 : Int32)]) (st := []) C 208 rfl (by decide) rfl (kX12_throwsIf (xG X) e25) cw_X12_247 rfl rfl (Nat.le_of_ble_eq_true rfl) (zr2 hR rfl rfl) (zrcs hcs) dX12_go_64 ?_
        refine r_if_eq C 72 dX12_go_67 (by decide) (fun c27 => ?_) (fun c27 => ?_)
        · rw [if_pos c27] at hf
          refine r_aload_n (i := 0) C dX12_go_72 rfl 0 rfl ?_
          obtain ⟨h28, e29, hf⟩ := cl_of hf
          refine r_callVv (As := []) (st := []) C 208 rfl (by decide) rfl (kX12_remembers (xG X) e29) cw_X12_327 rfl rfl (Nat.le_of_ble_eq_true rfl) (zr2 hR rfl rfl) (zrcs hcs) dX12_go_73 ?_
          refine r_aload_n (i := 0) C dX12_go_76 rfl 0 rfl ?_
          refine g_X12_13 C dX12_go_77 ?_
          refine r_iload_n (i := 1) C dX12_go_80 rfl 1 rfl ?_
          refine r_iconst (v := 0) C dX12_go_81 (by decide) ?_
          refine r_callSi (As := [.int a1, .int (0 : Int32)]) (st := [.ref (gad (xG X) 209)]) C (kX12_at (xG X)) cw_X12_61 rfl rfl (Nat.le_of_ble_eq_true rfl) (zr2 hR rfl rfl) (zrcs hcs) dX12_go_82 ?_
          refine r_iload_n (i := 2) C dX12_go_85 rfl 2 rfl ?_
          obtain ⟨g30, hf⟩ := gd_of hf
          obtain ⟨h31, eh31, hf⟩ := lt_of hf
          refine r_iast C 209 eh31 rfl (by decide) g30 dX12_go_86 ?_
          refine r_iload_n (i := 3) C dX12_go_87 rfl 3 rfl ?_
          cases hf
          exact r_iret C hF dX12_go_88
        · rw [if_neg c27] at hf
          refine r_iconst (v := 0) C dX12_go_70 (by decide) ?_
          cases hf
          exact r_iret C hF dX12_go_71
      clear hf
      have hf := r22
      refine r_icmp_le C 62 dX12_go_55 (by decide) (fun c23 => ?_) (fun c23 => ?_)
      · rw [if_pos c23] at hf
        refine r_iconst (v := 0) C dX12_go_62 (by decide) ?_
        cases hf
        exact k21
      · rw [if_neg c23] at hf
        refine r_iconst (v := 1) C dX12_go_58 (by decide) ?_
        refine r_goto C 63 dX12_go_59 (by decide) ?_
        cases hf
        exact k21
    · rw [if_neg c14] at hf
      refine r_iconst (v := 0) C dX12_go_33 (by decide) ?_
      cases hf
      exact r_iret C hF dX12_go_34
  clear hf
  have hf := r4
  obtain ⟨q5, r8, hf⟩ := cl_of hf
  have k6 : q5 = true → VW X 4 h1 0 0 21 [(0, .ref (gad (xG X) 208)), (1, .int a1), (2, .int a2)] [.ref (gad (xG X) 208)] := fun qq => by
    rw [if_pos qq] at hf
    refine r_iconst (v := 1) C dX12_go_21 (by decide) ?_
    refine r_goto C 26 dX12_go_22 (by decide) ?_
    cases hf
    exact k3
  have k7 : q5 = false → VW X 4 h1 0 0 25 [(0, .ref (gad (xG X) 208)), (1, .int a1), (2, .int a2)] [.ref (gad (xG X) 208)] := fun qq => by
    rw [if_neg (by rw [qq]; decide)] at hf
    refine r_iconst (v := 0) C dX12_go_25 (by decide) ?_
    cases hf
    exact k3
  clear hf
  have hf := r8
  refine r_if_ne C 21 dX12_go_11 (by decide) (fun c9 => ?_) (fun c9 => ?_)
  · rw [if_neg c9] at hf
    exact k6 (Option.some.inj hf).symm
  · rw [if_pos c9] at hf
    refine r_iload_n (i := 2) C dX12_go_14 rfl 2 rfl ?_
    refine r_callSi (As := [.int a2]) (st := [.ref (gad (xG X) 208)]) C (kX12_noPlace (xG X)) cw_X12_305 rfl rfl (Nat.le_of_ble_eq_true rfl) (zr2 hR rfl rfl) (zrcs hcs) dX12_go_15 ?_
    refine r_if_eq C 25 dX12_go_18 (by decide) (fun c10 => ?_) (fun c10 => ?_)
    · rw [if_pos c10] at hf
      exact k7 (Option.some.inj hf).symm
    · rw [if_neg c10] at hf
      exact k6 (Option.some.inj hf).symm
def fX12_pull (h : Hp) (a1 : Int32) : Option (Int32 × Hp) := lt9 (up2 h 208 0 (0 : Int32)) (fun h1 => cl2 (fX12_throwsIf h1 (fX12_noPlace a1) (1 : Int32)) (fun x4 h2 => (if x4 = (0 : Int32) then cl9 ((if (fX12_hasPin h2 a1) = (0 : Int32) then some (1 : Int32) else some (0 : Int32)) : Option (Int32)) (fun v6 => cl2 (fX12_throwsIf h2 v6 (2 : Int32)) (fun x12 h10 => (if x12 = (0 : Int32) then cl9 (fX12_remembers h10) (fun h14 => gd (inb ((62 : Int32) + a1) 2031) (cl9 (fX12_takesOut h14 a1 (2 : Int32)) (fun h17 => gd (inb (6 : Int32) 2031) (lt9 (up2 h17 209 (6 : Int32).toNatClampNeg (jmin (999 : Int32) ((h17 209 6) + (1 : Int32)))) (fun h20 => some ((h14 209 ((62 : Int32) + a1).toNatClampNeg), h20)))))) else some ((0 : Int32), h10)))) else some ((0 : Int32), h2))))
set_option maxHeartbeats 4000000 in
set_option maxRecDepth 100000 in
theorem kX12_pull (G : Gx)  {h : Hp} {a1 : Int32} {rr : Int32} {hh : Hp} (hf : fX12_pull h a1 = some (rr, hh)) : MC G yX12_pull cX12_pull 3 (some .int) 5 320 h [.ref (gad G 208), .int a1] (some (.int rr)) hh := by
  refine MC.of RX12 (by decide) rfl (Nat.le_of_ble_eq_true rfl) rfl (fun X C hG hR hF => ?_)
  subst hG
  have hcs : True := trivial
  unfold fX12_pull at hf
  refine r_aload_n (i := 0) C dX12_pull_0 rfl 0 rfl ?_
  refine r_iconst (v := 0) C dX12_pull_1 (by decide) ?_
  obtain ⟨h1, eh1, hf⟩ := lt_of hf
  refine p_X12_3 C eh1 dX12_pull_2 ?_
  refine r_aload_n (i := 0) C dX12_pull_5 rfl 0 rfl ?_
  refine r_iload_n (i := 1) C dX12_pull_6 rfl 1 rfl ?_
  refine r_callSi (As := [.int a1]) (st := [.ref (gad (xG X) 208)]) C (kX12_noPlace (xG X)) cw_X12_305 rfl rfl (Nat.le_of_ble_eq_true rfl) (zr2 hR rfl rfl) (zrcs hcs) dX12_pull_7 ?_
  refine r_iconst (v := 1) C dX12_pull_10 (by decide) ?_
  obtain ⟨x4, h2, e3, hf⟩ := cl2_of hf
  refine r_callVi (As := [.int (fX12_noPlace a1), .int (1 : Int32)]) (st := []) C 208 rfl (by decide) rfl (kX12_throwsIf (xG X) e3) cw_X12_247 rfl rfl (Nat.le_of_ble_eq_true rfl) (zr2 hR rfl rfl) (zrcs hcs) dX12_pull_11 ?_
  refine r_if_ne C 38 dX12_pull_14 (by decide) (fun c5 => ?_) (fun c5 => ?_)
  · rw [if_neg c5] at hf
    refine r_iconst (v := 0) C dX12_pull_38 (by decide) ?_
    cases hf
    exact r_iret C hF dX12_pull_39
  · rw [if_pos c5] at hf
    refine r_aload_n (i := 0) C dX12_pull_17 rfl 0 rfl ?_
    refine r_aload_n (i := 0) C dX12_pull_18 rfl 0 rfl ?_
    refine r_iload_n (i := 1) C dX12_pull_19 rfl 1 rfl ?_
    refine r_callVi (As := [.int a1]) (st := [.ref (gad (xG X) 208)]) C 208 rfl (by decide) rfl (kX12_hasPin (xG X)) cw_X12_122 rfl rfl (Nat.le_of_ble_eq_true rfl) (zr2 hR rfl rfl) (zrcs hcs) dX12_pull_20 ?_
    obtain ⟨v6, r8, hf⟩ := cl_of hf
    have k7 : VW X 3 h2 0 0 31 [(0, .ref (gad (xG X) 208)), (1, .int a1)] [.int v6, .ref (gad (xG X) 208)] := by
      refine r_iconst (v := 2) C dX12_pull_31 (by decide) ?_
      obtain ⟨x12, h10, e11, hf⟩ := cl2_of hf
      refine r_callVi (As := [.int v6, .int (2 : Int32)]) (st := []) C 208 rfl (by decide) rfl (kX12_throwsIf (xG X) e11) cw_X12_247 rfl rfl (Nat.le_of_ble_eq_true rfl) (zr2 hR rfl rfl) (zrcs hcs) dX12_pull_32 ?_
      refine r_if_eq C 40 dX12_pull_35 (by decide) (fun c13 => ?_) (fun c13 => ?_)
      · rw [if_pos c13] at hf
        refine r_aload_n (i := 0) C dX12_pull_40 rfl 0 rfl ?_
        obtain ⟨h14, e15, hf⟩ := cl_of hf
        refine r_callVv (As := []) (st := []) C 208 rfl (by decide) rfl (kX12_remembers (xG X) e15) cw_X12_327 rfl rfl (Nat.le_of_ble_eq_true rfl) (zr2 hR rfl rfl) (zrcs hcs) dX12_pull_41 ?_
        refine r_aload_n (i := 0) C dX12_pull_44 rfl 0 rfl ?_
        refine g_X12_13 C dX12_pull_45 ?_
        refine r_bipush (v := 62) C dX12_pull_48 (by decide) ?_
        refine r_iload_n (i := 1) C dX12_pull_50 rfl 1 rfl ?_
        refine r_iadd C dX12_pull_51 ?_
        obtain ⟨g16, hf⟩ := gd_of hf
        refine r_iald C 209 rfl (by decide) g16 dX12_pull_52 ?_
        refine r_istore_n (i := 2) (lv' := [(0, .ref (gad (xG X) 208)), (1, .int a1), (2, .int (h14 209 ((62 : Int32) + a1).toNatClampNeg))]) C dX12_pull_53 rfl (by decide) [1, 2, 0] rfl ?_
        refine r_aload_n (i := 0) C dX12_pull_54 rfl 0 rfl ?_
        refine r_iload_n (i := 1) C dX12_pull_55 rfl 1 rfl ?_
        refine r_iconst (v := 2) C dX12_pull_56 (by decide) ?_
        obtain ⟨h17, e18, hf⟩ := cl_of hf
        refine r_callVv (As := [.int a1, .int (2 : Int32)]) (st := []) C 208 rfl (by decide) rfl (kX12_takesOut (xG X) e18) cw_X12_330 rfl rfl (Nat.le_of_ble_eq_true rfl) (zr2 hR rfl rfl) (zrcs hcs) dX12_pull_57 ?_
        refine r_aload_n (i := 0) C dX12_pull_60 rfl 0 rfl ?_
        refine g_X12_13 C dX12_pull_61 ?_
        refine r_bipush (v := 6) C dX12_pull_64 (by decide) ?_
        refine r_sipush (v := 999) C dX12_pull_66 (by decide) ?_
        refine r_aload_n (i := 0) C dX12_pull_69 rfl 0 rfl ?_
        refine g_X12_13 C dX12_pull_70 ?_
        refine r_bipush (v := 6) C dX12_pull_73 (by decide) ?_
        refine r_ialdc C 209 (m := 6) rfl (by decide) (by decide) (show inb 6 2031 by decide) dX12_pull_75 ?_
        refine r_iconst (v := 1) C dX12_pull_76 (by decide) ?_
        refine r_iadd C dX12_pull_77 ?_
        refine r_mmin9 C gw_1797 gm_min_s gm_i gm_min_c (zr1 hR rfl) (zr0 hR (Nat.le_of_ble_eq_true rfl)) (zrcs hcs) dX12_pull_78 ?_
        obtain ⟨g19, hf⟩ := gd_of hf
        obtain ⟨h20, eh20, hf⟩ := lt_of hf
        refine r_iast C 209 eh20 rfl (by decide) g19 dX12_pull_81 ?_
        refine r_iload_n (i := 2) C dX12_pull_82 rfl 2 rfl ?_
        cases hf
        exact r_iret C hF dX12_pull_83
      · rw [if_neg c13] at hf
        refine r_iconst (v := 0) C dX12_pull_38 (by decide) ?_
        cases hf
        exact r_iret C hF dX12_pull_39
    clear hf
    have hf := r8
    refine r_if_ne C 30 dX12_pull_23 (by decide) (fun c9 => ?_) (fun c9 => ?_)
    · rw [if_neg c9] at hf
      refine r_iconst (v := 0) C dX12_pull_30 (by decide) ?_
      cases hf
      exact k7
    · rw [if_pos c9] at hf
      refine r_iconst (v := 1) C dX12_pull_26 (by decide) ?_
      refine r_goto C 31 dX12_pull_27 (by decide) ?_
      cases hf
      exact k7
def fX12_hand (h : Hp) (a1 : Int32) (a2 : Int32) : Option (Int32 × Hp) := lt9 (up2 h 208 0 (0 : Int32)) (fun h1 => cl2 (fX12_throwsIf h1 (fX12_noPinner h1 a1) (1 : Int32)) (fun x4 h2 => (if x4 = (0 : Int32) then cl9 ((if (fX12_in a2 (1 : Int32) (30 : Int32)) = (0 : Int32) then some (1 : Int32) else some (0 : Int32)) : Option (Int32)) (fun v6 => cl2 (fX12_throwsIf h2 v6 (2 : Int32)) (fun x12 h10 => (if x12 = (0 : Int32) then cl9 (cl9 ((if (h10 209 6) < a2 then some true else cl9 (fX12_of h10 a1 (2 : Int32)) (fun x22 => (if (x22 + a2) ≤ (30 : Int32) then some false else some true))) : Option Bool) (fun q17 => if q17 = true then some (1 : Int32) else some (0 : Int32)) : Option (Int32)) (fun v14 => cl2 (fX12_throwsIf h10 v14 (3 : Int32)) (fun x27 h25 => (if x27 = (0 : Int32) then cl9 (fX12_remembers h25) (fun h29 => gd (inb (6 : Int32) 2031) (lt9 (up2 h29 209 (6 : Int32).toNatClampNeg ((h29 209 6) - a2)) (fun h32 => gd (inb (fX12_at a1 (2 : Int32)) 2031) (gd (inb (fX12_at a1 (2 : Int32)) 2031) (lt9 (up2 h32 209 (fX12_at a1 (2 : Int32)).toNatClampNeg ((h32 209 (fX12_at a1 (2 : Int32)).toNatClampNeg) + a2)) (fun h35 => cl9 (fX12_of h35 a1 (2 : Int32)) (fun x36 => some (x36, h35)))))))) else some ((0 : Int32), h25)))) else some ((0 : Int32), h10)))) else some ((0 : Int32), h2))))
set_option maxHeartbeats 4000000 in
set_option maxRecDepth 100000 in
theorem kX12_hand (G : Gx)  {h : Hp} {a1 : Int32} {a2 : Int32} {rr : Int32} {hh : Hp} (hf : fX12_hand h a1 a2 = some (rr, hh)) : MC G yX12_hand cX12_hand 3 (some .int) 3 192 h [.ref (gad G 208), .int a1, .int a2] (some (.int rr)) hh := by
  refine MC.of RX12 (by decide) rfl (Nat.le_of_ble_eq_true rfl) rfl (fun X C hG hR hF => ?_)
  subst hG
  have hcs : True := trivial
  unfold fX12_hand at hf
  refine r_aload_n (i := 0) C dX12_hand_0 rfl 0 rfl ?_
  refine r_iconst (v := 0) C dX12_hand_1 (by decide) ?_
  obtain ⟨h1, eh1, hf⟩ := lt_of hf
  refine p_X12_3 C eh1 dX12_hand_2 ?_
  refine r_aload_n (i := 0) C dX12_hand_5 rfl 0 rfl ?_
  refine r_aload_n (i := 0) C dX12_hand_6 rfl 0 rfl ?_
  refine r_iload_n (i := 1) C dX12_hand_7 rfl 1 rfl ?_
  refine r_callVi (As := [.int a1]) (st := [.ref (gad (xG X) 208)]) C 208 rfl (by decide) rfl (kX12_noPinner (xG X)) cw_X12_311 rfl rfl (Nat.le_of_ble_eq_true rfl) (zr2 hR rfl rfl) (zrcs hcs) dX12_hand_8 ?_
  refine r_iconst (v := 1) C dX12_hand_11 (by decide) ?_
  obtain ⟨x4, h2, e3, hf⟩ := cl2_of hf
  refine r_callVi (As := [.int (fX12_noPinner h1 a1), .int (1 : Int32)]) (st := []) C 208 rfl (by decide) rfl (kX12_throwsIf (xG X) e3) cw_X12_247 rfl rfl (Nat.le_of_ble_eq_true rfl) (zr2 hR rfl rfl) (zrcs hcs) dX12_hand_12 ?_
  refine r_if_ne C 78 dX12_hand_15 (by decide) (fun c5 => ?_) (fun c5 => ?_)
  · rw [if_neg c5] at hf
    refine r_iconst (v := 0) C dX12_hand_78 (by decide) ?_
    cases hf
    exact r_iret C hF dX12_hand_79
  · rw [if_pos c5] at hf
    refine r_aload_n (i := 0) C dX12_hand_18 rfl 0 rfl ?_
    refine r_iload_n (i := 2) C dX12_hand_19 rfl 2 rfl ?_
    refine r_iconst (v := 1) C dX12_hand_20 (by decide) ?_
    refine r_bipush (v := 30) C dX12_hand_21 (by decide) ?_
    refine r_callSi (As := [.int a2, .int (1 : Int32), .int (30 : Int32)]) (st := [.ref (gad (xG X) 208)]) C (kX12_in (xG X)) cw_X12_76 rfl rfl (Nat.le_of_ble_eq_true rfl) (zr2 hR rfl rfl) (zrcs hcs) dX12_hand_23 ?_
    obtain ⟨v6, r8, hf⟩ := cl_of hf
    have k7 : VW X 3 h2 0 0 34 [(0, .ref (gad (xG X) 208)), (1, .int a1), (2, .int a2)] [.int v6, .ref (gad (xG X) 208)] := by
      refine r_iconst (v := 2) C dX12_hand_34 (by decide) ?_
      obtain ⟨x12, h10, e11, hf⟩ := cl2_of hf
      refine r_callVi (As := [.int v6, .int (2 : Int32)]) (st := []) C 208 rfl (by decide) rfl (kX12_throwsIf (xG X) e11) cw_X12_247 rfl rfl (Nat.le_of_ble_eq_true rfl) (zr2 hR rfl rfl) (zrcs hcs) dX12_hand_35 ?_
      refine r_if_ne C 78 dX12_hand_38 (by decide) (fun c13 => ?_) (fun c13 => ?_)
      · rw [if_neg c13] at hf
        refine r_iconst (v := 0) C dX12_hand_78 (by decide) ?_
        cases hf
        exact r_iret C hF dX12_hand_79
      · rw [if_pos c13] at hf
        refine r_aload_n (i := 0) C dX12_hand_41 rfl 0 rfl ?_
        refine r_aload_n (i := 0) C dX12_hand_42 rfl 0 rfl ?_
        refine g_X12_13 C dX12_hand_43 ?_
        refine r_bipush (v := 6) C dX12_hand_46 (by decide) ?_
        refine r_ialdc C 209 (m := 6) rfl (by decide) (by decide) (show inb 6 2031 by decide) dX12_hand_48 ?_
        refine r_iload_n (i := 2) C dX12_hand_49 rfl 2 rfl ?_
        obtain ⟨v14, r16, hf⟩ := cl_of hf
        have k15 : VW X 3 h10 0 0 71 [(0, .ref (gad (xG X) 208)), (1, .int a1), (2, .int a2)] [.int v14, .ref (gad (xG X) 208)] := by
          refine r_iconst (v := 3) C dX12_hand_71 (by decide) ?_
          obtain ⟨x27, h25, e26, hf⟩ := cl2_of hf
          refine r_callVi (As := [.int v14, .int (3 : Int32)]) (st := []) C 208 rfl (by decide) rfl (kX12_throwsIf (xG X) e26) cw_X12_247 rfl rfl (Nat.le_of_ble_eq_true rfl) (zr2 hR rfl rfl) (zrcs hcs) dX12_hand_72 ?_
          refine r_if_eq C 80 dX12_hand_75 (by decide) (fun c28 => ?_) (fun c28 => ?_)
          · rw [if_pos c28] at hf
            refine r_aload_n (i := 0) C dX12_hand_80 rfl 0 rfl ?_
            obtain ⟨h29, e30, hf⟩ := cl_of hf
            refine r_callVv (As := []) (st := []) C 208 rfl (by decide) rfl (kX12_remembers (xG X) e30) cw_X12_327 rfl rfl (Nat.le_of_ble_eq_true rfl) (zr2 hR rfl rfl) (zrcs hcs) dX12_hand_81 ?_
            refine r_aload_n (i := 0) C dX12_hand_84 rfl 0 rfl ?_
            refine g_X12_13 C dX12_hand_85 ?_
            refine r_bipush (v := 6) C dX12_hand_88 (by decide) ?_
            refine r_dup2 C dX12_hand_90 rfl rfl ?_
            refine r_ialdc C 209 (m := 6) rfl (by decide) (by decide) (show inb 6 2031 by decide) dX12_hand_91 ?_
            refine r_iload_n (i := 2) C dX12_hand_92 rfl 2 rfl ?_
            refine r_isub C dX12_hand_93 ?_
            obtain ⟨g31, hf⟩ := gd_of hf
            obtain ⟨h32, eh32, hf⟩ := lt_of hf
            refine r_iast C 209 eh32 rfl (by decide) g31 dX12_hand_94 ?_
            refine r_aload_n (i := 0) C dX12_hand_95 rfl 0 rfl ?_
            refine g_X12_13 C dX12_hand_96 ?_
            refine r_iload_n (i := 1) C dX12_hand_99 rfl 1 rfl ?_
            refine r_iconst (v := 2) C dX12_hand_100 (by decide) ?_
            refine r_callSi (As := [.int a1, .int (2 : Int32)]) (st := [.ref (gad (xG X) 209)]) C (kX12_at (xG X)) cw_X12_61 rfl rfl (Nat.le_of_ble_eq_true rfl) (zr2 hR rfl rfl) (zrcs hcs) dX12_hand_101 ?_
            refine r_dup2 C dX12_hand_104 rfl rfl ?_
            obtain ⟨g33, hf⟩ := gd_of hf
            refine r_iald C 209 rfl (by decide) g33 dX12_hand_105 ?_
            refine r_iload_n (i := 2) C dX12_hand_106 rfl 2 rfl ?_
            refine r_iadd C dX12_hand_107 ?_
            obtain ⟨g34, hf⟩ := gd_of hf
            obtain ⟨h35, eh35, hf⟩ := lt_of hf
            refine r_iast C 209 eh35 rfl (by decide) g34 dX12_hand_108 ?_
            refine r_aload_n (i := 0) C dX12_hand_109 rfl 0 rfl ?_
            refine r_iload_n (i := 1) C dX12_hand_110 rfl 1 rfl ?_
            refine r_iconst (v := 2) C dX12_hand_111 (by decide) ?_
            obtain ⟨x36, e37, hf⟩ := cl_of hf
            refine r_callVi (As := [.int a1, .int (2 : Int32)]) (st := []) C 208 rfl (by decide) rfl (kX12_of (xG X) e37) cw_X12_314 rfl rfl (Nat.le_of_ble_eq_true rfl) (zr2 hR rfl rfl) (zrcs hcs) dX12_hand_112 ?_
            cases hf
            exact r_iret C hF dX12_hand_115
          · rw [if_neg c28] at hf
            refine r_iconst (v := 0) C dX12_hand_78 (by decide) ?_
            cases hf
            exact r_iret C hF dX12_hand_79
        clear hf
        have hf := r16
        obtain ⟨q17, r20, hf⟩ := cl_of hf
        have k18 : q17 = true → VW X 3 h10 0 0 66 [(0, .ref (gad (xG X) 208)), (1, .int a1), (2, .int a2)] [.ref (gad (xG X) 208)] := fun qq => by
          rw [if_pos qq] at hf
          refine r_iconst (v := 1) C dX12_hand_66 (by decide) ?_
          refine r_goto C 71 dX12_hand_67 (by decide) ?_
          cases hf
          exact k15
        have k19 : q17 = false → VW X 3 h10 0 0 70 [(0, .ref (gad (xG X) 208)), (1, .int a1), (2, .int a2)] [.ref (gad (xG X) 208)] := fun qq => by
          rw [if_neg (by rw [qq]; decide)] at hf
          refine r_iconst (v := 0) C dX12_hand_70 (by decide) ?_
          cases hf
          exact k15
        clear hf
        have hf := r20
        refine r_icmp_lt C 66 dX12_hand_50 (by decide) (fun c21 => ?_) (fun c21 => ?_)
        · rw [if_pos c21] at hf
          exact k18 (Option.some.inj hf).symm
        · rw [if_neg c21] at hf
          refine r_aload_n (i := 0) C dX12_hand_53 rfl 0 rfl ?_
          refine r_iload_n (i := 1) C dX12_hand_54 rfl 1 rfl ?_
          refine r_iconst (v := 2) C dX12_hand_55 (by decide) ?_
          obtain ⟨x22, e23, hf⟩ := cl_of hf
          refine r_callVi (As := [.int a1, .int (2 : Int32)]) (st := [.ref (gad (xG X) 208)]) C 208 rfl (by decide) rfl (kX12_of (xG X) e23) cw_X12_314 rfl rfl (Nat.le_of_ble_eq_true rfl) (zr2 hR rfl rfl) (zrcs hcs) dX12_hand_56 ?_
          refine r_iload_n (i := 2) C dX12_hand_59 rfl 2 rfl ?_
          refine r_iadd C dX12_hand_60 ?_
          refine r_bipush (v := 30) C dX12_hand_61 (by decide) ?_
          refine r_icmp_le C 70 dX12_hand_63 (by decide) (fun c24 => ?_) (fun c24 => ?_)
          · rw [if_pos c24] at hf
            exact k19 (Option.some.inj hf).symm
          · rw [if_neg c24] at hf
            exact k18 (Option.some.inj hf).symm
    clear hf
    have hf := r8
    refine r_if_ne C 33 dX12_hand_26 (by decide) (fun c9 => ?_) (fun c9 => ?_)
    · rw [if_neg c9] at hf
      refine r_iconst (v := 0) C dX12_hand_33 (by decide) ?_
      cases hf
      exact k7
    · rw [if_pos c9] at hf
      refine r_iconst (v := 1) C dX12_hand_29 (by decide) ?_
      refine r_goto C 34 dX12_hand_30 (by decide) ?_
      cases hf
      exact k7
def fX12_fell (h : Hp) (a1 : Int32) : Option (Int32 × Hp) := lt9 (up2 h 208 0 (0 : Int32)) (fun h1 => cl2 (fX12_throwsIf h1 (fX12_noPlace a1) (1 : Int32)) (fun x4 h2 => (if x4 = (0 : Int32) then cl9 (fX12_remembers h2) (fun h6 => gd (inb ((46 : Int32) + a1) 2031) (gd (inb ((46 : Int32) + a1) 2031) (lt9 (up2 h6 209 ((46 : Int32) + a1).toNatClampNeg (0 : Int32)) (fun h10 => some ((h6 209 ((46 : Int32) + a1).toNatClampNeg), h10))))) else some ((0 : Int32), h2))))
set_option maxHeartbeats 4000000 in
set_option maxRecDepth 100000 in
theorem kX12_fell (G : Gx)  {h : Hp} {a1 : Int32} {rr : Int32} {hh : Hp} (hf : fX12_fell h a1 = some (rr, hh)) : MC G yX12_fell cX12_fell 3 (some .int) 3 192 h [.ref (gad G 208), .int a1] (some (.int rr)) hh := by
  refine MC.of RX12 (by decide) rfl (Nat.le_of_ble_eq_true rfl) rfl (fun X C hG hR hF => ?_)
  subst hG
  have hcs : True := trivial
  unfold fX12_fell at hf
  refine r_aload_n (i := 0) C dX12_fell_0 rfl 0 rfl ?_
  refine r_iconst (v := 0) C dX12_fell_1 (by decide) ?_
  obtain ⟨h1, eh1, hf⟩ := lt_of hf
  refine p_X12_3 C eh1 dX12_fell_2 ?_
  refine r_aload_n (i := 0) C dX12_fell_5 rfl 0 rfl ?_
  refine r_iload_n (i := 1) C dX12_fell_6 rfl 1 rfl ?_
  refine r_callSi (As := [.int a1]) (st := [.ref (gad (xG X) 208)]) C (kX12_noPlace (xG X)) cw_X12_305 rfl rfl (Nat.le_of_ble_eq_true rfl) (zr2 hR rfl rfl) (zrcs hcs) dX12_fell_7 ?_
  refine r_iconst (v := 1) C dX12_fell_10 (by decide) ?_
  obtain ⟨x4, h2, e3, hf⟩ := cl2_of hf
  refine r_callVi (As := [.int (fX12_noPlace a1), .int (1 : Int32)]) (st := []) C 208 rfl (by decide) rfl (kX12_throwsIf (xG X) e3) cw_X12_247 rfl rfl (Nat.le_of_ble_eq_true rfl) (zr2 hR rfl rfl) (zrcs hcs) dX12_fell_11 ?_
  refine r_if_eq C 19 dX12_fell_14 (by decide) (fun c5 => ?_) (fun c5 => ?_)
  · rw [if_pos c5] at hf
    refine r_aload_n (i := 0) C dX12_fell_19 rfl 0 rfl ?_
    obtain ⟨h6, e7, hf⟩ := cl_of hf
    refine r_callVv (As := []) (st := []) C 208 rfl (by decide) rfl (kX12_remembers (xG X) e7) cw_X12_327 rfl rfl (Nat.le_of_ble_eq_true rfl) (zr2 hR rfl rfl) (zrcs hcs) dX12_fell_20 ?_
    refine r_aload_n (i := 0) C dX12_fell_23 rfl 0 rfl ?_
    refine g_X12_13 C dX12_fell_24 ?_
    refine r_bipush (v := 46) C dX12_fell_27 (by decide) ?_
    refine r_iload_n (i := 1) C dX12_fell_29 rfl 1 rfl ?_
    refine r_iadd C dX12_fell_30 ?_
    obtain ⟨g8, hf⟩ := gd_of hf
    refine r_iald C 209 rfl (by decide) g8 dX12_fell_31 ?_
    refine r_istore_n (i := 2) (lv' := [(0, .ref (gad (xG X) 208)), (1, .int a1), (2, .int (h6 209 ((46 : Int32) + a1).toNatClampNeg))]) C dX12_fell_32 rfl (by decide) [1, 2, 0] rfl ?_
    refine r_aload_n (i := 0) C dX12_fell_33 rfl 0 rfl ?_
    refine g_X12_13 C dX12_fell_34 ?_
    refine r_bipush (v := 46) C dX12_fell_37 (by decide) ?_
    refine r_iload_n (i := 1) C dX12_fell_39 rfl 1 rfl ?_
    refine r_iadd C dX12_fell_40 ?_
    refine r_iconst (v := 0) C dX12_fell_41 (by decide) ?_
    obtain ⟨g9, hf⟩ := gd_of hf
    obtain ⟨h10, eh10, hf⟩ := lt_of hf
    refine r_iast C 209 eh10 rfl (by decide) g9 dX12_fell_42 ?_
    refine r_iload_n (i := 2) C dX12_fell_43 rfl 2 rfl ?_
    cases hf
    exact r_iret C hF dX12_fell_44
  · rw [if_neg c5] at hf
    refine r_iconst (v := 0) C dX12_fell_17 (by decide) ?_
    cases hf
    exact r_iret C hF dX12_fell_18

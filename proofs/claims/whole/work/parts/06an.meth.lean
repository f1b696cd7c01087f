def fX8_takePin (h : Hp) : Option (Hp) := cl2 (fX9_takeNumber h (0 : Int32) (15 : Int32)) (fun x3 h1 => (if x3 = (-1 : Int32) then some h1 else (if (fX7_hasPin h1 65 x3) = (0 : Int32) then cl2 (fX9_takeWord h1 sw15) (fun x8 h6 => cl2 ((if x8 = (0 : Int32) then some ((0 : Int32), h6) else cl2 (fX9_takeNumber h6 (0 : Int32) (99 : Int32)) (fun x16 h14 => some (x16, h14))) : Option (Int32 × Hp)) (fun x9 h10 => cl9 (fX7_setPin h10 65 x3 x9) (fun h17 => some h17))) else cl9 (fX9_failLatest h1) (fun h19 => some h19))))
set_option maxHeartbeats 4000000 in
set_option maxRecDepth 100000 in
theorem kX8_takePin (G : Gx)  {h : Hp}  {hh : Hp} (hf : fX8_takePin h = some hh) : MC G yX8_takePin cX8_takePin 4 none 6 384 h [.ref (gad G 11), .ref (gad G 1)] none hh := by
  refine MC.of RX8 (by decide) rfl (Nat.le_of_ble_eq_true rfl) rfl (fun X C hG hR hF => ?_)
  subst hG
  have hcs : True := trivial
  unfold fX8_takePin at hf
  refine r_aload_n (i := 1) C dX8_takePin_0 rfl 1 rfl ?_
  refine r_iconst (v := 0) C dX8_takePin_1 (by decide) ?_
  refine r_bipush (v := 15) C dX8_takePin_2 (by decide) ?_
  obtain ⟨x3, h1, e2, hf⟩ := cl2_of hf
  refine r_callNVi (As := [.int (0 : Int32), .int (15 : Int32)]) (st := []) C 1 rfl (by decide) rfl (kX9_takeNumber (xG X) e2) cw_X8_62 rfl rfl (Nat.le_of_ble_eq_true rfl) (zr2 hR rfl rfl) (zrcs hcs) dX8_takePin_4 ?_
  refine r_istore_n (i := 2) (lv' := [(0, .ref (gad (xG X) 11)), (1, .ref (gad (xG X) 1)), (2, .int x3)]) C dX8_takePin_7 rfl (by decide) [1, 2, 0] rfl ?_
  refine r_iload_n (i := 2) C dX8_takePin_8 rfl 2 rfl ?_
  refine r_iconst (v := (-1)) C dX8_takePin_9 (by decide) ?_
  refine r_icmp_ne C 14 dX8_takePin_10 (by decide) (fun c4 => ?_) (fun c4 => ?_)
  · rw [if_neg c4] at hf
    refine r_aload_n (i := 0) C dX8_takePin_14 rfl 0 rfl ?_
    refine g_X8_12 C dX8_takePin_15 ?_
    refine r_iload_n (i := 2) C dX8_takePin_18 rfl 2 rfl ?_
    refine r_callNVi (As := [.int x3]) (st := []) C 65 (sky_d0 sk65) (sky_l0 sk65) rfl (kX7_hasPin (xG X) sk65) cw_X8_88 rfl rfl (Nat.le_of_ble_eq_true rfl) (zr2 hR rfl rfl) (zrcs hcs) dX8_takePin_19 ?_
    refine r_if_eq C 30 dX8_takePin_22 (by decide) (fun c5 => ?_) (fun c5 => ?_)
    · rw [if_pos c5] at hf
      refine r_iconst (v := 0) C dX8_takePin_30 (by decide) ?_
      refine r_istore_n (i := 3) (lv' := [(0, .ref (gad (xG X) 11)), (1, .ref (gad (xG X) 1)), (2, .int x3), (3, .int (0 : Int32))]) C dX8_takePin_31 rfl (by decide) [1, 2, 3, 0] rfl ?_
      refine r_aload_n (i := 1) C dX8_takePin_32 rfl 1 rfl ?_
      refine r_ldcS (e := 15) C st15 dX8_takePin_33 ?_
      obtain ⟨x8, h6, e7, hf⟩ := cl2_of hf
      refine r_callNVi (As := [.ref (gsK (xG X) 15)]) (st := []) C 1 rfl (by decide) rfl (kX9_takeWord (xG X) st15 e7) cw_X8_20 rfl rfl (Nat.le_of_ble_eq_true rfl) (zr2 hR rfl rfl) (zrcs hcs) dX8_takePin_35 ?_
      obtain ⟨x9, h10, r12, hf⟩ := cl2_of hf
      have k11 : VW X 4 h10 0 0 49 [(0, .ref (gad (xG X) 11)), (1, .ref (gad (xG X) 1)), (2, .int x3), (3, .int x9)] [] := by
        refine r_aload_n (i := 0) C dX8_takePin_49 rfl 0 rfl ?_
        refine g_X8_12 C dX8_takePin_50 ?_
        refine r_iload_n (i := 2) C dX8_takePin_53 rfl 2 rfl ?_
        refine r_iload_n (i := 3) C dX8_takePin_54 rfl 3 rfl ?_
        obtain ⟨h17, e18, hf⟩ := cl_of hf
        refine r_callNVv (As := [.int x3, .int x9]) (st := []) C 65 (sky_d0 sk65) (sky_l0 sk65) rfl (kX7_setPin (xG X) sk65 e18) cw_X8_97 rfl rfl (Nat.le_of_ble_eq_true rfl) (zr2 hR rfl rfl) (zrcs hcs) dX8_takePin_55 ?_
        cases hf
        exact r_vret C hF dX8_takePin_58
      clear hf
      have hf := r12
      refine r_if_eq C 49 dX8_takePin_38 (by decide) (fun c13 => ?_) (fun c13 => ?_)
      · rw [if_pos c13] at hf
        cases hf
        exact k11
      · rw [if_neg c13] at hf
        refine r_aload_n (i := 1) C dX8_takePin_41 rfl 1 rfl ?_
        refine r_iconst (v := 0) C dX8_takePin_42 (by decide) ?_
        refine r_bipush (v := 99) C dX8_takePin_43 (by decide) ?_
        obtain ⟨x16, h14, e15, hf⟩ := cl2_of hf
        refine r_callNVi (As := [.int (0 : Int32), .int (99 : Int32)]) (st := []) C 1 rfl (by decide) rfl (kX9_takeNumber (xG X) e15) cw_X8_62 rfl rfl (Nat.le_of_ble_eq_true rfl) (zr2 hR rfl rfl) (zrcs hcs) dX8_takePin_45 ?_
        refine r_istore_n (i := 3) (lv' := [(0, .ref (gad (xG X) 11)), (1, .ref (gad (xG X) 1)), (2, .int x3), (3, .int x16)]) C dX8_takePin_48 rfl (by decide) [1, 2, 3, 0] rfl ?_
        cases hf
        exact k11
    · rw [if_neg c5] at hf
      refine r_aload_n (i := 1) C dX8_takePin_25 rfl 1 rfl ?_
      obtain ⟨h19, e20, hf⟩ := cl_of hf
      refine r_callNVv (As := []) (st := []) C 1 rfl (by decide) rfl (kX9_failLatest (xG X) e20) cw_X8_92 rfl rfl (Nat.le_of_ble_eq_true rfl) (zr2 hR rfl rfl) (zrcs hcs) dX8_takePin_26 ?_
      cases hf
      exact r_vret C hF dX8_takePin_29
  · rw [if_pos c4] at hf
    cases hf
    exact r_vret C hF dX8_takePin_13
def fX8_takePlaceValue (h : Hp) (ar an : Nat) (a1 : Int32) : Option (Hp) := cl2 (fX9_takeNumber h (0 : Int32) (15 : Int32)) (fun x3 h1 => cl2 (fX9_takeNumber h1 (0 : Int32) a1) (fun x6 h4 => (if x3 = (-1 : Int32) then some h4 else gd (inb x3 an) (lt9 (up2 h4 ar x3.toNatClampNeg x6) (fun h9 => some h9)))))
set_option maxHeartbeats 4000000 in
set_option maxRecDepth 100000 in
theorem kX8_takePlaceValue (G : Gx) {ar an : Nat} {aq : List Nat} (hda : dsc ar = .inr (0, an, aq)) (hla : ar < NC) {h : Hp} {a1 : Int32} {hh : Hp} (hf : fX8_takePlaceValue h ar an a1 = some hh) : MC G yX8_takePlaceValue cX8_takePlaceValue 6 none 3 192 h [.ref (gad G 11), .ref (gad G 1), .ref (gad G ar), .int a1] none hh := by
  refine MC.of RX8 (by decide) rfl (Nat.le_of_ble_eq_true rfl) rfl (fun X C hG hR hF => ?_)
  subst hG
  have hcs : True := trivial
  unfold fX8_takePlaceValue at hf
  refine r_aload_n (i := 1) C dX8_takePlaceValue_0 rfl 1 rfl ?_
  refine r_iconst (v := 0) C dX8_takePlaceValue_1 (by decide) ?_
  refine r_bipush (v := 15) C dX8_takePlaceValue_2 (by decide) ?_
  obtain ⟨x3, h1, e2, hf⟩ := cl2_of hf
  refine r_callNVi (As := [.int (0 : Int32), .int (15 : Int32)]) (st := []) C 1 rfl (by decide) rfl (kX9_takeNumber (xG X) e2) cw_X8_62 rfl rfl (Nat.le_of_ble_eq_true rfl) (zr2 hR rfl rfl) (zrcs hcs) dX8_takePlaceValue_4 ?_
  refine r_istore (i := 4) (lv' := [(0, .ref (gad (xG X) 11)), (1, .ref (gad (xG X) 1)), (2, .ref (gad (xG X) ar)), (3, .int a1), (4, .int x3)]) C dX8_takePlaceValue_7 (by decide) [1, 2, 3, 4, 0] rfl ?_
  refine r_aload_n (i := 1) C dX8_takePlaceValue_9 rfl 1 rfl ?_
  refine r_iconst (v := 0) C dX8_takePlaceValue_10 (by decide) ?_
  refine r_iload_n (i := 3) C dX8_takePlaceValue_11 rfl 3 rfl ?_
  obtain ⟨x6, h4, e5, hf⟩ := cl2_of hf
  refine r_callNVi (As := [.int (0 : Int32), .int a1]) (st := []) C 1 rfl (by decide) rfl (kX9_takeNumber (xG X) e5) cw_X8_62 rfl rfl (Nat.le_of_ble_eq_true rfl) (zr2 hR rfl rfl) (zrcs hcs) dX8_takePlaceValue_12 ?_
  refine r_istore (i := 5) (lv' := [(0, .ref (gad (xG X) 11)), (1, .ref (gad (xG X) 1)), (2, .ref (gad (xG X) ar)), (3, .int a1), (4, .int x3), (5, .int x6)]) C dX8_takePlaceValue_15 (by decide) [1, 2, 3, 4, 5, 0] rfl ?_
  refine r_iload (i := 4) C dX8_takePlaceValue_17 4 rfl ?_
  refine r_iconst (v := (-1)) C dX8_takePlaceValue_19 (by decide) ?_
  refine r_icmp_eq C 29 dX8_takePlaceValue_20 (by decide) (fun c7 => ?_) (fun c7 => ?_)
  · rw [if_pos c7] at hf
    cases hf
    exact r_vret C hF dX8_takePlaceValue_29
  · rw [if_neg c7] at hf
    refine r_aload_n (i := 2) C dX8_takePlaceValue_23 rfl 2 rfl ?_
    refine r_iload (i := 4) C dX8_takePlaceValue_24 4 rfl ?_
    refine r_iload (i := 5) C dX8_takePlaceValue_26 5 rfl ?_
    obtain ⟨g8, hf⟩ := gd_of hf
    obtain ⟨h9, eh9, hf⟩ := lt_of hf
    refine r_iast C ar eh9 hda hla g8 dX8_takePlaceValue_28 ?_
    cases hf
    exact r_vret C hF dX8_takePlaceValue_29
def fX8_takeBare (h : Hp) : Option (Hp) := cl2 (fX9_takeNumber h (0 : Int32) (15 : Int32)) (fun x3 h1 => (if x3 = (-1 : Int32) then some h1 else lt9 (up2 h1 65 4 ((h1 65 4) ||| ((1 : Int32) <<< (x3 &&& 31)))) (fun h5 => some h5)))
set_option maxHeartbeats 4000000 in
set_option maxRecDepth 100000 in
theorem kX8_takeBare (G : Gx)  {h : Hp}  {hh : Hp} (hf : fX8_takeBare h = some hh) : MC G yX8_takeBare cX8_takeBare 3 none 3 192 h [.ref (gad G 11), .ref (gad G 1)] none hh := by
  refine MC.of RX8 (by decide) rfl (Nat.le_of_ble_eq_true rfl) rfl (fun X C hG hR hF => ?_)
  subst hG
  have hcs : True := trivial
  unfold fX8_takeBare at hf
  refine r_aload_n (i := 1) C dX8_takeBare_0 rfl 1 rfl ?_
  refine r_iconst (v := 0) C dX8_takeBare_1 (by decide) ?_
  refine r_bipush (v := 15) C dX8_takeBare_2 (by decide) ?_
  obtain ⟨x3, h1, e2, hf⟩ := cl2_of hf
  refine r_callNVi (As := [.int (0 : Int32), .int (15 : Int32)]) (st := []) C 1 rfl (by decide) rfl (kX9_takeNumber (xG X) e2) cw_X8_62 rfl rfl (Nat.le_of_ble_eq_true rfl) (zr2 hR rfl rfl) (zrcs hcs) dX8_takeBare_4 ?_
  refine r_istore_n (i := 2) (lv' := [(0, .ref (gad (xG X) 11)), (1, .ref (gad (xG X) 1)), (2, .int x3)]) C dX8_takeBare_7 rfl (by decide) [1, 2, 0] rfl ?_
  refine r_iload_n (i := 2) C dX8_takeBare_8 rfl 2 rfl ?_
  refine r_iconst (v := (-1)) C dX8_takeBare_9 (by decide) ?_
  refine r_icmp_eq C 28 dX8_takeBare_10 (by decide) (fun c4 => ?_) (fun c4 => ?_)
  · rw [if_pos c4] at hf
    cases hf
    exact r_vret C hF dX8_takeBare_28
  · rw [if_neg c4] at hf
    refine r_aload_n (i := 0) C dX8_takeBare_13 rfl 0 rfl ?_
    refine g_X8_12 C dX8_takeBare_14 ?_
    refine r_dup C dX8_takeBare_17 rfl ?_
    refine g_X8_101 sk65 C dX8_takeBare_18 ?_
    refine r_iconst (v := 1) C dX8_takeBare_21 (by decide) ?_
    refine r_iload_n (i := 2) C dX8_takeBare_22 rfl 2 rfl ?_
    refine r_ishl C dX8_takeBare_23 ?_
    refine r_ior C dX8_takeBare_24 ?_
    obtain ⟨h5, eh5, hf⟩ := lt_of hf
    refine p_X8_101 sk65 C eh5 dX8_takeBare_25 ?_
    cases hf
    exact r_vret C hF dX8_takeBare_28
def fX8_takePinner (h : Hp) : Option (Hp) := (if (h (65 + 5) 0) < (5 : Int32) then cl2 (fX9_takeNumber h (0 : Int32) (15 : Int32)) (fun x4 h2 => cl2 (fX9_takeNumberBehind h2 sw21 (1 : Int32) (9 : Int32)) (fun x7 h5 => cl2 (fX9_takeNumberBehind h5 sw22 (0 : Int32) (30 : Int32)) (fun x10 h8 => cl9 (fX0_add h8 65 x4 x7 x10) (fun h11 => some h11)))) else cl9 (fX9_failLatest h) (fun h13 => some h13))
set_option maxHeartbeats 4000000 in
set_option maxRecDepth 100000 in
theorem kX8_takePinner (G : Gx)  {h : Hp}  {hh : Hp} (hf : fX8_takePinner h = some hh) : MC G yX8_takePinner cX8_takePinner 5 none 7 448 h [.ref (gad G 11), .ref (gad G 1)] none hh := by
  refine MC.of RX8 (by decide) rfl (Nat.le_of_ble_eq_true rfl) rfl (fun X C hG hR hF => ?_)
  subst hG
  have hcs : True := trivial
  unfold fX8_takePinner at hf
  refine r_aload_n (i := 0) C dX8_takePinner_0 rfl 0 rfl ?_
  refine g_X8_12 C dX8_takePinner_1 ?_
  refine g_X8_103 sk65 C dX8_takePinner_4 ?_
  refine g_X8_107 sk65 C dX8_takePinner_7 ?_
  refine r_iconst (v := 5) C dX8_takePinner_10 (by decide) ?_
  refine r_icmp_lt C 19 dX8_takePinner_11 (by decide) (fun c1 => ?_) (fun c1 => ?_)
  · rw [if_pos c1] at hf
    refine r_aload_n (i := 1) C dX8_takePinner_19 rfl 1 rfl ?_
    refine r_iconst (v := 0) C dX8_takePinner_20 (by decide) ?_
    refine r_bipush (v := 15) C dX8_takePinner_21 (by decide) ?_
    obtain ⟨x4, h2, e3, hf⟩ := cl2_of hf
    refine r_callNVi (As := [.int (0 : Int32), .int (15 : Int32)]) (st := []) C 1 rfl (by decide) rfl (kX9_takeNumber (xG X) e3) cw_X8_62 rfl rfl (Nat.le_of_ble_eq_true rfl) (zr2 hR rfl rfl) (zrcs hcs) dX8_takePinner_23 ?_
    refine r_istore_n (i := 2) (lv' := [(0, .ref (gad (xG X) 11)), (1, .ref (gad (xG X) 1)), (2, .int x4)]) C dX8_takePinner_26 rfl (by decide) [1, 2, 0] rfl ?_
    refine r_aload_n (i := 1) C dX8_takePinner_27 rfl 1 rfl ?_
    refine r_ldcS (e := 21) C st21 dX8_takePinner_28 ?_
    refine r_iconst (v := 1) C dX8_takePinner_30 (by decide) ?_
    refine r_bipush (v := 9) C dX8_takePinner_31 (by decide) ?_
    obtain ⟨x7, h5, e6, hf⟩ := cl2_of hf
    refine r_callNVi (As := [.ref (gsK (xG X) 21), .int (1 : Int32), .int (9 : Int32)]) (st := []) C 1 rfl (by decide) rfl (kX9_takeNumberBehind (xG X) st21 e6) cw_X8_114 rfl rfl (Nat.le_of_ble_eq_true rfl) (zr2 hR rfl rfl) (zrcs hcs) dX8_takePinner_33 ?_
    refine r_istore_n (i := 3) (lv' := [(0, .ref (gad (xG X) 11)), (1, .ref (gad (xG X) 1)), (2, .int x4), (3, .int x7)]) C dX8_takePinner_36 rfl (by decide) [1, 2, 3, 0] rfl ?_
    refine r_aload_n (i := 1) C dX8_takePinner_37 rfl 1 rfl ?_
    refine r_ldcS (e := 22) C st22 dX8_takePinner_38 ?_
    refine r_iconst (v := 0) C dX8_takePinner_40 (by decide) ?_
    refine r_bipush (v := 30) C dX8_takePinner_41 (by decide) ?_
    obtain ⟨x10, h8, e9, hf⟩ := cl2_of hf
    refine r_callNVi (As := [.ref (gsK (xG X) 22), .int (0 : Int32), .int (30 : Int32)]) (st := []) C 1 rfl (by decide) rfl (kX9_takeNumberBehind (xG X) st22 e9) cw_X8_114 rfl rfl (Nat.le_of_ble_eq_true rfl) (zr2 hR rfl rfl) (zrcs hcs) dX8_takePinner_43 ?_
    refine r_istore (i := 4) (lv' := [(0, .ref (gad (xG X) 11)), (1, .ref (gad (xG X) 1)), (2, .int x4), (3, .int x7), (4, .int x10)]) C dX8_takePinner_46 (by decide) [1, 2, 3, 4, 0] rfl ?_
    refine r_aload_n (i := 0) C dX8_takePinner_48 rfl 0 rfl ?_
    refine g_X8_12 C dX8_takePinner_49 ?_
    refine g_X8_103 sk65 C dX8_takePinner_52 ?_
    refine r_iload_n (i := 2) C dX8_takePinner_55 rfl 2 rfl ?_
    refine r_iload_n (i := 3) C dX8_takePinner_56 rfl 3 rfl ?_
    refine r_iload (i := 4) C dX8_takePinner_57 4 rfl ?_
    obtain ⟨h11, e12, hf⟩ := cl_of hf
    refine r_callNVv (As := [.int x4, .int x7, .int x10]) (st := []) C (65 + 5) (sky_dsc sk65 5 (by decide)) (sky_lt sk65 5 (by decide)) rfl (kX0_add (xG X) sk65 e12) cw_X8_120 rfl rfl (Nat.le_of_ble_eq_true rfl) (zr2 hR rfl rfl) (zrcs hcs) dX8_takePinner_59 ?_
    cases hf
    exact r_vret C hF dX8_takePinner_62
  · rw [if_neg c1] at hf
    refine r_aload_n (i := 1) C dX8_takePinner_14 rfl 1 rfl ?_
    obtain ⟨h13, e14, hf⟩ := cl_of hf
    refine r_callNVv (As := []) (st := []) C 1 rfl (by decide) rfl (kX9_failLatest (xG X) e14) cw_X8_92 rfl rfl (Nat.le_of_ble_eq_true rfl) (zr2 hR rfl rfl) (zrcs hcs) dX8_takePinner_15 ?_
    cases hf
    exact r_vret C hF dX8_takePinner_18
def BX3_takeCondition_0 (self : Nat → Hp → Int32 → Option Hp) (rec : Nat → Hp → Int32 → Int32 → Int32 → Option (Hp)) (h : Hp) (y2 : Int32) (y3 : Int32) (y4 : Int32) : Option (Hp) := (if (400 : Int32) ≤ y4 then rec 1 h 0 y3 0 else cl2 (fX9_takeWord h sw12) (fun x4 h2 => (if x4 = (0 : Int32) then cl2 (fX9_takeWord h2 sw13) (fun x8 h6 => (if x8 = (0 : Int32) then rec 1 h6 0 y3 0 else cl9 ((if y3 = (0 : Int32) then some h6 else cl9 (fX2_put h6 13 (-15 : Int32)) (fun h14 => some h14)) : Option (Hp)) (fun h10 => cl9 (self 1 h10 y2) (fun h16 => lt9 (y4 + (1 : Int32)) (fun x18 => rec 0 h16 y2 (1 : Int32) x18))))) else cl9 (self 1 h2 y2) (fun h19 => cl9 (fX2_put h19 13 (-14 : Int32)) (fun h21 => lt9 (y4 + (1 : Int32)) (fun x23 => rec 0 h21 y2 y3 x23))))))
def BX3_takeCondition_1 (self : Nat → Hp → Int32 → Option Hp) (rec : Nat → Hp → Int32 → Int32 → Int32 → Option (Hp)) (h : Hp) (y2 : Int32) (y3 : Int32) (y4 : Int32) : Option (Hp) := (if y3 = (0 : Int32) then some h else cl9 (fX2_put h 13 (-15 : Int32)) (fun h25 => some h25))
def LX3_takeCondition (self : Nat → Hp → Int32 → Option Hp) : Nat → Nat → Hp → Int32 → Int32 → Int32 → Option (Hp)
  | 0, _, _, _, _, _ => none
  | n + 1, lab, h, y2, y3, y4 => if lab = 0 then BX3_takeCondition_0 self (LX3_takeCondition self n) h y2 y3 y4 else if lab = 1 then BX3_takeCondition_1 self (LX3_takeCondition self n) h y2 y3 y4 else none
def F9X3_takeCondition (h : Hp) (self : Nat → Hp → Int32 → Option Hp) (a1 : Int32) : Option (Hp) := cl9 (self 1 h a1) (fun h27 => LX3_takeCondition self big 0 h27 a1 (0 : Int32) (0 : Int32))
set_option maxHeartbeats 4000000 in
set_option maxRecDepth 100000 in
theorem wX3_takeCondition {X : Cx} {self : Nat → Hp → Int32 → Option Hp} {fs ls : Nat} (hfs : 20 ≤ fs ∧ 1280 ≤ ls) (hs0 : ∀  {h : Hp} {a1 : Int32} {hh : Hp}, self 0 h a1 = some hh → MC (xG X) yX3_takeCondition cX3_takeCondition 5 none fs ls h [.ref (gad (xG X) 12), .ref (gad (xG X) 1), .int a1] none hh) (hs1 : ∀  {h : Hp} {a1 : Int32} {hh : Hp}, self 1 h a1 = some hh → MC (xG X) yX3_takeAtom cX3_takeAtom 4 none fs ls h [.ref (gad (xG X) 12), .ref (gad (xG X) 1), .int a1] none hh) {hh : Hp} (C : OK X cX3_takeCondition 5 RX3 none) (hR : xR X = { frames := (fs + 1), cells := 0, slots := 0, locals := (ls + 64) }) (hcs : True) (hF : FinR X none hh) : ∀ n : Nat, (∀ (h : Hp) (y2 : Int32) (y3 : Int32) (y4 : Int32), LX3_takeCondition self n 0 h y2 y3 y4 = some hh → VW X 5 h 0 0 11 [(0, .ref (gad (xG X) 12)), (1, .ref (gad (xG X) 1)), (2, .int y2), (3, .int y3), (4, .int y4)] []) ∧ (∀ (h : Hp) (y2 : Int32) (y3 : Int32) (y4 : Int32), LX3_takeCondition self n 1 h y2 y3 y4 = some hh → VW X 5 h 0 0 82 [(0, .ref (gad (xG X) 12)), (1, .ref (gad (xG X) 1)), (3, .int y3)] []) := by
  intro n
  induction n with
  | zero => exact ⟨(fun _ _ _ _ hf => (by rw [LX3_takeCondition] at hf; cases hf)), (fun _ _ _ _ hf => (by rw [LX3_takeCondition] at hf; cases hf))⟩
  | succ n ih =>
    refine ⟨?_, ?_⟩
    · intro h y2 y3 y4 hf
      rw [LX3_takeCondition, if_pos rfl] at hf
      unfold BX3_takeCondition_0 at hf
      refine r_iload (i := 4) C dX3_takeCondition_11 4 rfl ?_
      refine r_sipush (v := 400) C dX3_takeCondition_13 (by decide) ?_
      refine r_icmp_ge C 82 dX3_takeCondition_16 (by decide) (fun c1 => ?_) (fun c1 => ?_)
      · rw [if_pos c1] at hf
        exact r_lv [0, 1, 3] rfl (ih.2 _ _ _ _ hf)
      · rw [if_neg c1] at hf
        refine r_aload_n (i := 1) C dX3_takeCondition_19 rfl 1 rfl ?_
        refine r_ldcS (e := 12) C st12 dX3_takeCondition_20 ?_
        obtain ⟨x4, h2, e3, hf⟩ := cl2_of hf
        refine r_callNVi (As := [.ref (gsK (xG X) 12)]) (st := []) C 1 rfl (by decide) rfl (kX9_takeWord (xG X) st12 e3) cw_X3_30 rfl rfl (Nat.le_of_ble_eq_true rfl) (zs2 hR (by omega) (by omega)) (zrcs hcs) dX3_takeCondition_22 ?_
        refine r_if_eq C 46 dX3_takeCondition_25 (by decide) (fun c5 => ?_) (fun c5 => ?_)
        · rw [if_pos c5] at hf
          refine r_aload_n (i := 1) C dX3_takeCondition_46 rfl 1 rfl ?_
          refine r_ldcS (e := 13) C st13 dX3_takeCondition_47 ?_
          obtain ⟨x8, h6, e7, hf⟩ := cl2_of hf
          refine r_callNVi (As := [.ref (gsK (xG X) 13)]) (st := []) C 1 rfl (by decide) rfl (kX9_takeWord (xG X) st13 e7) cw_X3_30 rfl rfl (Nat.le_of_ble_eq_true rfl) (zs2 hR (by omega) (by omega)) (zrcs hcs) dX3_takeCondition_49 ?_
          refine r_if_eq C 82 dX3_takeCondition_52 (by decide) (fun c9 => ?_) (fun c9 => ?_)
          · rw [if_pos c9] at hf
            exact r_lv [0, 1, 3] rfl (ih.2 _ _ _ _ hf)
          · rw [if_neg c9] at hf
            refine r_iload_n (i := 3) C dX3_takeCondition_55 rfl 3 rfl ?_
            obtain ⟨h10, r12, hf⟩ := cl_of hf
            have k11 : VW X 5 h10 0 0 68 [(0, .ref (gad (xG X) 12)), (1, .ref (gad (xG X) 1)), (2, .int y2), (4, .int y4)] [] := by
              refine r_iconst (v := 1) C dX3_takeCondition_68 (by decide) ?_
              refine r_istore_n (i := 3) (lv' := [(0, .ref (gad (xG X) 12)), (1, .ref (gad (xG X) 1)), (2, .int y2), (3, .int (1 : Int32)), (4, .int y4)]) C dX3_takeCondition_69 rfl (by decide) [1, 2, 3, 0, 4] rfl ?_
              refine r_aload_n (i := 0) C dX3_takeCondition_70 rfl 0 rfl ?_
              refine r_aload_n (i := 1) C dX3_takeCondition_71 rfl 1 rfl ?_
              refine r_iload_n (i := 2) C dX3_takeCondition_72 rfl 2 rfl ?_
              obtain ⟨h16, e17, hf⟩ := cl_of hf
              refine r_callVv (As := [.ref (gad (xG X) 1), .int y2]) (st := []) C 12 rfl (by decide) rfl (hs1 e17) cw_X3_51 rfl rfl (Nat.le_of_ble_eq_true rfl) (zs2 hR (by omega) (by omega)) (zrcs hcs) dX3_takeCondition_73 ?_
              obtain ⟨x18, ex18, hf⟩ := lt_of hf
              refine r_iinc (j := 4) (v := x18) (lv' := [(0, .ref (gad (xG X) 12)), (1, .ref (gad (xG X) 1)), (2, .int y2), (3, .int (1 : Int32)), (4, .int x18)]) C dX3_takeCondition_76 rfl (by rw [ex18]; rfl) (by decide) [1, 2, 3, 4, 0] rfl ?_
              refine r_goto C 11 dX3_takeCondition_79 (by decide) ?_
              exact r_lv [0, 1, 2, 3, 4] rfl (ih.1 _ _ _ _ hf)
            clear hf
            have hf := r12
            refine r_if_eq C 68 dX3_takeCondition_56 (by decide) (fun c13 => ?_) (fun c13 => ?_)
            · rw [if_pos c13] at hf
              cases hf
              exact r_lv [0, 1, 2, 4] rfl k11
            · rw [if_neg c13] at hf
              refine r_aload_n (i := 0) C dX3_takeCondition_59 rfl 0 rfl ?_
              refine g_X3_12 C dX3_takeCondition_60 ?_
              refine r_bipush (v := (-15)) C dX3_takeCondition_63 (by decide) ?_
              obtain ⟨h14, e15, hf⟩ := cl_of hf
              refine r_callNVv (As := [.int (-15 : Int32)]) (st := []) C 13 (law_d0 lk13) (law_l0 lk13) rfl (kX2_put (xG X) lk13 e15) cw_X3_56 rfl rfl (Nat.le_of_ble_eq_true rfl) (zs2 hR (by omega) (by omega)) (zrcs hcs) dX3_takeCondition_65 ?_
              cases hf
              exact r_lv [0, 1, 2, 4] rfl k11
        · rw [if_neg c5] at hf
          refine r_aload_n (i := 0) C dX3_takeCondition_28 rfl 0 rfl ?_
          refine r_aload_n (i := 1) C dX3_takeCondition_29 rfl 1 rfl ?_
          refine r_iload_n (i := 2) C dX3_takeCondition_30 rfl 2 rfl ?_
          obtain ⟨h19, e20, hf⟩ := cl_of hf
          refine r_callVv (As := [.ref (gad (xG X) 1), .int y2]) (st := []) C 12 rfl (by decide) rfl (hs1 e20) cw_X3_51 rfl rfl (Nat.le_of_ble_eq_true rfl) (zs2 hR (by omega) (by omega)) (zrcs hcs) dX3_takeCondition_31 ?_
          refine r_aload_n (i := 0) C dX3_takeCondition_34 rfl 0 rfl ?_
          refine g_X3_12 C dX3_takeCondition_35 ?_
          refine r_bipush (v := (-14)) C dX3_takeCondition_38 (by decide) ?_
          obtain ⟨h21, e22, hf⟩ := cl_of hf
          refine r_callNVv (As := [.int (-14 : Int32)]) (st := []) C 13 (law_d0 lk13) (law_l0 lk13) rfl (kX2_put (xG X) lk13 e22) cw_X3_56 rfl rfl (Nat.le_of_ble_eq_true rfl) (zs2 hR (by omega) (by omega)) (zrcs hcs) dX3_takeCondition_40 ?_
          refine r_goto C 76 dX3_takeCondition_43 (by decide) ?_
          obtain ⟨x23, ex23, hf⟩ := lt_of hf
          refine r_iinc (j := 4) (v := x23) (lv' := [(0, .ref (gad (xG X) 12)), (1, .ref (gad (xG X) 1)), (2, .int y2), (3, .int y3), (4, .int x23)]) C dX3_takeCondition_76 rfl (by rw [ex23]; rfl) (by decide) [1, 2, 3, 4, 0] rfl ?_
          refine r_goto C 11 dX3_takeCondition_79 (by decide) ?_
          exact r_lv [0, 1, 2, 3, 4] rfl (ih.1 _ _ _ _ hf)
    · intro h y2 y3 y4 hf
      rw [LX3_takeCondition, if_neg (by decide), if_pos rfl] at hf
      unfold BX3_takeCondition_1 at hf
      refine r_iload_n (i := 3) C dX3_takeCondition_82 rfl 2 rfl ?_
      refine r_if_eq C 95 dX3_takeCondition_83 (by decide) (fun c24 => ?_) (fun c24 => ?_)
      · rw [if_pos c24] at hf
        cases hf
        exact r_vret C hF dX3_takeCondition_95
      · rw [if_neg c24] at hf
        refine r_aload_n (i := 0) C dX3_takeCondition_86 rfl 0 rfl ?_
        refine g_X3_12 C dX3_takeCondition_87 ?_
        refine r_bipush (v := (-15)) C dX3_takeCondition_90 (by decide) ?_
        obtain ⟨h25, e26, hf⟩ := cl_of hf
        refine r_callNVv (As := [.int (-15 : Int32)]) (st := []) C 13 (law_d0 lk13) (law_l0 lk13) rfl (kX2_put (xG X) lk13 e26) cw_X3_56 rfl rfl (Nat.le_of_ble_eq_true rfl) (zs2 hR (by omega) (by omega)) (zrcs hcs) dX3_takeCondition_92 ?_
        cases hf
        exact r_vret C hF dX3_takeCondition_95
set_option maxHeartbeats 4000000 in
set_option maxRecDepth 100000 in
theorem g9X3_takeCondition (G : Gx) {self : Nat → Hp → Int32 → Option Hp} {fs ls : Nat} (hfs : 20 ≤ fs ∧ 1280 ≤ ls) (hs0 : ∀  {h : Hp} {a1 : Int32} {hh : Hp}, self 0 h a1 = some hh → MC G yX3_takeCondition cX3_takeCondition 5 none fs ls h [.ref (gad G 12), .ref (gad G 1), .int a1] none hh) (hs1 : ∀  {h : Hp} {a1 : Int32} {hh : Hp}, self 1 h a1 = some hh → MC G yX3_takeAtom cX3_takeAtom 4 none fs ls h [.ref (gad G 12), .ref (gad G 1), .int a1] none hh) {h : Hp} {a1 : Int32} {hh : Hp} (hf : F9X3_takeCondition h self a1 = some hh) : MC G yX3_takeCondition cX3_takeCondition 5 none (fs + 1) (ls + 64) h [.ref (gad G 12), .ref (gad G 1), .int a1] none hh := by
  refine MC.of RX3 (by decide) rfl (Nat.le_of_ble_eq_true rfl) rfl (fun X C hG hR hF => ?_)
  subst hG
  have hcs : True := trivial
  unfold F9X3_takeCondition at hf
  refine r_iconst (v := 0) C dX3_takeCondition_0 (by decide) ?_
  refine r_istore_n (i := 3) (lv' := [(0, .ref (gad (xG X) 12)), (1, .ref (gad (xG X) 1)), (2, .int a1), (3, .int (0 : Int32))]) C dX3_takeCondition_1 rfl (by decide) [1, 2, 3, 0] rfl ?_
  refine r_aload_n (i := 0) C dX3_takeCondition_2 rfl 0 rfl ?_
  refine r_aload_n (i := 1) C dX3_takeCondition_3 rfl 1 rfl ?_
  refine r_iload_n (i := 2) C dX3_takeCondition_4 rfl 2 rfl ?_
  obtain ⟨h27, e28, hf⟩ := cl_of hf
  refine r_callVv (As := [.ref (gad (xG X) 1), .int a1]) (st := []) C 12 rfl (by decide) rfl (hs1 e28) cw_X3_51 rfl rfl (Nat.le_of_ble_eq_true rfl) (zs2 hR (by omega) (by omega)) (zrcs hcs) dX3_takeCondition_5 ?_
  refine r_iconst (v := 0) C dX3_takeCondition_8 (by decide) ?_
  refine r_istore (i := 4) (lv' := [(0, .ref (gad (xG X) 12)), (1, .ref (gad (xG X) 1)), (2, .int a1), (3, .int (0 : Int32)), (4, .int (0 : Int32))]) C dX3_takeCondition_9 (by decide) [1, 2, 3, 4, 0] rfl ?_
  exact r_lv [0, 1, 2, 3, 4] rfl ((wX3_takeCondition hfs hs0 hs1 C hR hcs hF big).1 _ _ _ _ hf)
def F9X3_takeAtom (h : Hp) (self : Nat → Hp → Int32 → Option Hp) (a1 : Int32) : Option (Hp) := cl2 (fX9_takeWord h sw4) (fun x3 h1 => (if x3 = (0 : Int32) then cl2 (fX9_takeWord h1 sw5) (fun x7 h5 => (if x7 = (0 : Int32) then cl2 (fX9_takeWord h5 sw6) (fun x11 h9 => (if x11 = (0 : Int32) then cl2 (fX9_takeSign h9 (40 : Int32)) (fun x15 h13 => (if x15 = (0 : Int32) then cl9 (fX3_takeSum h13) (fun h17 => cl9 (fX2_put h17 13 (-8 : Int32)) (fun h19 => cl2 (fX3_takeComparison h19) (fun x23 h21 => cl9 (fX3_takeSum h21) (fun h24 => cl9 (fX2_put h24 13 x23) (fun h26 => some h26))))) else cl2 (fX3_isTooDeep h13 a1) (fun x30 h28 => (if x30 = (0 : Int32) then cl9 (self 0 h28 (a1 + (1 : Int32))) (fun h32 => cl2 (fX9_takeSign h32 (41 : Int32)) (fun x36 h34 => (if x36 = (0 : Int32) then cl9 (fX9_failNext h34) (fun h38 => some h38) else some h34))) else some h28)))) else cl2 (fX3_isTooDeep h9 a1) (fun x42 h40 => (if x42 = (0 : Int32) then cl9 (self 1 h40 (a1 + (1 : Int32))) (fun h44 => cl9 (fX2_put h44 13 (-13 : Int32)) (fun h46 => some h46)) else some h40)))) else cl9 (fX2_put h5 13 (-12 : Int32)) (fun h48 => some h48))) else cl9 (fX2_put h1 13 (-11 : Int32)) (fun h50 => some h50)))
set_option maxHeartbeats 4000000 in
set_option maxRecDepth 100000 in
theorem g9X3_takeAtom (G : Gx) {self : Nat → Hp → Int32 → Option Hp} {fs ls : Nat} (hfs : 20 ≤ fs ∧ 1280 ≤ ls) (hs0 : ∀  {h : Hp} {a1 : Int32} {hh : Hp}, self 0 h a1 = some hh → MC G yX3_takeCondition cX3_takeCondition 5 none fs ls h [.ref (gad G 12), .ref (gad G 1), .int a1] none hh) (hs1 : ∀  {h : Hp} {a1 : Int32} {hh : Hp}, self 1 h a1 = some hh → MC G yX3_takeAtom cX3_takeAtom 4 none fs ls h [.ref (gad G 12), .ref (gad G 1), .int a1] none hh) {h : Hp} {a1 : Int32} {hh : Hp} (hf : F9X3_takeAtom h self a1 = some hh) : MC G yX3_takeAtom cX3_takeAtom 4 none (fs + 1) (ls + 64) h [.ref (gad G 12), .ref (gad G 1), .int a1] none hh := by
  refine MC.of RX3 (by decide) rfl (Nat.le_of_ble_eq_true rfl) rfl (fun X C hG hR hF => ?_)
  subst hG
  have hcs : True := trivial
  unfold F9X3_takeAtom at hf
  refine r_aload_n (i := 1) C dX3_takeAtom_0 rfl 1 rfl ?_
  refine r_ldcS (e := 4) C st4 dX3_takeAtom_1 ?_
  obtain ⟨x3, h1, e2, hf⟩ := cl2_of hf
  refine r_callNVi (As := [.ref (gsK (xG X) 4)]) (st := []) C 1 rfl (by decide) rfl (kX9_takeWord (xG X) st4 e2) cw_X3_30 rfl rfl (Nat.le_of_ble_eq_true rfl) (zs2 hR (by omega) (by omega)) (zrcs hcs) dX3_takeAtom_3 ?_
  refine r_if_eq C 21 dX3_takeAtom_6 (by decide) (fun c4 => ?_) (fun c4 => ?_)
  · rw [if_pos c4] at hf
    refine r_aload_n (i := 1) C dX3_takeAtom_21 rfl 1 rfl ?_
    refine r_ldcS (e := 5) C st5 dX3_takeAtom_22 ?_
    obtain ⟨x7, h5, e6, hf⟩ := cl2_of hf
    refine r_callNVi (As := [.ref (gsK (xG X) 5)]) (st := []) C 1 rfl (by decide) rfl (kX9_takeWord (xG X) st5 e6) cw_X3_30 rfl rfl (Nat.le_of_ble_eq_true rfl) (zs2 hR (by omega) (by omega)) (zrcs hcs) dX3_takeAtom_24 ?_
    refine r_if_eq C 42 dX3_takeAtom_27 (by decide) (fun c8 => ?_) (fun c8 => ?_)
    · rw [if_pos c8] at hf
      refine r_aload_n (i := 1) C dX3_takeAtom_42 rfl 1 rfl ?_
      refine r_ldcS (e := 6) C st6 dX3_takeAtom_43 ?_
      obtain ⟨x11, h9, e10, hf⟩ := cl2_of hf
      refine r_callNVi (As := [.ref (gsK (xG X) 6)]) (st := []) C 1 rfl (by decide) rfl (kX9_takeWord (xG X) st6 e10) cw_X3_30 rfl rfl (Nat.le_of_ble_eq_true rfl) (zs2 hR (by omega) (by omega)) (zrcs hcs) dX3_takeAtom_45 ?_
      refine r_if_eq C 80 dX3_takeAtom_48 (by decide) (fun c12 => ?_) (fun c12 => ?_)
      · rw [if_pos c12] at hf
        refine r_aload_n (i := 1) C dX3_takeAtom_80 rfl 1 rfl ?_
        refine r_bipush (v := 40) C dX3_takeAtom_81 (by decide) ?_
        obtain ⟨x15, h13, e14, hf⟩ := cl2_of hf
        refine r_callNVi (As := [.int (40 : Int32)]) (st := []) C 1 rfl (by decide) rfl (kX9_takeSign (xG X) e14) cw_X3_72 rfl rfl (Nat.le_of_ble_eq_true rfl) (zs2 hR (by omega) (by omega)) (zrcs hcs) dX3_takeAtom_83 ?_
        refine r_if_eq C 122 dX3_takeAtom_86 (by decide) (fun c16 => ?_) (fun c16 => ?_)
        · rw [if_pos c16] at hf
          refine r_aload_n (i := 0) C dX3_takeAtom_122 rfl 0 rfl ?_
          refine r_aload_n (i := 1) C dX3_takeAtom_123 rfl 1 rfl ?_
          obtain ⟨h17, e18, hf⟩ := cl_of hf
          refine r_callVv (As := [.ref (gad (xG X) 1)]) (st := []) C 12 rfl (by decide) rfl (kX3_takeSum (xG X) e18) cw_X3_76 rfl rfl (Nat.le_of_ble_eq_true rfl) (zs2 hR (by omega) (by omega)) (zrcs hcs) dX3_takeAtom_124 ?_
          refine r_aload_n (i := 0) C dX3_takeAtom_127 rfl 0 rfl ?_
          refine g_X3_12 C dX3_takeAtom_128 ?_
          refine r_bipush (v := (-8)) C dX3_takeAtom_131 (by decide) ?_
          obtain ⟨h19, e20, hf⟩ := cl_of hf
          refine r_callNVv (As := [.int (-8 : Int32)]) (st := []) C 13 (law_d0 lk13) (law_l0 lk13) rfl (kX2_put (xG X) lk13 e20) cw_X3_56 rfl rfl (Nat.le_of_ble_eq_true rfl) (zs2 hR (by omega) (by omega)) (zrcs hcs) dX3_takeAtom_133 ?_
          refine r_aload_n (i := 1) C dX3_takeAtom_136 rfl 1 rfl ?_
          obtain ⟨x23, h21, e22, hf⟩ := cl2_of hf
          refine r_callSi (As := [.ref (gad (xG X) 1)]) (st := []) C (kX3_takeComparison (xG X) e22) cw_X3_80 rfl rfl (Nat.le_of_ble_eq_true rfl) (zs2 hR (by omega) (by omega)) (zrcs hcs) dX3_takeAtom_137 ?_
          refine r_istore_n (i := 3) (lv' := [(0, .ref (gad (xG X) 12)), (1, .ref (gad (xG X) 1)), (2, .int a1), (3, .int x23)]) C dX3_takeAtom_140 rfl (by decide) [1, 2, 3, 0] rfl ?_
          refine r_aload_n (i := 0) C dX3_takeAtom_141 rfl 0 rfl ?_
          refine r_aload_n (i := 1) C dX3_takeAtom_142 rfl 1 rfl ?_
          obtain ⟨h24, e25, hf⟩ := cl_of hf
          refine r_callVv (As := [.ref (gad (xG X) 1)]) (st := []) C 12 rfl (by decide) rfl (kX3_takeSum (xG X) e25) cw_X3_76 rfl rfl (Nat.le_of_ble_eq_true rfl) (zs2 hR (by omega) (by omega)) (zrcs hcs) dX3_takeAtom_143 ?_
          refine r_aload_n (i := 0) C dX3_takeAtom_146 rfl 0 rfl ?_
          refine g_X3_12 C dX3_takeAtom_147 ?_
          refine r_iload_n (i := 3) C dX3_takeAtom_150 rfl 3 rfl ?_
          obtain ⟨h26, e27, hf⟩ := cl_of hf
          refine r_callNVv (As := [.int x23]) (st := []) C 13 (law_d0 lk13) (law_l0 lk13) rfl (kX2_put (xG X) lk13 e27) cw_X3_56 rfl rfl (Nat.le_of_ble_eq_true rfl) (zs2 hR (by omega) (by omega)) (zrcs hcs) dX3_takeAtom_151 ?_
          cases hf
          exact r_vret C hF dX3_takeAtom_154
        · rw [if_neg c16] at hf
          refine r_aload_n (i := 1) C dX3_takeAtom_89 rfl 1 rfl ?_
          refine r_iload_n (i := 2) C dX3_takeAtom_90 rfl 2 rfl ?_
          obtain ⟨x30, h28, e29, hf⟩ := cl2_of hf
          refine r_callSi (As := [.ref (gad (xG X) 1), .int a1]) (st := []) C (kX3_isTooDeep (xG X) e29) cw_X3_68 rfl rfl (Nat.le_of_ble_eq_true rfl) (zs2 hR (by omega) (by omega)) (zrcs hcs) dX3_takeAtom_91 ?_
          refine r_if_eq C 98 dX3_takeAtom_94 (by decide) (fun c31 => ?_) (fun c31 => ?_)
          · rw [if_pos c31] at hf
            refine r_aload_n (i := 0) C dX3_takeAtom_98 rfl 0 rfl ?_
            refine r_aload_n (i := 1) C dX3_takeAtom_99 rfl 1 rfl ?_
            refine r_iload_n (i := 2) C dX3_takeAtom_100 rfl 2 rfl ?_
            refine r_iconst (v := 1) C dX3_takeAtom_101 (by decide) ?_
            refine r_iadd C dX3_takeAtom_102 ?_
            obtain ⟨h32, e33, hf⟩ := cl_of hf
            refine r_callVv (As := [.ref (gad (xG X) 1), .int (a1 + (1 : Int32))]) (st := []) C 12 rfl (by decide) rfl (hs0 e33) cw_X3_34 rfl rfl (Nat.le_of_ble_eq_true rfl) (zs2 hR (by omega) (by omega)) (zrcs hcs) dX3_takeAtom_103 ?_
            refine r_aload_n (i := 1) C dX3_takeAtom_106 rfl 1 rfl ?_
            refine r_bipush (v := 41) C dX3_takeAtom_107 (by decide) ?_
            obtain ⟨x36, h34, e35, hf⟩ := cl2_of hf
            refine r_callNVi (As := [.int (41 : Int32)]) (st := []) C 1 rfl (by decide) rfl (kX9_takeSign (xG X) e35) cw_X3_72 rfl rfl (Nat.le_of_ble_eq_true rfl) (zs2 hR (by omega) (by omega)) (zrcs hcs) dX3_takeAtom_109 ?_
            refine r_if_ne C 154 dX3_takeAtom_112 (by decide) (fun c37 => ?_) (fun c37 => ?_)
            · rw [if_neg c37] at hf
              cases hf
              exact r_vret C hF dX3_takeAtom_154
            · rw [if_pos c37] at hf
              refine r_aload_n (i := 1) C dX3_takeAtom_115 rfl 1 rfl ?_
              obtain ⟨h38, e39, hf⟩ := cl_of hf
              refine r_callNVv (As := []) (st := []) C 1 rfl (by decide) rfl (kX9_failNext (xG X) e39) cw_X3_48 rfl rfl (Nat.le_of_ble_eq_true rfl) (zs2 hR (by omega) (by omega)) (zrcs hcs) dX3_takeAtom_116 ?_
              refine r_goto C 154 dX3_takeAtom_119 (by decide) ?_
              cases hf
              exact r_vret C hF dX3_takeAtom_154
          · rw [if_neg c31] at hf
            cases hf
            exact r_vret C hF dX3_takeAtom_97
      · rw [if_neg c12] at hf
        refine r_aload_n (i := 1) C dX3_takeAtom_51 rfl 1 rfl ?_
        refine r_iload_n (i := 2) C dX3_takeAtom_52 rfl 2 rfl ?_
        obtain ⟨x42, h40, e41, hf⟩ := cl2_of hf
        refine r_callSi (As := [.ref (gad (xG X) 1), .int a1]) (st := []) C (kX3_isTooDeep (xG X) e41) cw_X3_68 rfl rfl (Nat.le_of_ble_eq_true rfl) (zs2 hR (by omega) (by omega)) (zrcs hcs) dX3_takeAtom_53 ?_
        refine r_if_eq C 60 dX3_takeAtom_56 (by decide) (fun c43 => ?_) (fun c43 => ?_)
        · rw [if_pos c43] at hf
          refine r_aload_n (i := 0) C dX3_takeAtom_60 rfl 0 rfl ?_
          refine r_aload_n (i := 1) C dX3_takeAtom_61 rfl 1 rfl ?_
          refine r_iload_n (i := 2) C dX3_takeAtom_62 rfl 2 rfl ?_
          refine r_iconst (v := 1) C dX3_takeAtom_63 (by decide) ?_
          refine r_iadd C dX3_takeAtom_64 ?_
          obtain ⟨h44, e45, hf⟩ := cl_of hf
          refine r_callVv (As := [.ref (gad (xG X) 1), .int (a1 + (1 : Int32))]) (st := []) C 12 rfl (by decide) rfl (hs1 e45) cw_X3_51 rfl rfl (Nat.le_of_ble_eq_true rfl) (zs2 hR (by omega) (by omega)) (zrcs hcs) dX3_takeAtom_65 ?_
          refine r_aload_n (i := 0) C dX3_takeAtom_68 rfl 0 rfl ?_
          refine g_X3_12 C dX3_takeAtom_69 ?_
          refine r_bipush (v := (-13)) C dX3_takeAtom_72 (by decide) ?_
          obtain ⟨h46, e47, hf⟩ := cl_of hf
          refine r_callNVv (As := [.int (-13 : Int32)]) (st := []) C 13 (law_d0 lk13) (law_l0 lk13) rfl (kX2_put (xG X) lk13 e47) cw_X3_56 rfl rfl (Nat.le_of_ble_eq_true rfl) (zs2 hR (by omega) (by omega)) (zrcs hcs) dX3_takeAtom_74 ?_
          refine r_goto C 154 dX3_takeAtom_77 (by decide) ?_
          cases hf
          exact r_vret C hF dX3_takeAtom_154
        · rw [if_neg c43] at hf
          cases hf
          exact r_vret C hF dX3_takeAtom_59
    · rw [if_neg c8] at hf
      refine r_aload_n (i := 0) C dX3_takeAtom_30 rfl 0 rfl ?_
      refine g_X3_12 C dX3_takeAtom_31 ?_
      refine r_bipush (v := (-12)) C dX3_takeAtom_34 (by decide) ?_
      obtain ⟨h48, e49, hf⟩ := cl_of hf
      refine r_callNVv (As := [.int (-12 : Int32)]) (st := []) C 13 (law_d0 lk13) (law_l0 lk13) rfl (kX2_put (xG X) lk13 e49) cw_X3_56 rfl rfl (Nat.le_of_ble_eq_true rfl) (zs2 hR (by omega) (by omega)) (zrcs hcs) dX3_takeAtom_36 ?_
      refine r_goto C 154 dX3_takeAtom_39 (by decide) ?_
      cases hf
      exact r_vret C hF dX3_takeAtom_154
  · rw [if_neg c4] at hf
    refine r_aload_n (i := 0) C dX3_takeAtom_9 rfl 0 rfl ?_
    refine g_X3_12 C dX3_takeAtom_10 ?_
    refine r_bipush (v := (-11)) C dX3_takeAtom_13 (by decide) ?_
    obtain ⟨h50, e51, hf⟩ := cl_of hf
    refine r_callNVv (As := [.int (-11 : Int32)]) (st := []) C 13 (law_d0 lk13) (law_l0 lk13) rfl (kX2_put (xG X) lk13 e51) cw_X3_56 rfl rfl (Nat.le_of_ble_eq_true rfl) (zs2 hR (by omega) (by omega)) (zrcs hcs) dX3_takeAtom_15 ?_
    refine r_goto C 154 dX3_takeAtom_18 (by decide) ?_
    cases hf
    exact r_vret C hF dX3_takeAtom_154
def grp_X3_takeCondition : Nat → Nat → Hp → Int32 → Option Hp
  | 0, _, _, _ => none
  | d + 1, lab, h, a1 => if lab = 0 then F9X3_takeCondition h (grp_X3_takeCondition d) a1 else if lab = 1 then F9X3_takeAtom h (grp_X3_takeCondition d) a1 else none
set_option maxHeartbeats 4000000 in
set_option maxRecDepth 100000 in
theorem kgrp_X3_takeCondition (G : Gx) : ∀ d : Nat, (∀  {h : Hp} {a1 : Int32} {hh : Hp}, grp_X3_takeCondition d 0 h a1 = some hh → MC G yX3_takeCondition cX3_takeCondition 5 none (20 + d) (1280 + 64 * d) h [.ref (gad G 12), .ref (gad G 1), .int a1] none hh) ∧ (∀  {h : Hp} {a1 : Int32} {hh : Hp}, grp_X3_takeCondition d 1 h a1 = some hh → MC G yX3_takeAtom cX3_takeAtom 4 none (20 + d) (1280 + 64 * d) h [.ref (gad G 12), .ref (gad G 1), .int a1] none hh) := by
  intro d
  induction d with
  | zero => exact ⟨(fun hf => by rw [grp_X3_takeCondition] at hf; cases hf), (fun hf => by rw [grp_X3_takeCondition] at hf; cases hf)⟩
  | succ d ih =>
    refine ⟨?_, ?_⟩
    · intro h a1 hh hf
      rw [grp_X3_takeCondition, if_pos rfl] at hf
      exact g9X3_takeCondition G (fs := 20 + d) (ls := 1280 + 64 * d) ⟨by omega, by omega⟩ (ih.1) (ih.2)  hf
    · intro h a1 hh hf
      rw [grp_X3_takeCondition, if_neg (by decide), if_pos rfl] at hf
      exact g9X3_takeAtom G (fs := 20 + d) (ls := 1280 + 64 * d) ⟨by omega, by omega⟩ (ih.1) (ih.2)  hf
def fX3_takeCondition (h : Hp) (a1 : Int32) : Option Hp := grp_X3_takeCondition 64 0 h a1
theorem kX3_takeCondition (G : Gx)  {h : Hp} {a1 : Int32} {hh : Hp} (hf : fX3_takeCondition h a1 = some hh) : MC G yX3_takeCondition cX3_takeCondition 5 none 84 5376 h [.ref (gad G 12), .ref (gad G 1), .int a1] none hh := (kgrp_X3_takeCondition G 64).1  hf
def fX3_takeAtom (h : Hp) (a1 : Int32) : Option Hp := grp_X3_takeCondition 64 1 h a1
theorem kX3_takeAtom (G : Gx)  {h : Hp} {a1 : Int32} {hh : Hp} (hf : fX3_takeAtom h a1 = some hh) : MC G yX3_takeAtom cX3_takeAtom 4 none 84 5376 h [.ref (gad G 12), .ref (gad G 1), .int a1] none hh := (kgrp_X3_takeCondition G 64).2  hf
def fX1_strainAt (h : Hp) (b : Nat) (a1 : Int32) : Option (Int32) := gd (inb a1 16) (cl9 (fX1_gap h (h b 5) a1) (fun x2 => cl9 (fX2_total h 6 b (0 : Int32) a1 x2 (fX7_hasPin h b a1)) (fun x4 => some ((h (b + 3) a1.toNatClampNeg) + x4))))
set_option maxHeartbeats 4000000 in
set_option maxRecDepth 100000 in
theorem kX1_strainAt (G : Gx) {b : Nat} (hb : isSky b) {h : Hp} {a1 : Int32} {rr : Int32} (hf : fX1_strainAt h b a1 = some rr) : MC G yX1_strainAt cX1_strainAt 3 (some .int) 4 256 h [.ref (gad G 3), .ref (gad G b), .int a1] (some (.int rr)) h := by
  refine MC.of RX1 (by decide) rfl (Nat.le_of_ble_eq_true rfl) rfl (fun X C hG hR hF => ?_)
  subst hG
  have hcs : True := trivial
  unfold fX1_strainAt at hf
  refine r_aload_n (i := 1) C dX1_strainAt_0 rfl 1 rfl ?_
  refine g_X1_25 hb C dX1_strainAt_1 ?_
  refine r_iload_n (i := 2) C dX1_strainAt_4 rfl 2 rfl ?_
  obtain ⟨g1, hf⟩ := gd_of hf
  refine r_iald C (b + 3) (sky_dsc hb 3 (by decide)) (sky_lt hb 3 (by decide)) g1 dX1_strainAt_5 ?_
  refine r_aload_n (i := 0) C dX1_strainAt_6 rfl 0 rfl ?_
  refine g_X1_12 C dX1_strainAt_7 ?_
  refine r_iconst (v := 0) C dX1_strainAt_10 (by decide) ?_
  refine r_aload_n (i := 1) C dX1_strainAt_11 rfl 1 rfl ?_
  refine r_iload_n (i := 2) C dX1_strainAt_12 rfl 2 rfl ?_
  refine r_aload_n (i := 1) C dX1_strainAt_13 rfl 1 rfl ?_
  refine g_X1_30 hb C dX1_strainAt_14 ?_
  refine r_iload_n (i := 2) C dX1_strainAt_17 rfl 2 rfl ?_
  obtain ⟨x2, e3, hf⟩ := cl_of hf
  refine r_callSi (As := [.int (h b 5), .int a1]) (st := [.int a1, .ref (gad (xG X) b), .int (0 : Int32), .ref (gad (xG X) 6), .int (h (b + 3) a1.toNatClampNeg)]) C (kX1_gap (xG X) e3) cw_X1_34 rfl rfl (Nat.le_of_ble_eq_true rfl) (zr2 hR rfl rfl) (zrcs hcs) dX1_strainAt_18 ?_
  refine r_aload_n (i := 1) C dX1_strainAt_21 rfl 1 rfl ?_
  refine r_iload_n (i := 2) C dX1_strainAt_22 rfl 2 rfl ?_
  refine r_callNVi (As := [.int a1]) (st := [.int x2, .int a1, .ref (gad (xG X) b), .int (0 : Int32), .ref (gad (xG X) 6), .int (h (b + 3) a1.toNatClampNeg)]) C b (sky_d0 hb) (sky_l0 hb) rfl (kX7_hasPin (xG X) hb) cw_X1_38 rfl rfl (Nat.le_of_ble_eq_true rfl) (zr2 hR rfl rfl) (zrcs hcs) dX1_strainAt_23 ?_
  obtain ⟨x4, e5, hf⟩ := cl_of hf
  refine r_callNVi (As := [.int (0 : Int32), .ref (gad (xG X) b), .int a1, .int x2, .int (fX7_hasPin h b a1)]) (st := [.int (h (b + 3) a1.toNatClampNeg)]) C 6 (law_d0 lk6) (law_l0 lk6) rfl (kX2_total (xG X) lk6 hb e5) cw_X1_42 rfl rfl (Nat.le_of_ble_eq_true rfl) (zr2 hR rfl rfl) (zrcs hcs) dX1_strainAt_26 ?_
  refine r_iadd C dX1_strainAt_29 ?_
  cases hf
  exact r_iret C hF dX1_strainAt_30
def fX1_rustsBy (h : Hp) (b : Nat) (a1 : Int32) : Option (Int32) := (if (fX7_hasPin h b a1) = (0 : Int32) then some (0 : Int32) else (if (h 6 0) = (-1 : Int32) then some (1 : Int32) else cl9 (fX1_gap h (h b 5) a1) (fun x3 => cl9 (fX2_total h 6 b (1 : Int32) a1 x3 (1 : Int32)) (fun x5 => some x5))))
set_option maxHeartbeats 4000000 in
set_option maxRecDepth 100000 in
theorem kX1_rustsBy (G : Gx) {b : Nat} (hb : isSky b) {h : Hp} {a1 : Int32} {rr : Int32} (hf : fX1_rustsBy h b a1 = some rr) : MC G yX1_rustsBy cX1_rustsBy 3 (some .int) 4 256 h [.ref (gad G 3), .ref (gad G b), .int a1] (some (.int rr)) h := by
  refine MC.of RX1 (by decide) rfl (Nat.le_of_ble_eq_true rfl) rfl (fun X C hG hR hF => ?_)
  subst hG
  have hcs : True := trivial
  unfold fX1_rustsBy at hf
  refine r_aload_n (i := 1) C dX1_rustsBy_0 rfl 1 rfl ?_
  refine r_iload_n (i := 2) C dX1_rustsBy_1 rfl 2 rfl ?_
  refine r_callNVi (As := [.int a1]) (st := []) C b (sky_d0 hb) (sky_l0 hb) rfl (kX7_hasPin (xG X) hb) cw_X1_38 rfl rfl (Nat.le_of_ble_eq_true rfl) (zr2 hR rfl rfl) (zrcs hcs) dX1_rustsBy_2 ?_
  refine r_if_ne C 10 dX1_rustsBy_5 (by decide) (fun c1 => ?_) (fun c1 => ?_)
  · rw [if_neg c1] at hf
    refine r_aload_n (i := 0) C dX1_rustsBy_10 rfl 0 rfl ?_
    refine g_X1_12 C dX1_rustsBy_11 ?_
    refine g_X1_46 lk6 C dX1_rustsBy_14 ?_
    refine r_iconst (v := (-1)) C dX1_rustsBy_17 (by decide) ?_
    refine r_icmp_ne C 25 dX1_rustsBy_18 (by decide) (fun c2 => ?_) (fun c2 => ?_)
    · rw [if_neg c2] at hf
      refine r_aload_n (i := 0) C dX1_rustsBy_25 rfl 0 rfl ?_
      refine g_X1_12 C dX1_rustsBy_26 ?_
      refine r_iconst (v := 1) C dX1_rustsBy_29 (by decide) ?_
      refine r_aload_n (i := 1) C dX1_rustsBy_30 rfl 1 rfl ?_
      refine r_iload_n (i := 2) C dX1_rustsBy_31 rfl 2 rfl ?_
      refine r_aload_n (i := 1) C dX1_rustsBy_32 rfl 1 rfl ?_
      refine g_X1_30 hb C dX1_rustsBy_33 ?_
      refine r_iload_n (i := 2) C dX1_rustsBy_36 rfl 2 rfl ?_
      obtain ⟨x3, e4, hf⟩ := cl_of hf
      refine r_callSi (As := [.int (h b 5), .int a1]) (st := [.int a1, .ref (gad (xG X) b), .int (1 : Int32), .ref (gad (xG X) 6)]) C (kX1_gap (xG X) e4) cw_X1_34 rfl rfl (Nat.le_of_ble_eq_true rfl) (zr2 hR rfl rfl) (zrcs hcs) dX1_rustsBy_37 ?_
      refine r_iconst (v := 1) C dX1_rustsBy_40 (by decide) ?_
      obtain ⟨x5, e6, hf⟩ := cl_of hf
      refine r_callNVi (As := [.int (1 : Int32), .ref (gad (xG X) b), .int a1, .int x3, .int (1 : Int32)]) (st := []) C 6 (law_d0 lk6) (law_l0 lk6) rfl (kX2_total (xG X) lk6 hb e6) cw_X1_42 rfl rfl (Nat.le_of_ble_eq_true rfl) (zr2 hR rfl rfl) (zrcs hcs) dX1_rustsBy_41 ?_
      cases hf
      exact r_iret C hF dX1_rustsBy_44
    · rw [if_pos c2] at hf
      refine r_iconst (v := 1) C dX1_rustsBy_21 (by decide) ?_
      refine r_goto C 44 dX1_rustsBy_22 (by decide) ?_
      cases hf
      exact r_iret C hF dX1_rustsBy_44
  · rw [if_pos c1] at hf
    refine r_iconst (v := 0) C dX1_rustsBy_8 (by decide) ?_
    cases hf
    exact r_iret C hF dX1_rustsBy_9
def fX1_holds (h : Hp) (b : Nat) (a1 : Int32) (a2 : Int32) : Option (Int32 × Hp) := lt9 ((1 : Int32) <<< (a2 &&& 31)) (fun x1 => gd (inb a1 16) (cl9 ((if ((h 4 a1.toNatClampNeg) &&& x1) = (0 : Int32) then gd (inb a1 16) (gd (inb a1 16) (lt9 (up2 h 4 a1.toNatClampNeg ((h 4 a1.toNatClampNeg) ||| x1)) (fun h9 => gd (inb a1 16) (gd (inb a1 16) (cl9 (fX2_total h9 6 b (0 : Int32) a1 a2 (1 : Int32)) (fun x12 => lt9 (((h9 (b + 4) a1.toNatClampNeg) + (h9 (b + 3) a1.toNatClampNeg)) + x12) (fun x14 => cl9 ((if x14 < (60 : Int32) then some true else cl9 (fX2_some h9 6 b (2 : Int32) a1 a2 (1 : Int32)) (fun x20 => (if x20 = (0 : Int32) then some false else some true))) : Option Bool) (fun q15 => if q15 = true then gd (inb a1 16) (gd (inb a1 16) (lt9 (up2 h9 5 a1.toNatClampNeg ((h9 5 a1.toNatClampNeg) ||| x1)) (fun h25 => some h25))) else some h9)))))))) else some h) : Option (Hp)) (fun h3 => gd (inb a1 16) ((if ((h3 5 a1.toNatClampNeg) &&& x1) = (0 : Int32) then some ((0 : Int32), h3) else some ((1 : Int32), h3))))))
set_option maxHeartbeats 4000000 in
set_option maxRecDepth 100000 in
theorem kX1_holds (G : Gx) {b : Nat} (hb : isSky b) {h : Hp} {a1 : Int32} {a2 : Int32} {rr : Int32} {hh : Hp} (hf : fX1_holds h b a1 a2 = some (rr, hh)) : MC G yX1_holds cX1_holds 6 (some .boolean) 4 256 h [.ref (gad G 3), .ref (gad G b), .int a1, .int a2] (some (.int rr)) hh := by
  refine MC.of RX1 (by decide) rfl (Nat.le_of_ble_eq_true rfl) rfl (fun X C hG hR hF => ?_)
  subst hG
  have hcs : True := trivial
  unfold fX1_holds at hf
  refine r_iconst (v := 1) C dX1_holds_0 (by decide) ?_
  refine r_iload_n (i := 3) C dX1_holds_1 rfl 3 rfl ?_
  refine r_ishl C dX1_holds_2 ?_
  obtain ⟨x1, ex1, hf⟩ := lt_of hf
  refine r_top ex1 ?_
  refine r_istore (i := 4) (lv' := [(0, .ref (gad (xG X) 3)), (1, .ref (gad (xG X) b)), (2, .int a1), (3, .int a2), (4, .int x1)]) C dX1_holds_3 (by decide) [1, 2, 3, 4, 0] rfl ?_
  refine r_aload_n (i := 0) C dX1_holds_5 rfl 0 rfl ?_
  refine g_X1_18 C dX1_holds_6 ?_
  refine r_iload_n (i := 2) C dX1_holds_9 rfl 2 rfl ?_
  obtain ⟨g2, hf⟩ := gd_of hf
  refine r_iald C 4 rfl (by decide) g2 dX1_holds_10 ?_
  refine r_iload (i := 4) C dX1_holds_11 4 rfl ?_
  refine r_iand C dX1_holds_13 ?_
  obtain ⟨h3, r5, hf⟩ := cl_of hf
  have k4 : VW X 6 h3 0 0 89 [(0, .ref (gad (xG X) 3)), (1, .ref (gad (xG X) b)), (2, .int a1), (4, .int x1)] [] := by
    refine r_aload_n (i := 0) C dX1_holds_89 rfl 0 rfl ?_
    refine g_X1_22 C dX1_holds_90 ?_
    refine r_iload_n (i := 2) C dX1_holds_93 rfl 2 rfl ?_
    obtain ⟨g26, hf⟩ := gd_of hf
    refine r_iald C 5 rfl (by decide) g26 dX1_holds_94 ?_
    refine r_iload (i := 4) C dX1_holds_95 3 rfl ?_
    refine r_iand C dX1_holds_97 ?_
    refine r_if_eq C 105 dX1_holds_98 (by decide) (fun c27 => ?_) (fun c27 => ?_)
    · rw [if_pos c27] at hf
      refine r_iconst (v := 0) C dX1_holds_105 (by decide) ?_
      have zz : (0 : Int32) = 0 ∨ (0 : Int32) = 1 := (Or.inl rfl)
      cases hf
      exact r_zret C zz hF dX1_holds_106
    · rw [if_neg c27] at hf
      refine r_iconst (v := 1) C dX1_holds_101 (by decide) ?_
      refine r_goto C 106 dX1_holds_102 (by decide) ?_
      have zz : (1 : Int32) = 0 ∨ (1 : Int32) = 1 := (Or.inr rfl)
      cases hf
      exact r_zret C zz hF dX1_holds_106
  clear hf
  have hf := r5
  refine r_if_ne C 89 dX1_holds_14 (by decide) (fun c6 => ?_) (fun c6 => ?_)
  · rw [if_neg c6] at hf
    cases hf
    exact r_lv [0, 1, 2, 4] rfl k4
  · rw [if_pos c6] at hf
    refine r_aload_n (i := 0) C dX1_holds_17 rfl 0 rfl ?_
    refine g_X1_18 C dX1_holds_18 ?_
    refine r_iload_n (i := 2) C dX1_holds_21 rfl 2 rfl ?_
    refine r_dup2 C dX1_holds_22 rfl rfl ?_
    obtain ⟨g7, hf⟩ := gd_of hf
    refine r_iald C 4 rfl (by decide) g7 dX1_holds_23 ?_
    refine r_iload (i := 4) C dX1_holds_24 4 rfl ?_
    refine r_ior C dX1_holds_26 ?_
    obtain ⟨g8, hf⟩ := gd_of hf
    obtain ⟨h9, eh9, hf⟩ := lt_of hf
    refine r_iast C 4 eh9 rfl (by decide) g8 dX1_holds_27 ?_
    refine r_aload_n (i := 1) C dX1_holds_28 rfl 1 rfl ?_
    refine g_X1_87 hb C dX1_holds_29 ?_
    refine r_iload_n (i := 2) C dX1_holds_32 rfl 2 rfl ?_
    obtain ⟨g10, hf⟩ := gd_of hf
    refine r_iald C (b + 4) (sky_dsc hb 4 (by decide)) (sky_lt hb 4 (by decide)) g10 dX1_holds_33 ?_
    refine r_aload_n (i := 1) C dX1_holds_34 rfl 1 rfl ?_
    refine g_X1_25 hb C dX1_holds_35 ?_
    refine r_iload_n (i := 2) C dX1_holds_38 rfl 2 rfl ?_
    obtain ⟨g11, hf⟩ := gd_of hf
    refine r_iald C (b + 3) (sky_dsc hb 3 (by decide)) (sky_lt hb 3 (by decide)) g11 dX1_holds_39 ?_
    refine r_iadd C dX1_holds_40 ?_
    refine r_aload_n (i := 0) C dX1_holds_41 rfl 0 rfl ?_
    refine g_X1_12 C dX1_holds_42 ?_
    refine r_iconst (v := 0) C dX1_holds_45 (by decide) ?_
    refine r_aload_n (i := 1) C dX1_holds_46 rfl 1 rfl ?_
    refine r_iload_n (i := 2) C dX1_holds_47 rfl 2 rfl ?_
    refine r_iload_n (i := 3) C dX1_holds_48 rfl 3 rfl ?_
    refine r_iconst (v := 1) C dX1_holds_49 (by decide) ?_
    obtain ⟨x12, e13, hf⟩ := cl_of hf
    refine r_callNVi (As := [.int (0 : Int32), .ref (gad (xG X) b), .int a1, .int a2, .int (1 : Int32)]) (st := [.int ((h9 (b + 4) a1.toNatClampNeg) + (h9 (b + 3) a1.toNatClampNeg))]) C 6 (law_d0 lk6) (law_l0 lk6) rfl (kX2_total (xG X) lk6 hb e13) cw_X1_42 rfl rfl (Nat.le_of_ble_eq_true rfl) (zr2 hR rfl rfl) (zrcs hcs) dX1_holds_50 ?_
    refine r_iadd C dX1_holds_53 ?_
    obtain ⟨x14, ex14, hf⟩ := lt_of hf
    refine r_top ex14 ?_
    refine r_istore (i := 5) (lv' := [(0, .ref (gad (xG X) 3)), (1, .ref (gad (xG X) b)), (2, .int a1), (3, .int a2), (4, .int x1), (5, .int x14)]) C dX1_holds_54 (by decide) [1, 2, 3, 4, 5, 0] rfl ?_
    refine r_iload (i := 5) C dX1_holds_56 5 rfl ?_
    refine r_bipush (v := 60) C dX1_holds_58 (by decide) ?_
    obtain ⟨q15, r18, hf⟩ := cl_of hf
    have k16 : q15 = true → VW X 6 h9 0 0 78 [(0, .ref (gad (xG X) 3)), (1, .ref (gad (xG X) b)), (2, .int a1), (3, .int a2), (4, .int x1), (5, .int x14)] [] := fun qq => by
      rw [if_pos qq] at hf
      refine r_aload_n (i := 0) C dX1_holds_78 rfl 0 rfl ?_
      refine g_X1_22 C dX1_holds_79 ?_
      refine r_iload_n (i := 2) C dX1_holds_82 rfl 2 rfl ?_
      refine r_dup2 C dX1_holds_83 rfl rfl ?_
      obtain ⟨g23, hf⟩ := gd_of hf
      refine r_iald C 5 rfl (by decide) g23 dX1_holds_84 ?_
      refine r_iload (i := 4) C dX1_holds_85 4 rfl ?_
      refine r_ior C dX1_holds_87 ?_
      obtain ⟨g24, hf⟩ := gd_of hf
      obtain ⟨h25, eh25, hf⟩ := lt_of hf
      refine r_iast C 5 eh25 rfl (by decide) g24 dX1_holds_88 ?_
      cases hf
      exact r_lv [0, 1, 2, 4] rfl k4
    have k17 : q15 = false → VW X 6 h9 0 0 89 [(0, .ref (gad (xG X) 3)), (1, .ref (gad (xG X) b)), (2, .int a1), (3, .int a2), (4, .int x1), (5, .int x14)] [] := fun qq => by
      rw [if_neg (by rw [qq]; decide)] at hf
      cases hf
      exact r_lv [0, 1, 2, 4] rfl k4
    clear hf
    have hf := r18
    refine r_icmp_lt C 78 dX1_holds_60 (by decide) (fun c19 => ?_) (fun c19 => ?_)
    · rw [if_pos c19] at hf
      exact k16 (Option.some.inj hf).symm
    · rw [if_neg c19] at hf
      refine r_aload_n (i := 0) C dX1_holds_63 rfl 0 rfl ?_
      refine g_X1_12 C dX1_holds_64 ?_
      refine r_iconst (v := 2) C dX1_holds_67 (by decide) ?_
      refine r_aload_n (i := 1) C dX1_holds_68 rfl 1 rfl ?_
      refine r_iload_n (i := 2) C dX1_holds_69 rfl 2 rfl ?_
      refine r_iload_n (i := 3) C dX1_holds_70 rfl 3 rfl ?_
      refine r_iconst (v := 1) C dX1_holds_71 (by decide) ?_
      obtain ⟨x20, e21, hf⟩ := cl_of hf
      refine r_callNVi (As := [.int (2 : Int32), .ref (gad (xG X) b), .int a1, .int a2, .int (1 : Int32)]) (st := []) C 6 (law_d0 lk6) (law_l0 lk6) rfl (kX2_some (xG X) lk6 hb e21) cw_X1_90 rfl rfl (Nat.le_of_ble_eq_true rfl) (zr2 hR rfl rfl) (zrcs hcs) dX1_holds_72 ?_
      refine r_if_eq C 89 dX1_holds_75 (by decide) (fun c22 => ?_) (fun c22 => ?_)
      · rw [if_pos c22] at hf
        exact k17 (Option.some.inj hf).symm
      · rw [if_neg c22] at hf
        exact k16 (Option.some.inj hf).symm
def fX3_takeLine (h : Hp) : Option (Hp) := cl2 (fX3_takeKind h) (fun x3 h1 => (if x3 = (-1 : Int32) then some h1 else cl2 ((if x3 = (2 : Int32) then some ((0 : Int32), h1) else cl2 (fX9_takeNumber h1 (0 : Int32) (30 : Int32)) (fun x12 h10 => some (x12, h10))) : Option (Int32 × Hp)) (fun v5 h6 => cl2 (fX9_takeWord h6 sw3) (fun x15 h13 => cl9 ((if x15 = (0 : Int32) then some h13 else cl9 (fX3_takeCondition h13 (0 : Int32)) (fun h20 => some h20)) : Option (Hp)) (fun h16 => cl9 (fX2_endLine h16 13 x3 v5) (fun h22 => some h22))))))
set_option maxHeartbeats 4000000 in
set_option maxRecDepth 100000 in
theorem kX3_takeLine (G : Gx)  {h : Hp}  {hh : Hp} (hf : fX3_takeLine h = some hh) : MC G yX3_takeLine cX3_takeLine 4 none 85 5440 h [.ref (gad G 12), .ref (gad G 1)] none hh := by
  refine MC.of RX3 (by decide) rfl (Nat.le_of_ble_eq_true rfl) rfl (fun X C hG hR hF => ?_)
  subst hG
  have hcs : True := trivial
  unfold fX3_takeLine at hf
  refine r_aload_n (i := 0) C dX3_takeLine_0 rfl 0 rfl ?_
  refine r_aload_n (i := 1) C dX3_takeLine_1 rfl 1 rfl ?_
  obtain ⟨x3, h1, e2, hf⟩ := cl2_of hf
  refine r_callVi (As := [.ref (gad (xG X) 1)]) (st := []) C 12 rfl (by decide) rfl (kX3_takeKind (xG X) e2) cw_X3_18 rfl rfl (Nat.le_of_ble_eq_true rfl) (zr2 hR rfl rfl) (zrcs hcs) dX3_takeLine_2 ?_
  refine r_istore_n (i := 2) (lv' := [(0, .ref (gad (xG X) 12)), (1, .ref (gad (xG X) 1)), (2, .int x3)]) C dX3_takeLine_5 rfl (by decide) [1, 2, 0] rfl ?_
  refine r_iload_n (i := 2) C dX3_takeLine_6 rfl 2 rfl ?_
  refine r_iconst (v := (-1)) C dX3_takeLine_7 (by decide) ?_
  refine r_icmp_ne C 12 dX3_takeLine_8 (by decide) (fun c4 => ?_) (fun c4 => ?_)
  · rw [if_neg c4] at hf
    refine r_iload_n (i := 2) C dX3_takeLine_12 rfl 2 rfl ?_
    refine r_iconst (v := 2) C dX3_takeLine_13 (by decide) ?_
    obtain ⟨v5, h6, r8, hf⟩ := cl2_of hf
    have k7 : VW X 4 h6 0 0 28 [(0, .ref (gad (xG X) 12)), (1, .ref (gad (xG X) 1)), (2, .int x3)] [.int v5] := by
      refine r_istore_n (i := 3) (lv' := [(0, .ref (gad (xG X) 12)), (1, .ref (gad (xG X) 1)), (2, .int x3), (3, .int v5)]) C dX3_takeLine_28 rfl (by decide) [1, 2, 3, 0] rfl ?_
      refine r_aload_n (i := 1) C dX3_takeLine_29 rfl 1 rfl ?_
      refine r_ldcS (e := 3) C st3 dX3_takeLine_30 ?_
      obtain ⟨x15, h13, e14, hf⟩ := cl2_of hf
      refine r_callNVi (As := [.ref (gsK (xG X) 3)]) (st := []) C 1 rfl (by decide) rfl (kX9_takeWord (xG X) st3 e14) cw_X3_30 rfl rfl (Nat.le_of_ble_eq_true rfl) (zr2 hR rfl rfl) (zrcs hcs) dX3_takeLine_32 ?_
      obtain ⟨h16, r18, hf⟩ := cl_of hf
      have k17 : VW X 4 h16 0 0 44 [(0, .ref (gad (xG X) 12)), (1, .ref (gad (xG X) 1)), (2, .int x3), (3, .int v5)] [] := by
        refine r_aload_n (i := 0) C dX3_takeLine_44 rfl 0 rfl ?_
        refine g_X3_12 C dX3_takeLine_45 ?_
        refine r_iload_n (i := 2) C dX3_takeLine_48 rfl 2 rfl ?_
        refine r_iload_n (i := 3) C dX3_takeLine_49 rfl 3 rfl ?_
        obtain ⟨h22, e23, hf⟩ := cl_of hf
        refine r_callNVv (As := [.int x3, .int v5]) (st := []) C 13 (law_d0 lk13) (law_l0 lk13) rfl (kX2_endLine (xG X) lk13 e23) cw_X3_38 rfl rfl (Nat.le_of_ble_eq_true rfl) (zr2 hR rfl rfl) (zrcs hcs) dX3_takeLine_50 ?_
        cases hf
        exact r_vret C hF dX3_takeLine_53
      clear hf
      have hf := r18
      refine r_if_eq C 44 dX3_takeLine_35 (by decide) (fun c19 => ?_) (fun c19 => ?_)
      · rw [if_pos c19] at hf
        cases hf
        exact k17
      · rw [if_neg c19] at hf
        refine r_aload_n (i := 0) C dX3_takeLine_38 rfl 0 rfl ?_
        refine r_aload_n (i := 1) C dX3_takeLine_39 rfl 1 rfl ?_
        refine r_iconst (v := 0) C dX3_takeLine_40 (by decide) ?_
        obtain ⟨h20, e21, hf⟩ := cl_of hf
        refine r_callVv (As := [.ref (gad (xG X) 1), .int (0 : Int32)]) (st := []) C 12 rfl (by decide) rfl (kX3_takeCondition (xG X) e21) cw_X3_34 rfl rfl (Nat.le_of_ble_eq_true rfl) (zr2 hR rfl rfl) (zrcs hcs) dX3_takeLine_41 ?_
        cases hf
        exact k17
    clear hf
    have hf := r8
    refine r_icmp_ne C 21 dX3_takeLine_14 (by decide) (fun c9 => ?_) (fun c9 => ?_)
    · rw [if_neg c9] at hf
      refine r_aload_n (i := 1) C dX3_takeLine_21 rfl 1 rfl ?_
      refine r_iconst (v := 0) C dX3_takeLine_22 (by decide) ?_
      refine r_bipush (v := 30) C dX3_takeLine_23 (by decide) ?_
      obtain ⟨x12, h10, e11, hf⟩ := cl2_of hf
      refine r_callNVi (As := [.int (0 : Int32), .int (30 : Int32)]) (st := []) C 1 rfl (by decide) rfl (kX9_takeNumber (xG X) e11) cw_X3_22 rfl rfl (Nat.le_of_ble_eq_true rfl) (zr2 hR rfl rfl) (zrcs hcs) dX3_takeLine_25 ?_
      cases hf
      exact k7
    · rw [if_pos c9] at hf
      refine r_iconst (v := 0) C dX3_takeLine_17 (by decide) ?_
      refine r_goto C 28 dX3_takeLine_18 (by decide) ?_
      cases hf
      exact k7
  · rw [if_pos c4] at hf
    cases hf
    exact r_vret C hF dX3_takeLine_11
def fX8_takeLine (h : Hp) : Option (Hp) := cl2 (fX9_takeWord h sw14) (fun x3 h1 => (if x3 = (0 : Int32) then cl2 (fX9_takeWord h1 sw16) (fun x7 h5 => (if x7 = (0 : Int32) then cl2 (fX9_takeWord h5 sw17) (fun x11 h9 => (if x11 = (0 : Int32) then cl2 (fX9_takeWord h9 sw18) (fun x15 h13 => (if x15 = (0 : Int32) then cl2 (fX9_takeWord h13 sw19) (fun x19 h17 => (if x19 = (0 : Int32) then cl2 (fX9_takeWord h17 sw20) (fun x23 h21 => (if x23 = (0 : Int32) then cl9 (fX8_takeSkyValue h21) (fun h25 => some h25) else cl9 (fX8_takePinner h21) (fun h27 => some h27))) else cl9 (fX8_takeBare h17) (fun h29 => some h29))) else cl9 (fX8_takePlaceValue h13 (65 + 3) 16 (9 : Int32)) (fun h31 => some h31))) else cl9 (fX8_takePlaceValue h9 (65 + 2) 16 (20 : Int32)) (fun h33 => some h33))) else cl9 (fX8_takePlaceValue h5 (65 + 1) 16 (9 : Int32)) (fun h35 => some h35))) else cl9 (fX8_takePin h1) (fun h37 => some h37)))
set_option maxHeartbeats 4000000 in
set_option maxRecDepth 100000 in
theorem kX8_takeLine (G : Gx)  {h : Hp}  {hh : Hp} (hf : fX8_takeLine h = some hh) : MC G yX8_takeLine cX8_takeLine 2 none 8 512 h [.ref (gad G 11), .ref (gad G 1)] none hh := by
  refine MC.of RX8 (by decide) rfl (Nat.le_of_ble_eq_true rfl) rfl (fun X C hG hR hF => ?_)
  subst hG
  have hcs : True := trivial
  unfold fX8_takeLine at hf
  refine r_aload_n (i := 1) C dX8_takeLine_0 rfl 1 rfl ?_
  refine r_ldcS (e := 14) C st14 dX8_takeLine_1 ?_
  obtain ⟨x3, h1, e2, hf⟩ := cl2_of hf
  refine r_callNVi (As := [.ref (gsK (xG X) 14)]) (st := []) C 1 rfl (by decide) rfl (kX9_takeWord (xG X) st14 e2) cw_X8_20 rfl rfl (Nat.le_of_ble_eq_true rfl) (zr2 hR rfl rfl) (zrcs hcs) dX8_takeLine_3 ?_
  refine r_if_eq C 17 dX8_takeLine_6 (by decide) (fun c4 => ?_) (fun c4 => ?_)
  · rw [if_pos c4] at hf
    refine r_aload_n (i := 1) C dX8_takeLine_17 rfl 1 rfl ?_
    refine r_ldcS (e := 16) C st16 dX8_takeLine_18 ?_
    obtain ⟨x7, h5, e6, hf⟩ := cl2_of hf
    refine r_callNVi (As := [.ref (gsK (xG X) 16)]) (st := []) C 1 rfl (by decide) rfl (kX9_takeWord (xG X) st16 e6) cw_X8_20 rfl rfl (Nat.le_of_ble_eq_true rfl) (zr2 hR rfl rfl) (zrcs hcs) dX8_takeLine_20 ?_
    refine r_if_eq C 43 dX8_takeLine_23 (by decide) (fun c8 => ?_) (fun c8 => ?_)
    · rw [if_pos c8] at hf
      refine r_aload_n (i := 1) C dX8_takeLine_43 rfl 1 rfl ?_
      refine r_ldcS (e := 17) C st17 dX8_takeLine_44 ?_
      obtain ⟨x11, h9, e10, hf⟩ := cl2_of hf
      refine r_callNVi (As := [.ref (gsK (xG X) 17)]) (st := []) C 1 rfl (by decide) rfl (kX9_takeWord (xG X) st17 e10) cw_X8_20 rfl rfl (Nat.le_of_ble_eq_true rfl) (zr2 hR rfl rfl) (zrcs hcs) dX8_takeLine_46 ?_
      refine r_if_eq C 69 dX8_takeLine_49 (by decide) (fun c12 => ?_) (fun c12 => ?_)
      · rw [if_pos c12] at hf
        refine r_aload_n (i := 1) C dX8_takeLine_69 rfl 1 rfl ?_
        refine r_ldcS (e := 18) C st18 dX8_takeLine_70 ?_
        obtain ⟨x15, h13, e14, hf⟩ := cl2_of hf
        refine r_callNVi (As := [.ref (gsK (xG X) 18)]) (st := []) C 1 rfl (by decide) rfl (kX9_takeWord (xG X) st18 e14) cw_X8_20 rfl rfl (Nat.le_of_ble_eq_true rfl) (zr2 hR rfl rfl) (zrcs hcs) dX8_takeLine_72 ?_
        refine r_if_eq C 95 dX8_takeLine_75 (by decide) (fun c16 => ?_) (fun c16 => ?_)
        · rw [if_pos c16] at hf
          refine r_aload_n (i := 1) C dX8_takeLine_95 rfl 1 rfl ?_
          refine r_ldcS (e := 19) C st19 dX8_takeLine_96 ?_
          obtain ⟨x19, h17, e18, hf⟩ := cl2_of hf
          refine r_callNVi (As := [.ref (gsK (xG X) 19)]) (st := []) C 1 rfl (by decide) rfl (kX9_takeWord (xG X) st19 e18) cw_X8_20 rfl rfl (Nat.le_of_ble_eq_true rfl) (zr2 hR rfl rfl) (zrcs hcs) dX8_takeLine_98 ?_
          refine r_if_eq C 112 dX8_takeLine_101 (by decide) (fun c20 => ?_) (fun c20 => ?_)
          · rw [if_pos c20] at hf
            refine r_aload_n (i := 1) C dX8_takeLine_112 rfl 1 rfl ?_
            refine r_ldcS (e := 20) C st20 dX8_takeLine_113 ?_
            obtain ⟨x23, h21, e22, hf⟩ := cl2_of hf
            refine r_callNVi (As := [.ref (gsK (xG X) 20)]) (st := []) C 1 rfl (by decide) rfl (kX9_takeWord (xG X) st20 e22) cw_X8_20 rfl rfl (Nat.le_of_ble_eq_true rfl) (zr2 hR rfl rfl) (zrcs hcs) dX8_takeLine_115 ?_
            refine r_if_eq C 129 dX8_takeLine_118 (by decide) (fun c24 => ?_) (fun c24 => ?_)
            · rw [if_pos c24] at hf
              refine r_aload_n (i := 0) C dX8_takeLine_129 rfl 0 rfl ?_
              refine r_aload_n (i := 1) C dX8_takeLine_130 rfl 1 rfl ?_
              obtain ⟨h25, e26, hf⟩ := cl_of hf
              refine r_callVv (As := [.ref (gad (xG X) 1)]) (st := []) C 11 rfl (by decide) rfl (kX8_takeSkyValue (xG X) e26) cw_X8_57 rfl rfl (Nat.le_of_ble_eq_true rfl) (zr2 hR rfl rfl) (zrcs hcs) dX8_takeLine_131 ?_
              cases hf
              exact r_vret C hF dX8_takeLine_134
            · rw [if_neg c24] at hf
              refine r_aload_n (i := 0) C dX8_takeLine_121 rfl 0 rfl ?_
              refine r_aload_n (i := 1) C dX8_takeLine_122 rfl 1 rfl ?_
              obtain ⟨h27, e28, hf⟩ := cl_of hf
              refine r_callVv (As := [.ref (gad (xG X) 1)]) (st := []) C 11 rfl (by decide) rfl (kX8_takePinner (xG X) e28) cw_X8_54 rfl rfl (Nat.le_of_ble_eq_true rfl) (zr2 hR rfl rfl) (zrcs hcs) dX8_takeLine_123 ?_
              refine r_goto C 134 dX8_takeLine_126 (by decide) ?_
              cases hf
              exact r_vret C hF dX8_takeLine_134
          · rw [if_neg c20] at hf
            refine r_aload_n (i := 0) C dX8_takeLine_104 rfl 0 rfl ?_
            refine r_aload_n (i := 1) C dX8_takeLine_105 rfl 1 rfl ?_
            obtain ⟨h29, e30, hf⟩ := cl_of hf
            refine r_callVv (As := [.ref (gad (xG X) 1)]) (st := []) C 11 rfl (by decide) rfl (kX8_takeBare (xG X) e30) cw_X8_49 rfl rfl (Nat.le_of_ble_eq_true rfl) (zr2 hR rfl rfl) (zrcs hcs) dX8_takeLine_106 ?_
            refine r_goto C 134 dX8_takeLine_109 (by decide) ?_
            cases hf
            exact r_vret C hF dX8_takeLine_134
        · rw [if_neg c16] at hf
          refine r_aload_n (i := 0) C dX8_takeLine_78 rfl 0 rfl ?_
          refine r_aload_n (i := 1) C dX8_takeLine_79 rfl 1 rfl ?_
          refine r_aload_n (i := 0) C dX8_takeLine_80 rfl 0 rfl ?_
          refine g_X8_12 C dX8_takeLine_81 ?_
          refine g_X8_45 sk65 C dX8_takeLine_84 ?_
          refine r_bipush (v := 9) C dX8_takeLine_87 (by decide) ?_
          obtain ⟨h31, e32, hf⟩ := cl_of hf
          refine r_callVv (As := [.ref (gad (xG X) 1), .ref (gad (xG X) (65 + 3)), .int (9 : Int32)]) (st := []) C 11 rfl (by decide) rfl (kX8_takePlaceValue (xG X) (sky_dsc sk65 3 (by decide)) (sky_lt sk65 3 (by decide)) e32) cw_X8_35 rfl rfl (Nat.le_of_ble_eq_true rfl) (zr2 hR rfl rfl) (zrcs hcs) dX8_takeLine_89 ?_
          refine r_goto C 134 dX8_takeLine_92 (by decide) ?_
          cases hf
          exact r_vret C hF dX8_takeLine_134
      · rw [if_neg c12] at hf
        refine r_aload_n (i := 0) C dX8_takeLine_52 rfl 0 rfl ?_
        refine r_aload_n (i := 1) C dX8_takeLine_53 rfl 1 rfl ?_
        refine r_aload_n (i := 0) C dX8_takeLine_54 rfl 0 rfl ?_
        refine g_X8_12 C dX8_takeLine_55 ?_
        refine g_X8_41 sk65 C dX8_takeLine_58 ?_
        refine r_bipush (v := 20) C dX8_takeLine_61 (by decide) ?_
        obtain ⟨h33, e34, hf⟩ := cl_of hf
        refine r_callVv (As := [.ref (gad (xG X) 1), .ref (gad (xG X) (65 + 2)), .int (20 : Int32)]) (st := []) C 11 rfl (by decide) rfl (kX8_takePlaceValue (xG X) (sky_dsc sk65 2 (by decide)) (sky_lt sk65 2 (by decide)) e34) cw_X8_35 rfl rfl (Nat.le_of_ble_eq_true rfl) (zr2 hR rfl rfl) (zrcs hcs) dX8_takeLine_63 ?_
        refine r_goto C 134 dX8_takeLine_66 (by decide) ?_
        cases hf
        exact r_vret C hF dX8_takeLine_134
    · rw [if_neg c8] at hf
      refine r_aload_n (i := 0) C dX8_takeLine_26 rfl 0 rfl ?_
      refine r_aload_n (i := 1) C dX8_takeLine_27 rfl 1 rfl ?_
      refine r_aload_n (i := 0) C dX8_takeLine_28 rfl 0 rfl ?_
      refine g_X8_12 C dX8_takeLine_29 ?_
      refine g_X8_32 sk65 C dX8_takeLine_32 ?_
      refine r_bipush (v := 9) C dX8_takeLine_35 (by decide) ?_
      obtain ⟨h35, e36, hf⟩ := cl_of hf
      refine r_callVv (As := [.ref (gad (xG X) 1), .ref (gad (xG X) (65 + 1)), .int (9 : Int32)]) (st := []) C 11 rfl (by decide) rfl (kX8_takePlaceValue (xG X) (sky_dsc sk65 1 (by decide)) (sky_lt sk65 1 (by decide)) e36) cw_X8_35 rfl rfl (Nat.le_of_ble_eq_true rfl) (zr2 hR rfl rfl) (zrcs hcs) dX8_takeLine_37 ?_
      refine r_goto C 134 dX8_takeLine_40 (by decide) ?_
      cases hf
      exact r_vret C hF dX8_takeLine_134
  · rw [if_neg c4] at hf
    refine r_aload_n (i := 0) C dX8_takeLine_9 rfl 0 rfl ?_
    refine r_aload_n (i := 1) C dX8_takeLine_10 rfl 1 rfl ?_
    obtain ⟨h37, e38, hf⟩ := cl_of hf
    refine r_callVv (As := [.ref (gad (xG X) 1)]) (st := []) C 11 rfl (by decide) rfl (kX8_takePin (xG X) e38) cw_X8_26 rfl rfl (Nat.le_of_ble_eq_true rfl) (zr2 hR rfl rfl) (zrcs hcs) dX8_takeLine_11 ?_
    refine r_goto C 134 dX8_takeLine_14 (by decide) ?_
    cases hf
    exact r_vret C hF dX8_takeLine_134
def fX11_rusts (h : Hp) (a1 : Int32) : Option (Int32 × Nat × Hp) := (if (fX11_checkPlace a1) = 0 then cl9 (fX1_rustsBy h 32 a1) (fun x2 => some (x2, 0, h)) else some ((0 : Int32), (fX11_checkPlace a1), h))
set_option maxHeartbeats 4000000 in
set_option maxRecDepth 100000 in
theorem kX11_rusts (G : Gx)  {h : Hp} {a1 : Int32} {rr : Int32} {kk : Nat} {hh : Hp} (hf : fX11_rusts h a1 = some (rr, kk, hh)) : MX G yX11_rusts cX11_rusts 2 (some .int) 7 448 h [.ref (gad G 0), .int a1] (some (.int rr)) kk hh := by
  refine MX.of RX11 (by decide) rfl (Nat.le_of_ble_eq_true rfl) rfl (fun X C hG hR hE => ?_)
  subst hG
  have hcs : True := trivial
  unfold fX11_rusts at hf
  refine r_iload_n (i := 1) C dX11_rusts_0 rfl 1 rfl ?_
  by_cases c1 : (fX11_checkPlace a1) = 0
  · rw [if_pos c1] at hf
    refine r_callXSv (As := [.int a1]) (st := []) C (kX11_checkPlace (xG X)) cw_X11_136 rfl rfl (Nat.le_of_ble_eq_true rfl) (zq2 hR rfl rfl) (zqc hR (Or.inl c1)) dX11_rusts_1 (fun q0 => absurd c1 q0) (fun _ => ?_)
    refine r_aload_n (i := 0) C dX11_rusts_4 rfl 0 rfl ?_
    refine g_X11_19 C dX11_rusts_5 ?_
    refine r_aload_n (i := 0) C dX11_rusts_8 rfl 0 rfl ?_
    refine g_X11_54 C dX11_rusts_9 ?_
    refine r_iload_n (i := 1) C dX11_rusts_12 rfl 1 rfl ?_
    obtain ⟨x2, e3, hf⟩ := cl_of hf
    refine r_callNVi (As := [.ref (gad (xG X) 32), .int a1]) (st := []) C 3 rfl (by decide) rfl (kX1_rustsBy (xG X) sk32 e3) cw_X11_203 rfl rfl (Nat.le_of_ble_eq_true rfl) (zq2 hR rfl rfl) (zrcs hcs) dX11_rusts_13 ?_
    cases hf
    exact r_iret C (hE.1 rfl) dX11_rusts_16
  · rw [if_neg c1] at hf
    cases hf
    exact r_callXSv (As := [.int a1]) (st := []) C (kX11_checkPlace (xG X)) cw_X11_136 rfl rfl (Nat.le_of_ble_eq_true rfl) (zq2 hR rfl rfl) (zqc hR (Or.inr rfl)) dX11_rusts_1 (fun q0 => hE.2 q0) (fun q0 => absurd q0 c1)
def BX11_weakest_0 (h : Hp) (rec : Int32 → Int32 → Int32 → Option (Int32)) (y1 : Int32) (y2 : Int32) (y3 : Int32) : Option (Int32) := (if (16 : Int32) ≤ y3 then some y1 else (if (fX7_hasPin h 32 y3) = (0 : Int32) then lt9 (y3 + (1 : Int32)) (fun x3 => rec y1 y2 x3) else gd (inb y3 16) (cl9 (fX1_strainAt h 32 y3) (fun x5 => lt9 ((h (32 + 4) y3.toNatClampNeg) + x5) (fun x7 => (if x7 ≤ y2 then lt9 (y3 + (1 : Int32)) (fun x9 => rec y1 y2 x9) else lt9 (y3 + (1 : Int32)) (fun x10 => rec y3 x7 x10)))))))
def LX11_weakest (h : Hp) : Nat → Int32 → Int32 → Int32 → Option (Int32)
  | 0, _, _, _ => none
  | n + 1, y1, y2, y3 => BX11_weakest_0 h (LX11_weakest h n) y1 y2 y3
def fX11_weakest (h : Hp) : Option (Int32) := LX11_weakest h big (-1 : Int32) (-1 : Int32) (0 : Int32)
set_option maxHeartbeats 4000000 in
set_option maxRecDepth 100000 in
theorem wX11_weakest {X : Cx} {h : Hp}  {rr : Int32} (C : OK X cX11_weakest 5 RX11 (some .int)) (hR : xR X = { frames := 5, cells := 0, slots := 0, locals := 320 }) (hcs : True) (hF : FinR X (some (.int rr)) h) : ∀ n : Nat, (∀ (y1 : Int32) (y2 : Int32) (y3 : Int32), LX11_weakest h n y1 y2 y3 = some rr → VW X 5 h 0 0 6 [(0, .ref (gad (xG X) 0)), (1, .int y1), (2, .int y2), (3, .int y3)] []) := by
  intro n
  induction n with
  | zero => exact (fun _ _ _ hf => (by rw [LX11_weakest] at hf; cases hf))
  | succ n ih =>
    intro y1 y2 y3 hf
    rw [LX11_weakest] at hf
    unfold BX11_weakest_0 at hf
    refine r_iload_n (i := 3) C dX11_weakest_6 rfl 3 rfl ?_
    refine r_bipush (v := 16) C dX11_weakest_7 (by decide) ?_
    refine r_icmp_ge C 64 dX11_weakest_9 (by decide) (fun c1 => ?_) (fun c1 => ?_)
    · rw [if_pos c1] at hf
      refine r_iload_n (i := 1) C dX11_weakest_64 rfl 1 rfl ?_
      cases hf
      exact r_iret C hF dX11_weakest_65
    · rw [if_neg c1] at hf
      refine r_aload_n (i := 0) C dX11_weakest_12 rfl 0 rfl ?_
      refine g_X11_54 C dX11_weakest_13 ?_
      refine r_iload_n (i := 3) C dX11_weakest_16 rfl 3 rfl ?_
      refine r_callNVi (As := [.int y3]) (st := []) C 32 (sky_d0 sk32) (sky_l0 sk32) rfl (kX7_hasPin (xG X) sk32) cw_X11_151 rfl rfl (Nat.le_of_ble_eq_true rfl) (zr2 hR rfl rfl) (zrcs hcs) dX11_weakest_17 ?_
      refine r_if_eq C 58 dX11_weakest_20 (by decide) (fun c2 => ?_) (fun c2 => ?_)
      · rw [if_pos c2] at hf
        obtain ⟨x3, ex3, hf⟩ := lt_of hf
        refine r_iinc (j := 3) (v := x3) (lv' := [(0, .ref (gad (xG X) 0)), (1, .int y1), (2, .int y2), (3, .int x3)]) C dX11_weakest_58 rfl (by rw [ex3]; rfl) (by decide) [1, 2, 3, 0] rfl ?_
        refine r_goto C 6 dX11_weakest_61 (by decide) ?_
        exact r_lv [0, 1, 2, 3] rfl (ih _ _ _ hf)
      · rw [if_neg c2] at hf
        refine r_aload_n (i := 0) C dX11_weakest_23 rfl 0 rfl ?_
        refine g_X11_54 C dX11_weakest_24 ?_
        refine g_X11_154 sk32 C dX11_weakest_27 ?_
        refine r_iload_n (i := 3) C dX11_weakest_30 rfl 3 rfl ?_
        obtain ⟨g4, hf⟩ := gd_of hf
        refine r_iald C (32 + 4) (sky_dsc sk32 4 (by decide)) (sky_lt sk32 4 (by decide)) g4 dX11_weakest_31 ?_
        refine r_aload_n (i := 0) C dX11_weakest_32 rfl 0 rfl ?_
        refine g_X11_19 C dX11_weakest_33 ?_
        refine r_aload_n (i := 0) C dX11_weakest_36 rfl 0 rfl ?_
        refine g_X11_54 C dX11_weakest_37 ?_
        refine r_iload_n (i := 3) C dX11_weakest_40 rfl 3 rfl ?_
        obtain ⟨x5, e6, hf⟩ := cl_of hf
        refine r_callNVi (As := [.ref (gad (xG X) 32), .int y3]) (st := [.int (h (32 + 4) y3.toNatClampNeg)]) C 3 rfl (by decide) rfl (kX1_strainAt (xG X) sk32 e6) cw_X11_157 rfl rfl (Nat.le_of_ble_eq_true rfl) (zr2 hR rfl rfl) (zrcs hcs) dX11_weakest_41 ?_
        refine r_iadd C dX11_weakest_44 ?_
        obtain ⟨x7, ex7, hf⟩ := lt_of hf
        refine r_top ex7 ?_
        refine r_istore (i := 4) (lv' := [(0, .ref (gad (xG X) 0)), (1, .int y1), (2, .int y2), (3, .int y3), (4, .int x7)]) C dX11_weakest_45 (by decide) [1, 2, 3, 4, 0] rfl ?_
        refine r_iload (i := 4) C dX11_weakest_47 4 rfl ?_
        refine r_iload_n (i := 2) C dX11_weakest_49 rfl 2 rfl ?_
        refine r_icmp_le C 58 dX11_weakest_50 (by decide) (fun c8 => ?_) (fun c8 => ?_)
        · rw [if_pos c8] at hf
          obtain ⟨x9, ex9, hf⟩ := lt_of hf
          refine r_iinc (j := 3) (v := x9) (lv' := [(0, .ref (gad (xG X) 0)), (1, .int y1), (2, .int y2), (3, .int x9), (4, .int x7)]) C dX11_weakest_58 rfl (by rw [ex9]; rfl) (by decide) [1, 2, 3, 0, 4] rfl ?_
          refine r_goto C 6 dX11_weakest_61 (by decide) ?_
          exact r_lv [0, 1, 2, 3] rfl (ih _ _ _ hf)
        · rw [if_neg c8] at hf
          refine r_iload (i := 4) C dX11_weakest_53 4 rfl ?_
          refine r_istore_n (i := 2) (lv' := [(0, .ref (gad (xG X) 0)), (1, .int y1), (2, .int x7), (3, .int y3), (4, .int x7)]) C dX11_weakest_55 rfl (by decide) [1, 2, 0, 3, 4] rfl ?_
          refine r_iload_n (i := 3) C dX11_weakest_56 rfl 3 rfl ?_
          refine r_istore_n (i := 1) (lv' := [(0, .ref (gad (xG X) 0)), (1, .int y3), (2, .int x7), (3, .int y3), (4, .int x7)]) C dX11_weakest_57 rfl (by decide) [1, 0, 2, 3, 4] rfl ?_
          obtain ⟨x10, ex10, hf⟩ := lt_of hf
          refine r_iinc (j := 3) (v := x10) (lv' := [(0, .ref (gad (xG X) 0)), (1, .int y3), (2, .int x7), (3, .int x10), (4, .int x7)]) C dX11_weakest_58 rfl (by rw [ex10]; rfl) (by decide) [1, 2, 3, 0, 4] rfl ?_
          refine r_goto C 6 dX11_weakest_61 (by decide) ?_
          exact r_lv [0, 1, 2, 3] rfl (ih _ _ _ hf)
set_option maxHeartbeats 4000000 in
set_option maxRecDepth 100000 in
theorem kX11_weakest (G : Gx)  {h : Hp}  {rr : Int32} (hf : fX11_weakest h = some rr) : MC G yX11_weakest cX11_weakest 5 (some .int) 5 320 h [.ref (gad G 0)] (some (.int rr)) h := by
  refine MC.of RX11 (by decide) rfl (Nat.le_of_ble_eq_true rfl) rfl (fun X C hG hR hF => ?_)
  subst hG
  have hcs : True := trivial
  unfold fX11_weakest at hf
  refine r_iconst (v := (-1)) C dX11_weakest_0 (by decide) ?_
  refine r_istore_n (i := 1) (lv' := [(0, .ref (gad (xG X) 0)), (1, .int (-1 : Int32))]) C dX11_weakest_1 rfl (by decide) [1, 0] rfl ?_
  refine r_iconst (v := (-1)) C dX11_weakest_2 (by decide) ?_
  refine r_istore_n (i := 2) (lv' := [(0, .ref (gad (xG X) 0)), (1, .int (-1 : Int32)), (2, .int (-1 : Int32))]) C dX11_weakest_3 rfl (by decide) [1, 2, 0] rfl ?_
  refine r_iconst (v := 0) C dX11_weakest_4 (by decide) ?_
  refine r_istore_n (i := 3) (lv' := [(0, .ref (gad (xG X) 0)), (1, .int (-1 : Int32)), (2, .int (-1 : Int32)), (3, .int (0 : Int32))]) C dX11_weakest_5 rfl (by decide) [1, 2, 3, 0] rfl ?_
  exact r_lv [0, 1, 2, 3] rfl ((wX11_weakest  C hR hcs hF big) _ _ _ hf)
def BX10_readS_0  (rec : Hp → Int32 → Int32 → Option (Int32 × Hp)) (h : Hp) (y2 : Int32) (y3 : Int32) : Option (Int32 × Hp) := (if y2 ≤ y3 then cl9 (fX9_failNext h) (fun h2 => some ((h2 1 5), h2)) else cl9 (fX8_takeLine h) (fun h4 => cl2 (fX9_atEnd h4) (fun x8 h6 => cl9 ((if x8 = (0 : Int32) then (if (fX9_failed h6) = (0 : Int32) then some false else some true) else some true) : Option Bool) (fun q9 => if q9 = true then some ((h6 1 5), h6) else cl2 (fX9_takeSign h6 (59 : Int32)) (fun x17 h15 => (if x17 = (0 : Int32) then cl9 (fX9_failNext h15) (fun h20 => some ((h20 1 5), h20)) else lt9 (y3 + (1 : Int32)) (fun x19 => rec h15 y2 x19)))))))
def LX10_readS  : Nat → Hp → Int32 → Int32 → Option (Int32 × Hp)
  | 0, _, _, _ => none
  | n + 1, h, y2, y3 => BX10_readS_0  (LX10_readS  n) h y2 y3
def fX10_readS (h : Hp) (a1 : Int32) : Option (Int32 × Hp) := cl9 (fX9_open h) (fun h22 => cl2 (fX9_atEnd h22) (fun x26 h24 => (if x26 = (0 : Int32) then LX10_readS big h24 a1 (0 : Int32) else some ((-1 : Int32), h24))))
set_option maxHeartbeats 4000000 in
set_option maxRecDepth 100000 in
theorem wX10_readS {X : Cx}  {rr : Int32} {hh : Hp} (C : OK X cX10_read 4 RX10 (some .int)) (hR : xR X = { frames := 9, cells := 0, slots := 0, locals := 576 }) (hcs : True) (hF : FinR X (some (.int rr)) hh) : ∀ n : Nat, (∀ (h : Hp) (y2 : Int32) (y3 : Int32), LX10_readS  n h y2 y3 = some (rr, hh) → VW X 4 h 0 0 15 [(0, .ref (gad (xG X) 11)), (1, .ref (gad (xG X) 1)), (2, .int y2), (3, .int y3)] []) := by
  intro n
  induction n with
  | zero => exact (fun _ _ _ hf => (by rw [LX10_readS] at hf; cases hf))
  | succ n ih =>
    intro h y2 y3 hf
    rw [LX10_readS] at hf
    unfold BX10_readS_0 at hf
    refine r_iload_n (i := 3) C dX10_read_15 rfl 3 rfl ?_
    refine r_iload_n (i := 2) C dX10_read_16 rfl 2 rfl ?_
    refine r_icmp_ge C 68 dX10_read_17 (by decide) (fun c1 => ?_) (fun c1 => ?_)
    · rw [if_pos c1] at hf
      refine r_aload_n (i := 1) C dX10_read_68 rfl 1 rfl ?_
      obtain ⟨h2, e3, hf⟩ := cl_of hf
      refine r_callNVv (As := []) (st := []) C 1 rfl (by decide) rfl (kX9_failNext (xG X) e3) cw_X10_35 rfl rfl (Nat.le_of_ble_eq_true rfl) (zr2 hR rfl rfl) (zrcs hcs) dX10_read_69 ?_
      refine r_aload_n (i := 1) C dX10_read_72 rfl 1 rfl ?_
      refine g_X10_27 C dX10_read_73 ?_
      cases hf
      exact r_iret C hF dX10_read_76
    · rw [if_neg c1] at hf
      refine r_aload_n (i := 0) C dX10_read_20 rfl 0 rfl ?_
      refine r_aload_n (i := 1) C dX10_read_21 rfl 1 rfl ?_
      obtain ⟨h4, e5, hf⟩ := cl_of hf
      refine r_callUv (As := [.ref (gad (xG X) 1)]) (st := []) C 11 rfl (by decide) rfl (kX8_takeLine (xG X) e5) cu_X10_18_X8 rfl rfl (Nat.le_of_ble_eq_true rfl) (zr2 hR rfl rfl) (zrcs hcs) dX10_read_22 ?_
      refine r_aload_n (i := 1) C dX10_read_25 rfl 1 rfl ?_
      obtain ⟨x8, h6, e7, hf⟩ := cl2_of hf
      refine r_callNVi (As := []) (st := []) C 1 rfl (by decide) rfl (kX9_atEnd (xG X) e7) cw_X10_14 rfl rfl (Nat.le_of_ble_eq_true rfl) (zr2 hR rfl rfl) (zrcs hcs) dX10_read_26 ?_
      obtain ⟨q9, r12, hf⟩ := cl_of hf
      have k10 : q9 = true → VW X 4 h6 0 0 39 [(0, .ref (gad (xG X) 11)), (1, .ref (gad (xG X) 1)), (2, .int y2), (3, .int y3)] [] := fun qq => by
        rw [if_pos qq] at hf
        refine r_aload_n (i := 1) C dX10_read_39 rfl 1 rfl ?_
        refine g_X10_27 C dX10_read_40 ?_
        cases hf
        exact r_iret C hF dX10_read_43
      have k11 : q9 = false → VW X 4 h6 0 0 44 [(0, .ref (gad (xG X) 11)), (1, .ref (gad (xG X) 1)), (2, .int y2), (3, .int y3)] [] := fun qq => by
        rw [if_neg (by rw [qq]; decide)] at hf
        refine r_aload_n (i := 1) C dX10_read_44 rfl 1 rfl ?_
        refine r_bipush (v := 59) C dX10_read_45 (by decide) ?_
        obtain ⟨x17, h15, e16, hf⟩ := cl2_of hf
        refine r_callNVi (As := [.int (59 : Int32)]) (st := []) C 1 rfl (by decide) rfl (kX9_takeSign (xG X) e16) cw_X10_31 rfl rfl (Nat.le_of_ble_eq_true rfl) (zr2 hR rfl rfl) (zrcs hcs) dX10_read_47 ?_
        refine r_if_ne C 62 dX10_read_50 (by decide) (fun c18 => ?_) (fun c18 => ?_)
        · rw [if_neg c18] at hf
          obtain ⟨x19, ex19, hf⟩ := lt_of hf
          refine r_iinc (j := 3) (v := x19) (lv' := [(0, .ref (gad (xG X) 11)), (1, .ref (gad (xG X) 1)), (2, .int y2), (3, .int x19)]) C dX10_read_62 rfl (by rw [ex19]; rfl) (by decide) [1, 2, 3, 0] rfl ?_
          refine r_goto C 15 dX10_read_65 (by decide) ?_
          exact r_lv [0, 1, 2, 3] rfl (ih _ _ _ hf)
        · rw [if_pos c18] at hf
          refine r_aload_n (i := 1) C dX10_read_53 rfl 1 rfl ?_
          obtain ⟨h20, e21, hf⟩ := cl_of hf
          refine r_callNVv (As := []) (st := []) C 1 rfl (by decide) rfl (kX9_failNext (xG X) e21) cw_X10_35 rfl rfl (Nat.le_of_ble_eq_true rfl) (zr2 hR rfl rfl) (zrcs hcs) dX10_read_54 ?_
          refine r_aload_n (i := 1) C dX10_read_57 rfl 1 rfl ?_
          refine g_X10_27 C dX10_read_58 ?_
          cases hf
          exact r_iret C hF dX10_read_61
      clear hf
      have hf := r12
      refine r_if_ne C 39 dX10_read_29 (by decide) (fun c13 => ?_) (fun c13 => ?_)
      · rw [if_neg c13] at hf
        exact k10 (Option.some.inj hf).symm
      · rw [if_pos c13] at hf
        refine r_aload_n (i := 1) C dX10_read_32 rfl 1 rfl ?_
        refine r_callNVi (As := []) (st := []) C 1 rfl (by decide) rfl (kX9_failed (xG X)) cw_X10_24 rfl rfl (Nat.le_of_ble_eq_true rfl) (zr2 hR rfl rfl) (zrcs hcs) dX10_read_33 ?_
        refine r_if_eq C 44 dX10_read_36 (by decide) (fun c14 => ?_) (fun c14 => ?_)
        · rw [if_pos c14] at hf
          exact k11 (Option.some.inj hf).symm
        · rw [if_neg c14] at hf
          exact k10 (Option.some.inj hf).symm
set_option maxHeartbeats 4000000 in
set_option maxRecDepth 100000 in
theorem kX10_readS (G : Gx)  {h : Hp} {a1 : Int32} {rr : Int32} {hh : Hp} (hf : fX10_readS h a1 = some (rr, hh)) : MC G yX10_read cX10_read 4 (some .int) 9 576 h [.ref (gad G 11), .ref (gad G 1), .int a1] (some (.int rr)) hh := by
  refine MC.of RX10 (by decide) rfl (Nat.le_of_ble_eq_true rfl) rfl (fun X C hG hR hF => ?_)
  subst hG
  have hcs : True := trivial
  unfold fX10_readS at hf
  refine r_aload_n (i := 1) C dX10_read_0 rfl 1 rfl ?_
  obtain ⟨h22, e23, hf⟩ := cl_of hf
  refine r_callNVv (As := []) (st := []) C 1 rfl (by decide) rfl (kX9_open (xG X) e23) cw_X10_9 rfl rfl (Nat.le_of_ble_eq_true rfl) (zr2 hR rfl rfl) (zrcs hcs) dX10_read_1 ?_
  refine r_aload_n (i := 1) C dX10_read_4 rfl 1 rfl ?_
  obtain ⟨x26, h24, e25, hf⟩ := cl2_of hf
  refine r_callNVi (As := []) (st := []) C 1 rfl (by decide) rfl (kX9_atEnd (xG X) e25) cw_X10_14 rfl rfl (Nat.le_of_ble_eq_true rfl) (zr2 hR rfl rfl) (zrcs hcs) dX10_read_5 ?_
  refine r_if_eq C 13 dX10_read_8 (by decide) (fun c27 => ?_) (fun c27 => ?_)
  · rw [if_pos c27] at hf
    refine r_iconst (v := 0) C dX10_read_13 (by decide) ?_
    refine r_istore_n (i := 3) (lv' := [(0, .ref (gad (xG X) 11)), (1, .ref (gad (xG X) 1)), (2, .int a1), (3, .int (0 : Int32))]) C dX10_read_14 rfl (by decide) [1, 2, 3, 0] rfl ?_
    exact r_lv [0, 1, 2, 3] rfl ((wX10_readS  C hR hcs hF big) _ _ _ hf)
  · rw [if_neg c27] at hf
    refine r_iconst (v := (-1)) C dX10_read_11 (by decide) ?_
    cases hf
    exact r_iret C hF dX10_read_12
def BX10_readL_0  (rec : Hp → Int32 → Int32 → Option (Int32 × Hp)) (h : Hp) (y2 : Int32) (y3 : Int32) : Option (Int32 × Hp) := (if y2 ≤ y3 then cl9 (fX9_failNext h) (fun h2 => some ((h2 1 5), h2)) else cl9 (fX3_takeLine h) (fun h4 => cl2 (fX9_atEnd h4) (fun x8 h6 => cl9 ((if x8 = (0 : Int32) then (if (fX9_failed h6) = (0 : Int32) then some false else some true) else some true) : Option Bool) (fun q9 => if q9 = true then some ((h6 1 5), h6) else cl2 (fX9_takeSign h6 (59 : Int32)) (fun x17 h15 => (if x17 = (0 : Int32) then cl9 (fX9_failNext h15) (fun h20 => some ((h20 1 5), h20)) else lt9 (y3 + (1 : Int32)) (fun x19 => rec h15 y2 x19)))))))
def LX10_readL  : Nat → Hp → Int32 → Int32 → Option (Int32 × Hp)
  | 0, _, _, _ => none
  | n + 1, h, y2, y3 => BX10_readL_0  (LX10_readL  n) h y2 y3
def fX10_readL (h : Hp) (a1 : Int32) : Option (Int32 × Hp) := cl9 (fX9_open h) (fun h22 => cl2 (fX9_atEnd h22) (fun x26 h24 => (if x26 = (0 : Int32) then LX10_readL big h24 a1 (0 : Int32) else some ((-1 : Int32), h24))))
set_option maxHeartbeats 4000000 in
set_option maxRecDepth 100000 in
theorem wX10_readL {X : Cx}  {rr : Int32} {hh : Hp} (C : OK X cX10_read 4 RX10 (some .int)) (hR : xR X = { frames := 86, cells := 0, slots := 0, locals := 5504 }) (hcs : True) (hF : FinR X (some (.int rr)) hh) : ∀ n : Nat, (∀ (h : Hp) (y2 : Int32) (y3 : Int32), LX10_readL  n h y2 y3 = some (rr, hh) → VW X 4 h 0 0 15 [(0, .ref (gad (xG X) 12)), (1, .ref (gad (xG X) 1)), (2, .int y2), (3, .int y3)] []) := by
  intro n
  induction n with
  | zero => exact (fun _ _ _ hf => (by rw [LX10_readL] at hf; cases hf))
  | succ n ih =>
    intro h y2 y3 hf
    rw [LX10_readL] at hf
    unfold BX10_readL_0 at hf
    refine r_iload_n (i := 3) C dX10_read_15 rfl 3 rfl ?_
    refine r_iload_n (i := 2) C dX10_read_16 rfl 2 rfl ?_
    refine r_icmp_ge C 68 dX10_read_17 (by decide) (fun c1 => ?_) (fun c1 => ?_)
    · rw [if_pos c1] at hf
      refine r_aload_n (i := 1) C dX10_read_68 rfl 1 rfl ?_
      obtain ⟨h2, e3, hf⟩ := cl_of hf
      refine r_callNVv (As := []) (st := []) C 1 rfl (by decide) rfl (kX9_failNext (xG X) e3) cw_X10_35 rfl rfl (Nat.le_of_ble_eq_true rfl) (zr2 hR rfl rfl) (zrcs hcs) dX10_read_69 ?_
      refine r_aload_n (i := 1) C dX10_read_72 rfl 1 rfl ?_
      refine g_X10_27 C dX10_read_73 ?_
      cases hf
      exact r_iret C hF dX10_read_76
    · rw [if_neg c1] at hf
      refine r_aload_n (i := 0) C dX10_read_20 rfl 0 rfl ?_
      refine r_aload_n (i := 1) C dX10_read_21 rfl 1 rfl ?_
      obtain ⟨h4, e5, hf⟩ := cl_of hf
      refine r_callUv (As := [.ref (gad (xG X) 1)]) (st := []) C 12 rfl (by decide) rfl (kX3_takeLine (xG X) e5) cu_X10_18_X3 rfl rfl (Nat.le_of_ble_eq_true rfl) (zr2 hR rfl rfl) (zrcs hcs) dX10_read_22 ?_
      refine r_aload_n (i := 1) C dX10_read_25 rfl 1 rfl ?_
      obtain ⟨x8, h6, e7, hf⟩ := cl2_of hf
      refine r_callNVi (As := []) (st := []) C 1 rfl (by decide) rfl (kX9_atEnd (xG X) e7) cw_X10_14 rfl rfl (Nat.le_of_ble_eq_true rfl) (zr2 hR rfl rfl) (zrcs hcs) dX10_read_26 ?_
      obtain ⟨q9, r12, hf⟩ := cl_of hf
      have k10 : q9 = true → VW X 4 h6 0 0 39 [(0, .ref (gad (xG X) 12)), (1, .ref (gad (xG X) 1)), (2, .int y2), (3, .int y3)] [] := fun qq => by
        rw [if_pos qq] at hf
        refine r_aload_n (i := 1) C dX10_read_39 rfl 1 rfl ?_
        refine g_X10_27 C dX10_read_40 ?_
        cases hf
        exact r_iret C hF dX10_read_43
      have k11 : q9 = false → VW X 4 h6 0 0 44 [(0, .ref (gad (xG X) 12)), (1, .ref (gad (xG X) 1)), (2, .int y2), (3, .int y3)] [] := fun qq => by
        rw [if_neg (by rw [qq]; decide)] at hf
        refine r_aload_n (i := 1) C dX10_read_44 rfl 1 rfl ?_
        refine r_bipush (v := 59) C dX10_read_45 (by decide) ?_
        obtain ⟨x17, h15, e16, hf⟩ := cl2_of hf
        refine r_callNVi (As := [.int (59 : Int32)]) (st := []) C 1 rfl (by decide) rfl (kX9_takeSign (xG X) e16) cw_X10_31 rfl rfl (Nat.le_of_ble_eq_true rfl) (zr2 hR rfl rfl) (zrcs hcs) dX10_read_47 ?_
        refine r_if_ne C 62 dX10_read_50 (by decide) (fun c18 => ?_) (fun c18 => ?_)
        · rw [if_neg c18] at hf
          obtain ⟨x19, ex19, hf⟩ := lt_of hf
          refine r_iinc (j := 3) (v := x19) (lv' := [(0, .ref (gad (xG X) 12)), (1, .ref (gad (xG X) 1)), (2, .int y2), (3, .int x19)]) C dX10_read_62 rfl (by rw [ex19]; rfl) (by decide) [1, 2, 3, 0] rfl ?_
          refine r_goto C 15 dX10_read_65 (by decide) ?_
          exact r_lv [0, 1, 2, 3] rfl (ih _ _ _ hf)
        · rw [if_pos c18] at hf
          refine r_aload_n (i := 1) C dX10_read_53 rfl 1 rfl ?_
          obtain ⟨h20, e21, hf⟩ := cl_of hf
          refine r_callNVv (As := []) (st := []) C 1 rfl (by decide) rfl (kX9_failNext (xG X) e21) cw_X10_35 rfl rfl (Nat.le_of_ble_eq_true rfl) (zr2 hR rfl rfl) (zrcs hcs) dX10_read_54 ?_
          refine r_aload_n (i := 1) C dX10_read_57 rfl 1 rfl ?_
          refine g_X10_27 C dX10_read_58 ?_
          cases hf
          exact r_iret C hF dX10_read_61
      clear hf
      have hf := r12
      refine r_if_ne C 39 dX10_read_29 (by decide) (fun c13 => ?_) (fun c13 => ?_)
      · rw [if_neg c13] at hf
        exact k10 (Option.some.inj hf).symm
      · rw [if_pos c13] at hf
        refine r_aload_n (i := 1) C dX10_read_32 rfl 1 rfl ?_
        refine r_callNVi (As := []) (st := []) C 1 rfl (by decide) rfl (kX9_failed (xG X)) cw_X10_24 rfl rfl (Nat.le_of_ble_eq_true rfl) (zr2 hR rfl rfl) (zrcs hcs) dX10_read_33 ?_
        refine r_if_eq C 44 dX10_read_36 (by decide) (fun c14 => ?_) (fun c14 => ?_)
        · rw [if_pos c14] at hf
          exact k11 (Option.some.inj hf).symm
        · rw [if_neg c14] at hf
          exact k10 (Option.some.inj hf).symm
set_option maxHeartbeats 4000000 in
set_option maxRecDepth 100000 in
theorem kX10_readL (G : Gx)  {h : Hp} {a1 : Int32} {rr : Int32} {hh : Hp} (hf : fX10_readL h a1 = some (rr, hh)) : MC G yX10_read cX10_read 4 (some .int) 86 5504 h [.ref (gad G 12), .ref (gad G 1), .int a1] (some (.int rr)) hh := by
  refine MC.of RX10 (by decide) rfl (Nat.le_of_ble_eq_true rfl) rfl (fun X C hG hR hF => ?_)
  subst hG
  have hcs : True := trivial
  unfold fX10_readL at hf
  refine r_aload_n (i := 1) C dX10_read_0 rfl 1 rfl ?_
  obtain ⟨h22, e23, hf⟩ := cl_of hf
  refine r_callNVv (As := []) (st := []) C 1 rfl (by decide) rfl (kX9_open (xG X) e23) cw_X10_9 rfl rfl (Nat.le_of_ble_eq_true rfl) (zr2 hR rfl rfl) (zrcs hcs) dX10_read_1 ?_
  refine r_aload_n (i := 1) C dX10_read_4 rfl 1 rfl ?_
  obtain ⟨x26, h24, e25, hf⟩ := cl2_of hf
  refine r_callNVi (As := []) (st := []) C 1 rfl (by decide) rfl (kX9_atEnd (xG X) e25) cw_X10_14 rfl rfl (Nat.le_of_ble_eq_true rfl) (zr2 hR rfl rfl) (zrcs hcs) dX10_read_5 ?_
  refine r_if_eq C 13 dX10_read_8 (by decide) (fun c27 => ?_) (fun c27 => ?_)
  · rw [if_pos c27] at hf
    refine r_iconst (v := 0) C dX10_read_13 (by decide) ?_
    refine r_istore_n (i := 3) (lv' := [(0, .ref (gad (xG X) 12)), (1, .ref (gad (xG X) 1)), (2, .int a1), (3, .int (0 : Int32))]) C dX10_read_14 rfl (by decide) [1, 2, 3, 0] rfl ?_
    exact r_lv [0, 1, 2, 3] rfl ((wX10_readL  C hR hcs hF big) _ _ _ hf)
  · rw [if_neg c27] at hf
    refine r_iconst (v := (-1)) C dX10_read_11 (by decide) ?_
    cases hf
    exact r_iret C hF dX10_read_12

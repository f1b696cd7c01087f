def fX8_takePlaceValue (h : Hp) (ar an : Nat) (a1 : Int32) : Option (Hp) := cl2 (fX9_takeNumber h (0 : Int32) (15 : Int32)) (fun x3 h1 => cl2 (fX9_takeNumber h1 (0 : Int32) a1) (fun x6 h4 => (if x3 = (-1 : Int32) then some h4 else gd (inb x3 an) (lt9 (up2 h4 ar x3.toNatClampNeg x6) (fun h9 => some h9)))))
set_option maxHeartbeats 4000000 in
set_option maxRecDepth 100000 in
theorem kX8_takePlaceValue (G : Gx) {ar an : Nat} {aq : List Nat} (hda : dsc ar = .inr (0, an, aq)) (hla : ar < NC) {h : Hp} {a1 : Int32} {hh : Hp} (hf : fX8_takePlaceValue h ar an a1 = some hh) : MC G yX8_takePlaceValue cX8_takePlaceValue 6 none 3 192 h [.ref (gad G 11), .ref (gad G 1), .ref (gad G ar), .int a1] none hh := by
  refine MC.of RX8 (by decide) rfl (Nat.le_of_ble_eq_true rfl) rfl (fun X C hG hR hF => ?_)
  subst hG
  have hcs : True := trivial
  unfold fX8_takePlaceValue at hf
  refine r_aload_n (i := 1) C dX8_takePlaceValue_0 rfl 1 rfl ?_
  refine r_iconst (v := 0) C dX8_takePlaceValue_1 (by decide) ?_
  refine r_bipush (v := 15) C dX8_takePlaceValue_2 (by decide) ?_
  obtain ⟨x3, h1, e2, hf⟩ := cl2_of hf
  refine r_callNVi (As := [.int (0 : Int32), .int (15 : Int32)]) (st := []) C 1 rfl (by decide) rfl (kX9_takeNumber (xG X) e2) cw_X8_62 rfl rfl (Nat.le_of_ble_eq_true rfl) (zr2 hR rfl rfl) (zrcs hcs) dX8_takePlaceValue_4 ?_
  refine r_istore (i := 4) (lv' := [(0, .ref (gad (xG X) 11)), (1, .ref (gad (xG X) 1)), (2, .ref (gad (xG X) ar)), (3, .int a1), (4, .int x3)]) C dX8_takePlaceValue_7 (by decide) [1, 2, 3, 4, 0] rfl ?_
  refine r_aload_n (i := 1) C dX8_takePlaceValue_9 rfl 1 rfl ?_
  refine r_iconst (v := 0) C dX8_takePlaceValue_10 (by decide) ?_
  refine r_iload_n (i := 3) C dX8_takePlaceValue_11 rfl 3 rfl ?_
  obtain ⟨x6, h4, e5, hf⟩ := cl2_of hf
  refine r_callNVi (As := [.int (0 : Int32), .int a1]) (st := []) C 1 rfl (by decide) rfl (kX9_takeNumber (xG X) e5) cw_X8_62 rfl rfl (Nat.le_of_ble_eq_true rfl) (zr2 hR rfl rfl) (zrcs hcs) dX8_takePlaceValue_12 ?_
  refine r_istore (i := 5) (lv' := [(0, .ref (gad (xG X) 11)), (1, .ref (gad (xG X) 1)), (2, .ref (gad (xG X) ar)), (3, .int a1), (4, .int x3), (5, .int x6)]) C dX8_takePlaceValue_15 (by decide) [1, 2, 3, 4, 5, 0] rfl ?_
  refine r_iload (i := 4) C dX8_takePlaceValue_17 4 rfl ?_
  refine r_iconst (v := (-1)) C dX8_takePlaceValue_19 (by decide) ?_
  refine r_icmp_eq C 29 dX8_takePlaceValue_20 (by decide) (fun c7 => ?_) (fun c7 => ?_)
  · rw [if_pos c7] at hf
    cases hf
    exact r_vret C hF dX8_takePlaceValue_29
  · rw [if_neg c7] at hf
    refine r_aload_n (i := 2) C dX8_takePlaceValue_23 rfl 2 rfl ?_
    refine r_iload (i := 4) C dX8_takePlaceValue_24 4 rfl ?_
    refine r_iload (i := 5) C dX8_takePlaceValue_26 5 rfl ?_
    obtain ⟨g8, hf⟩ := gd_of hf
    obtain ⟨h9, eh9, hf⟩ := lt_of hf
    refine r_iast C ar eh9 hda hla g8 dX8_takePlaceValue_28 ?_
    cases hf
    exact r_vret C hF dX8_takePlaceValue_29
def fX8_takeBare (h : Hp) : Option (Hp) := cl2 (fX9_takeNumber h (0 : Int32) (15 : Int32)) (fun x3 h1 => (if x3 = (-1 : Int32) then some h1 else lt9 (up2 h1 65 4 ((h1 65 4) ||| ((1 : Int32) <<< (x3 &&& 31)))) (fun h5 => some h5)))
set_option maxHeartbeats 4000000 in
set_option maxRecDepth 100000 in
theorem kX8_takeBare (G : Gx)  {h : Hp}  {hh : Hp} (hf : fX8_takeBare h = some hh) : MC G yX8_takeBare cX8_takeBare 3 none 3 192 h [.ref (gad G 11), .ref (gad G 1)] none hh := by
  refine MC.of RX8 (by decide) rfl (Nat.le_of_ble_eq_true rfl) rfl (fun X C hG hR hF => ?_)
  subst hG
  have hcs : True := trivial
  unfold fX8_takeBare at hf
  refine r_aload_n (i := 1) C dX8_takeBare_0 rfl 1 rfl ?_
  refine r_iconst (v := 0) C dX8_takeBare_1 (by decide) ?_
  refine r_bipush (v := 15) C dX8_takeBare_2 (by decide) ?_
  obtain ⟨x3, h1, e2, hf⟩ := cl2_of hf
  refine r_callNVi (As := [.int (0 : Int32), .int (15 : Int32)]) (st := []) C 1 rfl (by decide) rfl (kX9_takeNumber (xG X) e2) cw_X8_62 rfl rfl (Nat.le_of_ble_eq_true rfl) (zr2 hR rfl rfl) (zrcs hcs) dX8_takeBare_4 ?_
  refine r_istore_n (i := 2) (lv' := [(0, .ref (gad (xG X) 11)), (1, .ref (gad (xG X) 1)), (2, .int x3)]) C dX8_takeBare_7 rfl (by decide) [1, 2, 0] rfl ?_
  refine r_iload_n (i := 2) C dX8_takeBare_8 rfl 2 rfl ?_
  refine r_iconst (v := (-1)) C dX8_takeBare_9 (by decide) ?_
  refine r_icmp_eq C 28 dX8_takeBare_10 (by decide) (fun c4 => ?_) (fun c4 => ?_)
  · rw [if_pos c4] at hf
    cases hf
    exact r_vret C hF dX8_takeBare_28
  · rw [if_neg c4] at hf
    refine r_aload_n (i := 0) C dX8_takeBare_13 rfl 0 rfl ?_
    refine g_X8_12 C dX8_takeBare_14 ?_
    refine r_dup C dX8_takeBare_17 rfl ?_
    refine g_X8_101 sk65 C dX8_takeBare_18 ?_
    refine r_iconst (v := 1) C dX8_takeBare_21 (by decide) ?_
    refine r_iload_n (i := 2) C dX8_takeBare_22 rfl 2 rfl ?_
    refine r_ishl C dX8_takeBare_23 ?_
    refine r_ior C dX8_takeBare_24 ?_
    obtain ⟨h5, eh5, hf⟩ := lt_of hf
    refine p_X8_101 sk65 C eh5 dX8_takeBare_25 ?_
    cases hf
    exact r_vret C hF dX8_takeBare_28
def fX1_strainAt (h : Hp) (b : Nat) (a1 : Int32) : Option (Int32) := gd (inb a1 16) (cl9 (fX1_gap h (h b 5) a1) (fun x2 => cl9 (fX2_total h 6 b (0 : Int32) a1 x2 (fX7_hasPin h b a1)) (fun x4 => some ((h (b + 3) a1.toNatClampNeg) + x4))))
set_option maxHeartbeats 4000000 in
set_option maxRecDepth 100000 in
theorem kX1_strainAt (G : Gx) {b : Nat} (hb : isSky b) {h : Hp} {a1 : Int32} {rr : Int32} (hf : fX1_strainAt h b a1 = some rr) : MC G yX1_strainAt cX1_strainAt 3 (some .int) 4 256 h [.ref (gad G 3), .ref (gad G b), .int a1] (some (.int rr)) h := by
  refine MC.of RX1 (by decide) rfl (Nat.le_of_ble_eq_true rfl) rfl (fun X C hG hR hF => ?_)
  subst hG
  have hcs : True := trivial
  unfold fX1_strainAt at hf
  refine r_aload_n (i := 1) C dX1_strainAt_0 rfl 1 rfl ?_
  refine g_X1_25 hb C dX1_strainAt_1 ?_
  refine r_iload_n (i := 2) C dX1_strainAt_4 rfl 2 rfl ?_
  obtain ⟨g1, hf⟩ := gd_of hf
  refine r_iald C (b + 3) (sky_dsc hb 3 (by decide)) (sky_lt hb 3 (by decide)) g1 dX1_strainAt_5 ?_
  refine r_aload_n (i := 0) C dX1_strainAt_6 rfl 0 rfl ?_
  refine g_X1_12 C dX1_strainAt_7 ?_
  refine r_iconst (v := 0) C dX1_strainAt_10 (by decide) ?_
  refine r_aload_n (i := 1) C dX1_strainAt_11 rfl 1 rfl ?_
  refine r_iload_n (i := 2) C dX1_strainAt_12 rfl 2 rfl ?_
  refine r_aload_n (i := 1) C dX1_strainAt_13 rfl 1 rfl ?_
  refine g_X1_30 hb C dX1_strainAt_14 ?_
  refine r_iload_n (i := 2) C dX1_strainAt_17 rfl 2 rfl ?_
  obtain ⟨x2, e3, hf⟩ := cl_of hf
  refine r_callSi (As := [.int (h b 5), .int a1]) (st := [.int a1, .ref (gad (xG X) b), .int (0 : Int32), .ref (gad (xG X) 6), .int (h (b + 3) a1.toNatClampNeg)]) C (kX1_gap (xG X) e3) cw_X1_34 rfl rfl (Nat.le_of_ble_eq_true rfl) (zr2 hR rfl rfl) (zrcs hcs) dX1_strainAt_18 ?_
  refine r_aload_n (i := 1) C dX1_strainAt_21 rfl 1 rfl ?_
  refine r_iload_n (i := 2) C dX1_strainAt_22 rfl 2 rfl ?_
  refine r_callNVi (As := [.int a1]) (st := [.int x2, .int a1, .ref (gad (xG X) b), .int (0 : Int32), .ref (gad (xG X) 6), .int (h (b + 3) a1.toNatClampNeg)]) C b (sky_d0 hb) (sky_l0 hb) rfl (kX7_hasPin (xG X) hb) cw_X1_38 rfl rfl (Nat.le_of_ble_eq_true rfl) (zr2 hR rfl rfl) (zrcs hcs) dX1_strainAt_23 ?_
  obtain ⟨x4, e5, hf⟩ := cl_of hf
  refine r_callNVi (As := [.int (0 : Int32), .ref (gad (xG X) b), .int a1, .int x2, .int (fX7_hasPin h b a1)]) (st := [.int (h (b + 3) a1.toNatClampNeg)]) C 6 (law_d0 lk6) (law_l0 lk6) rfl (kX2_total (xG X) lk6 hb e5) cw_X1_42 rfl rfl (Nat.le_of_ble_eq_true rfl) (zr2 hR rfl rfl) (zrcs hcs) dX1_strainAt_26 ?_
  refine r_iadd C dX1_strainAt_29 ?_
  cases hf
  exact r_iret C hF dX1_strainAt_30
def fX1_rustsBy (h : Hp) (b : Nat) (a1 : Int32) : Option (Int32) := (if (fX7_hasPin h b a1) = (0 : Int32) then some (0 : Int32) else (if (h 6 0) = (-1 : Int32) then some (1 : Int32) else cl9 (fX1_gap h (h b 5) a1) (fun x3 => cl9 (fX2_total h 6 b (1 : Int32) a1 x3 (1 : Int32)) (fun x5 => some x5))))
set_option maxHeartbeats 4000000 in
set_option maxRecDepth 100000 in
theorem kX1_rustsBy (G : Gx) {b : Nat} (hb : isSky b) {h : Hp} {a1 : Int32} {rr : Int32} (hf : fX1_rustsBy h b a1 = some rr) : MC G yX1_rustsBy cX1_rustsBy 3 (some .int) 4 256 h [.ref (gad G 3), .ref (gad G b), .int a1] (some (.int rr)) h := by
  refine MC.of RX1 (by decide) rfl (Nat.le_of_ble_eq_true rfl) rfl (fun X C hG hR hF => ?_)
  subst hG
  have hcs : True := trivial
  unfold fX1_rustsBy at hf
  refine r_aload_n (i := 1) C dX1_rustsBy_0 rfl 1 rfl ?_
  refine r_iload_n (i := 2) C dX1_rustsBy_1 rfl 2 rfl ?_
  refine r_callNVi (As := [.int a1]) (st := []) C b (sky_d0 hb) (sky_l0 hb) rfl (kX7_hasPin (xG X) hb) cw_X1_38 rfl rfl (Nat.le_of_ble_eq_true rfl) (zr2 hR rfl rfl) (zrcs hcs) dX1_rustsBy_2 ?_
  refine r_if_ne C 10 dX1_rustsBy_5 (by decide) (fun c1 => ?_) (fun c1 => ?_)
  · rw [if_neg c1] at hf
    refine r_aload_n (i := 0) C dX1_rustsBy_10 rfl 0 rfl ?_
    refine g_X1_12 C dX1_rustsBy_11 ?_
    refine g_X1_46 lk6 C dX1_rustsBy_14 ?_
    refine r_iconst (v := (-1)) C dX1_rustsBy_17 (by decide) ?_
    refine r_icmp_ne C 25 dX1_rustsBy_18 (by decide) (fun c2 => ?_) (fun c2 => ?_)
    · rw [if_neg c2] at hf
      refine r_aload_n (i := 0) C dX1_rustsBy_25 rfl 0 rfl ?_
      refine g_X1_12 C dX1_rustsBy_26 ?_
      refine r_iconst (v := 1) C dX1_rustsBy_29 (by decide) ?_
      refine r_aload_n (i := 1) C dX1_rustsBy_30 rfl 1 rfl ?_
      refine r_iload_n (i := 2) C dX1_rustsBy_31 rfl 2 rfl ?_
      refine r_aload_n (i := 1) C dX1_rustsBy_32 rfl 1 rfl ?_
      refine g_X1_30 hb C dX1_rustsBy_33 ?_
      refine r_iload_n (i := 2) C dX1_rustsBy_36 rfl 2 rfl ?_
      obtain ⟨x3, e4, hf⟩ := cl_of hf
      refine r_callSi (As := [.int (h b 5), .int a1]) (st := [.int a1, .ref (gad (xG X) b), .int (1 : Int32), .ref (gad (xG X) 6)]) C (kX1_gap (xG X) e4) cw_X1_34 rfl rfl (Nat.le_of_ble_eq_true rfl) (zr2 hR rfl rfl) (zrcs hcs) dX1_rustsBy_37 ?_
      refine r_iconst (v := 1) C dX1_rustsBy_40 (by decide) ?_
      obtain ⟨x5, e6, hf⟩ := cl_of hf
      refine r_callNVi (As := [.int (1 : Int32), .ref (gad (xG X) b), .int a1, .int x3, .int (1 : Int32)]) (st := []) C 6 (law_d0 lk6) (law_l0 lk6) rfl (kX2_total (xG X) lk6 hb e6) cw_X1_42 rfl rfl (Nat.le_of_ble_eq_true rfl) (zr2 hR rfl rfl) (zrcs hcs) dX1_rustsBy_41 ?_
      cases hf
      exact r_iret C hF dX1_rustsBy_44
    · rw [if_pos c2] at hf
      refine r_iconst (v := 1) C dX1_rustsBy_21 (by decide) ?_
      refine r_goto C 44 dX1_rustsBy_22 (by decide) ?_
      cases hf
      exact r_iret C hF dX1_rustsBy_44
  · rw [if_pos c1] at hf
    refine r_iconst (v := 0) C dX1_rustsBy_8 (by decide) ?_
    cases hf
    exact r_iret C hF dX1_rustsBy_9
def fX1_holds (h : Hp) (b : Nat) (a1 : Int32) (a2 : Int32) : Option (Int32 × Hp) := lt9 ((1 : Int32) <<< (a2 &&& 31)) (fun x1 => gd (inb a1 16) (cl9 ((if ((h 4 a1.toNatClampNeg) &&& x1) = (0 : Int32) then gd (inb a1 16) (gd (inb a1 16) (lt9 (up2 h 4 a1.toNatClampNeg ((h 4 a1.toNatClampNeg) ||| x1)) (fun h9 => gd (inb a1 16) (gd (inb a1 16) (cl9 (fX2_total h9 6 b (0 : Int32) a1 a2 (1 : Int32)) (fun x12 => lt9 (((h9 (b + 4) a1.toNatClampNeg) + (h9 (b + 3) a1.toNatClampNeg)) + x12) (fun x14 => cl9 ((if x14 < (60 : Int32) then some true else cl9 (fX2_some h9 6 b (2 : Int32) a1 a2 (1 : Int32)) (fun x20 => (if x20 = (0 : Int32) then some false else some true))) : Option Bool) (fun q15 => if q15 = true then gd (inb a1 16) (gd (inb a1 16) (lt9 (up2 h9 5 a1.toNatClampNeg ((h9 5 a1.toNatClampNeg) ||| x1)) (fun h25 => some h25))) else some h9)))))))) else some h) : Option (Hp)) (fun h3 => gd (inb a1 16) ((if ((h3 5 a1.toNatClampNeg) &&& x1) = (0 : Int32) then some ((0 : Int32), h3) else some ((1 : Int32), h3))))))
set_option maxHeartbeats 4000000 in
set_option maxRecDepth 100000 in
theorem kX1_holds (G : Gx) {b : Nat} (hb : isSky b) {h : Hp} {a1 : Int32} {a2 : Int32} {rr : Int32} {hh : Hp} (hf : fX1_holds h b a1 a2 = some (rr, hh)) : MC G yX1_holds cX1_holds 6 (some .boolean) 4 256 h [.ref (gad G 3), .ref (gad G b), .int a1, .int a2] (some (.int rr)) hh := by
  refine MC.of RX1 (by decide) rfl (Nat.le_of_ble_eq_true rfl) rfl (fun X C hG hR hF => ?_)
  subst hG
  have hcs : True := trivial
  unfold fX1_holds at hf
  refine r_iconst (v := 1) C dX1_holds_0 (by decide) ?_
  refine r_iload_n (i := 3) C dX1_holds_1 rfl 3 rfl ?_
  refine r_ishl C dX1_holds_2 ?_
  obtain ⟨x1, ex1, hf⟩ := lt_of hf
  refine r_top ex1 ?_
  refine r_istore (i := 4) (lv' := [(0, .ref (gad (xG X) 3)), (1, .ref (gad (xG X) b)), (2, .int a1), (3, .int a2), (4, .int x1)]) C dX1_holds_3 (by decide) [1, 2, 3, 4, 0] rfl ?_
  refine r_aload_n (i := 0) C dX1_holds_5 rfl 0 rfl ?_
  refine g_X1_18 C dX1_holds_6 ?_
  refine r_iload_n (i := 2) C dX1_holds_9 rfl 2 rfl ?_
  obtain ⟨g2, hf⟩ := gd_of hf
  refine r_iald C 4 rfl (by decide) g2 dX1_holds_10 ?_
  refine r_iload (i := 4) C dX1_holds_11 4 rfl ?_
  refine r_iand C dX1_holds_13 ?_
  obtain ⟨h3, r5, hf⟩ := cl_of hf
  have k4 : VW X 6 h3 0 0 89 [(0, .ref (gad (xG X) 3)), (1, .ref (gad (xG X) b)), (2, .int a1), (4, .int x1)] [] := by
    refine r_aload_n (i := 0) C dX1_holds_89 rfl 0 rfl ?_
    refine g_X1_22 C dX1_holds_90 ?_
    refine r_iload_n (i := 2) C dX1_holds_93 rfl 2 rfl ?_
    obtain ⟨g26, hf⟩ := gd_of hf
    refine r_iald C 5 rfl (by decide) g26 dX1_holds_94 ?_
    refine r_iload (i := 4) C dX1_holds_95 3 rfl ?_
    refine r_iand C dX1_holds_97 ?_
    refine r_if_eq C 105 dX1_holds_98 (by decide) (fun c27 => ?_) (fun c27 => ?_)
    · rw [if_pos c27] at hf
      refine r_iconst (v := 0) C dX1_holds_105 (by decide) ?_
      have zz : (0 : Int32) = 0 ∨ (0 : Int32) = 1 := (Or.inl rfl)
      cases hf
      exact r_zret C zz hF dX1_holds_106
    · rw [if_neg c27] at hf
      refine r_iconst (v := 1) C dX1_holds_101 (by decide) ?_
      refine r_goto C 106 dX1_holds_102 (by decide) ?_
      have zz : (1 : Int32) = 0 ∨ (1 : Int32) = 1 := (Or.inr rfl)
      cases hf
      exact r_zret C zz hF dX1_holds_106
  clear hf
  have hf := r5
  refine r_if_ne C 89 dX1_holds_14 (by decide) (fun c6 => ?_) (fun c6 => ?_)
  · rw [if_neg c6] at hf
    cases hf
    exact r_lv [0, 1, 2, 4] rfl k4
  · rw [if_pos c6] at hf
    refine r_aload_n (i := 0) C dX1_holds_17 rfl 0 rfl ?_
    refine g_X1_18 C dX1_holds_18 ?_
    refine r_iload_n (i := 2) C dX1_holds_21 rfl 2 rfl ?_
    refine r_dup2 C dX1_holds_22 rfl rfl ?_
    obtain ⟨g7, hf⟩ := gd_of hf
    refine r_iald C 4 rfl (by decide) g7 dX1_holds_23 ?_
    refine r_iload (i := 4) C dX1_holds_24 4 rfl ?_
    refine r_ior C dX1_holds_26 ?_
    obtain ⟨g8, hf⟩ := gd_of hf
    obtain ⟨h9, eh9, hf⟩ := lt_of hf
    refine r_iast C 4 eh9 rfl (by decide) g8 dX1_holds_27 ?_
    refine r_aload_n (i := 1) C dX1_holds_28 rfl 1 rfl ?_
    refine g_X1_87 hb C dX1_holds_29 ?_
    refine r_iload_n (i := 2) C dX1_holds_32 rfl 2 rfl ?_
    obtain ⟨g10, hf⟩ := gd_of hf
    refine r_iald C (b + 4) (sky_dsc hb 4 (by decide)) (sky_lt hb 4 (by decide)) g10 dX1_holds_33 ?_
    refine r_aload_n (i := 1) C dX1_holds_34 rfl 1 rfl ?_
    refine g_X1_25 hb C dX1_holds_35 ?_
    refine r_iload_n (i := 2) C dX1_holds_38 rfl 2 rfl ?_
    obtain ⟨g11, hf⟩ := gd_of hf
    refine r_iald C (b + 3) (sky_dsc hb 3 (by decide)) (sky_lt hb 3 (by decide)) g11 dX1_holds_39 ?_
    refine r_iadd C dX1_holds_40 ?_
    refine r_aload_n (i := 0) C dX1_holds_41 rfl 0 rfl ?_
    refine g_X1_12 C dX1_holds_42 ?_
    refine r_iconst (v := 0) C dX1_holds_45 (by decide) ?_
    refine r_aload_n (i := 1) C dX1_holds_46 rfl 1 rfl ?_
    refine r_iload_n (i := 2) C dX1_holds_47 rfl 2 rfl ?_
    refine r_iload_n (i := 3) C dX1_holds_48 rfl 3 rfl ?_
    refine r_iconst (v := 1) C dX1_holds_49 (by decide) ?_
    obtain ⟨x12, e13, hf⟩ := cl_of hf
    refine r_callNVi (As := [.int (0 : Int32), .ref (gad (xG X) b), .int a1, .int a2, .int (1 : Int32)]) (st := [.int ((h9 (b + 4) a1.toNatClampNeg) + (h9 (b + 3) a1.toNatClampNeg))]) C 6 (law_d0 lk6) (law_l0 lk6) rfl (kX2_total (xG X) lk6 hb e13) cw_X1_42 rfl rfl (Nat.le_of_ble_eq_true rfl) (zr2 hR rfl rfl) (zrcs hcs) dX1_holds_50 ?_
    refine r_iadd C dX1_holds_53 ?_
    obtain ⟨x14, ex14, hf⟩ := lt_of hf
    refine r_top ex14 ?_
    refine r_istore (i := 5) (lv' := [(0, .ref (gad (xG X) 3)), (1, .ref (gad (xG X) b)), (2, .int a1), (3, .int a2), (4, .int x1), (5, .int x14)]) C dX1_holds_54 (by decide) [1, 2, 3, 4, 5, 0] rfl ?_
    refine r_iload (i := 5) C dX1_holds_56 5 rfl ?_
    refine r_bipush (v := 60) C dX1_holds_58 (by decide) ?_
    obtain ⟨q15, r18, hf⟩ := cl_of hf
    have k16 : q15 = true → VW X 6 h9 0 0 78 [(0, .ref (gad (xG X) 3)), (1, .ref (gad (xG X) b)), (2, .int a1), (3, .int a2), (4, .int x1), (5, .int x14)] [] := fun qq => by
      rw [if_pos qq] at hf
      refine r_aload_n (i := 0) C dX1_holds_78 rfl 0 rfl ?_
      refine g_X1_22 C dX1_holds_79 ?_
      refine r_iload_n (i := 2) C dX1_holds_82 rfl 2 rfl ?_
      refine r_dup2 C dX1_holds_83 rfl rfl ?_
      obtain ⟨g23, hf⟩ := gd_of hf
      refine r_iald C 5 rfl (by decide) g23 dX1_holds_84 ?_
      refine r_iload (i := 4) C dX1_holds_85 4 rfl ?_
      refine r_ior C dX1_holds_87 ?_
      obtain ⟨g24, hf⟩ := gd_of hf
      obtain ⟨h25, eh25, hf⟩ := lt_of hf
      refine r_iast C 5 eh25 rfl (by decide) g24 dX1_holds_88 ?_
      cases hf
      exact r_lv [0, 1, 2, 4] rfl k4
    have k17 : q15 = false → VW X 6 h9 0 0 89 [(0, .ref (gad (xG X) 3)), (1, .ref (gad (xG X) b)), (2, .int a1), (3, .int a2), (4, .int x1), (5, .int x14)] [] := fun qq => by
      rw [if_neg (by rw [qq]; decide)] at hf
      cases hf
      exact r_lv [0, 1, 2, 4] rfl k4
    clear hf
    have hf := r18
    refine r_icmp_lt C 78 dX1_holds_60 (by decide) (fun c19 => ?_) (fun c19 => ?_)
    · rw [if_pos c19] at hf
      exact k16 (Option.some.inj hf).symm
    · rw [if_neg c19] at hf
      refine r_aload_n (i := 0) C dX1_holds_63 rfl 0 rfl ?_
      refine g_X1_12 C dX1_holds_64 ?_
      refine r_iconst (v := 2) C dX1_holds_67 (by decide) ?_
      refine r_aload_n (i := 1) C dX1_holds_68 rfl 1 rfl ?_
      refine r_iload_n (i := 2) C dX1_holds_69 rfl 2 rfl ?_
      refine r_iload_n (i := 3) C dX1_holds_70 rfl 3 rfl ?_
      refine r_iconst (v := 1) C dX1_holds_71 (by decide) ?_
      obtain ⟨x20, e21, hf⟩ := cl_of hf
      refine r_callNVi (As := [.int (2 : Int32), .ref (gad (xG X) b), .int a1, .int a2, .int (1 : Int32)]) (st := []) C 6 (law_d0 lk6) (law_l0 lk6) rfl (kX2_some (xG X) lk6 hb e21) cw_X1_90 rfl rfl (Nat.le_of_ble_eq_true rfl) (zr2 hR rfl rfl) (zrcs hcs) dX1_holds_72 ?_
      refine r_if_eq C 89 dX1_holds_75 (by decide) (fun c22 => ?_) (fun c22 => ?_)
      · rw [if_pos c22] at hf
        exact k17 (Option.some.inj hf).symm
      · rw [if_neg c22] at hf
        exact k16 (Option.some.inj hf).symm
def BX11_weakest_0 (h : Hp) (rec : Int32 → Int32 → Int32 → Option (Int32)) (y1 : Int32) (y2 : Int32) (y3 : Int32) : Option (Int32) := (if (16 : Int32) ≤ y3 then some y1 else (if (fX7_hasPin h 32 y3) = (0 : Int32) then lt9 (y3 + (1 : Int32)) (fun x3 => rec y1 y2 x3) else gd (inb y3 16) (cl9 (fX1_strainAt h 32 y3) (fun x5 => lt9 ((h (32 + 4) y3.toNatClampNeg) + x5) (fun x7 => (if x7 ≤ y2 then lt9 (y3 + (1 : Int32)) (fun x9 => rec y1 y2 x9) else lt9 (y3 + (1 : Int32)) (fun x10 => rec y3 x7 x10)))))))
def LX11_weakest (h : Hp) : Nat → Int32 → Int32 → Int32 → Option (Int32)
  | 0, _, _, _ => none
  | n + 1, y1, y2, y3 => BX11_weakest_0 h (LX11_weakest h n) y1 y2 y3
def fX11_weakest (h : Hp) : Option (Int32) := LX11_weakest h big (-1 : Int32) (-1 : Int32) (0 : Int32)
set_option maxHeartbeats 4000000 in
set_option maxRecDepth 100000 in
theorem wX11_weakest {X : Cx} {h : Hp}  (C : OK X cX11_weakest 5 RX11 (some .int)) (hR : xR X = { frames := 5, cells := 0, slots := 0, locals := 320 }) (hcs : True) {rr : Int32} (hF : FinR X (some (.int rr)) h) : ∀ n : Nat, (∀ (y1 : Int32) (y2 : Int32) (y3 : Int32), LX11_weakest h n y1 y2 y3 = some rr → VW X 5 h 0 0 6 [(0, .ref (gad (xG X) 0)), (1, .int y1), (2, .int y2), (3, .int y3)] []) := by
  intro n
  induction n with
  | zero => exact (fun _ _ _ hf => (by rw [LX11_weakest] at hf; cases hf))
  | succ n ih =>
    intro y1 y2 y3 hf
    rw [LX11_weakest] at hf
    unfold BX11_weakest_0 at hf
    refine r_iload_n (i := 3) C dX11_weakest_6 rfl 3 rfl ?_
    refine r_bipush (v := 16) C dX11_weakest_7 (by decide) ?_
    refine r_icmp_ge C 64 dX11_weakest_9 (by decide) (fun c1 => ?_) (fun c1 => ?_)
    · rw [if_pos c1] at hf
      refine r_iload_n (i := 1) C dX11_weakest_64 rfl 1 rfl ?_
      cases hf
      exact r_iret C hF dX11_weakest_65
    · rw [if_neg c1] at hf
      refine r_aload_n (i := 0) C dX11_weakest_12 rfl 0 rfl ?_
      refine g_X11_54 C dX11_weakest_13 ?_
      refine r_iload_n (i := 3) C dX11_weakest_16 rfl 3 rfl ?_
      refine r_callNVi (As := [.int y3]) (st := []) C 32 (sky_d0 sk32) (sky_l0 sk32) rfl (kX7_hasPin (xG X) sk32) cw_X11_151 rfl rfl (Nat.le_of_ble_eq_true rfl) (zr2 hR rfl rfl) (zrcs hcs) dX11_weakest_17 ?_
      refine r_if_eq C 58 dX11_weakest_20 (by decide) (fun c2 => ?_) (fun c2 => ?_)
      · rw [if_pos c2] at hf
        obtain ⟨x3, ex3, hf⟩ := lt_of hf
        refine r_iinc (j := 3) (v := x3) (lv' := [(0, .ref (gad (xG X) 0)), (1, .int y1), (2, .int y2), (3, .int x3)]) C dX11_weakest_58 rfl (by rw [ex3]; rfl) (by decide) [1, 2, 3, 0] rfl ?_
        refine r_goto C 6 dX11_weakest_61 (by decide) ?_
        exact r_lv [0, 1, 2, 3] rfl (ih _ _ _ hf)
      · rw [if_neg c2] at hf
        refine r_aload_n (i := 0) C dX11_weakest_23 rfl 0 rfl ?_
        refine g_X11_54 C dX11_weakest_24 ?_
        refine g_X11_154 sk32 C dX11_weakest_27 ?_
        refine r_iload_n (i := 3) C dX11_weakest_30 rfl 3 rfl ?_
        obtain ⟨g4, hf⟩ := gd_of hf
        refine r_iald C (32 + 4) (sky_dsc sk32 4 (by decide)) (sky_lt sk32 4 (by decide)) g4 dX11_weakest_31 ?_
        refine r_aload_n (i := 0) C dX11_weakest_32 rfl 0 rfl ?_
        refine g_X11_19 C dX11_weakest_33 ?_
        refine r_aload_n (i := 0) C dX11_weakest_36 rfl 0 rfl ?_
        refine g_X11_54 C dX11_weakest_37 ?_
        refine r_iload_n (i := 3) C dX11_weakest_40 rfl 3 rfl ?_
        obtain ⟨x5, e6, hf⟩ := cl_of hf
        refine r_callNVi (As := [.ref (gad (xG X) 32), .int y3]) (st := [.int (h (32 + 4) y3.toNatClampNeg)]) C 3 rfl (by decide) rfl (kX1_strainAt (xG X) sk32 e6) cw_X11_157 rfl rfl (Nat.le_of_ble_eq_true rfl) (zr2 hR rfl rfl) (zrcs hcs) dX11_weakest_41 ?_
        refine r_iadd C dX11_weakest_44 ?_
        obtain ⟨x7, ex7, hf⟩ := lt_of hf
        refine r_top ex7 ?_
        refine r_istore (i := 4) (lv' := [(0, .ref (gad (xG X) 0)), (1, .int y1), (2, .int y2), (3, .int y3), (4, .int x7)]) C dX11_weakest_45 (by decide) [1, 2, 3, 4, 0] rfl ?_
        refine r_iload (i := 4) C dX11_weakest_47 4 rfl ?_
        refine r_iload_n (i := 2) C dX11_weakest_49 rfl 2 rfl ?_
        refine r_icmp_le C 58 dX11_weakest_50 (by decide) (fun c8 => ?_) (fun c8 => ?_)
        · rw [if_pos c8] at hf
          obtain ⟨x9, ex9, hf⟩ := lt_of hf
          refine r_iinc (j := 3) (v := x9) (lv' := [(0, .ref (gad (xG X) 0)), (1, .int y1), (2, .int y2), (3, .int x9), (4, .int x7)]) C dX11_weakest_58 rfl (by rw [ex9]; rfl) (by decide) [1, 2, 3, 0, 4] rfl ?_
          refine r_goto C 6 dX11_weakest_61 (by decide) ?_
          exact r_lv [0, 1, 2, 3] rfl (ih _ _ _ hf)
        · rw [if_neg c8] at hf
          refine r_iload (i := 4) C dX11_weakest_53 4 rfl ?_
          refine r_istore_n (i := 2) (lv' := [(0, .ref (gad (xG X) 0)), (1, .int y1), (2, .int x7), (3, .int y3), (4, .int x7)]) C dX11_weakest_55 rfl (by decide) [1, 2, 0, 3, 4] rfl ?_
          refine r_iload_n (i := 3) C dX11_weakest_56 rfl 3 rfl ?_
          refine r_istore_n (i := 1) (lv' := [(0, .ref (gad (xG X) 0)), (1, .int y3), (2, .int x7), (3, .int y3), (4, .int x7)]) C dX11_weakest_57 rfl (by decide) [1, 0, 2, 3, 4] rfl ?_
          obtain ⟨x10, ex10, hf⟩ := lt_of hf
          refine r_iinc (j := 3) (v := x10) (lv' := [(0, .ref (gad (xG X) 0)), (1, .int y3), (2, .int x7), (3, .int x10), (4, .int x7)]) C dX11_weakest_58 rfl (by rw [ex10]; rfl) (by decide) [1, 2, 3, 0, 4] rfl ?_
          refine r_goto C 6 dX11_weakest_61 (by decide) ?_
          exact r_lv [0, 1, 2, 3] rfl (ih _ _ _ hf)
set_option maxHeartbeats 4000000 in
set_option maxRecDepth 100000 in
theorem kX11_weakest (G : Gx)  {h : Hp}  {rr : Int32} (hf : fX11_weakest h = some rr) : MC G yX11_weakest cX11_weakest 5 (some .int) 5 320 h [.ref (gad G 0)] (some (.int rr)) h := by
  refine MC.of RX11 (by decide) rfl (Nat.le_of_ble_eq_true rfl) rfl (fun X C hG hR hF => ?_)
  subst hG
  have hcs : True := trivial
  unfold fX11_weakest at hf
  refine r_iconst (v := (-1)) C dX11_weakest_0 (by decide) ?_
  refine r_istore_n (i := 1) (lv' := [(0, .ref (gad (xG X) 0)), (1, .int (-1 : Int32))]) C dX11_weakest_1 rfl (by decide) [1, 0] rfl ?_
  refine r_iconst (v := (-1)) C dX11_weakest_2 (by decide) ?_
  refine r_istore_n (i := 2) (lv' := [(0, .ref (gad (xG X) 0)), (1, .int (-1 : Int32)), (2, .int (-1 : Int32))]) C dX11_weakest_3 rfl (by decide) [1, 2, 0] rfl ?_
  refine r_iconst (v := 0) C dX11_weakest_4 (by decide) ?_
  refine r_istore_n (i := 3) (lv' := [(0, .ref (gad (xG X) 0)), (1, .int (-1 : Int32)), (2, .int (-1 : Int32)), (3, .int (0 : Int32))]) C dX11_weakest_5 rfl (by decide) [1, 2, 3, 0] rfl ?_
  exact r_lv [0, 1, 2, 3] rfl ((wX11_weakest  C hR hcs hF big) _ _ _ hf)
def BX1_holdingWith_0 (b : Nat) (rec : Hp → Int32 → Int32 → Int32 → Option (Int32 × Hp)) (h : Hp) (y2 : Int32) (y3 : Int32) (y4 : Int32) : Option (Int32 × Hp) := (if (16 : Int32) ≤ y4 then some (y3, h) else (if (fX11_has y2 y4) = (0 : Int32) then lt9 (y4 + (1 : Int32)) (fun x3 => rec h y2 y3 x3) else cl9 (fX1_gap h y2 y4) (fun x4 => cl2 (fX1_holds h b y4 x4) (fun x8 h6 => (if x8 = (0 : Int32) then lt9 (y4 + (1 : Int32)) (fun x10 => rec h6 y2 y3 x10) else lt9 (y3 ||| ((1 : Int32) <<< (y4 &&& 31))) (fun x11 => lt9 (y4 + (1 : Int32)) (fun x12 => rec h6 y2 x11 x12)))))))
def LX1_holdingWith (b : Nat) : Nat → Hp → Int32 → Int32 → Int32 → Option (Int32 × Hp)
  | 0, _, _, _, _ => none
  | n + 1, h, y2, y3, y4 => BX1_holdingWith_0 b (LX1_holdingWith b n) h y2 y3 y4
def fX1_holdingWith (h : Hp) (b : Nat) (a1 : Int32) : Option (Int32 × Hp) := LX1_holdingWith b big h a1 (0 : Int32) (0 : Int32)
set_option maxHeartbeats 4000000 in
set_option maxRecDepth 100000 in
theorem wX1_holdingWith {X : Cx} {b : Nat} (hb : isSky b) (C : OK X cX1_holdingWith 5 RX1 (some .int)) (hR : xR X = { frames := 5, cells := 0, slots := 0, locals := 320 }) (hcs : True) {rr : Int32} {hh : Hp} (hF : FinR X (some (.int rr)) hh) : ∀ n : Nat, (∀ (h : Hp) (y2 : Int32) (y3 : Int32) (y4 : Int32), LX1_holdingWith b n h y2 y3 y4 = some (rr, hh) → VW X 5 h 0 0 5 [(0, .ref (gad (xG X) 3)), (1, .ref (gad (xG X) b)), (2, .int y2), (3, .int y3), (4, .int y4)] []) := by
  intro n
  induction n with
  | zero => exact (fun _ _ _ _ hf => (by rw [LX1_holdingWith] at hf; cases hf))
  | succ n ih =>
    intro h y2 y3 y4 hf
    rw [LX1_holdingWith] at hf
    unfold BX1_holdingWith_0 at hf
    refine r_iload (i := 4) C dX1_holdingWith_5 4 rfl ?_
    refine r_bipush (v := 16) C dX1_holdingWith_7 (by decide) ?_
    refine r_icmp_ge C 50 dX1_holdingWith_9 (by decide) (fun c1 => ?_) (fun c1 => ?_)
    · rw [if_pos c1] at hf
      refine r_iload_n (i := 3) C dX1_holdingWith_50 rfl 3 rfl ?_
      cases hf
      exact r_iret C hF dX1_holdingWith_51
    · rw [if_neg c1] at hf
      refine r_iload_n (i := 2) C dX1_holdingWith_12 rfl 2 rfl ?_
      refine r_iload (i := 4) C dX1_holdingWith_13 4 rfl ?_
      refine r_callNSi (As := [.int y2, .int y4]) (st := []) C (kX11_has (xG X)) cw_X1_79 rfl rfl (Nat.le_of_ble_eq_true rfl) (zr2 hR rfl rfl) (zrcs hcs) dX1_holdingWith_15 ?_
      refine r_if_eq C 44 dX1_holdingWith_18 (by decide) (fun c2 => ?_) (fun c2 => ?_)
      · rw [if_pos c2] at hf
        obtain ⟨x3, ex3, hf⟩ := lt_of hf
        refine r_iinc (j := 4) (v := x3) (lv' := [(0, .ref (gad (xG X) 3)), (1, .ref (gad (xG X) b)), (2, .int y2), (3, .int y3), (4, .int x3)]) C dX1_holdingWith_44 rfl (by rw [ex3]; rfl) (by decide) [1, 2, 3, 4, 0] rfl ?_
        refine r_goto C 5 dX1_holdingWith_47 (by decide) ?_
        exact r_lv [0, 1, 2, 3, 4] rfl (ih _ _ _ _ hf)
      · rw [if_neg c2] at hf
        refine r_aload_n (i := 0) C dX1_holdingWith_21 rfl 0 rfl ?_
        refine r_aload_n (i := 1) C dX1_holdingWith_22 rfl 1 rfl ?_
        refine r_iload (i := 4) C dX1_holdingWith_23 4 rfl ?_
        refine r_iload_n (i := 2) C dX1_holdingWith_25 rfl 2 rfl ?_
        refine r_iload (i := 4) C dX1_holdingWith_26 4 rfl ?_
        obtain ⟨x4, e5, hf⟩ := cl_of hf
        refine r_callSi (As := [.int y2, .int y4]) (st := [.int y4, .ref (gad (xG X) b), .ref (gad (xG X) 3)]) C (kX1_gap (xG X) e5) cw_X1_34 rfl rfl (Nat.le_of_ble_eq_true rfl) (zr2 hR rfl rfl) (zrcs hcs) dX1_holdingWith_28 ?_
        obtain ⟨x8, h6, e7, hf⟩ := cl2_of hf
        refine r_callVi (As := [.ref (gad (xG X) b), .int y4, .int x4]) (st := []) C 3 rfl (by decide) rfl (kX1_holds (xG X) hb e7) cw_X1_83 rfl rfl (Nat.le_of_ble_eq_true rfl) (zr2 hR rfl rfl) (zrcs hcs) dX1_holdingWith_31 ?_
        refine r_if_eq C 44 dX1_holdingWith_34 (by decide) (fun c9 => ?_) (fun c9 => ?_)
        · rw [if_pos c9] at hf
          obtain ⟨x10, ex10, hf⟩ := lt_of hf
          refine r_iinc (j := 4) (v := x10) (lv' := [(0, .ref (gad (xG X) 3)), (1, .ref (gad (xG X) b)), (2, .int y2), (3, .int y3), (4, .int x10)]) C dX1_holdingWith_44 rfl (by rw [ex10]; rfl) (by decide) [1, 2, 3, 4, 0] rfl ?_
          refine r_goto C 5 dX1_holdingWith_47 (by decide) ?_
          exact r_lv [0, 1, 2, 3, 4] rfl (ih _ _ _ _ hf)
        · rw [if_neg c9] at hf
          refine r_iload_n (i := 3) C dX1_holdingWith_37 rfl 3 rfl ?_
          refine r_iconst (v := 1) C dX1_holdingWith_38 (by decide) ?_
          refine r_iload (i := 4) C dX1_holdingWith_39 4 rfl ?_
          refine r_ishl C dX1_holdingWith_41 ?_
          refine r_ior C dX1_holdingWith_42 ?_
          obtain ⟨x11, ex11, hf⟩ := lt_of hf
          refine r_top ex11 ?_
          refine r_istore_n (i := 3) (lv' := [(0, .ref (gad (xG X) 3)), (1, .ref (gad (xG X) b)), (2, .int y2), (3, .int x11), (4, .int y4)]) C dX1_holdingWith_43 rfl (by decide) [1, 2, 3, 0, 4] rfl ?_
          obtain ⟨x12, ex12, hf⟩ := lt_of hf
          refine r_iinc (j := 4) (v := x12) (lv' := [(0, .ref (gad (xG X) 3)), (1, .ref (gad (xG X) b)), (2, .int y2), (3, .int x11), (4, .int x12)]) C dX1_holdingWith_44 rfl (by rw [ex12]; rfl) (by decide) [1, 2, 3, 4, 0] rfl ?_
          refine r_goto C 5 dX1_holdingWith_47 (by decide) ?_
          exact r_lv [0, 1, 2, 3, 4] rfl (ih _ _ _ _ hf)
set_option maxHeartbeats 4000000 in
set_option maxRecDepth 100000 in
theorem kX1_holdingWith (G : Gx) {b : Nat} (hb : isSky b) {h : Hp} {a1 : Int32} {rr : Int32} {hh : Hp} (hf : fX1_holdingWith h b a1 = some (rr, hh)) : MC G yX1_holdingWith cX1_holdingWith 5 (some .int) 5 320 h [.ref (gad G 3), .ref (gad G b), .int a1] (some (.int rr)) hh := by
  refine MC.of RX1 (by decide) rfl (Nat.le_of_ble_eq_true rfl) rfl (fun X C hG hR hF => ?_)
  subst hG
  have hcs : True := trivial
  unfold fX1_holdingWith at hf
  refine r_iconst (v := 0) C dX1_holdingWith_0 (by decide) ?_
  refine r_istore_n (i := 3) (lv' := [(0, .ref (gad (xG X) 3)), (1, .ref (gad (xG X) b)), (2, .int a1), (3, .int (0 : Int32))]) C dX1_holdingWith_1 rfl (by decide) [1, 2, 3, 0] rfl ?_
  refine r_iconst (v := 0) C dX1_holdingWith_2 (by decide) ?_
  refine r_istore (i := 4) (lv' := [(0, .ref (gad (xG X) 3)), (1, .ref (gad (xG X) b)), (2, .int a1), (3, .int (0 : Int32)), (4, .int (0 : Int32))]) C dX1_holdingWith_3 (by decide) [1, 2, 3, 4, 0] rfl ?_
  exact r_lv [0, 1, 2, 3, 4] rfl ((wX1_holdingWith hb C hR hcs hF big) _ _ _ _ hf)
def fX1_standingWith (h : Hp) (b : Nat) (a1 : Int32) : Option (Int32 × Hp) := cl2 (fX1_holdingWith h b a1) (fun x3 h1 => cl9 (fX7_standing h1 b x3 (h1 b 8) (h1 b 9)) (fun x4 => some (x4, h1)))
set_option maxHeartbeats 4000000 in
set_option maxRecDepth 100000 in
theorem kX1_standingWith (G : Gx) {b : Nat} (hb : isSky b) {h : Hp} {a1 : Int32} {rr : Int32} {hh : Hp} (hf : fX1_standingWith h b a1 = some (rr, hh)) : MC G yX1_standingWith cX1_standingWith 3 (some .int) 6 384 h [.ref (gad G 3), .ref (gad G b), .int a1] (some (.int rr)) hh := by
  refine MC.of RX1 (by decide) rfl (Nat.le_of_ble_eq_true rfl) rfl (fun X C hG hR hF => ?_)
  subst hG
  have hcs : True := trivial
  unfold fX1_standingWith at hf
  refine r_aload_n (i := 1) C dX1_standingWith_0 rfl 1 rfl ?_
  refine r_aload_n (i := 0) C dX1_standingWith_1 rfl 0 rfl ?_
  refine r_aload_n (i := 1) C dX1_standingWith_2 rfl 1 rfl ?_
  refine r_iload_n (i := 2) C dX1_standingWith_3 rfl 2 rfl ?_
  obtain ⟨x3, h1, e2, hf⟩ := cl2_of hf
  refine r_callVi (As := [.ref (gad (xG X) b), .int a1]) (st := [.ref (gad (xG X) b)]) C 3 rfl (by decide) rfl (kX1_holdingWith (xG X) hb e2) cw_X1_61 rfl rfl (Nat.le_of_ble_eq_true rfl) (zr2 hR rfl rfl) (zrcs hcs) dX1_standingWith_4 ?_
  refine r_aload_n (i := 1) C dX1_standingWith_7 rfl 1 rfl ?_
  refine g_X1_69 hb C dX1_standingWith_8 ?_
  refine r_aload_n (i := 1) C dX1_standingWith_11 rfl 1 rfl ?_
  refine g_X1_72 hb C dX1_standingWith_12 ?_
  obtain ⟨x4, e5, hf⟩ := cl_of hf
  refine r_callNVi (As := [.int x3, .int (h1 b 8), .int (h1 b 9)]) (st := []) C b (sky_d0 hb) (sky_l0 hb) rfl (kX7_standing (xG X) hb e5) cw_X1_75 rfl rfl (Nat.le_of_ble_eq_true rfl) (zr2 hR rfl rfl) (zrcs hcs) dX1_standingWith_15 ?_
  cases hf
  exact r_iret C hF dX1_standingWith_18
def BX1_dayMore_0 (b : Nat) (rec : Hp → Int32 → Int32 → Option (Int32 × Hp)) (h : Hp) (y2 : Int32) (y3 : Int32) : Option (Int32 × Hp) := (if (16 : Int32) ≤ y3 then cl9 ((if y2 = (0 : Int32) then some h else cl9 (fX1_blow h b) (fun h6 => cl9 (fX1_gnaw h6 b) (fun h8 => some h8))) : Option (Hp)) (fun h2 => cl9 (fX1_startOver h2) (fun h10 => cl2 (fX1_holdingWith h10 b (h10 b 5)) (fun x14 h12 => cl9 (fX7_losePins h12 b ((h10 b 5) &&& (x14 ^^^ (-1 : Int32)))) (fun h15 => cl9 (fX7_endDay h15 b) (fun h17 => some (((h b 5) &&& ((h17 b 5) ^^^ (-1 : Int32))), h17)))))) else (if (fX7_hasPin h b y3) = (0 : Int32) then lt9 (y3 + (1 : Int32)) (fun x20 => rec h y2 x20) else cl9 (fX1_rustsBy h b y3) (fun x21 => cl9 (fX7_rustMore h b y3 x21) (fun h23 => lt9 (y3 + (1 : Int32)) (fun x25 => rec h23 y2 x25)))))
def LX1_dayMore (b : Nat) : Nat → Hp → Int32 → Int32 → Option (Int32 × Hp)
  | 0, _, _, _ => none
  | n + 1, h, y2, y3 => BX1_dayMore_0 b (LX1_dayMore b n) h y2 y3
def fX1_dayMore (h : Hp) (b : Nat) (a1 : Int32) : Option (Int32 × Hp) := LX1_dayMore b big h a1 (0 : Int32)
set_option maxHeartbeats 4000000 in
set_option maxRecDepth 100000 in
theorem wX1_dayMore {X : Cx} {b : Nat} (hb : isSky b) (C : OK X cX1_dayMore 4 RX1 (some .int)) (hR : xR X = { frames := 6, cells := 0, slots := 0, locals := 384 }) (hcs : True) {rr : Int32} {hh : Hp} (hF : FinR X (some (.int rr)) hh) : ∀ n : Nat, (∀ (h : Hp) (y2 : Int32) (y3 : Int32), LX1_dayMore b n h y2 y3 = some (rr, hh) → VW X 4 h 0 0 2 [(0, .ref (gad (xG X) 3)), (1, .ref (gad (xG X) b)), (2, .int y2), (3, .int y3)] []) := by
  intro n
  induction n with
  | zero => exact (fun _ _ _ hf => (by rw [LX1_dayMore] at hf; cases hf))
  | succ n ih =>
    intro h y2 y3 hf
    rw [LX1_dayMore] at hf
    unfold BX1_dayMore_0 at hf
    refine r_iload_n (i := 3) C dX1_dayMore_2 rfl 3 rfl ?_
    refine r_bipush (v := 16) C dX1_dayMore_3 (by decide) ?_
    refine r_icmp_ge C 33 dX1_dayMore_5 (by decide) (fun c1 => ?_) (fun c1 => ?_)
    · rw [if_pos c1] at hf
      refine r_aload_n (i := 1) C dX1_dayMore_33 rfl 1 rfl ?_
      refine g_X1_30 hb C dX1_dayMore_34 ?_
      refine r_istore_n (i := 3) (lv' := [(0, .ref (gad (xG X) 3)), (1, .ref (gad (xG X) b)), (2, .int y2), (3, .int (h b 5))]) C dX1_dayMore_37 rfl (by decide) [1, 2, 3, 0] rfl ?_
      refine r_iload_n (i := 2) C dX1_dayMore_38 rfl 2 rfl ?_
      obtain ⟨h2, r4, hf⟩ := cl_of hf
      have k3 : VW X 4 h2 0 0 50 [(0, .ref (gad (xG X) 3)), (1, .ref (gad (xG X) b)), (3, .int (h b 5))] [] := by
        refine r_aload_n (i := 0) C dX1_dayMore_50 rfl 0 rfl ?_
        obtain ⟨h10, e11, hf⟩ := cl_of hf
        refine r_callVv (As := []) (st := []) C 3 rfl (by decide) rfl (kX1_startOver (xG X) e11) cw_X1_58 rfl rfl (Nat.le_of_ble_eq_true rfl) (zr2 hR rfl rfl) (zrcs hcs) dX1_dayMore_51 ?_
        refine r_aload_n (i := 1) C dX1_dayMore_54 rfl 1 rfl ?_
        refine r_aload_n (i := 1) C dX1_dayMore_55 rfl 1 rfl ?_
        refine g_X1_30 hb C dX1_dayMore_56 ?_
        refine r_aload_n (i := 0) C dX1_dayMore_59 rfl 0 rfl ?_
        refine r_aload_n (i := 1) C dX1_dayMore_60 rfl 1 rfl ?_
        refine r_aload_n (i := 1) C dX1_dayMore_61 rfl 1 rfl ?_
        refine g_X1_30 hb C dX1_dayMore_62 ?_
        obtain ⟨x14, h12, e13, hf⟩ := cl2_of hf
        refine r_callVi (As := [.ref (gad (xG X) b), .int (h10 b 5)]) (st := [.int (h10 b 5), .ref (gad (xG X) b)]) C 3 rfl (by decide) rfl (kX1_holdingWith (xG X) hb e13) cw_X1_61 rfl rfl (Nat.le_of_ble_eq_true rfl) (zr2 hR rfl rfl) (zrcs hcs) dX1_dayMore_65 ?_
        refine r_iconst (v := (-1)) C dX1_dayMore_68 (by decide) ?_
        refine r_ixor C dX1_dayMore_69 ?_
        refine r_iand C dX1_dayMore_70 ?_
        obtain ⟨h15, e16, hf⟩ := cl_of hf
        refine r_callNVv (As := [.int ((h10 b 5) &&& (x14 ^^^ (-1 : Int32)))]) (st := []) C b (sky_d0 hb) (sky_l0 hb) rfl (kX7_losePins (xG X) hb e16) cw_X1_118 rfl rfl (Nat.le_of_ble_eq_true rfl) (zr2 hR rfl rfl) (zrcs hcs) dX1_dayMore_71 ?_
        refine r_aload_n (i := 1) C dX1_dayMore_74 rfl 1 rfl ?_
        obtain ⟨h17, e18, hf⟩ := cl_of hf
        refine r_callNVv (As := []) (st := []) C b (sky_d0 hb) (sky_l0 hb) rfl (kX7_endDay (xG X) hb e18) cw_X1_122 rfl rfl (Nat.le_of_ble_eq_true rfl) (zr2 hR rfl rfl) (zrcs hcs) dX1_dayMore_75 ?_
        refine r_iload_n (i := 3) C dX1_dayMore_78 rfl 2 rfl ?_
        refine r_aload_n (i := 1) C dX1_dayMore_79 rfl 1 rfl ?_
        refine g_X1_30 hb C dX1_dayMore_80 ?_
        refine r_iconst (v := (-1)) C dX1_dayMore_83 (by decide) ?_
        refine r_ixor C dX1_dayMore_84 ?_
        refine r_iand C dX1_dayMore_85 ?_
        cases hf
        exact r_iret C hF dX1_dayMore_86
      clear hf
      have hf := r4
      refine r_if_eq C 50 dX1_dayMore_39 (by decide) (fun c5 => ?_) (fun c5 => ?_)
      · rw [if_pos c5] at hf
        cases hf
        exact r_lv [0, 1, 3] rfl k3
      · rw [if_neg c5] at hf
        refine r_aload_n (i := 1) C dX1_dayMore_42 rfl 1 rfl ?_
        obtain ⟨h6, e7, hf⟩ := cl_of hf
        refine r_callSv (As := [.ref (gad (xG X) b)]) (st := []) C (kX1_blow (xG X) hb e7) cw_X1_111 rfl rfl (Nat.le_of_ble_eq_true rfl) (zr2 hR rfl rfl) (zrcs hcs) dX1_dayMore_43 ?_
        refine r_aload_n (i := 1) C dX1_dayMore_46 rfl 1 rfl ?_
        obtain ⟨h8, e9, hf⟩ := cl_of hf
        refine r_callSv (As := [.ref (gad (xG X) b)]) (st := []) C (kX1_gnaw (xG X) hb e9) cw_X1_115 rfl rfl (Nat.le_of_ble_eq_true rfl) (zr2 hR rfl rfl) (zrcs hcs) dX1_dayMore_47 ?_
        cases hf
        exact r_lv [0, 1, 3] rfl k3
    · rw [if_neg c1] at hf
      refine r_aload_n (i := 1) C dX1_dayMore_8 rfl 1 rfl ?_
      refine r_iload_n (i := 3) C dX1_dayMore_9 rfl 3 rfl ?_
      refine r_callNVi (As := [.int y3]) (st := []) C b (sky_d0 hb) (sky_l0 hb) rfl (kX7_hasPin (xG X) hb) cw_X1_38 rfl rfl (Nat.le_of_ble_eq_true rfl) (zr2 hR rfl rfl) (zrcs hcs) dX1_dayMore_10 ?_
      refine r_if_eq C 27 dX1_dayMore_13 (by decide) (fun c19 => ?_) (fun c19 => ?_)
      · rw [if_pos c19] at hf
        obtain ⟨x20, ex20, hf⟩ := lt_of hf
        refine r_iinc (j := 3) (v := x20) (lv' := [(0, .ref (gad (xG X) 3)), (1, .ref (gad (xG X) b)), (2, .int y2), (3, .int x20)]) C dX1_dayMore_27 rfl (by rw [ex20]; rfl) (by decide) [1, 2, 3, 0] rfl ?_
        refine r_goto C 2 dX1_dayMore_30 (by decide) ?_
        exact r_lv [0, 1, 2, 3] rfl (ih _ _ _ hf)
      · rw [if_neg c19] at hf
        refine r_aload_n (i := 1) C dX1_dayMore_16 rfl 1 rfl ?_
        refine r_iload_n (i := 3) C dX1_dayMore_17 rfl 3 rfl ?_
        refine r_aload_n (i := 0) C dX1_dayMore_18 rfl 0 rfl ?_
        refine r_aload_n (i := 1) C dX1_dayMore_19 rfl 1 rfl ?_
        refine r_iload_n (i := 3) C dX1_dayMore_20 rfl 3 rfl ?_
        obtain ⟨x21, e22, hf⟩ := cl_of hf
        refine r_callVi (As := [.ref (gad (xG X) b), .int y3]) (st := [.int y3, .ref (gad (xG X) b)]) C 3 rfl (by decide) rfl (kX1_rustsBy (xG X) hb e22) cw_X1_104 rfl rfl (Nat.le_of_ble_eq_true rfl) (zr2 hR rfl rfl) (zrcs hcs) dX1_dayMore_21 ?_
        obtain ⟨h23, e24, hf⟩ := cl_of hf
        refine r_callNVv (As := [.int y3, .int x21]) (st := []) C b (sky_d0 hb) (sky_l0 hb) rfl (kX7_rustMore (xG X) hb e24) cw_X1_107 rfl rfl (Nat.le_of_ble_eq_true rfl) (zr2 hR rfl rfl) (zrcs hcs) dX1_dayMore_24 ?_
        obtain ⟨x25, ex25, hf⟩ := lt_of hf
        refine r_iinc (j := 3) (v := x25) (lv' := [(0, .ref (gad (xG X) 3)), (1, .ref (gad (xG X) b)), (2, .int y2), (3, .int x25)]) C dX1_dayMore_27 rfl (by rw [ex25]; rfl) (by decide) [1, 2, 3, 0] rfl ?_
        refine r_goto C 2 dX1_dayMore_30 (by decide) ?_
        exact r_lv [0, 1, 2, 3] rfl (ih _ _ _ hf)
set_option maxHeartbeats 4000000 in
set_option maxRecDepth 100000 in
theorem kX1_dayMore (G : Gx) {b : Nat} (hb : isSky b) {h : Hp} {a1 : Int32} {rr : Int32} {hh : Hp} (hf : fX1_dayMore h b a1 = some (rr, hh)) : MC G yX1_dayMore cX1_dayMore 4 (some .int) 6 384 h [.ref (gad G 3), .ref (gad G b), .int a1] (some (.int rr)) hh := by
  refine MC.of RX1 (by decide) rfl (Nat.le_of_ble_eq_true rfl) rfl (fun X C hG hR hF => ?_)
  subst hG
  have hcs : True := trivial
  unfold fX1_dayMore at hf
  refine r_iconst (v := 0) C dX1_dayMore_0 (by decide) ?_
  refine r_istore_n (i := 3) (lv' := [(0, .ref (gad (xG X) 3)), (1, .ref (gad (xG X) b)), (2, .int a1), (3, .int (0 : Int32))]) C dX1_dayMore_1 rfl (by decide) [1, 2, 3, 0] rfl ?_
  exact r_lv [0, 1, 2, 3] rfl ((wX1_dayMore hb C hR hcs hF big) _ _ _ hf)
def BX11_gives_0  (rec : Hp → Int32 → Int32 → Option (Int32 × Hp)) (h : Hp) (y1 : Int32) (y2 : Int32) : Option (Int32 × Hp) := (if (60 : Int32) < y2 then (if y1 = (0 : Int32) then some ((-1 : Int32), h) else some ((0 : Int32), h)) else cl2 (fX1_dayMore h 43 (0 : Int32)) (fun x5 h3 => (if x5 = (0 : Int32) then lt9 (y2 + (1 : Int32)) (fun x7 => rec h3 y1 x7) else (if y1 = (0 : Int32) then some (y2, h3) else some (x5, h3)))))
def LX11_gives  : Nat → Hp → Int32 → Int32 → Option (Int32 × Hp)
  | 0, _, _, _ => none
  | n + 1, h, y1, y2 => BX11_gives_0  (LX11_gives  n) h y1 y2
def fX11_gives (h : Hp) (a1 : Int32) : Option (Int32 × Hp) := cl9 (fX7_become h 43 32) (fun h9 => LX11_gives big h9 a1 (1 : Int32))
set_option maxHeartbeats 4000000 in
set_option maxRecDepth 100000 in
theorem wX11_gives {X : Cx}  (C : OK X cX11_gives 4 RX11 (some .int)) (hR : xR X = { frames := 7, cells := 0, slots := 0, locals := 448 }) (hcs : True) {rr : Int32} {hh : Hp} (hF : FinR X (some (.int rr)) hh) : ∀ n : Nat, (∀ (h : Hp) (y1 : Int32) (y2 : Int32), LX11_gives  n h y1 y2 = some (rr, hh) → VW X 4 h 0 0 13 [(0, .ref (gad (xG X) 0)), (1, .int y1), (2, .int y2)] []) := by
  intro n
  induction n with
  | zero => exact (fun _ _ _ hf => (by rw [LX11_gives] at hf; cases hf))
  | succ n ih =>
    intro h y1 y2 hf
    rw [LX11_gives] at hf
    unfold BX11_gives_0 at hf
    refine r_iload_n (i := 2) C dX11_gives_13 rfl 2 rfl ?_
    refine r_bipush (v := 60) C dX11_gives_14 (by decide) ?_
    refine r_icmp_gt C 52 dX11_gives_16 (by decide) (fun c1 => ?_) (fun c1 => ?_)
    · rw [if_pos c1] at hf
      refine r_iload_n (i := 1) C dX11_gives_52 rfl 1 rfl ?_
      refine r_if_eq C 60 dX11_gives_53 (by decide) (fun c2 => ?_) (fun c2 => ?_)
      · rw [if_pos c2] at hf
        refine r_iconst (v := (-1)) C dX11_gives_60 (by decide) ?_
        cases hf
        exact r_iret C hF dX11_gives_61
      · rw [if_neg c2] at hf
        refine r_iconst (v := 0) C dX11_gives_56 (by decide) ?_
        refine r_goto C 61 dX11_gives_57 (by decide) ?_
        cases hf
        exact r_iret C hF dX11_gives_61
    · rw [if_neg c1] at hf
      refine r_aload_n (i := 0) C dX11_gives_19 rfl 0 rfl ?_
      refine g_X11_19 C dX11_gives_20 ?_
      refine r_aload_n (i := 0) C dX11_gives_23 rfl 0 rfl ?_
      refine g_X11_58 C dX11_gives_24 ?_
      refine r_iconst (v := 0) C dX11_gives_27 (by decide) ?_
      obtain ⟨x5, h3, e4, hf⟩ := cl2_of hf
      refine r_callNVi (As := [.ref (gad (xG X) 43), .int (0 : Int32)]) (st := []) C 3 rfl (by decide) rfl (kX1_dayMore (xG X) sk43 e4) cw_X11_253 rfl rfl (Nat.le_of_ble_eq_true rfl) (zr2 hR rfl rfl) (zrcs hcs) dX11_gives_28 ?_
      refine r_istore_n (i := 3) (lv' := [(0, .ref (gad (xG X) 0)), (1, .int y1), (2, .int y2), (3, .int x5)]) C dX11_gives_31 rfl (by decide) [1, 2, 3, 0] rfl ?_
      refine r_iload_n (i := 3) C dX11_gives_32 rfl 3 rfl ?_
      refine r_if_eq C 46 dX11_gives_33 (by decide) (fun c6 => ?_) (fun c6 => ?_)
      · rw [if_pos c6] at hf
        obtain ⟨x7, ex7, hf⟩ := lt_of hf
        refine r_iinc (j := 2) (v := x7) (lv' := [(0, .ref (gad (xG X) 0)), (1, .int y1), (2, .int x7), (3, .int x5)]) C dX11_gives_46 rfl (by rw [ex7]; rfl) (by decide) [1, 2, 0, 3] rfl ?_
        refine r_goto C 13 dX11_gives_49 (by decide) ?_
        exact r_lv [0, 1, 2] rfl (ih _ _ _ hf)
      · rw [if_neg c6] at hf
        refine r_iload_n (i := 1) C dX11_gives_36 rfl 1 rfl ?_
        refine r_if_eq C 44 dX11_gives_37 (by decide) (fun c8 => ?_) (fun c8 => ?_)
        · rw [if_pos c8] at hf
          refine r_iload_n (i := 2) C dX11_gives_44 rfl 2 rfl ?_
          cases hf
          exact r_iret C hF dX11_gives_45
        · rw [if_neg c8] at hf
          refine r_iload_n (i := 3) C dX11_gives_40 rfl 3 rfl ?_
          refine r_goto C 45 dX11_gives_41 (by decide) ?_
          cases hf
          exact r_iret C hF dX11_gives_45
set_option maxHeartbeats 4000000 in
set_option maxRecDepth 100000 in
theorem kX11_gives (G : Gx)  {h : Hp} {a1 : Int32} {rr : Int32} {hh : Hp} (hf : fX11_gives h a1 = some (rr, hh)) : MC G yX11_gives cX11_gives 4 (some .int) 7 448 h [.ref (gad G 0), .int a1] (some (.int rr)) hh := by
  refine MC.of RX11 (by decide) rfl (Nat.le_of_ble_eq_true rfl) rfl (fun X C hG hR hF => ?_)
  subst hG
  have hcs : True := trivial
  unfold fX11_gives at hf
  refine r_aload_n (i := 0) C dX11_gives_0 rfl 0 rfl ?_
  refine g_X11_58 C dX11_gives_1 ?_
  refine r_aload_n (i := 0) C dX11_gives_4 rfl 0 rfl ?_
  refine g_X11_54 C dX11_gives_5 ?_
  obtain ⟨h9, e10, hf⟩ := cl_of hf
  refine r_callNVv (As := [.ref (gad (xG X) 32)]) (st := []) C 43 (sky_d0 sk43) (sky_l0 sk43) rfl (kX7_become (xG X) sk43 sk32 e10) cw_X11_101 rfl rfl (Nat.le_of_ble_eq_true rfl) (zr2 hR rfl rfl) (zrcs hcs) dX11_gives_8 ?_
  refine r_iconst (v := 1) C dX11_gives_11 (by decide) ?_
  refine r_istore_n (i := 2) (lv' := [(0, .ref (gad (xG X) 0)), (1, .int a1), (2, .int (1 : Int32))]) C dX11_gives_12 rfl (by decide) [1, 2, 0] rfl ?_
  exact r_lv [0, 1, 2] rfl ((wX11_gives  C hR hcs hF big) _ _ _ hf)
def BX11_first_0  (rec : Hp → Int32 → Int32 → Int32 → Int32 → Option (Int32 × Hp)) (h : Hp) (y1 : Int32) (y2 : Int32) (y3 : Int32) (y4 : Int32) : Option (Int32 × Hp) := (if (16 : Int32) ≤ y4 then some (y2, h) else (if (fX11_has y1 y4) = (0 : Int32) then lt9 (y4 + (1 : Int32)) (fun x3 => rec h y1 y2 y3 x3) else cl2 (fX1_standingWith h 32 ((h 32 5) ||| ((1 : Int32) <<< (y4 &&& 31)))) (fun x6 h4 => lt9 (fJ_bitCount x6) (fun x7 => (if x7 ≤ y3 then lt9 (y4 + (1 : Int32)) (fun x9 => rec h4 y1 y2 y3 x9) else lt9 (y4 + (1 : Int32)) (fun x10 => rec h4 y1 y4 x7 x10))))))
def LX11_first  : Nat → Hp → Int32 → Int32 → Int32 → Int32 → Option (Int32 × Hp)
  | 0, _, _, _, _, _ => none
  | n + 1, h, y1, y2, y3, y4 => BX11_first_0  (LX11_first  n) h y1 y2 y3 y4
def fX11_first (h : Hp) : Option (Int32 × Hp) := cl9 (fX1_startOver h) (fun h11 => lt9 (fX7_free h11 32) (fun x13 => LX11_first big h11 x13 (-1 : Int32) (-1 : Int32) (0 : Int32)))
set_option maxHeartbeats 4000000 in
set_option maxRecDepth 100000 in
theorem wX11_first {X : Cx}  (C : OK X cX11_first 6 RX11 (some .int)) (hR : xR X = { frames := 7, cells := 0, slots := 0, locals := 448 }) (hcs : True) {rr : Int32} {hh : Hp} (hF : FinR X (some (.int rr)) hh) : ∀ n : Nat, (∀ (h : Hp) (y1 : Int32) (y2 : Int32) (y3 : Int32) (y4 : Int32), LX11_first  n h y1 y2 y3 y4 = some (rr, hh) → VW X 6 h 0 0 22 [(0, .ref (gad (xG X) 0)), (1, .int y1), (2, .int y2), (3, .int y3), (4, .int y4)] []) := by
  intro n
  induction n with
  | zero => exact (fun _ _ _ _ _ hf => (by rw [LX11_first] at hf; cases hf))
  | succ n ih =>
    intro h y1 y2 y3 y4 hf
    rw [LX11_first] at hf
    unfold BX11_first_0 at hf
    refine r_iload (i := 4) C dX11_first_22 4 rfl ?_
    refine r_bipush (v := 16) C dX11_first_24 (by decide) ?_
    refine r_icmp_ge C 84 dX11_first_26 (by decide) (fun c1 => ?_) (fun c1 => ?_)
    · rw [if_pos c1] at hf
      refine r_iload_n (i := 2) C dX11_first_84 rfl 2 rfl ?_
      cases hf
      exact r_iret C hF dX11_first_85
    · rw [if_neg c1] at hf
      refine r_iload_n (i := 1) C dX11_first_29 rfl 1 rfl ?_
      refine r_iload (i := 4) C dX11_first_30 4 rfl ?_
      refine r_callSi (As := [.int y1, .int y4]) (st := []) C (kX11_has (xG X)) cw_X11_165 rfl rfl (Nat.le_of_ble_eq_true rfl) (zr2 hR rfl rfl) (zrcs hcs) dX11_first_32 ?_
      refine r_if_eq C 78 dX11_first_35 (by decide) (fun c2 => ?_) (fun c2 => ?_)
      · rw [if_pos c2] at hf
        obtain ⟨x3, ex3, hf⟩ := lt_of hf
        refine r_iinc (j := 4) (v := x3) (lv' := [(0, .ref (gad (xG X) 0)), (1, .int y1), (2, .int y2), (3, .int y3), (4, .int x3)]) C dX11_first_78 rfl (by rw [ex3]; rfl) (by decide) [1, 2, 3, 4, 0] rfl ?_
        refine r_goto C 22 dX11_first_81 (by decide) ?_
        exact r_lv [0, 1, 2, 3, 4] rfl (ih _ _ _ _ _ hf)
      · rw [if_neg c2] at hf
        refine r_aload_n (i := 0) C dX11_first_38 rfl 0 rfl ?_
        refine g_X11_19 C dX11_first_39 ?_
        refine r_aload_n (i := 0) C dX11_first_42 rfl 0 rfl ?_
        refine g_X11_54 C dX11_first_43 ?_
        refine r_aload_n (i := 0) C dX11_first_46 rfl 0 rfl ?_
        refine g_X11_54 C dX11_first_47 ?_
        refine g_X11_276 sk32 C dX11_first_50 ?_
        refine r_iconst (v := 1) C dX11_first_53 (by decide) ?_
        refine r_iload (i := 4) C dX11_first_54 4 rfl ?_
        refine r_ishl C dX11_first_56 ?_
        refine r_ior C dX11_first_57 ?_
        obtain ⟨x6, h4, e5, hf⟩ := cl2_of hf
        refine r_callNVi (As := [.ref (gad (xG X) 32), .int ((h 32 5) ||| ((1 : Int32) <<< (y4 &&& 31)))]) (st := []) C 3 rfl (by decide) rfl (kX1_standingWith (xG X) sk32 e5) cw_X11_279 rfl rfl (Nat.le_of_ble_eq_true rfl) (zr2 hR rfl rfl) (zrcs hcs) dX11_first_58 ?_
        refine r_callSi (As := [.int x6]) (st := []) C (kJ_bitCount (xG X)) cw_X11_257 rfl rfl (Nat.le_of_ble_eq_true rfl) (zr2 hR rfl rfl) (zrcs hcs) dX11_first_61 ?_
        obtain ⟨x7, ex7, hf⟩ := lt_of hf
        refine r_top ex7 ?_
        refine r_istore (i := 5) (lv' := [(0, .ref (gad (xG X) 0)), (1, .int y1), (2, .int y2), (3, .int y3), (4, .int y4), (5, .int x7)]) C dX11_first_64 (by decide) [1, 2, 3, 4, 5, 0] rfl ?_
        refine r_iload (i := 5) C dX11_first_66 5 rfl ?_
        refine r_iload_n (i := 3) C dX11_first_68 rfl 3 rfl ?_
        refine r_icmp_le C 78 dX11_first_69 (by decide) (fun c8 => ?_) (fun c8 => ?_)
        · rw [if_pos c8] at hf
          obtain ⟨x9, ex9, hf⟩ := lt_of hf
          refine r_iinc (j := 4) (v := x9) (lv' := [(0, .ref (gad (xG X) 0)), (1, .int y1), (2, .int y2), (3, .int y3), (4, .int x9), (5, .int x7)]) C dX11_first_78 rfl (by rw [ex9]; rfl) (by decide) [1, 2, 3, 4, 0, 5] rfl ?_
          refine r_goto C 22 dX11_first_81 (by decide) ?_
          exact r_lv [0, 1, 2, 3, 4] rfl (ih _ _ _ _ _ hf)
        · rw [if_neg c8] at hf
          refine r_iload (i := 5) C dX11_first_72 5 rfl ?_
          refine r_istore_n (i := 3) (lv' := [(0, .ref (gad (xG X) 0)), (1, .int y1), (2, .int y2), (3, .int x7), (4, .int y4), (5, .int x7)]) C dX11_first_74 rfl (by decide) [1, 2, 3, 0, 4, 5] rfl ?_
          refine r_iload (i := 4) C dX11_first_75 4 rfl ?_
          refine r_istore_n (i := 2) (lv' := [(0, .ref (gad (xG X) 0)), (1, .int y1), (2, .int y4), (3, .int x7), (4, .int y4), (5, .int x7)]) C dX11_first_77 rfl (by decide) [1, 2, 0, 3, 4, 5] rfl ?_
          obtain ⟨x10, ex10, hf⟩ := lt_of hf
          refine r_iinc (j := 4) (v := x10) (lv' := [(0, .ref (gad (xG X) 0)), (1, .int y1), (2, .int y4), (3, .int x7), (4, .int x10), (5, .int x7)]) C dX11_first_78 rfl (by rw [ex10]; rfl) (by decide) [1, 2, 3, 4, 0, 5] rfl ?_
          refine r_goto C 22 dX11_first_81 (by decide) ?_
          exact r_lv [0, 1, 2, 3, 4] rfl (ih _ _ _ _ _ hf)
set_option maxHeartbeats 4000000 in
set_option maxRecDepth 100000 in
theorem kX11_first (G : Gx)  {h : Hp}  {rr : Int32} {hh : Hp} (hf : fX11_first h = some (rr, hh)) : MC G yX11_first cX11_first 6 (some .int) 7 448 h [.ref (gad G 0)] (some (.int rr)) hh := by
  refine MC.of RX11 (by decide) rfl (Nat.le_of_ble_eq_true rfl) rfl (fun X C hG hR hF => ?_)
  subst hG
  have hcs : True := trivial
  unfold fX11_first at hf
  refine r_aload_n (i := 0) C dX11_first_0 rfl 0 rfl ?_
  refine g_X11_19 C dX11_first_1 ?_
  obtain ⟨h11, e12, hf⟩ := cl_of hf
  refine r_callNVv (As := []) (st := []) C 3 rfl (by decide) rfl (kX1_startOver (xG X) e12) cw_X11_273 rfl rfl (Nat.le_of_ble_eq_true rfl) (zr2 hR rfl rfl) (zrcs hcs) dX11_first_4 ?_
  refine r_aload_n (i := 0) C dX11_first_7 rfl 0 rfl ?_
  refine g_X11_54 C dX11_first_8 ?_
  refine r_callNVi (As := []) (st := []) C 32 (sky_d0 sk32) (sky_l0 sk32) rfl (kX7_free (xG X) sk32) cw_X11_265 rfl rfl (Nat.le_of_ble_eq_true rfl) (zr2 hR rfl rfl) (zrcs hcs) dX11_first_11 ?_
  obtain ⟨x13, ex13, hf⟩ := lt_of hf
  refine r_top ex13 ?_
  refine r_istore_n (i := 1) (lv' := [(0, .ref (gad (xG X) 0)), (1, .int x13)]) C dX11_first_14 rfl (by decide) [1, 0] rfl ?_
  refine r_iconst (v := (-1)) C dX11_first_15 (by decide) ?_
  refine r_istore_n (i := 2) (lv' := [(0, .ref (gad (xG X) 0)), (1, .int x13), (2, .int (-1 : Int32))]) C dX11_first_16 rfl (by decide) [1, 2, 0] rfl ?_
  refine r_iconst (v := (-1)) C dX11_first_17 (by decide) ?_
  refine r_istore_n (i := 3) (lv' := [(0, .ref (gad (xG X) 0)), (1, .int x13), (2, .int (-1 : Int32)), (3, .int (-1 : Int32))]) C dX11_first_18 rfl (by decide) [1, 2, 3, 0] rfl ?_
  refine r_iconst (v := 0) C dX11_first_19 (by decide) ?_
  refine r_istore (i := 4) (lv' := [(0, .ref (gad (xG X) 0)), (1, .int x13), (2, .int (-1 : Int32)), (3, .int (-1 : Int32)), (4, .int (0 : Int32))]) C dX11_first_20 (by decide) [1, 2, 3, 4, 0] rfl ?_
  exact r_lv [0, 1, 2, 3, 4] rfl ((wX11_first  C hR hcs hF big) _ _ _ _ _ hf)
def fX11_standingWithout (h : Hp) (a1 : Int32) : Option (Int32 × Hp) := cl2 (fX1_standingWith h 32 ((h 32 5) &&& (((1 : Int32) <<< (a1 &&& 31)) ^^^ (-1 : Int32)))) (fun x3 h1 => some (x3, h1))
set_option maxHeartbeats 4000000 in
set_option maxRecDepth 100000 in
theorem kX11_standingWithout (G : Gx)  {h : Hp} {a1 : Int32} {rr : Int32} {hh : Hp} (hf : fX11_standingWithout h a1 = some (rr, hh)) : MC G yX11_standingWithout cX11_standingWithout 2 (some .int) 7 448 h [.ref (gad G 0), .int a1] (some (.int rr)) hh := by
  refine MC.of RX11 (by decide) rfl (Nat.le_of_ble_eq_true rfl) rfl (fun X C hG hR hF => ?_)
  subst hG
  have hcs : True := trivial
  unfold fX11_standingWithout at hf
  refine r_aload_n (i := 0) C dX11_standingWithout_0 rfl 0 rfl ?_
  refine g_X11_19 C dX11_standingWithout_1 ?_
  refine r_aload_n (i := 0) C dX11_standingWithout_4 rfl 0 rfl ?_
  refine g_X11_54 C dX11_standingWithout_5 ?_
  refine r_aload_n (i := 0) C dX11_standingWithout_8 rfl 0 rfl ?_
  refine g_X11_54 C dX11_standingWithout_9 ?_
  refine g_X11_276 sk32 C dX11_standingWithout_12 ?_
  refine r_iconst (v := 1) C dX11_standingWithout_15 (by decide) ?_
  refine r_iload_n (i := 1) C dX11_standingWithout_16 rfl 1 rfl ?_
  refine r_ishl C dX11_standingWithout_17 ?_
  refine r_iconst (v := (-1)) C dX11_standingWithout_18 (by decide) ?_
  refine r_ixor C dX11_standingWithout_19 ?_
  refine r_iand C dX11_standingWithout_20 ?_
  obtain ⟨x3, h1, e2, hf⟩ := cl2_of hf
  refine r_callNVi (As := [.ref (gad (xG X) 32), .int ((h 32 5) &&& (((1 : Int32) <<< (a1 &&& 31)) ^^^ (-1 : Int32)))]) (st := []) C 3 rfl (by decide) rfl (kX1_standingWith (xG X) sk32 e2) cw_X11_279 rfl rfl (Nat.le_of_ble_eq_true rfl) (zr2 hR rfl rfl) (zrcs hcs) dX11_standingWithout_21 ?_
  cases hf
  exact r_iret C hF dX11_standingWithout_24
def BX11_leastPins_0  (rec : Hp → Int32 → Int32 → Int32 → Int32 → Option (Int32 × Hp)) (h : Hp) (y2 : Int32) (y3 : Int32) (y4 : Int32) (y5 : Int32) : Option (Int32 × Hp) := (if (65535 : Int32) ≤ y5 then some ((-1 : Int32), h) else (if (65535 : Int32) < y4 then some ((-1 : Int32), h) else (if (y4 &&& (y2 ^^^ (-1 : Int32))) = (0 : Int32) then cl2 (fX1_standingWith h 32 ((h 32 5) ||| y4)) (fun x9 h7 => (if (y3 &&& (x9 ^^^ (-1 : Int32))) = (0 : Int32) then some (y4, h7) else cl9 (fX11_nextOfSameSize h7 y4) (fun x11 => lt9 (y5 + (1 : Int32)) (fun x13 => rec h7 y2 y3 x11 x13)))) else cl9 (fX11_nextOfSameSize h y4) (fun x4 => lt9 (y5 + (1 : Int32)) (fun x6 => rec h y2 y3 x4 x6)))))
def LX11_leastPins  : Nat → Hp → Int32 → Int32 → Int32 → Int32 → Option (Int32 × Hp)
  | 0, _, _, _, _, _ => none
  | n + 1, h, y2, y3, y4, y5 => BX11_leastPins_0  (LX11_leastPins  n) h y2 y3 y4 y5
def fX11_leastPins (h : Hp) (a1 : Int32) (a2 : Int32) (a3 : Int32) : Option (Int32 × Hp) := lt9 (((1 : Int32) <<< (a1 &&& 31)) - (1 : Int32)) (fun x14 => LX11_leastPins big h a2 a3 x14 (0 : Int32))
set_option maxHeartbeats 4000000 in
set_option maxRecDepth 100000 in
theorem wX11_leastPins {X : Cx}  (C : OK X cX11_leastPins 6 RX11 (some .int)) (hR : xR X = { frames := 7, cells := 0, slots := 0, locals := 448 }) (hcs : True) {rr : Int32} {hh : Hp} (hF : FinR X (some (.int rr)) hh) : ∀ n : Nat, (∀ (h : Hp) (y2 : Int32) (y3 : Int32) (y4 : Int32) (y5 : Int32), LX11_leastPins  n h y2 y3 y4 y5 = some (rr, hh) → VW X 6 h 0 0 10 [(0, .ref (gad (xG X) 0)), (2, .int y2), (3, .int y3), (4, .int y4), (5, .int y5)] []) := by
  intro n
  induction n with
  | zero => exact (fun _ _ _ _ _ hf => (by rw [LX11_leastPins] at hf; cases hf))
  | succ n ih =>
    intro h y2 y3 y4 y5 hf
    rw [LX11_leastPins] at hf
    unfold BX11_leastPins_0 at hf
    refine r_iload (i := 5) C dX11_leastPins_10 4 rfl ?_
    refine r_ldc (v := 65535) C dX11_leastPins_12 gw_555 ?_
    refine r_icmp_ge C 77 dX11_leastPins_14 (by decide) (fun c1 => ?_) (fun c1 => ?_)
    · rw [if_pos c1] at hf
      refine r_iconst (v := (-1)) C dX11_leastPins_77 (by decide) ?_
      cases hf
      exact r_iret C hF dX11_leastPins_78
    · rw [if_neg c1] at hf
      refine r_iload (i := 4) C dX11_leastPins_17 3 rfl ?_
      refine r_ldc (v := 65535) C dX11_leastPins_19 gw_555 ?_
      refine r_icmp_gt C 77 dX11_leastPins_21 (by decide) (fun c2 => ?_) (fun c2 => ?_)
      · rw [if_pos c2] at hf
        refine r_iconst (v := (-1)) C dX11_leastPins_77 (by decide) ?_
        cases hf
        exact r_iret C hF dX11_leastPins_78
      · rw [if_neg c2] at hf
        refine r_iload (i := 4) C dX11_leastPins_24 3 rfl ?_
        refine r_iload_n (i := 2) C dX11_leastPins_26 rfl 1 rfl ?_
        refine r_iconst (v := (-1)) C dX11_leastPins_27 (by decide) ?_
        refine r_ixor C dX11_leastPins_28 ?_
        refine r_iand C dX11_leastPins_29 ?_
        refine r_if_ne C 64 dX11_leastPins_30 (by decide) (fun c3 => ?_) (fun c3 => ?_)
        · rw [if_neg c3] at hf
          refine r_iload (i := 4) C dX11_leastPins_64 3 rfl ?_
          obtain ⟨x4, e5, hf⟩ := cl_of hf
          refine r_callSi (As := [.int y4]) (st := []) C (kX11_nextOfSameSize (xG X) e5) cw_X11_379 rfl rfl (Nat.le_of_ble_eq_true rfl) (zr2 hR rfl rfl) (zrcs hcs) dX11_leastPins_66 ?_
          refine r_istore (i := 4) (lv' := [(0, .ref (gad (xG X) 0)), (2, .int y2), (3, .int y3), (4, .int x4), (5, .int y5)]) C dX11_leastPins_69 (by decide) [1, 2, 3, 0, 4] rfl ?_
          obtain ⟨x6, ex6, hf⟩ := lt_of hf
          refine r_iinc (j := 4) (v := x6) (lv' := [(0, .ref (gad (xG X) 0)), (2, .int y2), (3, .int y3), (4, .int x4), (5, .int x6)]) C dX11_leastPins_71 rfl (by rw [ex6]; rfl) (by decide) [1, 2, 3, 4, 0] rfl ?_
          refine r_goto C 10 dX11_leastPins_74 (by decide) ?_
          exact r_lv [0, 1, 2, 3, 4] rfl (ih _ _ _ _ _ hf)
        · rw [if_pos c3] at hf
          refine r_iload_n (i := 3) C dX11_leastPins_33 rfl 2 rfl ?_
          refine r_aload_n (i := 0) C dX11_leastPins_34 rfl 0 rfl ?_
          refine g_X11_19 C dX11_leastPins_35 ?_
          refine r_aload_n (i := 0) C dX11_leastPins_38 rfl 0 rfl ?_
          refine g_X11_54 C dX11_leastPins_39 ?_
          refine r_aload_n (i := 0) C dX11_leastPins_42 rfl 0 rfl ?_
          refine g_X11_54 C dX11_leastPins_43 ?_
          refine g_X11_276 sk32 C dX11_leastPins_46 ?_
          refine r_iload (i := 4) C dX11_leastPins_49 3 rfl ?_
          refine r_ior C dX11_leastPins_51 ?_
          obtain ⟨x9, h7, e8, hf⟩ := cl2_of hf
          refine r_callNVi (As := [.ref (gad (xG X) 32), .int ((h 32 5) ||| y4)]) (st := [.int y3]) C 3 rfl (by decide) rfl (kX1_standingWith (xG X) sk32 e8) cw_X11_279 rfl rfl (Nat.le_of_ble_eq_true rfl) (zr2 hR rfl rfl) (zrcs hcs) dX11_leastPins_52 ?_
          refine r_iconst (v := (-1)) C dX11_leastPins_55 (by decide) ?_
          refine r_ixor C dX11_leastPins_56 ?_
          refine r_iand C dX11_leastPins_57 ?_
          refine r_if_ne C 64 dX11_leastPins_58 (by decide) (fun c10 => ?_) (fun c10 => ?_)
          · rw [if_neg c10] at hf
            refine r_iload (i := 4) C dX11_leastPins_64 3 rfl ?_
            obtain ⟨x11, e12, hf⟩ := cl_of hf
            refine r_callSi (As := [.int y4]) (st := []) C (kX11_nextOfSameSize (xG X) e12) cw_X11_379 rfl rfl (Nat.le_of_ble_eq_true rfl) (zr2 hR rfl rfl) (zrcs hcs) dX11_leastPins_66 ?_
            refine r_istore (i := 4) (lv' := [(0, .ref (gad (xG X) 0)), (2, .int y2), (3, .int y3), (4, .int x11), (5, .int y5)]) C dX11_leastPins_69 (by decide) [1, 2, 3, 0, 4] rfl ?_
            obtain ⟨x13, ex13, hf⟩ := lt_of hf
            refine r_iinc (j := 4) (v := x13) (lv' := [(0, .ref (gad (xG X) 0)), (2, .int y2), (3, .int y3), (4, .int x11), (5, .int x13)]) C dX11_leastPins_71 rfl (by rw [ex13]; rfl) (by decide) [1, 2, 3, 4, 0] rfl ?_
            refine r_goto C 10 dX11_leastPins_74 (by decide) ?_
            exact r_lv [0, 1, 2, 3, 4] rfl (ih _ _ _ _ _ hf)
          · rw [if_pos c10] at hf
            refine r_iload (i := 4) C dX11_leastPins_61 3 rfl ?_
            cases hf
            exact r_iret C hF dX11_leastPins_63
set_option maxHeartbeats 4000000 in
set_option maxRecDepth 100000 in
theorem kX11_leastPins (G : Gx)  {h : Hp} {a1 : Int32} {a2 : Int32} {a3 : Int32} {rr : Int32} {hh : Hp} (hf : fX11_leastPins h a1 a2 a3 = some (rr, hh)) : MC G yX11_leastPins cX11_leastPins 6 (some .int) 7 448 h [.ref (gad G 0), .int a1, .int a2, .int a3] (some (.int rr)) hh := by
  refine MC.of RX11 (by decide) rfl (Nat.le_of_ble_eq_true rfl) rfl (fun X C hG hR hF => ?_)
  subst hG
  have hcs : True := trivial
  unfold fX11_leastPins at hf
  refine r_iconst (v := 1) C dX11_leastPins_0 (by decide) ?_
  refine r_iload_n (i := 1) C dX11_leastPins_1 rfl 1 rfl ?_
  refine r_ishl C dX11_leastPins_2 ?_
  refine r_iconst (v := 1) C dX11_leastPins_3 (by decide) ?_
  refine r_isub C dX11_leastPins_4 ?_
  obtain ⟨x14, ex14, hf⟩ := lt_of hf
  refine r_top ex14 ?_
  refine r_istore (i := 4) (lv' := [(0, .ref (gad (xG X) 0)), (1, .int a1), (2, .int a2), (3, .int a3), (4, .int x14)]) C dX11_leastPins_5 (by decide) [1, 2, 3, 4, 0] rfl ?_
  refine r_iconst (v := 0) C dX11_leastPins_7 (by decide) ?_
  refine r_istore (i := 5) (lv' := [(0, .ref (gad (xG X) 0)), (1, .int a1), (2, .int a2), (3, .int a3), (4, .int x14), (5, .int (0 : Int32))]) C dX11_leastPins_8 (by decide) [1, 2, 3, 4, 5, 0] rfl ?_
  exact r_lv [0, 2, 3, 4, 5] rfl ((wX11_leastPins  C hR hcs hF big) _ _ _ _ _ hf)
def BX11_explains_0  (rec : Hp → Int32 → Int32 → Option (Int32 × Hp)) (h : Hp) (y2 : Int32) (y3 : Int32) : Option (Int32 × Hp) := (if (h 1 2) ≤ y3 then some ((1 : Int32), h) else cl9 (fX9_byteAt h y3) (fun x2 => (if x2 < (0 : Int32) then some ((0 : Int32), h) else (if (15 : Int32) < x2 then some ((0 : Int32), h) else cl9 (fX7_skyAt h 32 x2 y2 (h 32 8) (h 32 9)) (fun x6 => cl9 (fX9_byteAt h (y3 + (1 : Int32))) (fun x8 => (if x6 = x8 then lt9 (y3 + (2 : Int32)) (fun x11 => rec h y2 x11) else some ((0 : Int32), h))))))))
def LX11_explains  : Nat → Hp → Int32 → Int32 → Option (Int32 × Hp)
  | 0, _, _, _ => none
  | n + 1, h, y2, y3 => BX11_explains_0  (LX11_explains  n) h y2 y3
def fX11_explains (h : Hp) (a1 : Int32) : Option (Int32 × Hp) := cl2 (fX1_holdingWith h 32 ((h 32 5) &&& (a1 ^^^ (-1 : Int32)))) (fun x14 h12 => LX11_explains big h12 x14 (0 : Int32))
set_option maxHeartbeats 4000000 in
set_option maxRecDepth 100000 in
theorem wX11_explains {X : Cx}  (C : OK X cX11_explains 5 RX11 (some .boolean)) (hR : xR X = { frames := 6, cells := 0, slots := 0, locals := 384 }) (hcs : True) {rr : Int32} {hh : Hp} (hF : FinR X (some (.int rr)) hh) : ∀ n : Nat, (∀ (h : Hp) (y2 : Int32) (y3 : Int32), LX11_explains  n h y2 y3 = some (rr, hh) → VW X 5 h 0 0 25 [(0, .ref (gad (xG X) 0)), (2, .int y2), (3, .int y3)] []) := by
  intro n
  induction n with
  | zero => exact (fun _ _ _ hf => (by rw [LX11_explains] at hf; cases hf))
  | succ n ih =>
    intro h y2 y3 hf
    rw [LX11_explains] at hf
    unfold BX11_explains_0 at hf
    refine r_iload_n (i := 3) C dX11_explains_25 rfl 2 rfl ?_
    refine r_aload_n (i := 0) C dX11_explains_26 rfl 0 rfl ?_
    refine g_X11_10 C dX11_explains_27 ?_
    refine g_X11_382 C dX11_explains_30 ?_
    refine r_icmp_ge C 103 dX11_explains_33 (by decide) (fun c1 => ?_) (fun c1 => ?_)
    · rw [if_pos c1] at hf
      refine r_iconst (v := 1) C dX11_explains_103 (by decide) ?_
      have zz : (1 : Int32) = 0 ∨ (1 : Int32) = 1 := (Or.inr rfl)
      cases hf
      exact r_zret C zz hF dX11_explains_104
    · rw [if_neg c1] at hf
      refine r_aload_n (i := 0) C dX11_explains_36 rfl 0 rfl ?_
      refine g_X11_10 C dX11_explains_37 ?_
      refine r_iload_n (i := 3) C dX11_explains_40 rfl 2 rfl ?_
      obtain ⟨x2, e3, hf⟩ := cl_of hf
      refine r_callNVi (As := [.int y3]) (st := []) C 1 rfl (by decide) rfl (kX9_byteAt (xG X) e3) cw_X11_385 rfl rfl (Nat.le_of_ble_eq_true rfl) (zr2 hR rfl rfl) (zrcs hcs) dX11_explains_41 ?_
      refine r_istore (i := 4) (lv' := [(0, .ref (gad (xG X) 0)), (2, .int y2), (3, .int y3), (4, .int x2)]) C dX11_explains_44 (by decide) [1, 2, 3, 0] rfl ?_
      refine r_iload (i := 4) C dX11_explains_46 3 rfl ?_
      refine r_if_lt C 95 dX11_explains_48 (by decide) (fun c4 => ?_) (fun c4 => ?_)
      · rw [if_pos c4] at hf
        refine r_iconst (v := 0) C dX11_explains_95 (by decide) ?_
        have zz : (0 : Int32) = 0 ∨ (0 : Int32) = 1 := (Or.inl rfl)
        cases hf
        exact r_zret C zz hF dX11_explains_96
      · rw [if_neg c4] at hf
        refine r_iload (i := 4) C dX11_explains_51 3 rfl ?_
        refine r_bipush (v := 15) C dX11_explains_53 (by decide) ?_
        refine r_icmp_gt C 95 dX11_explains_55 (by decide) (fun c5 => ?_) (fun c5 => ?_)
        · rw [if_pos c5] at hf
          refine r_iconst (v := 0) C dX11_explains_95 (by decide) ?_
          have zz : (0 : Int32) = 0 ∨ (0 : Int32) = 1 := (Or.inl rfl)
          cases hf
          exact r_zret C zz hF dX11_explains_96
        · rw [if_neg c5] at hf
          refine r_aload_n (i := 0) C dX11_explains_58 rfl 0 rfl ?_
          refine g_X11_54 C dX11_explains_59 ?_
          refine r_iload (i := 4) C dX11_explains_62 3 rfl ?_
          refine r_iload_n (i := 2) C dX11_explains_64 rfl 1 rfl ?_
          refine r_aload_n (i := 0) C dX11_explains_65 rfl 0 rfl ?_
          refine g_X11_54 C dX11_explains_66 ?_
          refine g_X11_169 sk32 C dX11_explains_69 ?_
          refine r_aload_n (i := 0) C dX11_explains_72 rfl 0 rfl ?_
          refine g_X11_54 C dX11_explains_73 ?_
          refine g_X11_172 sk32 C dX11_explains_76 ?_
          obtain ⟨x6, e7, hf⟩ := cl_of hf
          refine r_callNVi (As := [.int x2, .int y2, .int (h 32 8), .int (h 32 9)]) (st := []) C 32 (sky_d0 sk32) (sky_l0 sk32) rfl (kX7_skyAt (xG X) sk32 e7) cw_X11_175 rfl rfl (Nat.le_of_ble_eq_true rfl) (zr2 hR rfl rfl) (zrcs hcs) dX11_explains_79 ?_
          refine r_aload_n (i := 0) C dX11_explains_82 rfl 0 rfl ?_
          refine g_X11_10 C dX11_explains_83 ?_
          refine r_iload_n (i := 3) C dX11_explains_86 rfl 2 rfl ?_
          refine r_iconst (v := 1) C dX11_explains_87 (by decide) ?_
          refine r_iadd C dX11_explains_88 ?_
          obtain ⟨x8, e9, hf⟩ := cl_of hf
          refine r_callNVi (As := [.int (y3 + (1 : Int32))]) (st := [.int x6]) C 1 rfl (by decide) rfl (kX9_byteAt (xG X) e9) cw_X11_385 rfl rfl (Nat.le_of_ble_eq_true rfl) (zr2 hR rfl rfl) (zrcs hcs) dX11_explains_89 ?_
          refine r_icmp_eq C 97 dX11_explains_92 (by decide) (fun c10 => ?_) (fun c10 => ?_)
          · rw [if_pos c10] at hf
            obtain ⟨x11, ex11, hf⟩ := lt_of hf
            refine r_iinc (j := 2) (v := x11) (lv' := [(0, .ref (gad (xG X) 0)), (2, .int y2), (3, .int x11), (4, .int x2)]) C dX11_explains_97 rfl (by rw [ex11]; rfl) (by decide) [1, 2, 0, 3] rfl ?_
            refine r_goto C 25 dX11_explains_100 (by decide) ?_
            exact r_lv [0, 1, 2] rfl (ih _ _ _ hf)
          · rw [if_neg c10] at hf
            refine r_iconst (v := 0) C dX11_explains_95 (by decide) ?_
            have zz : (0 : Int32) = 0 ∨ (0 : Int32) = 1 := (Or.inl rfl)
            cases hf
            exact r_zret C zz hF dX11_explains_96
set_option maxHeartbeats 4000000 in
set_option maxRecDepth 100000 in
theorem kX11_explains (G : Gx)  {h : Hp} {a1 : Int32} {rr : Int32} {hh : Hp} (hf : fX11_explains h a1 = some (rr, hh)) : MC G yX11_explains cX11_explains 5 (some .boolean) 6 384 h [.ref (gad G 0), .int a1] (some (.int rr)) hh := by
  refine MC.of RX11 (by decide) rfl (Nat.le_of_ble_eq_true rfl) rfl (fun X C hG hR hF => ?_)
  subst hG
  have hcs : True := trivial
  unfold fX11_explains at hf
  refine r_aload_n (i := 0) C dX11_explains_0 rfl 0 rfl ?_
  refine g_X11_19 C dX11_explains_1 ?_
  refine r_aload_n (i := 0) C dX11_explains_4 rfl 0 rfl ?_
  refine g_X11_54 C dX11_explains_5 ?_
  refine r_aload_n (i := 0) C dX11_explains_8 rfl 0 rfl ?_
  refine g_X11_54 C dX11_explains_9 ?_
  refine g_X11_276 sk32 C dX11_explains_12 ?_
  refine r_iload_n (i := 1) C dX11_explains_15 rfl 1 rfl ?_
  refine r_iconst (v := (-1)) C dX11_explains_16 (by decide) ?_
  refine r_ixor C dX11_explains_17 ?_
  refine r_iand C dX11_explains_18 ?_
  obtain ⟨x14, h12, e13, hf⟩ := cl2_of hf
  refine r_callNVi (As := [.ref (gad (xG X) 32), .int ((h 32 5) &&& (a1 ^^^ (-1 : Int32)))]) (st := []) C 3 rfl (by decide) rfl (kX1_holdingWith (xG X) sk32 e13) cw_X11_394 rfl rfl (Nat.le_of_ble_eq_true rfl) (zr2 hR rfl rfl) (zrcs hcs) dX11_explains_19 ?_
  refine r_istore_n (i := 2) (lv' := [(0, .ref (gad (xG X) 0)), (1, .int a1), (2, .int x14)]) C dX11_explains_22 rfl (by decide) [1, 2, 0] rfl ?_
  refine r_iconst (v := 0) C dX11_explains_23 (by decide) ?_
  refine r_istore_n (i := 3) (lv' := [(0, .ref (gad (xG X) 0)), (1, .int a1), (2, .int x14), (3, .int (0 : Int32))]) C dX11_explains_24 rfl (by decide) [1, 2, 3, 0] rfl ?_
  exact r_lv [0, 2, 3] rfl ((wX11_explains  C hR hcs hF big) _ _ _ hf)
def BX11_greatestPart_0  (rec : Hp → Int32 → Int32 → Int32 → Int32 → Option (Int32 × Hp)) (h : Hp) (y1 : Int32) (y2 : Int32) (y3 : Int32) (y4 : Int32) : Option (Int32 × Hp) := (if y2 ≤ y4 then some (y3, h) else gd (inb y4 137) (cl2 (fX1_holdingWith h 32 ((h 32 5) &&& ((h 29 y4.toNatClampNeg) ^^^ (-1 : Int32)))) (fun x5 h3 => cl9 (fX7_skyAt h3 32 y1 x5 (h3 32 8) (h3 32 9)) (fun x6 => cl9 ((if x6 < (0 : Int32) then some false else (if (40 : Int32) < x6 then some false else some true)) : Option Bool) (fun q8 => if q8 = true then gd (inb x6 41) (gd (inb x6 41) (lt9 (up2 h3 30 x6.toNatClampNeg ((h3 30 x6.toNatClampNeg) + (1 : Int32))) (fun h16 => gd (inb x6 41) (lt9 (jmax y3 (h16 30 x6.toNatClampNeg)) (fun x18 => lt9 (y4 + (1 : Int32)) (fun x19 => rec h16 y1 y2 x18 x19)))))) else lt9 (y4 + (1 : Int32)) (fun x20 => rec h3 y1 y2 y3 x20))))))
def LX11_greatestPart  : Nat → Hp → Int32 → Int32 → Int32 → Int32 → Option (Int32 × Hp)
  | 0, _, _, _, _, _ => none
  | n + 1, h, y1, y2, y3, y4 => BX11_greatestPart_0  (LX11_greatestPart  n) h y1 y2 y3 y4
def fX11_greatestPart (h : Hp) (a1 : Int32) (a2 : Int32) : Option (Int32 × Hp) := cl9 (fJ_fill h 30 41 (0 : Int32)) (fun h21 => LX11_greatestPart big h21 a1 a2 (0 : Int32) (0 : Int32))
set_option maxHeartbeats 4000000 in
set_option maxRecDepth 100000 in
theorem wX11_greatestPart {X : Cx}  (C : OK X cX11_greatestPart 7 RX11 (some .int)) (hR : xR X = { frames := 7, cells := 0, slots := 0, locals := 448 }) (hcs : True) {rr : Int32} {hh : Hp} (hF : FinR X (some (.int rr)) hh) : ∀ n : Nat, (∀ (h : Hp) (y1 : Int32) (y2 : Int32) (y3 : Int32) (y4 : Int32), LX11_greatestPart  n h y1 y2 y3 y4 = some (rr, hh) → VW X 7 h 0 0 13 [(0, .ref (gad (xG X) 0)), (1, .int y1), (2, .int y2), (3, .int y3), (4, .int y4)] []) := by
  intro n
  induction n with
  | zero => exact (fun _ _ _ _ _ hf => (by rw [LX11_greatestPart] at hf; cases hf))
  | succ n ih =>
    intro h y1 y2 y3 y4 hf
    rw [LX11_greatestPart] at hf
    unfold BX11_greatestPart_0 at hf
    refine r_iload (i := 4) C dX11_greatestPart_13 4 rfl ?_
    refine r_iload_n (i := 2) C dX11_greatestPart_15 rfl 2 rfl ?_
    refine r_icmp_ge C 116 dX11_greatestPart_16 (by decide) (fun c1 => ?_) (fun c1 => ?_)
    · rw [if_pos c1] at hf
      refine r_iload_n (i := 3) C dX11_greatestPart_116 rfl 3 rfl ?_
      cases hf
      exact r_iret C hF dX11_greatestPart_117
    · rw [if_neg c1] at hf
      refine r_aload_n (i := 0) C dX11_greatestPart_19 rfl 0 rfl ?_
      refine g_X11_19 C dX11_greatestPart_20 ?_
      refine r_aload_n (i := 0) C dX11_greatestPart_23 rfl 0 rfl ?_
      refine g_X11_54 C dX11_greatestPart_24 ?_
      refine r_aload_n (i := 0) C dX11_greatestPart_27 rfl 0 rfl ?_
      refine g_X11_54 C dX11_greatestPart_28 ?_
      refine g_X11_276 sk32 C dX11_greatestPart_31 ?_
      refine r_aload_n (i := 0) C dX11_greatestPart_34 rfl 0 rfl ?_
      refine g_X11_75 C dX11_greatestPart_35 ?_
      refine r_iload (i := 4) C dX11_greatestPart_38 4 rfl ?_
      obtain ⟨g2, hf⟩ := gd_of hf
      refine r_iald C 29 rfl (by decide) g2 dX11_greatestPart_40 ?_
      refine r_iconst (v := (-1)) C dX11_greatestPart_41 (by decide) ?_
      refine r_ixor C dX11_greatestPart_42 ?_
      refine r_iand C dX11_greatestPart_43 ?_
      obtain ⟨x5, h3, e4, hf⟩ := cl2_of hf
      refine r_callNVi (As := [.ref (gad (xG X) 32), .int ((h 32 5) &&& ((h 29 y4.toNatClampNeg) ^^^ (-1 : Int32)))]) (st := []) C 3 rfl (by decide) rfl (kX1_holdingWith (xG X) sk32 e4) cw_X11_394 rfl rfl (Nat.le_of_ble_eq_true rfl) (zr2 hR rfl rfl) (zrcs hcs) dX11_greatestPart_44 ?_
      refine r_istore (i := 5) (lv' := [(0, .ref (gad (xG X) 0)), (1, .int y1), (2, .int y2), (3, .int y3), (4, .int y4), (5, .int x5)]) C dX11_greatestPart_47 (by decide) [1, 2, 3, 4, 5, 0] rfl ?_
      refine r_aload_n (i := 0) C dX11_greatestPart_49 rfl 0 rfl ?_
      refine g_X11_54 C dX11_greatestPart_50 ?_
      refine r_iload_n (i := 1) C dX11_greatestPart_53 rfl 1 rfl ?_
      refine r_iload (i := 5) C dX11_greatestPart_54 5 rfl ?_
      refine r_aload_n (i := 0) C dX11_greatestPart_56 rfl 0 rfl ?_
      refine g_X11_54 C dX11_greatestPart_57 ?_
      refine g_X11_169 sk32 C dX11_greatestPart_60 ?_
      refine r_aload_n (i := 0) C dX11_greatestPart_63 rfl 0 rfl ?_
      refine g_X11_54 C dX11_greatestPart_64 ?_
      refine g_X11_172 sk32 C dX11_greatestPart_67 ?_
      obtain ⟨x6, e7, hf⟩ := cl_of hf
      refine r_callNVi (As := [.int y1, .int x5, .int (h3 32 8), .int (h3 32 9)]) (st := []) C 32 (sky_d0 sk32) (sky_l0 sk32) rfl (kX7_skyAt (xG X) sk32 e7) cw_X11_175 rfl rfl (Nat.le_of_ble_eq_true rfl) (zr2 hR rfl rfl) (zrcs hcs) dX11_greatestPart_70 ?_
      refine r_istore (i := 6) (lv' := [(0, .ref (gad (xG X) 0)), (1, .int y1), (2, .int y2), (3, .int y3), (4, .int y4), (5, .int x5), (6, .int x6)]) C dX11_greatestPart_73 (by decide) [1, 2, 3, 4, 5, 6, 0] rfl ?_
      refine r_iload (i := 6) C dX11_greatestPart_75 6 rfl ?_
      obtain ⟨q8, r11, hf⟩ := cl_of hf
      have k9 : q8 = true → VW X 7 h3 0 0 87 [(0, .ref (gad (xG X) 0)), (1, .int y1), (2, .int y2), (3, .int y3), (4, .int y4), (5, .int x5), (6, .int x6)] [] := fun qq => by
        rw [if_pos qq] at hf
        refine r_aload_n (i := 0) C dX11_greatestPart_87 rfl 0 rfl ?_
        refine g_X11_79 C dX11_greatestPart_88 ?_
        refine r_iload (i := 6) C dX11_greatestPart_91 6 rfl ?_
        refine r_dup2 C dX11_greatestPart_93 rfl rfl ?_
        obtain ⟨g14, hf⟩ := gd_of hf
        refine r_iald C 30 rfl (by decide) g14 dX11_greatestPart_94 ?_
        refine r_iconst (v := 1) C dX11_greatestPart_95 (by decide) ?_
        refine r_iadd C dX11_greatestPart_96 ?_
        obtain ⟨g15, hf⟩ := gd_of hf
        obtain ⟨h16, eh16, hf⟩ := lt_of hf
        refine r_iast C 30 eh16 rfl (by decide) g15 dX11_greatestPart_97 ?_
        refine r_iload_n (i := 3) C dX11_greatestPart_98 rfl 3 rfl ?_
        refine r_aload_n (i := 0) C dX11_greatestPart_99 rfl 0 rfl ?_
        refine g_X11_79 C dX11_greatestPart_100 ?_
        refine r_iload (i := 6) C dX11_greatestPart_103 6 rfl ?_
        obtain ⟨g17, hf⟩ := gd_of hf
        refine r_iald C 30 rfl (by decide) g17 dX11_greatestPart_105 ?_
        refine r_mmax9 C gw_791 gm_max_s gm_i gm_max_c (zr1 hR rfl) (zr0 hR (Nat.le_of_ble_eq_true rfl)) (zrcs hcs) dX11_greatestPart_106 ?_
        obtain ⟨x18, ex18, hf⟩ := lt_of hf
        refine r_top ex18 ?_
        refine r_istore_n (i := 3) (lv' := [(0, .ref (gad (xG X) 0)), (1, .int y1), (2, .int y2), (3, .int x18), (4, .int y4), (5, .int x5), (6, .int x6)]) C dX11_greatestPart_109 rfl (by decide) [1, 2, 3, 0, 4, 5, 6] rfl ?_
        obtain ⟨x19, ex19, hf⟩ := lt_of hf
        refine r_iinc (j := 4) (v := x19) (lv' := [(0, .ref (gad (xG X) 0)), (1, .int y1), (2, .int y2), (3, .int x18), (4, .int x19), (5, .int x5), (6, .int x6)]) C dX11_greatestPart_110 rfl (by rw [ex19]; rfl) (by decide) [1, 2, 3, 4, 0, 5, 6] rfl ?_
        refine r_goto C 13 dX11_greatestPart_113 (by decide) ?_
        exact r_lv [0, 1, 2, 3, 4] rfl (ih _ _ _ _ _ hf)
      have k10 : q8 = false → VW X 7 h3 0 0 110 [(0, .ref (gad (xG X) 0)), (1, .int y1), (2, .int y2), (3, .int y3), (4, .int y4), (5, .int x5), (6, .int x6)] [] := fun qq => by
        rw [if_neg (by rw [qq]; decide)] at hf
        obtain ⟨x20, ex20, hf⟩ := lt_of hf
        refine r_iinc (j := 4) (v := x20) (lv' := [(0, .ref (gad (xG X) 0)), (1, .int y1), (2, .int y2), (3, .int y3), (4, .int x20), (5, .int x5), (6, .int x6)]) C dX11_greatestPart_110 rfl (by rw [ex20]; rfl) (by decide) [1, 2, 3, 4, 0, 5, 6] rfl ?_
        refine r_goto C 13 dX11_greatestPart_113 (by decide) ?_
        exact r_lv [0, 1, 2, 3, 4] rfl (ih _ _ _ _ _ hf)
      clear hf
      have hf := r11
      refine r_if_lt C 110 dX11_greatestPart_77 (by decide) (fun c12 => ?_) (fun c12 => ?_)
      · rw [if_pos c12] at hf
        exact k10 (Option.some.inj hf).symm
      · rw [if_neg c12] at hf
        refine r_iload (i := 6) C dX11_greatestPart_80 6 rfl ?_
        refine r_bipush (v := 40) C dX11_greatestPart_82 (by decide) ?_
        refine r_icmp_gt C 110 dX11_greatestPart_84 (by decide) (fun c13 => ?_) (fun c13 => ?_)
        · rw [if_pos c13] at hf
          exact k10 (Option.some.inj hf).symm
        · rw [if_neg c13] at hf
          exact k9 (Option.some.inj hf).symm
set_option maxHeartbeats 4000000 in
set_option maxRecDepth 100000 in
theorem kX11_greatestPart (G : Gx)  {h : Hp} {a1 : Int32} {a2 : Int32} {rr : Int32} {hh : Hp} (hf : fX11_greatestPart h a1 a2 = some (rr, hh)) : MC G yX11_greatestPart cX11_greatestPart 7 (some .int) 7 448 h [.ref (gad G 0), .int a1, .int a2] (some (.int rr)) hh := by
  refine MC.of RX11 (by decide) rfl (Nat.le_of_ble_eq_true rfl) rfl (fun X C hG hR hF => ?_)
  subst hG
  have hcs : True := trivial
  unfold fX11_greatestPart at hf
  refine r_aload_n (i := 0) C dX11_greatestPart_0 rfl 0 rfl ?_
  refine g_X11_79 C dX11_greatestPart_1 ?_
  refine r_iconst (v := 0) C dX11_greatestPart_4 (by decide) ?_
  obtain ⟨h21, e22, hf⟩ := cl_of hf
  refine r_callSv (As := [.ref (gad (xG X) 30), .int (0 : Int32)]) (st := []) C (kJ_fill (xG X) rfl (by decide) e22) cw_X11_397 rfl rfl (Nat.le_of_ble_eq_true rfl) (zr2 hR rfl rfl) (zrcs hcs) dX11_greatestPart_5 ?_
  refine r_iconst (v := 0) C dX11_greatestPart_8 (by decide) ?_
  refine r_istore_n (i := 3) (lv' := [(0, .ref (gad (xG X) 0)), (1, .int a1), (2, .int a2), (3, .int (0 : Int32))]) C dX11_greatestPart_9 rfl (by decide) [1, 2, 3, 0] rfl ?_
  refine r_iconst (v := 0) C dX11_greatestPart_10 (by decide) ?_
  refine r_istore (i := 4) (lv' := [(0, .ref (gad (xG X) 0)), (1, .int a1), (2, .int a2), (3, .int (0 : Int32)), (4, .int (0 : Int32))]) C dX11_greatestPart_11 (by decide) [1, 2, 3, 4, 0] rfl ?_
  exact r_lv [0, 1, 2, 3, 4] rfl ((wX11_greatestPart  C hR hcs hF big) _ _ _ _ _ hf)

def fX11_height (h : Hp) (a1 : Int32) : Option (Int32 × Nat × Hp) := (if (fX11_checkNumber a1 (1 : Int32) (40 : Int32)) = 0 then cl9 (fX5_remember h 32) (fun h2 => lt9 (up2 h2 32 8 a1) (fun h4 => some ((h2 32 8), 0, h4))) else some ((0 : Int32), (fX11_checkNumber a1 (1 : Int32) (40 : Int32)), h))
set_option maxHeartbeats 4000000 in
set_option maxRecDepth 100000 in
theorem kX11_height (G : Gx)  {h : Hp} {a1 : Int32} {rr : Int32} {kk : Nat} {hh : Hp} (hf : fX11_height h a1 = some (rr, kk, hh)) : MX G yX11_height cX11_height 3 (some .int) 7 448 h [.ref (gad G 0), .int a1] (some (.int rr)) kk hh := by
  refine MX.of RX11 (by decide) rfl (Nat.le_of_ble_eq_true rfl) rfl (fun X C hG hR hE => ?_)
  subst hG
  have hcs : True := trivial
  unfold fX11_height at hf
  refine r_iload_n (i := 1) C dX11_height_0 rfl 1 rfl ?_
  refine r_iconst (v := 1) C dX11_height_1 (by decide) ?_
  refine r_bipush (v := 40) C dX11_height_2 (by decide) ?_
  by_cases c1 : (fX11_checkNumber a1 (1 : Int32) (40 : Int32)) = 0
  · rw [if_pos c1] at hf
    refine r_callXSv (As := [.int a1, .int (1 : Int32), .int (40 : Int32)]) (st := []) C (kX11_checkNumber (xG X)) cw_X11_244 rfl rfl (Nat.le_of_ble_eq_true rfl) (zq2 hR rfl rfl) (zqc hR (Or.inl c1)) dX11_height_4 (fun q0 => absurd c1 q0) (fun _ => ?_)
    refine r_aload_n (i := 0) C dX11_height_7 rfl 0 rfl ?_
    refine g_X11_40 C dX11_height_8 ?_
    refine r_aload_n (i := 0) C dX11_height_11 rfl 0 rfl ?_
    refine g_X11_54 C dX11_height_12 ?_
    obtain ⟨h2, e3, hf⟩ := cl_of hf
    refine r_callNVv (As := [.ref (gad (xG X) 32)]) (st := []) C 18 rfl (by decide) rfl (kX5_remember (xG X) sk32 e3) cw_X11_209 rfl rfl (Nat.le_of_ble_eq_true rfl) (zq2 hR rfl rfl) (zrcs hcs) dX11_height_15 ?_
    refine r_aload_n (i := 0) C dX11_height_18 rfl 0 rfl ?_
    refine g_X11_54 C dX11_height_19 ?_
    refine g_X11_169 sk32 C dX11_height_22 ?_
    refine r_istore_n (i := 2) (lv' := [(0, .ref (gad (xG X) 0)), (1, .int a1), (2, .int (h2 32 8))]) C dX11_height_25 rfl (by decide) [1, 2, 0] rfl ?_
    refine r_aload_n (i := 0) C dX11_height_26 rfl 0 rfl ?_
    refine g_X11_54 C dX11_height_27 ?_
    refine r_iload_n (i := 1) C dX11_height_30 rfl 1 rfl ?_
    obtain ⟨h4, eh4, hf⟩ := lt_of hf
    refine p_X11_169 sk32 C eh4 dX11_height_31 ?_
    refine r_iload_n (i := 2) C dX11_height_34 rfl 2 rfl ?_
    cases hf
    exact r_iret C (hE.1 rfl) dX11_height_35
  · rw [if_neg c1] at hf
    cases hf
    exact r_callXSv (As := [.int a1, .int (1 : Int32), .int (40 : Int32)]) (st := []) C (kX11_checkNumber (xG X)) cw_X11_244 rfl rfl (Nat.le_of_ble_eq_true rfl) (zq2 hR rfl rfl) (zqc hR (Or.inr rfl)) dX11_height_4 (fun q0 => hE.2 q0) (fun q0 => absurd q0 c1)
def fX11_round (h : Hp) (a1 : Int32) (a2 : Int32) (a3 : Int32) : Option (Int32 × Nat × Hp) := (if (fX11_checkPinner h a1) = 0 then gd (inb a1 5) (lt9 ((a2 &&& (65535 : Int32)) ||| ((1 : Int32) <<< ((h (32 + 6) a1.toNatClampNeg) &&& 31))) (fun x3 => cl9 (fJ_numberOfTrailingZeros h x3) (fun x4 => cl9 (fJ_numberOfLeadingZeros h x3) (fun x6 => lt9 ((31 : Int32) - x6) (fun x8 => lt9 ((h (32 + 6) a1.toNatClampNeg) - x4) (fun x9 => lt9 (x8 - (h (32 + 6) a1.toNatClampNeg)) (fun x10 => (if a3 = (0 : Int32) then some (((x9 + x10) + (jmin x9 x10)), 0, h) else (if x9 < x10 then some (x8, 0, h) else some (x4, 0, h)))))))))) else some ((0 : Int32), (fX11_checkPinner h a1), h))
set_option maxHeartbeats 4000000 in
set_option maxRecDepth 100000 in
theorem kX11_round (G : Gx)  {h : Hp} {a1 : Int32} {a2 : Int32} {a3 : Int32} {rr : Int32} {kk : Nat} {hh : Hp} (hf : fX11_round h a1 a2 a3 = some (rr, kk, hh)) : MX G yX11_round cX11_round 10 (some .int) 8 512 h [.ref (gad G 0), .int a1, .int a2, .int a3] (some (.int rr)) kk hh := by
  refine MX.of RX11 (by decide) rfl (Nat.le_of_ble_eq_true rfl) rfl (fun X C hG hR hE => ?_)
  subst hG
  have hcs : True := trivial
  unfold fX11_round at hf
  refine r_aload_n (i := 0) C dX11_round_0 rfl 0 rfl ?_
  refine r_iload_n (i := 1) C dX11_round_1 rfl 1 rfl ?_
  by_cases c1 : (fX11_checkPinner h a1) = 0
  · rw [if_pos c1] at hf
    refine r_callXVv (As := [.int a1]) (st := []) C 0 rfl (by decide) rfl (kX11_checkPinner (xG X)) cw_X11_185 rfl rfl (Nat.le_of_ble_eq_true rfl) (zq2 hR rfl rfl) (zqc hR (Or.inl c1)) dX11_round_2 (fun q0 => absurd c1 q0) (fun _ => ?_)
    refine r_aload_n (i := 0) C dX11_round_5 rfl 0 rfl ?_
    refine g_X11_54 C dX11_round_6 ?_
    refine g_X11_188 sk32 C dX11_round_9 ?_
    refine g_X11_192 sk32 C dX11_round_12 ?_
    refine r_iload_n (i := 1) C dX11_round_15 rfl 1 rfl ?_
    obtain ⟨g2, hf⟩ := gd_of hf
    refine r_iald C (32 + 6) (sky_dsc sk32 6 (by decide)) (sky_lt sk32 6 (by decide)) g2 dX11_round_16 ?_
    refine r_istore (i := 4) (lv' := [(0, .ref (gad (xG X) 0)), (1, .int a1), (2, .int a2), (3, .int a3), (4, .int (h (32 + 6) a1.toNatClampNeg))]) C dX11_round_17 (by decide) [1, 2, 3, 4, 0] rfl ?_
    refine r_iload_n (i := 2) C dX11_round_19 rfl 2 rfl ?_
    refine r_ldc (v := 65535) C dX11_round_20 gw_555 ?_
    refine r_iand C dX11_round_22 ?_
    refine r_iconst (v := 1) C dX11_round_23 (by decide) ?_
    refine r_iload (i := 4) C dX11_round_24 4 rfl ?_
    refine r_ishl C dX11_round_26 ?_
    refine r_ior C dX11_round_27 ?_
    obtain ⟨x3, ex3, hf⟩ := lt_of hf
    refine r_top ex3 ?_
    refine r_istore (i := 5) (lv' := [(0, .ref (gad (xG X) 0)), (1, .int a1), (2, .int a2), (3, .int a3), (4, .int (h (32 + 6) a1.toNatClampNeg)), (5, .int x3)]) C dX11_round_28 (by decide) [1, 2, 3, 4, 5, 0] rfl ?_
    refine r_iload (i := 5) C dX11_round_30 5 rfl ?_
    obtain ⟨x4, e5, hf⟩ := cl_of hf
    refine r_callSi (As := [.int x3]) (st := []) C (kJ_numberOfTrailingZeros (xG X) e5) cw_X11_282 rfl rfl (Nat.le_of_ble_eq_true rfl) (zq2 hR rfl rfl) (zrcs hcs) dX11_round_32 ?_
    refine r_istore (i := 6) (lv' := [(0, .ref (gad (xG X) 0)), (1, .int a1), (2, .int a2), (3, .int a3), (4, .int (h (32 + 6) a1.toNatClampNeg)), (5, .int x3), (6, .int x4)]) C dX11_round_35 (by decide) [1, 2, 3, 4, 5, 6, 0] rfl ?_
    refine r_bipush (v := 31) C dX11_round_37 (by decide) ?_
    refine r_iload (i := 5) C dX11_round_39 5 rfl ?_
    obtain ⟨x6, e7, hf⟩ := cl_of hf
    refine r_callSi (As := [.int x3]) (st := [.int (31 : Int32)]) C (kJ_numberOfLeadingZeros (xG X) e7) cw_X11_285 rfl rfl (Nat.le_of_ble_eq_true rfl) (zq2 hR rfl rfl) (zrcs hcs) dX11_round_41 ?_
    refine r_isub C dX11_round_44 ?_
    obtain ⟨x8, ex8, hf⟩ := lt_of hf
    refine r_top ex8 ?_
    refine r_istore (i := 7) (lv' := [(0, .ref (gad (xG X) 0)), (1, .int a1), (2, .int a2), (3, .int a3), (4, .int (h (32 + 6) a1.toNatClampNeg)), (5, .int x3), (6, .int x4), (7, .int x8)]) C dX11_round_45 (by decide) [1, 2, 3, 4, 5, 6, 7, 0] rfl ?_
    refine r_iload (i := 4) C dX11_round_47 4 rfl ?_
    refine r_iload (i := 6) C dX11_round_49 6 rfl ?_
    refine r_isub C dX11_round_51 ?_
    obtain ⟨x9, ex9, hf⟩ := lt_of hf
    refine r_top ex9 ?_
    refine r_istore (i := 8) (lv' := [(0, .ref (gad (xG X) 0)), (1, .int a1), (2, .int a2), (3, .int a3), (4, .int (h (32 + 6) a1.toNatClampNeg)), (5, .int x3), (6, .int x4), (7, .int x8), (8, .int x9)]) C dX11_round_52 (by decide) [1, 2, 3, 4, 5, 6, 7, 8, 0] rfl ?_
    refine r_iload (i := 7) C dX11_round_54 7 rfl ?_
    refine r_iload (i := 4) C dX11_round_56 4 rfl ?_
    refine r_isub C dX11_round_58 ?_
    obtain ⟨x10, ex10, hf⟩ := lt_of hf
    refine r_top ex10 ?_
    refine r_istore (i := 9) (lv' := [(0, .ref (gad (xG X) 0)), (1, .int a1), (2, .int a2), (3, .int a3), (4, .int (h (32 + 6) a1.toNatClampNeg)), (5, .int x3), (6, .int x4), (7, .int x8), (8, .int x9), (9, .int x10)]) C dX11_round_59 (by decide) [1, 2, 3, 4, 5, 6, 7, 8, 9, 0] rfl ?_
    refine r_iload_n (i := 3) C dX11_round_61 rfl 3 rfl ?_
    refine r_if_ne C 79 dX11_round_62 (by decide) (fun c11 => ?_) (fun c11 => ?_)
    · rw [if_neg c11] at hf
      refine r_iload (i := 8) C dX11_round_79 8 rfl ?_
      refine r_iload (i := 9) C dX11_round_81 9 rfl ?_
      refine r_icmp_lt C 91 dX11_round_83 (by decide) (fun c12 => ?_) (fun c12 => ?_)
      · rw [if_pos c12] at hf
        refine r_iload (i := 7) C dX11_round_91 7 rfl ?_
        cases hf
        exact r_iret C (hE.1 rfl) dX11_round_93
      · rw [if_neg c12] at hf
        refine r_iload (i := 6) C dX11_round_86 6 rfl ?_
        refine r_goto C 93 dX11_round_88 (by decide) ?_
        cases hf
        exact r_iret C (hE.1 rfl) dX11_round_93
    · rw [if_pos c11] at hf
      refine r_iload (i := 8) C dX11_round_65 8 rfl ?_
      refine r_iload (i := 9) C dX11_round_67 9 rfl ?_
      refine r_iadd C dX11_round_69 ?_
      refine r_iload (i := 8) C dX11_round_70 8 rfl ?_
      refine r_iload (i := 9) C dX11_round_72 9 rfl ?_
      refine r_mmin9 C gw_1273 gm_min_s gm_i gm_min_c (zq1 hR rfl) (zq0 hR (Nat.le_of_ble_eq_true rfl)) (zrcs hcs) dX11_round_74 ?_
      refine r_iadd C dX11_round_77 ?_
      cases hf
      exact r_iret C (hE.1 rfl) dX11_round_78
  · rw [if_neg c1] at hf
    cases hf
    exact r_callXVv (As := [.int a1]) (st := []) C 0 rfl (by decide) rfl (kX11_checkPinner (xG X)) cw_X11_185 rfl rfl (Nat.le_of_ble_eq_true rfl) (zq2 hR rfl rfl) (zqc hR (Or.inr rfl)) dX11_round_2 (fun q0 => hE.2 q0) (fun q0 => absurd q0 c1)
def fX11_goes (h : Hp) (a1 : Int32) : Option (Int32 × Nat × Hp) := cl9 (fX9_open h) (fun h1 => (if a1 = (-1 : Int32) then cl2 (fX6_take h1 32) (fun x6 h4 => (if x6 = (0 : Int32) then some ((0 : Int32), 3, h4) else cl9 (fX6_settle h4 32) (fun h8 => (if a1 = (-1 : Int32) then some ((h8 20 3), 0, h8) else gd (inb a1 5) (some ((h8 23 a1.toNatClampNeg), 0, h8)))))) else (if (fX11_checkPinner h1 a1) = 0 then cl2 (fX6_take h1 32) (fun x15 h13 => (if x15 = (0 : Int32) then some ((0 : Int32), 3, h13) else cl9 (fX6_settle h13 32) (fun h17 => (if a1 = (-1 : Int32) then some ((h17 20 3), 0, h17) else gd (inb a1 5) (some ((h17 23 a1.toNatClampNeg), 0, h17)))))) else some ((0 : Int32), (fX11_checkPinner h1 a1), h1))))
set_option maxHeartbeats 4000000 in
set_option maxRecDepth 100000 in
theorem kX11_goes (G : Gx)  {h : Hp} {a1 : Int32} {rr : Int32} {kk : Nat} {hh : Hp} (hf : fX11_goes h a1 = some (rr, kk, hh)) : MX G yX11_goes cX11_goes 2 (some .int) 86 5504 h [.ref (gad G 0), .int a1] (some (.int rr)) kk hh := by
  refine MX.of RX11 (by decide) rfl (Nat.le_of_ble_eq_true rfl) rfl (fun X C hG hR hE => ?_)
  subst hG
  have hcs : True := trivial
  unfold fX11_goes at hf
  refine r_aload_n (i := 0) C dX11_goes_0 rfl 0 rfl ?_
  refine g_X11_10 C dX11_goes_1 ?_
  obtain ⟨h1, e2, hf⟩ := cl_of hf
  refine r_callNVv (As := []) (st := []) C 1 rfl (by decide) rfl (kX9_open (xG X) e2) cw_X11_288 rfl rfl (Nat.le_of_ble_eq_true rfl) (zq2 hR rfl rfl) (zrcs hcs) dX11_goes_4 ?_
  refine r_iload_n (i := 1) C dX11_goes_7 rfl 1 rfl ?_
  refine r_iconst (v := (-1)) C dX11_goes_8 (by decide) ?_
  refine r_icmp_eq C 17 dX11_goes_9 (by decide) (fun c3 => ?_) (fun c3 => ?_)
  · rw [if_pos c3] at hf
    refine r_aload_n (i := 0) C dX11_goes_17 rfl 0 rfl ?_
    refine g_X11_47 C dX11_goes_18 ?_
    refine r_aload_n (i := 0) C dX11_goes_21 rfl 0 rfl ?_
    refine g_X11_10 C dX11_goes_22 ?_
    refine r_aload_n (i := 0) C dX11_goes_25 rfl 0 rfl ?_
    refine g_X11_54 C dX11_goes_26 ?_
    refine g_X11_188 sk32 C dX11_goes_29 ?_
    obtain ⟨x6, h4, e5, hf⟩ := cl2_of hf
    refine r_callNVi (As := [.ref (gad (xG X) 1), .ref (gad (xG X) (32 + 5))]) (st := []) C 20 rfl (by decide) rfl (kX6_take (xG X) sk32 e5) cw_X11_291 rfl rfl (Nat.le_of_ble_eq_true rfl) (zq2 hR rfl rfl) (zrcs hcs) dX11_goes_32 ?_
    refine r_if_ne C 46 dX11_goes_35 (by decide) (fun c7 => ?_) (fun c7 => ?_)
    · rw [if_neg c7] at hf
      refine r_aload_n (i := 0) C dX11_goes_46 rfl 0 rfl ?_
      refine g_X11_47 C dX11_goes_47 ?_
      refine r_aload_n (i := 0) C dX11_goes_50 rfl 0 rfl ?_
      refine g_X11_54 C dX11_goes_51 ?_
      refine g_X11_188 sk32 C dX11_goes_54 ?_
      obtain ⟨h8, e9, hf⟩ := cl_of hf
      refine r_callNVv (As := [.ref (gad (xG X) (32 + 5))]) (st := []) C 20 rfl (by decide) rfl (kX6_settle (xG X) sk32 e9) cw_X11_295 rfl rfl (Nat.le_of_ble_eq_true rfl) (zq2 hR rfl rfl) (zrcs hcs) dX11_goes_57 ?_
      refine r_iload_n (i := 1) C dX11_goes_60 rfl 1 rfl ?_
      refine r_iconst (v := (-1)) C dX11_goes_61 (by decide) ?_
      refine r_icmp_ne C 75 dX11_goes_62 (by decide) (fun c10 => ?_) (fun c10 => ?_)
      · rw [if_neg c10] at hf
        refine r_aload_n (i := 0) C dX11_goes_75 rfl 0 rfl ?_
        refine g_X11_47 C dX11_goes_76 ?_
        refine g_X11_302 C dX11_goes_79 ?_
        refine r_iload_n (i := 1) C dX11_goes_82 rfl 1 rfl ?_
        obtain ⟨g11, hf⟩ := gd_of hf
        refine r_iald C 23 rfl (by decide) g11 dX11_goes_83 ?_
        cases hf
        exact r_iret C (hE.1 rfl) dX11_goes_84
      · rw [if_pos c10] at hf
        refine r_aload_n (i := 0) C dX11_goes_65 rfl 0 rfl ?_
        refine g_X11_47 C dX11_goes_66 ?_
        refine g_X11_299 C dX11_goes_69 ?_
        refine r_goto C 84 dX11_goes_72 (by decide) ?_
        cases hf
        exact r_iret C (hE.1 rfl) dX11_goes_84
    · rw [if_pos c7] at hf
      cases hf
      exact r_throw C (by decide) (hE.2 (by decide)) (zqt (by decide) hR rfl rfl) tw_3 (Nat.le_of_ble_eq_true rfl) dX11_goes_38 dX11_goes_41 dX11_goes_42 dX11_goes_45
  · rw [if_neg c3] at hf
    refine r_aload_n (i := 0) C dX11_goes_12 rfl 0 rfl ?_
    refine r_iload_n (i := 1) C dX11_goes_13 rfl 1 rfl ?_
    by_cases c12 : (fX11_checkPinner h1 a1) = 0
    · rw [if_pos c12] at hf
      refine r_callXVv (As := [.int a1]) (st := []) C 0 rfl (by decide) rfl (kX11_checkPinner (xG X)) cw_X11_185 rfl rfl (Nat.le_of_ble_eq_true rfl) (zq2 hR rfl rfl) (zqc hR (Or.inl c12)) dX11_goes_14 (fun q0 => absurd c12 q0) (fun _ => ?_)
      refine r_aload_n (i := 0) C dX11_goes_17 rfl 0 rfl ?_
      refine g_X11_47 C dX11_goes_18 ?_
      refine r_aload_n (i := 0) C dX11_goes_21 rfl 0 rfl ?_
      refine g_X11_10 C dX11_goes_22 ?_
      refine r_aload_n (i := 0) C dX11_goes_25 rfl 0 rfl ?_
      refine g_X11_54 C dX11_goes_26 ?_
      refine g_X11_188 sk32 C dX11_goes_29 ?_
      obtain ⟨x15, h13, e14, hf⟩ := cl2_of hf
      refine r_callNVi (As := [.ref (gad (xG X) 1), .ref (gad (xG X) (32 + 5))]) (st := []) C 20 rfl (by decide) rfl (kX6_take (xG X) sk32 e14) cw_X11_291 rfl rfl (Nat.le_of_ble_eq_true rfl) (zq2 hR rfl rfl) (zrcs hcs) dX11_goes_32 ?_
      refine r_if_ne C 46 dX11_goes_35 (by decide) (fun c16 => ?_) (fun c16 => ?_)
      · rw [if_neg c16] at hf
        refine r_aload_n (i := 0) C dX11_goes_46 rfl 0 rfl ?_
        refine g_X11_47 C dX11_goes_47 ?_
        refine r_aload_n (i := 0) C dX11_goes_50 rfl 0 rfl ?_
        refine g_X11_54 C dX11_goes_51 ?_
        refine g_X11_188 sk32 C dX11_goes_54 ?_
        obtain ⟨h17, e18, hf⟩ := cl_of hf
        refine r_callNVv (As := [.ref (gad (xG X) (32 + 5))]) (st := []) C 20 rfl (by decide) rfl (kX6_settle (xG X) sk32 e18) cw_X11_295 rfl rfl (Nat.le_of_ble_eq_true rfl) (zq2 hR rfl rfl) (zrcs hcs) dX11_goes_57 ?_
        refine r_iload_n (i := 1) C dX11_goes_60 rfl 1 rfl ?_
        refine r_iconst (v := (-1)) C dX11_goes_61 (by decide) ?_
        refine r_icmp_ne C 75 dX11_goes_62 (by decide) (fun c19 => ?_) (fun c19 => ?_)
        · rw [if_neg c19] at hf
          refine r_aload_n (i := 0) C dX11_goes_75 rfl 0 rfl ?_
          refine g_X11_47 C dX11_goes_76 ?_
          refine g_X11_302 C dX11_goes_79 ?_
          refine r_iload_n (i := 1) C dX11_goes_82 rfl 1 rfl ?_
          obtain ⟨g20, hf⟩ := gd_of hf
          refine r_iald C 23 rfl (by decide) g20 dX11_goes_83 ?_
          cases hf
          exact r_iret C (hE.1 rfl) dX11_goes_84
        · rw [if_pos c19] at hf
          refine r_aload_n (i := 0) C dX11_goes_65 rfl 0 rfl ?_
          refine g_X11_47 C dX11_goes_66 ?_
          refine g_X11_299 C dX11_goes_69 ?_
          refine r_goto C 84 dX11_goes_72 (by decide) ?_
          cases hf
          exact r_iret C (hE.1 rfl) dX11_goes_84
      · rw [if_pos c16] at hf
        cases hf
        exact r_throw C (by decide) (hE.2 (by decide)) (zqt (by decide) hR rfl rfl) tw_3 (Nat.le_of_ble_eq_true rfl) dX11_goes_38 dX11_goes_41 dX11_goes_42 dX11_goes_45
    · rw [if_neg c12] at hf
      cases hf
      exact r_callXVv (As := [.int a1]) (st := []) C 0 rfl (by decide) rfl (kX11_checkPinner (xG X)) cw_X11_185 rfl rfl (Nat.le_of_ble_eq_true rfl) (zq2 hR rfl rfl) (zqc hR (Or.inr rfl)) dX11_goes_14 (fun q0 => hE.2 q0) (fun q0 => absurd q0 c12)
def BX11_before_0  (rec : Nat → Hp → Int32 → Int32 → Int32 → Int32 → Option (Int32 × Nat × Hp)) (h : Hp) (y1 : Int32) (y2 : Int32) (y3 : Int32) (y4 : Int32) : Option (Int32 × Nat × Hp) := (if (16 : Int32) ≤ y3 then some (y2, 0, h) else rec 1 h y1 y2 y3 (0 : Int32))
def BX11_before_1  (rec : Nat → Hp → Int32 → Int32 → Int32 → Int32 → Option (Int32 × Nat × Hp)) (h : Hp) (y1 : Int32) (y2 : Int32) (y3 : Int32) (y4 : Int32) : Option (Int32 × Nat × Hp) := (if (h (32 + 5) 0) ≤ y4 then lt9 (y3 + (1 : Int32)) (fun x3 => rec 0 h y1 y2 x3 0) else gd (inb y4 5) (gd (inb y4 5) ((if ((h (32 + 7) y4.toNatClampNeg) * y1) < (jabs ((h (32 + 6) y4.toNatClampNeg) - y3)) then lt9 (y4 + (1 : Int32)) (fun x7 => rec 1 h y1 y2 y3 x7) else lt9 (y2 ||| ((1 : Int32) <<< (y3 &&& 31))) (fun x8 => lt9 (y4 + (1 : Int32)) (fun x9 => rec 1 h y1 x8 y3 x9))))))
def LX11_before  : Nat → Nat → Hp → Int32 → Int32 → Int32 → Int32 → Option (Int32 × Nat × Hp)
  | 0, _, _, _, _, _, _ => none
  | n + 1, lab, h, y1, y2, y3, y4 => if lab = 0 then BX11_before_0  (LX11_before  n) h y1 y2 y3 y4 else if lab = 1 then BX11_before_1  (LX11_before  n) h y1 y2 y3 y4 else none
def fX11_before (h : Hp) (a1 : Int32) : Option (Int32 × Nat × Hp) := (if (fX11_checkNumber a1 (0 : Int32) (20 : Int32)) = 0 then LX11_before big 0 h a1 (0 : Int32) (0 : Int32) 0 else some ((0 : Int32), (fX11_checkNumber a1 (0 : Int32) (20 : Int32)), h))
set_option maxHeartbeats 4000000 in
set_option maxRecDepth 100000 in
theorem wX11_before {X : Cx}  {rr : Int32} {kk : Nat} {hh : Hp} (C : OK X cX11_before 5 RX11 (some .int)) (hR : xR X = { frames := 8, cells := xc kk, slots := xs kk, locals := 512 }) (hcs : True) (hE : FinE X (some (.int rr)) kk hh) : ∀ n : Nat, (∀ (h : Hp) (y1 : Int32) (y2 : Int32) (y3 : Int32) (y4 : Int32), LX11_before  n 0 h y1 y2 y3 y4 = some (rr, kk, hh) → VW X 5 h 0 0 11 [(0, .ref (gad (xG X) 0)), (1, .int y1), (2, .int y2), (3, .int y3)] []) ∧ (∀ (h : Hp) (y1 : Int32) (y2 : Int32) (y3 : Int32) (y4 : Int32), LX11_before  n 1 h y1 y2 y3 y4 = some (rr, kk, hh) → VW X 5 h 0 0 20 [(0, .ref (gad (xG X) 0)), (1, .int y1), (2, .int y2), (3, .int y3), (4, .int y4)] []) := by
  intro n
  induction n with
  | zero => exact ⟨(fun _ _ _ _ _ hf => (by rw [LX11_before] at hf; cases hf)), (fun _ _ _ _ _ hf => (by rw [LX11_before] at hf; cases hf))⟩
  | succ n ih =>
    refine ⟨?_, ?_⟩
    · intro h y1 y2 y3 y4 hf
      rw [LX11_before, if_pos rfl] at hf
      unfold BX11_before_0 at hf
      refine r_iload_n (i := 3) C dX11_before_11 rfl 3 rfl ?_
      refine r_bipush (v := 16) C dX11_before_12 (by decide) ?_
      refine r_icmp_ge C 89 dX11_before_14 (by decide) (fun c1 => ?_) (fun c1 => ?_)
      · rw [if_pos c1] at hf
        refine r_iload_n (i := 2) C dX11_before_89 rfl 2 rfl ?_
        cases hf
        exact r_iret C (hE.1 rfl) dX11_before_90
      · rw [if_neg c1] at hf
        refine r_iconst (v := 0) C dX11_before_17 (by decide) ?_
        refine r_istore (i := 4) (lv' := [(0, .ref (gad (xG X) 0)), (1, .int y1), (2, .int y2), (3, .int y3), (4, .int (0 : Int32))]) C dX11_before_18 (by decide) [1, 2, 3, 4, 0] rfl ?_
        exact r_lv [0, 1, 2, 3, 4] rfl (ih.2 _ _ _ _ _ hf)
    · intro h y1 y2 y3 y4 hf
      rw [LX11_before, if_neg (by decide), if_pos rfl] at hf
      unfold BX11_before_1 at hf
      refine r_iload (i := 4) C dX11_before_20 4 rfl ?_
      refine r_aload_n (i := 0) C dX11_before_22 rfl 0 rfl ?_
      refine g_X11_54 C dX11_before_23 ?_
      refine g_X11_188 sk32 C dX11_before_26 ?_
      refine g_X11_305 sk32 C dX11_before_29 ?_
      refine r_icmp_ge C 83 dX11_before_32 (by decide) (fun c2 => ?_) (fun c2 => ?_)
      · rw [if_pos c2] at hf
        obtain ⟨x3, ex3, hf⟩ := lt_of hf
        refine r_iinc (j := 3) (v := x3) (lv' := [(0, .ref (gad (xG X) 0)), (1, .int y1), (2, .int y2), (3, .int x3), (4, .int y4)]) C dX11_before_83 rfl (by rw [ex3]; rfl) (by decide) [1, 2, 3, 0, 4] rfl ?_
        refine r_goto C 11 dX11_before_86 (by decide) ?_
        exact r_lv [0, 1, 2, 3] rfl (ih.1 _ _ _ _ _ hf)
      · rw [if_neg c2] at hf
        refine r_aload_n (i := 0) C dX11_before_35 rfl 0 rfl ?_
        refine g_X11_54 C dX11_before_36 ?_
        refine g_X11_188 sk32 C dX11_before_39 ?_
        refine g_X11_192 sk32 C dX11_before_42 ?_
        refine r_iload (i := 4) C dX11_before_45 4 rfl ?_
        obtain ⟨g4, hf⟩ := gd_of hf
        refine r_iald C (32 + 6) (sky_dsc sk32 6 (by decide)) (sky_lt sk32 6 (by decide)) g4 dX11_before_47 ?_
        refine r_iload_n (i := 3) C dX11_before_48 rfl 3 rfl ?_
        refine r_isub C dX11_before_49 ?_
        refine r_mabs9 C gw_1262 gm_abs_s gm_i gm_abs_c (zq1 hR rfl) (zq0 hR (Nat.le_of_ble_eq_true rfl)) (zrcs hcs) dX11_before_50 ?_
        refine r_aload_n (i := 0) C dX11_before_53 rfl 0 rfl ?_
        refine g_X11_54 C dX11_before_54 ?_
        refine g_X11_188 sk32 C dX11_before_57 ?_
        refine g_X11_197 sk32 C dX11_before_60 ?_
        refine r_iload (i := 4) C dX11_before_63 4 rfl ?_
        obtain ⟨g5, hf⟩ := gd_of hf
        refine r_iald C (32 + 7) (sky_dsc sk32 7 (by decide)) (sky_lt sk32 7 (by decide)) g5 dX11_before_65 ?_
        refine r_iload_n (i := 1) C dX11_before_66 rfl 1 rfl ?_
        refine r_imul C dX11_before_67 ?_
        refine r_icmp_gt C 77 dX11_before_68 (by decide) (fun c6 => ?_) (fun c6 => ?_)
        · rw [if_pos c6] at hf
          obtain ⟨x7, ex7, hf⟩ := lt_of hf
          refine r_iinc (j := 4) (v := x7) (lv' := [(0, .ref (gad (xG X) 0)), (1, .int y1), (2, .int y2), (3, .int y3), (4, .int x7)]) C dX11_before_77 rfl (by rw [ex7]; rfl) (by decide) [1, 2, 3, 4, 0] rfl ?_
          refine r_goto C 20 dX11_before_80 (by decide) ?_
          exact r_lv [0, 1, 2, 3, 4] rfl (ih.2 _ _ _ _ _ hf)
        · rw [if_neg c6] at hf
          refine r_iload_n (i := 2) C dX11_before_71 rfl 2 rfl ?_
          refine r_iconst (v := 1) C dX11_before_72 (by decide) ?_
          refine r_iload_n (i := 3) C dX11_before_73 rfl 3 rfl ?_
          refine r_ishl C dX11_before_74 ?_
          refine r_ior C dX11_before_75 ?_
          obtain ⟨x8, ex8, hf⟩ := lt_of hf
          refine r_top ex8 ?_
          refine r_istore_n (i := 2) (lv' := [(0, .ref (gad (xG X) 0)), (1, .int y1), (2, .int x8), (3, .int y3), (4, .int y4)]) C dX11_before_76 rfl (by decide) [1, 2, 0, 3, 4] rfl ?_
          obtain ⟨x9, ex9, hf⟩ := lt_of hf
          refine r_iinc (j := 4) (v := x9) (lv' := [(0, .ref (gad (xG X) 0)), (1, .int y1), (2, .int x8), (3, .int y3), (4, .int x9)]) C dX11_before_77 rfl (by rw [ex9]; rfl) (by decide) [1, 2, 3, 4, 0] rfl ?_
          refine r_goto C 20 dX11_before_80 (by decide) ?_
          exact r_lv [0, 1, 2, 3, 4] rfl (ih.2 _ _ _ _ _ hf)
set_option maxHeartbeats 4000000 in
set_option maxRecDepth 100000 in
theorem kX11_before (G : Gx)  {h : Hp} {a1 : Int32} {rr : Int32} {kk : Nat} {hh : Hp} (hf : fX11_before h a1 = some (rr, kk, hh)) : MX G yX11_before cX11_before 5 (some .int) 8 512 h [.ref (gad G 0), .int a1] (some (.int rr)) kk hh := by
  refine MX.of RX11 (by decide) rfl (Nat.le_of_ble_eq_true rfl) rfl (fun X C hG hR hE => ?_)
  subst hG
  have hcs : True := trivial
  unfold fX11_before at hf
  refine r_iload_n (i := 1) C dX11_before_0 rfl 1 rfl ?_
  refine r_iconst (v := 0) C dX11_before_1 (by decide) ?_
  refine r_bipush (v := 20) C dX11_before_2 (by decide) ?_
  by_cases c10 : (fX11_checkNumber a1 (0 : Int32) (20 : Int32)) = 0
  · rw [if_pos c10] at hf
    refine r_callXSv (As := [.int a1, .int (0 : Int32), .int (20 : Int32)]) (st := []) C (kX11_checkNumber (xG X)) cw_X11_244 rfl rfl (Nat.le_of_ble_eq_true rfl) (zq2 hR rfl rfl) (zqc hR (Or.inl c10)) dX11_before_4 (fun q0 => absurd c10 q0) (fun _ => ?_)
    refine r_iconst (v := 0) C dX11_before_7 (by decide) ?_
    refine r_istore_n (i := 2) (lv' := [(0, .ref (gad (xG X) 0)), (1, .int a1), (2, .int (0 : Int32))]) C dX11_before_8 rfl (by decide) [1, 2, 0] rfl ?_
    refine r_iconst (v := 0) C dX11_before_9 (by decide) ?_
    refine r_istore_n (i := 3) (lv' := [(0, .ref (gad (xG X) 0)), (1, .int a1), (2, .int (0 : Int32)), (3, .int (0 : Int32))]) C dX11_before_10 rfl (by decide) [1, 2, 3, 0] rfl ?_
    exact r_lv [0, 1, 2, 3] rfl ((wX11_before  C hR hcs hE big).1 _ _ _ _ _ hf)
  · rw [if_neg c10] at hf
    cases hf
    exact r_callXSv (As := [.int a1, .int (0 : Int32), .int (20 : Int32)]) (st := []) C (kX11_checkNumber (xG X)) cw_X11_244 rfl rfl (Nat.le_of_ble_eq_true rfl) (zq2 hR rfl rfl) (zqc hR (Or.inr rfl)) dX11_before_4 (fun q0 => hE.2 q0) (fun q0 => absurd q0 c10)
def BX11_odds_0  (rec : Hp → Int32 → Int64 → Int32 → Option (Int32 × Nat × Hp)) (h : Hp) (y1 : Int32) (y3 : Int64) (y5 : Int32) : Option (Int32 × Nat × Hp) := (if y1 < y5 then cl9 (fX11_power h (100 : Int64) y1) (fun x2 => (if (0 : Int32) ≤ (lg_cmp x2 (1 : Int64)) then lt9 (10000 : Int64) (fun x5 => gd (¬ x2 = 0) (some ((((y3 * x5) / x2).toInt32), 0, h))) else some ((0 : Int32), 0, h))) else cl9 (fX11_choices h y1 y5) (fun x7 => cl9 (fX11_power h ((h 32 10).toInt64) y5) (fun x9 => cl9 (fX11_power h ((((100 : Int32) - (h 32 10))).toInt64) (y1 - y5)) (fun x11 => lt9 (y3 + ((x7 * x9) * x11)) (fun x13 => lt9 (y5 + (1 : Int32)) (fun x14 => rec h y1 x13 x14))))))
def LX11_odds  : Nat → Hp → Int32 → Int64 → Int32 → Option (Int32 × Nat × Hp)
  | 0, _, _, _, _ => none
  | n + 1, h, y1, y3, y5 => BX11_odds_0  (LX11_odds  n) h y1 y3 y5
def fX11_odds (h : Hp) (a1 : Int32) (a2 : Int32) : Option (Int32 × Nat × Hp) := (if (fX11_checkNumber a1 (0 : Int32) (6 : Int32)) = 0 then (if (fX11_checkNumber a2 (0 : Int32) (6 : Int32)) = 0 then LX11_odds big h a1 (0 : Int64) a2 else some ((0 : Int32), (fX11_checkNumber a2 (0 : Int32) (6 : Int32)), h)) else some ((0 : Int32), (fX11_checkNumber a1 (0 : Int32) (6 : Int32)), h))
set_option maxHeartbeats 4000000 in
set_option maxRecDepth 100000 in
theorem wX11_odds {X : Cx}  {rr : Int32} {kk : Nat} {hh : Hp} (C : OK X cX11_odds 7 RX11 (some .int)) (hR : xR X = { frames := 7, cells := xc kk, slots := xs kk, locals := 448 }) (hcs : True) (hE : FinE X (some (.int rr)) kk hh) : ∀ n : Nat, (∀ (h : Hp) (y1 : Int32) (y3 : Int64) (y5 : Int32), LX11_odds  n h y1 y3 y5 = some (rr, kk, hh) → VW X 7 h 0 0 19 [(0, .ref (gad (xG X) 0)), (1, .int y1), (3, .long y3), (5, .int y5)] []) := by
  intro n
  induction n with
  | zero => exact (fun _ _ _ _ hf => (by rw [LX11_odds] at hf; cases hf))
  | succ n ih =>
    intro h y1 y3 y5 hf
    rw [LX11_odds] at hf
    unfold BX11_odds_0 at hf
    refine r_iload (i := 5) C dX11_odds_19 3 rfl ?_
    refine r_iload_n (i := 1) C dX11_odds_21 rfl 1 rfl ?_
    refine r_icmp_gt C 73 dX11_odds_22 (by decide) (fun c1 => ?_) (fun c1 => ?_)
    · rw [if_pos c1] at hf
      refine r_ldc2 C dX11_odds_73 gw_1424 ?_
      refine r_iload_n (i := 1) C dX11_odds_76 rfl 1 rfl ?_
      obtain ⟨x2, e3, hf⟩ := cl_of hf
      refine r_callSl (As := [.long (100 : Int64), .int y1]) (st := []) C (kX11_power (xG X) e3) cw_X11_340 rfl rfl (Nat.le_of_ble_eq_true rfl) (zq2 hR rfl rfl) (zrcs hcs) dX11_odds_77 ?_
      refine r_lstore (i := 5) (lv' := [(0, .ref (gad (xG X) 0)), (1, .int y1), (3, .long y3), (5, .long x2)]) C dX11_odds_80 (by decide) [1, 2, 3, 0] rfl ?_
      refine r_lload (i := 5) C dX11_odds_82 3 rfl ?_
      refine r_lconst (v := 1) C dX11_odds_84 (by decide) ?_
      refine r_lcmp C dX11_odds_85 ?_
      refine r_if_ge C 93 dX11_odds_86 (by decide) (fun c4 => ?_) (fun c4 => ?_)
      · rw [if_pos c4] at hf
        refine r_lload_n (i := 3) C dX11_odds_93 rfl 2 rfl ?_
        refine r_ldc2 C dX11_odds_94 gw_1425 ?_
        obtain ⟨x5, ex5, hf⟩ := lt_of hf
        refine r_topl ex5 ?_
        refine r_lmul C dX11_odds_97 ?_
        refine r_lload (i := 5) C dX11_odds_98 3 rfl ?_
        obtain ⟨g6, hf⟩ := gd_of hf
        refine r_ldiv C dX11_odds_100 g6 ?_
        refine r_l2i C dX11_odds_101 ?_
        cases hf
        exact r_iret C (hE.1 rfl) dX11_odds_102
      · rw [if_neg c4] at hf
        refine r_iconst (v := 0) C dX11_odds_89 (by decide) ?_
        refine r_goto C 102 dX11_odds_90 (by decide) ?_
        cases hf
        exact r_iret C (hE.1 rfl) dX11_odds_102
    · rw [if_neg c1] at hf
      refine r_lload_n (i := 3) C dX11_odds_25 rfl 2 rfl ?_
      refine r_iload_n (i := 1) C dX11_odds_26 rfl 1 rfl ?_
      refine r_iload (i := 5) C dX11_odds_27 3 rfl ?_
      obtain ⟨x7, e8, hf⟩ := cl_of hf
      refine r_callSl (As := [.int y1, .int y5]) (st := [.long y3]) C (kX11_choices (xG X) e8) cw_X11_333 rfl rfl (Nat.le_of_ble_eq_true rfl) (zq2 hR rfl rfl) (zrcs hcs) dX11_odds_29 ?_
      refine r_aload_n (i := 0) C dX11_odds_32 rfl 0 rfl ?_
      refine g_X11_54 C dX11_odds_33 ?_
      refine g_X11_337 sk32 C dX11_odds_36 ?_
      refine r_i2l C dX11_odds_39 ?_
      refine r_iload (i := 5) C dX11_odds_40 3 rfl ?_
      obtain ⟨x9, e10, hf⟩ := cl_of hf
      refine r_callSl (As := [.long ((h 32 10).toInt64), .int y5]) (st := [.long x7, .long y3]) C (kX11_power (xG X) e10) cw_X11_340 rfl rfl (Nat.le_of_ble_eq_true rfl) (zq2 hR rfl rfl) (zrcs hcs) dX11_odds_42 ?_
      refine r_lmul C dX11_odds_45 ?_
      refine r_bipush (v := 100) C dX11_odds_46 (by decide) ?_
      refine r_aload_n (i := 0) C dX11_odds_48 rfl 0 rfl ?_
      refine g_X11_54 C dX11_odds_49 ?_
      refine g_X11_337 sk32 C dX11_odds_52 ?_
      refine r_isub C dX11_odds_55 ?_
      refine r_i2l C dX11_odds_56 ?_
      refine r_iload_n (i := 1) C dX11_odds_57 rfl 1 rfl ?_
      refine r_iload (i := 5) C dX11_odds_58 3 rfl ?_
      refine r_isub C dX11_odds_60 ?_
      obtain ⟨x11, e12, hf⟩ := cl_of hf
      refine r_callSl (As := [.long ((((100 : Int32) - (h 32 10))).toInt64), .int (y1 - y5)]) (st := [.long (x7 * x9), .long y3]) C (kX11_power (xG X) e12) cw_X11_340 rfl rfl (Nat.le_of_ble_eq_true rfl) (zq2 hR rfl rfl) (zrcs hcs) dX11_odds_61 ?_
      refine r_lmul C dX11_odds_64 ?_
      refine r_ladd C dX11_odds_65 ?_
      obtain ⟨x13, ex13, hf⟩ := lt_of hf
      refine r_topl ex13 ?_
      refine r_lstore_n (i := 3) (lv' := [(0, .ref (gad (xG X) 0)), (1, .int y1), (3, .long x13), (5, .int y5)]) C dX11_odds_66 rfl (by decide) [1, 2, 0, 3] rfl ?_
      obtain ⟨x14, ex14, hf⟩ := lt_of hf
      refine r_iinc (j := 3) (v := x14) (lv' := [(0, .ref (gad (xG X) 0)), (1, .int y1), (3, .long x13), (5, .int x14)]) C dX11_odds_67 rfl (by rw [ex14]; rfl) (by decide) [1, 2, 3, 0] rfl ?_
      refine r_goto C 19 dX11_odds_70 (by decide) ?_
      exact r_lv [0, 1, 2, 3] rfl (ih _ _ _ _ hf)
set_option maxHeartbeats 4000000 in
set_option maxRecDepth 100000 in
theorem kX11_odds (G : Gx)  {h : Hp} {a1 : Int32} {a2 : Int32} {rr : Int32} {kk : Nat} {hh : Hp} (hf : fX11_odds h a1 a2 = some (rr, kk, hh)) : MX G yX11_odds cX11_odds 7 (some .int) 7 448 h [.ref (gad G 0), .int a1, .int a2] (some (.int rr)) kk hh := by
  refine MX.of RX11 (by decide) rfl (Nat.le_of_ble_eq_true rfl) rfl (fun X C hG hR hE => ?_)
  subst hG
  have hcs : True := trivial
  unfold fX11_odds at hf
  refine r_iload_n (i := 1) C dX11_odds_0 rfl 1 rfl ?_
  refine r_iconst (v := 0) C dX11_odds_1 (by decide) ?_
  refine r_bipush (v := 6) C dX11_odds_2 (by decide) ?_
  by_cases c15 : (fX11_checkNumber a1 (0 : Int32) (6 : Int32)) = 0
  · rw [if_pos c15] at hf
    refine r_callXSv (As := [.int a1, .int (0 : Int32), .int (6 : Int32)]) (st := []) C (kX11_checkNumber (xG X)) cw_X11_244 rfl rfl (Nat.le_of_ble_eq_true rfl) (zq2 hR rfl rfl) (zqc hR (Or.inl c15)) dX11_odds_4 (fun q0 => absurd c15 q0) (fun _ => ?_)
    refine r_iload_n (i := 2) C dX11_odds_7 rfl 2 rfl ?_
    refine r_iconst (v := 0) C dX11_odds_8 (by decide) ?_
    refine r_bipush (v := 6) C dX11_odds_9 (by decide) ?_
    by_cases c16 : (fX11_checkNumber a2 (0 : Int32) (6 : Int32)) = 0
    · rw [if_pos c16] at hf
      refine r_callXSv (As := [.int a2, .int (0 : Int32), .int (6 : Int32)]) (st := []) C (kX11_checkNumber (xG X)) cw_X11_244 rfl rfl (Nat.le_of_ble_eq_true rfl) (zq2 hR rfl rfl) (zqc hR (Or.inl c16)) dX11_odds_11 (fun q0 => absurd c16 q0) (fun _ => ?_)
      refine r_lconst (v := 0) C dX11_odds_14 (by decide) ?_
      refine r_lstore_n (i := 3) (lv' := [(0, .ref (gad (xG X) 0)), (1, .int a1), (2, .int a2), (3, .long (0 : Int64))]) C dX11_odds_15 rfl (by decide) [1, 2, 3, 0] rfl ?_
      refine r_iload_n (i := 2) C dX11_odds_16 rfl 2 rfl ?_
      refine r_istore (i := 5) (lv' := [(0, .ref (gad (xG X) 0)), (1, .int a1), (2, .int a2), (3, .long (0 : Int64)), (5, .int a2)]) C dX11_odds_17 (by decide) [1, 2, 3, 4, 0] rfl ?_
      exact r_lv [0, 1, 3, 4] rfl ((wX11_odds  C hR hcs hE big) _ _ _ _ hf)
    · rw [if_neg c16] at hf
      cases hf
      exact r_callXSv (As := [.int a2, .int (0 : Int32), .int (6 : Int32)]) (st := []) C (kX11_checkNumber (xG X)) cw_X11_244 rfl rfl (Nat.le_of_ble_eq_true rfl) (zq2 hR rfl rfl) (zqc hR (Or.inr rfl)) dX11_odds_11 (fun q0 => hE.2 q0) (fun q0 => absurd q0 c16)
  · rw [if_neg c15] at hf
    cases hf
    exact r_callXSv (As := [.int a1, .int (0 : Int32), .int (6 : Int32)]) (st := []) C (kX11_checkNumber (xG X)) cw_X11_244 rfl rfl (Nat.le_of_ble_eq_true rfl) (zq2 hR rfl rfl) (zqc hR (Or.inr rfl)) dX11_odds_4 (fun q0 => hE.2 q0) (fun q0 => absurd q0 c15)
def fX11_led (h : Hp) (a1 : Int32) (a2 : Int32) : Option (Int32 × Nat × Hp) := (if (fX11_checkPlace a1) = 0 then (if a2 = (0 : Int32) then cl9 (fX4_rowsOf h 32 a1) (fun x3 => some (x3, 0, h)) else cl9 (fX4_latestDayOf h 32 a1) (fun x5 => some (x5, 0, h))) else some ((0 : Int32), (fX11_checkPlace a1), h))
set_option maxHeartbeats 4000000 in
set_option maxRecDepth 100000 in
theorem kX11_led (G : Gx)  {h : Hp} {a1 : Int32} {a2 : Int32} {rr : Int32} {kk : Nat} {hh : Hp} (hf : fX11_led h a1 a2 = some (rr, kk, hh)) : MX G yX11_led cX11_led 3 (some .int) 7 448 h [.ref (gad G 0), .int a1, .int a2] (some (.int rr)) kk hh := by
  refine MX.of RX11 (by decide) rfl (Nat.le_of_ble_eq_true rfl) rfl (fun X C hG hR hE => ?_)
  subst hG
  have hcs : True := trivial
  unfold fX11_led at hf
  refine r_iload_n (i := 1) C dX11_led_0 rfl 1 rfl ?_
  by_cases c1 : (fX11_checkPlace a1) = 0
  · rw [if_pos c1] at hf
    refine r_callXSv (As := [.int a1]) (st := []) C (kX11_checkPlace (xG X)) cw_X11_136 rfl rfl (Nat.le_of_ble_eq_true rfl) (zq2 hR rfl rfl) (zqc hR (Or.inl c1)) dX11_led_1 (fun q0 => absurd c1 q0) (fun _ => ?_)
    refine r_iload_n (i := 2) C dX11_led_4 rfl 2 rfl ?_
    refine r_if_eq C 22 dX11_led_5 (by decide) (fun c2 => ?_) (fun c2 => ?_)
    · rw [if_pos c2] at hf
      refine r_aload_n (i := 0) C dX11_led_22 rfl 0 rfl ?_
      refine g_X11_54 C dX11_led_23 ?_
      refine g_X11_216 sk32 C dX11_led_26 ?_
      refine r_iload_n (i := 1) C dX11_led_29 rfl 1 rfl ?_
      obtain ⟨x3, e4, hf⟩ := cl_of hf
      refine r_callNVi (As := [.int a1]) (st := []) C (32 + 9) (sky_dsc sk32 9 (by decide)) (sky_lt sk32 9 (by decide)) rfl (kX4_rowsOf (xG X) sk32 e4) cw_X11_354 rfl rfl (Nat.le_of_ble_eq_true rfl) (zq2 hR rfl rfl) (zrcs hcs) dX11_led_30 ?_
      cases hf
      exact r_iret C (hE.1 rfl) dX11_led_33
    · rw [if_neg c2] at hf
      refine r_aload_n (i := 0) C dX11_led_8 rfl 0 rfl ?_
      refine g_X11_54 C dX11_led_9 ?_
      refine g_X11_216 sk32 C dX11_led_12 ?_
      refine r_iload_n (i := 1) C dX11_led_15 rfl 1 rfl ?_
      obtain ⟨x5, e6, hf⟩ := cl_of hf
      refine r_callNVi (As := [.int a1]) (st := []) C (32 + 9) (sky_dsc sk32 9 (by decide)) (sky_lt sk32 9 (by decide)) rfl (kX4_latestDayOf (xG X) sk32 e6) cw_X11_351 rfl rfl (Nat.le_of_ble_eq_true rfl) (zq2 hR rfl rfl) (zrcs hcs) dX11_led_16 ?_
      refine r_goto C 33 dX11_led_19 (by decide) ?_
      cases hf
      exact r_iret C (hE.1 rfl) dX11_led_33
  · rw [if_neg c1] at hf
    cases hf
    exact r_callXSv (As := [.int a1]) (st := []) C (kX11_checkPlace (xG X)) cw_X11_136 rfl rfl (Nat.le_of_ble_eq_true rfl) (zq2 hR rfl rfl) (zqc hR (Or.inr rfl)) dX11_led_1 (fun q0 => hE.2 q0) (fun q0 => absurd q0 c1)
def fX11_undo (h : Hp) : Option (Int32 × Hp) := cl2 (fX5_takeBack h 32) (fun x3 h1 => gd (x3 = 0 ∨ x3 = 1) (some (x3, h1)))
set_option maxHeartbeats 4000000 in
set_option maxRecDepth 100000 in
theorem kX11_undo (G : Gx)  {h : Hp}  {rr : Int32} {hh : Hp} (hf : fX11_undo h = some (rr, hh)) : MC G yX11_undo cX11_undo 1 (some .boolean) 6 384 h [.ref (gad G 0)] (some (.int rr)) hh := by
  refine MC.of RX11 (by decide) rfl (Nat.le_of_ble_eq_true rfl) rfl (fun X C hG hR hF => ?_)
  subst hG
  have hcs : True := trivial
  unfold fX11_undo at hf
  refine r_aload_n (i := 0) C dX11_undo_0 rfl 0 rfl ?_
  refine g_X11_40 C dX11_undo_1 ?_
  refine r_aload_n (i := 0) C dX11_undo_4 rfl 0 rfl ?_
  refine g_X11_54 C dX11_undo_5 ?_
  obtain ⟨x3, h1, e2, hf⟩ := cl2_of hf
  refine r_callNVi (As := [.ref (gad (xG X) 32)]) (st := []) C 18 rfl (by decide) rfl (kX5_takeBack (xG X) sk32 e2) cw_X11_360 rfl rfl (Nat.le_of_ble_eq_true rfl) (zr2 hR rfl rfl) (zrcs hcs) dX11_undo_8 ?_
  obtain ⟨zz, hf⟩ := gd_of hf
  cases hf
  exact r_zret C zz hF dX11_undo_11
def fX11_nextOfSameSize (h : Hp) (a1 : Int32) : Option (Int32) := lt9 (a1 + (a1 &&& (-a1))) (fun x1 => cl9 (fJ_numberOfTrailingZeros h a1) (fun x2 => some (x1 ||| (ushr (a1 ^^^ x1) ((2 : Int32) + x2)))))
set_option maxHeartbeats 4000000 in
set_option maxRecDepth 100000 in
theorem kX11_nextOfSameSize (G : Gx)  {h : Hp} {a1 : Int32} {rr : Int32} (hf : fX11_nextOfSameSize h a1 = some rr) : MC G yX11_nextOfSameSize cX11_nextOfSameSize 2 (some .int) 2 128 h [.int a1] (some (.int rr)) h := by
  refine MC.of RX11 (by decide) rfl (Nat.le_of_ble_eq_true rfl) rfl (fun X C hG hR hF => ?_)
  subst hG
  have hcs : True := trivial
  unfold fX11_nextOfSameSize at hf
  refine r_iload_n (i := 0) C dX11_nextOfSameSize_0 rfl 0 rfl ?_
  refine r_iload_n (i := 0) C dX11_nextOfSameSize_1 rfl 0 rfl ?_
  refine r_iload_n (i := 0) C dX11_nextOfSameSize_2 rfl 0 rfl ?_
  refine r_ineg C dX11_nextOfSameSize_3 ?_
  refine r_iand C dX11_nextOfSameSize_4 ?_
  refine r_iadd C dX11_nextOfSameSize_5 ?_
  obtain ⟨x1, ex1, hf⟩ := lt_of hf
  refine r_top ex1 ?_
  refine r_istore_n (i := 1) (lv' := [(0, .int a1), (1, .int x1)]) C dX11_nextOfSameSize_6 rfl (by decide) [1, 0] rfl ?_
  refine r_iload_n (i := 1) C dX11_nextOfSameSize_7 rfl 1 rfl ?_
  refine r_iload_n (i := 0) C dX11_nextOfSameSize_8 rfl 0 rfl ?_
  refine r_iload_n (i := 1) C dX11_nextOfSameSize_9 rfl 1 rfl ?_
  refine r_ixor C dX11_nextOfSameSize_10 ?_
  refine r_iconst (v := 2) C dX11_nextOfSameSize_11 (by decide) ?_
  refine r_iload_n (i := 0) C dX11_nextOfSameSize_12 rfl 0 rfl ?_
  obtain ⟨x2, e3, hf⟩ := cl_of hf
  refine r_callSi (As := [.int a1]) (st := [.int (2 : Int32), .int (a1 ^^^ x1), .int x1]) C (kJ_numberOfTrailingZeros (xG X) e3) cw_X11_282 rfl rfl (Nat.le_of_ble_eq_true rfl) (zr2 hR rfl rfl) (zrcs hcs) dX11_nextOfSameSize_13 ?_
  refine r_iadd C dX11_nextOfSameSize_16 ?_
  refine r_iushr C dX11_nextOfSameSize_17 ?_
  refine r_ior C dX11_nextOfSameSize_18 ?_
  cases hf
  exact r_iret C hF dX11_nextOfSameSize_19
def fX12_readAt (h : Hp) (a1 : Int32) (a2 : Int32) : Option (Int32 × Hp) := cl2 (fX12_placeTold h) (fun x3 h1 => (if x3 < (0 : Int32) then some ((0 : Int32), h1) else cl2 (fX12_readNumber h1 (a1 + x3) (0 : Int32) a2) (fun x7 h5 => (if x7 = (0 : Int32) then some ((0 : Int32), h5) else some ((1 : Int32), h5)))))
set_option maxHeartbeats 4000000 in
set_option maxRecDepth 100000 in
theorem kX12_readAt (G : Gx)  {h : Hp} {a1 : Int32} {a2 : Int32} {rr : Int32} {hh : Hp} (hf : fX12_readAt h a1 a2 = some (rr, hh)) : MC G yX12_readAt cX12_readAt 4 (some .boolean) 5 320 h [.ref (gad G 208), .int a1, .int a2] (some (.int rr)) hh := by
  refine MC.of RX12 (by decide) rfl (Nat.le_of_ble_eq_true rfl) rfl (fun X C hG hR hF => ?_)
  subst hG
  have hcs : True := trivial
  unfold fX12_readAt at hf
  refine r_aload_n (i := 0) C dX12_readAt_0 rfl 0 rfl ?_
  obtain ⟨x3, h1, e2, hf⟩ := cl2_of hf
  refine r_callVi (As := []) (st := []) C 208 rfl (by decide) rfl (kX12_placeTold (xG X) e2) cw_X12_119 rfl rfl (Nat.le_of_ble_eq_true rfl) (zr2 hR rfl rfl) (zrcs hcs) dX12_readAt_1 ?_
  refine r_istore_n (i := 3) (lv' := [(0, .ref (gad (xG X) 208)), (1, .int a1), (2, .int a2), (3, .int x3)]) C dX12_readAt_4 rfl (by decide) [1, 2, 3, 0] rfl ?_
  refine r_iload_n (i := 3) C dX12_readAt_5 rfl 3 rfl ?_
  refine r_if_lt C 25 dX12_readAt_6 (by decide) (fun c4 => ?_) (fun c4 => ?_)
  · rw [if_pos c4] at hf
    refine r_iconst (v := 0) C dX12_readAt_25 (by decide) ?_
    have zz : (0 : Int32) = 0 ∨ (0 : Int32) = 1 := (Or.inl rfl)
    cases hf
    exact r_zret C zz hF dX12_readAt_26
  · rw [if_neg c4] at hf
    refine r_aload_n (i := 0) C dX12_readAt_9 rfl 0 rfl ?_
    refine r_iload_n (i := 1) C dX12_readAt_10 rfl 1 rfl ?_
    refine r_iload_n (i := 3) C dX12_readAt_11 rfl 3 rfl ?_
    refine r_iadd C dX12_readAt_12 ?_
    refine r_iconst (v := 0) C dX12_readAt_13 (by decide) ?_
    refine r_iload_n (i := 2) C dX12_readAt_14 rfl 2 rfl ?_
    obtain ⟨x7, h5, e6, hf⟩ := cl2_of hf
    refine r_callVi (As := [.int (a1 + x3), .int (0 : Int32), .int a2]) (st := []) C 208 rfl (by decide) rfl (kX12_readNumber (xG X) e6) cw_X12_131 rfl rfl (Nat.le_of_ble_eq_true rfl) (zr2 hR rfl rfl) (zrcs hcs) dX12_readAt_15 ?_
    refine r_if_eq C 25 dX12_readAt_18 (by decide) (fun c8 => ?_) (fun c8 => ?_)
    · rw [if_pos c8] at hf
      refine r_iconst (v := 0) C dX12_readAt_25 (by decide) ?_
      have zz : (0 : Int32) = 0 ∨ (0 : Int32) = 1 := (Or.inl rfl)
      cases hf
      exact r_zret C zz hF dX12_readAt_26
    · rw [if_neg c8] at hf
      refine r_iconst (v := 1) C dX12_readAt_21 (by decide) ?_
      refine r_goto C 26 dX12_readAt_22 (by decide) ?_
      have zz : (1 : Int32) = 0 ∨ (1 : Int32) = 1 := (Or.inr rfl)
      cases hf
      exact r_zret C zz hF dX12_readAt_26
def fX12_readSkyLine (h : Hp) : Option (Int32 × Hp) := cl9 (fX12_isWord h sw28) (fun x1 => (if x1 = (0 : Int32) then cl9 (fX12_isWord h sw30) (fun x4 => (if x4 = (0 : Int32) then cl9 (fX12_isWord h sw31) (fun x7 => (if x7 = (0 : Int32) then cl9 (fX12_isWord h sw32) (fun x10 => (if x10 = (0 : Int32) then cl9 (fX12_isWord h sw33) (fun x13 => (if x13 = (0 : Int32) then cl9 (fX12_isWord h sw34) (fun x16 => (if x16 = (0 : Int32) then cl9 (fX12_isWord h sw37) (fun x19 => (if x19 = (0 : Int32) then cl9 (fX12_isWord h sw38) (fun x22 => (if x22 = (0 : Int32) then cl9 (fX12_isWord h sw39) (fun x25 => (if x25 = (0 : Int32) then cl9 (fX12_isWord h sw40) (fun x28 => (if x28 = (0 : Int32) then cl9 (fX12_isWord h sw41) (fun x31 => (if x31 = (0 : Int32) then some ((0 : Int32), h) else cl2 (fX12_readNumber h (6 : Int32) (0 : Int32) (999 : Int32)) (fun x36 h34 => (if x36 = (0 : Int32) then some ((0 : Int32), h34) else some ((1 : Int32), h34))))) else cl2 (fX12_readNumber h (9 : Int32) (0 : Int32) (100 : Int32)) (fun x40 h38 => gd (x40 = 0 ∨ x40 = 1) (some (x40, h38))))) else cl2 (fX12_readNumber h (8 : Int32) (0 : Int32) (100 : Int32)) (fun x43 h41 => gd (x43 = 0 ∨ x43 = 1) (some (x43, h41))))) else cl2 (fX12_readNumber h (5 : Int32) (0 : Int32) (9 : Int32)) (fun x46 h44 => gd (x46 = 0 ∨ x46 = 1) (some (x46, h44))))) else cl2 (fX12_readNumber h (4 : Int32) (1 : Int32) (40 : Int32)) (fun x49 h47 => gd (x49 = 0 ∨ x49 = 1) (some (x49, h47))))) else cl2 (fX12_readPinner h) (fun x52 h50 => gd (x52 = 0 ∨ x52 = 1) (some (x52, h50))))) else cl2 (fX12_readBare h) (fun x55 h53 => gd (x55 = 0 ∨ x55 = 1) (some (x55, h53))))) else cl2 (fX12_readAt h (46 : Int32) (9 : Int32)) (fun x58 h56 => gd (x58 = 0 ∨ x58 = 1) (some (x58, h56))))) else cl2 (fX12_readAt h (30 : Int32) (20 : Int32)) (fun x61 h59 => gd (x61 = 0 ∨ x61 = 1) (some (x61, h59))))) else cl2 (fX12_readAt h (14 : Int32) (9 : Int32)) (fun x64 h62 => gd (x64 = 0 ∨ x64 = 1) (some (x64, h62))))) else cl2 (fX12_readPin h) (fun x67 h65 => gd (x67 = 0 ∨ x67 = 1) (some (x67, h65)))))
set_option maxHeartbeats 4000000 in
set_option maxRecDepth 100000 in
theorem kX12_readSkyLine (G : Gx)  {h : Hp}  {rr : Int32} {hh : Hp} (hf : fX12_readSkyLine h = some (rr, hh)) : MC G yX12_readSkyLine cX12_readSkyLine 1 (some .boolean) 8 512 h [.ref (gad G 208)] (some (.int rr)) hh := by
  refine MC.of RX12 (by decide) rfl (Nat.le_of_ble_eq_true rfl) rfl (fun X C hG hR hF => ?_)
  subst hG
  have hcs : True := trivial
  unfold fX12_readSkyLine at hf
  refine r_aload_n (i := 0) C dX12_readSkyLine_0 rfl 0 rfl ?_
  refine r_ldcS (e := 28) C st28 dX12_readSkyLine_1 ?_
  obtain ⟨x1, e2, hf⟩ := cl_of hf
  refine r_callVi (As := [.ref (gsK (xG X) 28)]) (st := []) C 208 rfl (by decide) rfl (kX12_isWord (xG X) st28 e2) cw_X12_112 rfl rfl (Nat.le_of_ble_eq_true rfl) (zr2 hR rfl rfl) (zrcs hcs) dX12_readSkyLine_3 ?_
  refine r_if_eq C 14 dX12_readSkyLine_6 (by decide) (fun c3 => ?_) (fun c3 => ?_)
  · rw [if_pos c3] at hf
    refine r_aload_n (i := 0) C dX12_readSkyLine_14 rfl 0 rfl ?_
    refine r_ldcS (e := 30) C st30 dX12_readSkyLine_15 ?_
    obtain ⟨x4, e5, hf⟩ := cl_of hf
    refine r_callVi (As := [.ref (gsK (xG X) 30)]) (st := []) C 208 rfl (by decide) rfl (kX12_isWord (xG X) st30 e5) cw_X12_112 rfl rfl (Nat.le_of_ble_eq_true rfl) (zr2 hR rfl rfl) (zrcs hcs) dX12_readSkyLine_17 ?_
    refine r_if_eq C 32 dX12_readSkyLine_20 (by decide) (fun c6 => ?_) (fun c6 => ?_)
    · rw [if_pos c6] at hf
      refine r_aload_n (i := 0) C dX12_readSkyLine_32 rfl 0 rfl ?_
      refine r_ldcS (e := 31) C st31 dX12_readSkyLine_33 ?_
      obtain ⟨x7, e8, hf⟩ := cl_of hf
      refine r_callVi (As := [.ref (gsK (xG X) 31)]) (st := []) C 208 rfl (by decide) rfl (kX12_isWord (xG X) st31 e8) cw_X12_112 rfl rfl (Nat.le_of_ble_eq_true rfl) (zr2 hR rfl rfl) (zrcs hcs) dX12_readSkyLine_35 ?_
      refine r_if_eq C 50 dX12_readSkyLine_38 (by decide) (fun c9 => ?_) (fun c9 => ?_)
      · rw [if_pos c9] at hf
        refine r_aload_n (i := 0) C dX12_readSkyLine_50 rfl 0 rfl ?_
        refine r_ldcS (e := 32) C st32 dX12_readSkyLine_51 ?_
        obtain ⟨x10, e11, hf⟩ := cl_of hf
        refine r_callVi (As := [.ref (gsK (xG X) 32)]) (st := []) C 208 rfl (by decide) rfl (kX12_isWord (xG X) st32 e11) cw_X12_112 rfl rfl (Nat.le_of_ble_eq_true rfl) (zr2 hR rfl rfl) (zrcs hcs) dX12_readSkyLine_53 ?_
        refine r_if_eq C 68 dX12_readSkyLine_56 (by decide) (fun c12 => ?_) (fun c12 => ?_)
        · rw [if_pos c12] at hf
          refine r_aload_n (i := 0) C dX12_readSkyLine_68 rfl 0 rfl ?_
          refine r_ldcS (e := 33) C st33 dX12_readSkyLine_69 ?_
          obtain ⟨x13, e14, hf⟩ := cl_of hf
          refine r_callVi (As := [.ref (gsK (xG X) 33)]) (st := []) C 208 rfl (by decide) rfl (kX12_isWord (xG X) st33 e14) cw_X12_112 rfl rfl (Nat.le_of_ble_eq_true rfl) (zr2 hR rfl rfl) (zrcs hcs) dX12_readSkyLine_71 ?_
          refine r_if_eq C 82 dX12_readSkyLine_74 (by decide) (fun c15 => ?_) (fun c15 => ?_)
          · rw [if_pos c15] at hf
            refine r_aload_n (i := 0) C dX12_readSkyLine_82 rfl 0 rfl ?_
            refine r_ldcS (e := 34) C st34 dX12_readSkyLine_83 ?_
            obtain ⟨x16, e17, hf⟩ := cl_of hf
            refine r_callVi (As := [.ref (gsK (xG X) 34)]) (st := []) C 208 rfl (by decide) rfl (kX12_isWord (xG X) st34 e17) cw_X12_112 rfl rfl (Nat.le_of_ble_eq_true rfl) (zr2 hR rfl rfl) (zrcs hcs) dX12_readSkyLine_85 ?_
            refine r_if_eq C 96 dX12_readSkyLine_88 (by decide) (fun c18 => ?_) (fun c18 => ?_)
            · rw [if_pos c18] at hf
              refine r_aload_n (i := 0) C dX12_readSkyLine_96 rfl 0 rfl ?_
              refine r_ldcS (e := 37) C st37 dX12_readSkyLine_97 ?_
              obtain ⟨x19, e20, hf⟩ := cl_of hf
              refine r_callVi (As := [.ref (gsK (xG X) 37)]) (st := []) C 208 rfl (by decide) rfl (kX12_isWord (xG X) st37 e20) cw_X12_112 rfl rfl (Nat.le_of_ble_eq_true rfl) (zr2 hR rfl rfl) (zrcs hcs) dX12_readSkyLine_99 ?_
              refine r_if_eq C 114 dX12_readSkyLine_102 (by decide) (fun c21 => ?_) (fun c21 => ?_)
              · rw [if_pos c21] at hf
                refine r_aload_n (i := 0) C dX12_readSkyLine_114 rfl 0 rfl ?_
                refine r_ldcS (e := 38) C st38 dX12_readSkyLine_115 ?_
                obtain ⟨x22, e23, hf⟩ := cl_of hf
                refine r_callVi (As := [.ref (gsK (xG X) 38)]) (st := []) C 208 rfl (by decide) rfl (kX12_isWord (xG X) st38 e23) cw_X12_112 rfl rfl (Nat.le_of_ble_eq_true rfl) (zr2 hR rfl rfl) (zrcs hcs) dX12_readSkyLine_117 ?_
                refine r_if_eq C 132 dX12_readSkyLine_120 (by decide) (fun c24 => ?_) (fun c24 => ?_)
                · rw [if_pos c24] at hf
                  refine r_aload_n (i := 0) C dX12_readSkyLine_132 rfl 0 rfl ?_
                  refine r_ldcS (e := 39) C st39 dX12_readSkyLine_133 ?_
                  obtain ⟨x25, e26, hf⟩ := cl_of hf
                  refine r_callVi (As := [.ref (gsK (xG X) 39)]) (st := []) C 208 rfl (by decide) rfl (kX12_isWord (xG X) st39 e26) cw_X12_112 rfl rfl (Nat.le_of_ble_eq_true rfl) (zr2 hR rfl rfl) (zrcs hcs) dX12_readSkyLine_135 ?_
                  refine r_if_eq C 151 dX12_readSkyLine_138 (by decide) (fun c27 => ?_) (fun c27 => ?_)
                  · rw [if_pos c27] at hf
                    refine r_aload_n (i := 0) C dX12_readSkyLine_151 rfl 0 rfl ?_
                    refine r_ldcS (e := 40) C st40 dX12_readSkyLine_152 ?_
                    obtain ⟨x28, e29, hf⟩ := cl_of hf
                    refine r_callVi (As := [.ref (gsK (xG X) 40)]) (st := []) C 208 rfl (by decide) rfl (kX12_isWord (xG X) st40 e29) cw_X12_112 rfl rfl (Nat.le_of_ble_eq_true rfl) (zr2 hR rfl rfl) (zrcs hcs) dX12_readSkyLine_154 ?_
                    refine r_if_eq C 170 dX12_readSkyLine_157 (by decide) (fun c30 => ?_) (fun c30 => ?_)
                    · rw [if_pos c30] at hf
                      refine r_aload_n (i := 0) C dX12_readSkyLine_170 rfl 0 rfl ?_
                      refine r_ldcS (e := 41) C st41 dX12_readSkyLine_171 ?_
                      obtain ⟨x31, e32, hf⟩ := cl_of hf
                      refine r_callVi (As := [.ref (gsK (xG X) 41)]) (st := []) C 208 rfl (by decide) rfl (kX12_isWord (xG X) st41 e32) cw_X12_112 rfl rfl (Nat.le_of_ble_eq_true rfl) (zr2 hR rfl rfl) (zrcs hcs) dX12_readSkyLine_173 ?_
                      refine r_if_eq C 196 dX12_readSkyLine_176 (by decide) (fun c33 => ?_) (fun c33 => ?_)
                      · rw [if_pos c33] at hf
                        refine r_iconst (v := 0) C dX12_readSkyLine_196 (by decide) ?_
                        have zz : (0 : Int32) = 0 ∨ (0 : Int32) = 1 := (Or.inl rfl)
                        cases hf
                        exact r_zret C zz hF dX12_readSkyLine_197
                      · rw [if_neg c33] at hf
                        refine r_aload_n (i := 0) C dX12_readSkyLine_179 rfl 0 rfl ?_
                        refine r_bipush (v := 6) C dX12_readSkyLine_180 (by decide) ?_
                        refine r_iconst (v := 0) C dX12_readSkyLine_182 (by decide) ?_
                        refine r_sipush (v := 999) C dX12_readSkyLine_183 (by decide) ?_
                        obtain ⟨x36, h34, e35, hf⟩ := cl2_of hf
                        refine r_callVi (As := [.int (6 : Int32), .int (0 : Int32), .int (999 : Int32)]) (st := []) C 208 rfl (by decide) rfl (kX12_readNumber (xG X) e35) cw_X12_131 rfl rfl (Nat.le_of_ble_eq_true rfl) (zr2 hR rfl rfl) (zrcs hcs) dX12_readSkyLine_186 ?_
                        refine r_if_eq C 196 dX12_readSkyLine_189 (by decide) (fun c37 => ?_) (fun c37 => ?_)
                        · rw [if_pos c37] at hf
                          refine r_iconst (v := 0) C dX12_readSkyLine_196 (by decide) ?_
                          have zz : (0 : Int32) = 0 ∨ (0 : Int32) = 1 := (Or.inl rfl)
                          cases hf
                          exact r_zret C zz hF dX12_readSkyLine_197
                        · rw [if_neg c37] at hf
                          refine r_iconst (v := 1) C dX12_readSkyLine_192 (by decide) ?_
                          refine r_goto C 197 dX12_readSkyLine_193 (by decide) ?_
                          have zz : (1 : Int32) = 0 ∨ (1 : Int32) = 1 := (Or.inr rfl)
                          cases hf
                          exact r_zret C zz hF dX12_readSkyLine_197
                    · rw [if_neg c30] at hf
                      refine r_aload_n (i := 0) C dX12_readSkyLine_160 rfl 0 rfl ?_
                      refine r_bipush (v := 9) C dX12_readSkyLine_161 (by decide) ?_
                      refine r_iconst (v := 0) C dX12_readSkyLine_163 (by decide) ?_
                      refine r_bipush (v := 100) C dX12_readSkyLine_164 (by decide) ?_
                      obtain ⟨x40, h38, e39, hf⟩ := cl2_of hf
                      refine r_callVi (As := [.int (9 : Int32), .int (0 : Int32), .int (100 : Int32)]) (st := []) C 208 rfl (by decide) rfl (kX12_readNumber (xG X) e39) cw_X12_131 rfl rfl (Nat.le_of_ble_eq_true rfl) (zr2 hR rfl rfl) (zrcs hcs) dX12_readSkyLine_166 ?_
                      obtain ⟨zz, hf⟩ := gd_of hf
                      cases hf
                      exact r_zret C zz hF dX12_readSkyLine_169
                  · rw [if_neg c27] at hf
                    refine r_aload_n (i := 0) C dX12_readSkyLine_141 rfl 0 rfl ?_
                    refine r_bipush (v := 8) C dX12_readSkyLine_142 (by decide) ?_
                    refine r_iconst (v := 0) C dX12_readSkyLine_144 (by decide) ?_
                    refine r_bipush (v := 100) C dX12_readSkyLine_145 (by decide) ?_
                    obtain ⟨x43, h41, e42, hf⟩ := cl2_of hf
                    refine r_callVi (As := [.int (8 : Int32), .int (0 : Int32), .int (100 : Int32)]) (st := []) C 208 rfl (by decide) rfl (kX12_readNumber (xG X) e42) cw_X12_131 rfl rfl (Nat.le_of_ble_eq_true rfl) (zr2 hR rfl rfl) (zrcs hcs) dX12_readSkyLine_147 ?_
                    obtain ⟨zz, hf⟩ := gd_of hf
                    cases hf
                    exact r_zret C zz hF dX12_readSkyLine_150
                · rw [if_neg c24] at hf
                  refine r_aload_n (i := 0) C dX12_readSkyLine_123 rfl 0 rfl ?_
                  refine r_iconst (v := 5) C dX12_readSkyLine_124 (by decide) ?_
                  refine r_iconst (v := 0) C dX12_readSkyLine_125 (by decide) ?_
                  refine r_bipush (v := 9) C dX12_readSkyLine_126 (by decide) ?_
                  obtain ⟨x46, h44, e45, hf⟩ := cl2_of hf
                  refine r_callVi (As := [.int (5 : Int32), .int (0 : Int32), .int (9 : Int32)]) (st := []) C 208 rfl (by decide) rfl (kX12_readNumber (xG X) e45) cw_X12_131 rfl rfl (Nat.le_of_ble_eq_true rfl) (zr2 hR rfl rfl) (zrcs hcs) dX12_readSkyLine_128 ?_
                  obtain ⟨zz, hf⟩ := gd_of hf
                  cases hf
                  exact r_zret C zz hF dX12_readSkyLine_131
              · rw [if_neg c21] at hf
                refine r_aload_n (i := 0) C dX12_readSkyLine_105 rfl 0 rfl ?_
                refine r_iconst (v := 4) C dX12_readSkyLine_106 (by decide) ?_
                refine r_iconst (v := 1) C dX12_readSkyLine_107 (by decide) ?_
                refine r_bipush (v := 40) C dX12_readSkyLine_108 (by decide) ?_
                obtain ⟨x49, h47, e48, hf⟩ := cl2_of hf
                refine r_callVi (As := [.int (4 : Int32), .int (1 : Int32), .int (40 : Int32)]) (st := []) C 208 rfl (by decide) rfl (kX12_readNumber (xG X) e48) cw_X12_131 rfl rfl (Nat.le_of_ble_eq_true rfl) (zr2 hR rfl rfl) (zrcs hcs) dX12_readSkyLine_110 ?_
                obtain ⟨zz, hf⟩ := gd_of hf
                cases hf
                exact r_zret C zz hF dX12_readSkyLine_113
            · rw [if_neg c18] at hf
              refine r_aload_n (i := 0) C dX12_readSkyLine_91 rfl 0 rfl ?_
              obtain ⟨x52, h50, e51, hf⟩ := cl2_of hf
              refine r_callVi (As := []) (st := []) C 208 rfl (by decide) rfl (kX12_readPinner (xG X) e51) cw_X12_164 rfl rfl (Nat.le_of_ble_eq_true rfl) (zr2 hR rfl rfl) (zrcs hcs) dX12_readSkyLine_92 ?_
              obtain ⟨zz, hf⟩ := gd_of hf
              cases hf
              exact r_zret C zz hF dX12_readSkyLine_95
          · rw [if_neg c15] at hf
            refine r_aload_n (i := 0) C dX12_readSkyLine_77 rfl 0 rfl ?_
            obtain ⟨x55, h53, e54, hf⟩ := cl2_of hf
            refine r_callVi (As := []) (st := []) C 208 rfl (by decide) rfl (kX12_readBare (xG X) e54) cw_X12_159 rfl rfl (Nat.le_of_ble_eq_true rfl) (zr2 hR rfl rfl) (zrcs hcs) dX12_readSkyLine_78 ?_
            obtain ⟨zz, hf⟩ := gd_of hf
            cases hf
            exact r_zret C zz hF dX12_readSkyLine_81
        · rw [if_neg c12] at hf
          refine r_aload_n (i := 0) C dX12_readSkyLine_59 rfl 0 rfl ?_
          refine r_bipush (v := 46) C dX12_readSkyLine_60 (by decide) ?_
          refine r_bipush (v := 9) C dX12_readSkyLine_62 (by decide) ?_
          obtain ⟨x58, h56, e57, hf⟩ := cl2_of hf
          refine r_callVi (As := [.int (46 : Int32), .int (9 : Int32)]) (st := []) C 208 rfl (by decide) rfl (kX12_readAt (xG X) e57) cw_X12_150 rfl rfl (Nat.le_of_ble_eq_true rfl) (zr2 hR rfl rfl) (zrcs hcs) dX12_readSkyLine_64 ?_
          obtain ⟨zz, hf⟩ := gd_of hf
          cases hf
          exact r_zret C zz hF dX12_readSkyLine_67
      · rw [if_neg c9] at hf
        refine r_aload_n (i := 0) C dX12_readSkyLine_41 rfl 0 rfl ?_
        refine r_bipush (v := 30) C dX12_readSkyLine_42 (by decide) ?_
        refine r_bipush (v := 20) C dX12_readSkyLine_44 (by decide) ?_
        obtain ⟨x61, h59, e60, hf⟩ := cl2_of hf
        refine r_callVi (As := [.int (30 : Int32), .int (20 : Int32)]) (st := []) C 208 rfl (by decide) rfl (kX12_readAt (xG X) e60) cw_X12_150 rfl rfl (Nat.le_of_ble_eq_true rfl) (zr2 hR rfl rfl) (zrcs hcs) dX12_readSkyLine_46 ?_
        obtain ⟨zz, hf⟩ := gd_of hf
        cases hf
        exact r_zret C zz hF dX12_readSkyLine_49
    · rw [if_neg c6] at hf
      refine r_aload_n (i := 0) C dX12_readSkyLine_23 rfl 0 rfl ?_
      refine r_bipush (v := 14) C dX12_readSkyLine_24 (by decide) ?_
      refine r_bipush (v := 9) C dX12_readSkyLine_26 (by decide) ?_
      obtain ⟨x64, h62, e63, hf⟩ := cl2_of hf
      refine r_callVi (As := [.int (14 : Int32), .int (9 : Int32)]) (st := []) C 208 rfl (by decide) rfl (kX12_readAt (xG X) e63) cw_X12_150 rfl rfl (Nat.le_of_ble_eq_true rfl) (zr2 hR rfl rfl) (zrcs hcs) dX12_readSkyLine_28 ?_
      obtain ⟨zz, hf⟩ := gd_of hf
      cases hf
      exact r_zret C zz hF dX12_readSkyLine_31
  · rw [if_neg c3] at hf
    refine r_aload_n (i := 0) C dX12_readSkyLine_9 rfl 0 rfl ?_
    obtain ⟨x67, h65, e66, hf⟩ := cl2_of hf
    refine r_callVi (As := []) (st := []) C 208 rfl (by decide) rfl (kX12_readPin (xG X) e66) cw_X12_144 rfl rfl (Nat.le_of_ble_eq_true rfl) (zr2 hR rfl rfl) (zrcs hcs) dX12_readSkyLine_10 ?_
    obtain ⟨zz, hf⟩ := gd_of hf
    cases hf
    exact r_zret C zz hF dX12_readSkyLine_13
def fX12_readLawLine (h : Hp) (a1 : Int32) : Option (Int32 × Hp) := lt9 ((1183 : Int32) + ((4 : Int32) * a1)) (fun x1 => cl9 (fX12_isWord h sw42) (fun x2 => cl9 ((if x2 = (0 : Int32) then cl9 (fX12_isWord h sw29) (fun x8 => (if x8 = (0 : Int32) then cl9 (fX12_isWord h sw43) (fun x11 => (if x11 = (0 : Int32) then some (-1 : Int32) else some (2 : Int32))) else some (1 : Int32))) else some (0 : Int32)) : Option (Int32)) (fun v4 => gd (inb x1 2031) (lt9 (up2 h 209 x1.toNatClampNeg v4) (fun h15 => gd (inb x1 2031) ((if (0 : Int32) ≤ (h15 209 x1.toNatClampNeg) then gd (inb x1 2031) (cl2 ((if (h15 209 x1.toNatClampNeg) = (2 : Int32) then some ((1 : Int32), h15) else cl2 (fX12_number h15 (0 : Int32) (30 : Int32)) (fun x26 h24 => some (x26, h24))) : Option (Int32 × Hp)) (fun v19 h20 => gd (inb (x1 + (1 : Int32)) 2031) (lt9 (up2 h20 209 (x1 + (1 : Int32)).toNatClampNeg v19) (fun h28 => gd (inb (x1 + (1 : Int32)) 2031) ((if (0 : Int32) ≤ (h28 209 (x1 + (1 : Int32)).toNatClampNeg) then gd (inb (x1 + (2 : Int32)) 2031) (lt9 (up2 h28 209 (x1 + (2 : Int32)).toNatClampNeg (h28 208 16)) (fun h32 => lt9 (up2 h32 208 13 (0 : Int32)) (fun h33 => cl2 (fX12_passes h33 sw44) (fun x36 h34 => (if x36 = (0 : Int32) then gd (inb (x1 + (3 : Int32)) 2031) (lt9 (up2 h34 209 (x1 + (3 : Int32)).toNatClampNeg (h34 208 16)) (fun h39 => some ((1 : Int32), h39))) else cl2 (fX12_readCond h34) (fun x42 h40 => (if x42 = (0 : Int32) then some ((0 : Int32), h40) else gd (inb (x1 + (3 : Int32)) 2031) (lt9 (up2 h40 209 (x1 + (3 : Int32)).toNatClampNeg (h40 208 16)) (fun h45 => some ((1 : Int32), h45)))))))))) else some ((0 : Int32), h28))))))) else some ((0 : Int32), h15))))))))
set_option maxHeartbeats 4000000 in
set_option maxRecDepth 100000 in
theorem kX12_readLawLine (G : Gx)  {h : Hp} {a1 : Int32} {rr : Int32} {hh : Hp} (hf : fX12_readLawLine h a1 = some (rr, hh)) : MC G yX12_readLawLine cX12_readLawLine 3 (some .boolean) 85 5440 h [.ref (gad G 208), .int a1] (some (.int rr)) hh := by
  refine MC.of RX12 (by decide) rfl (Nat.le_of_ble_eq_true rfl) rfl (fun X C hG hR hF => ?_)
  subst hG
  have hcs : True := trivial
  unfold fX12_readLawLine at hf
  refine r_sipush (v := 1183) C dX12_readLawLine_0 (by decide) ?_
  refine r_iconst (v := 4) C dX12_readLawLine_3 (by decide) ?_
  refine r_iload_n (i := 1) C dX12_readLawLine_4 rfl 1 rfl ?_
  refine r_imul C dX12_readLawLine_5 ?_
  refine r_iadd C dX12_readLawLine_6 ?_
  obtain ⟨x1, ex1, hf⟩ := lt_of hf
  refine r_top ex1 ?_
  refine r_istore_n (i := 2) (lv' := [(0, .ref (gad (xG X) 208)), (1, .int a1), (2, .int x1)]) C dX12_readLawLine_7 rfl (by decide) [1, 2, 0] rfl ?_
  refine r_aload_n (i := 0) C dX12_readLawLine_8 rfl 0 rfl ?_
  refine g_X12_13 C dX12_readLawLine_9 ?_
  refine r_iload_n (i := 2) C dX12_readLawLine_12 rfl 2 rfl ?_
  refine r_aload_n (i := 0) C dX12_readLawLine_13 rfl 0 rfl ?_
  refine r_ldcS (e := 42) C st42 dX12_readLawLine_14 ?_
  obtain ⟨x2, e3, hf⟩ := cl_of hf
  refine r_callVi (As := [.ref (gsK (xG X) 42)]) (st := [.int x1, .ref (gad (xG X) 209)]) C 208 rfl (by decide) rfl (kX12_isWord (xG X) st42 e3) cw_X12_112 rfl rfl (Nat.le_of_ble_eq_true rfl) (zr2 hR rfl rfl) (zrcs hcs) dX12_readLawLine_16 ?_
  obtain ⟨v4, r6, hf⟩ := cl_of hf
  have k5 : VW X 3 h 0 0 53 [(0, .ref (gad (xG X) 208)), (2, .int x1)] [.int v4, .int x1, .ref (gad (xG X) 209)] := by
    obtain ⟨g14, hf⟩ := gd_of hf
    obtain ⟨h15, eh15, hf⟩ := lt_of hf
    refine r_iast C 209 eh15 rfl (by decide) g14 dX12_readLawLine_53 ?_
    refine r_aload_n (i := 0) C dX12_readLawLine_54 rfl 0 rfl ?_
    refine g_X12_13 C dX12_readLawLine_55 ?_
    refine r_iload_n (i := 2) C dX12_readLawLine_58 rfl 1 rfl ?_
    obtain ⟨g16, hf⟩ := gd_of hf
    refine r_iald C 209 rfl (by decide) g16 dX12_readLawLine_59 ?_
    refine r_if_ge C 65 dX12_readLawLine_60 (by decide) (fun c17 => ?_) (fun c17 => ?_)
    · rw [if_pos c17] at hf
      refine r_aload_n (i := 0) C dX12_readLawLine_65 rfl 0 rfl ?_
      refine g_X12_13 C dX12_readLawLine_66 ?_
      refine r_iload_n (i := 2) C dX12_readLawLine_69 rfl 1 rfl ?_
      refine r_iconst (v := 1) C dX12_readLawLine_70 (by decide) ?_
      refine r_iadd C dX12_readLawLine_71 ?_
      refine r_aload_n (i := 0) C dX12_readLawLine_72 rfl 0 rfl ?_
      refine g_X12_13 C dX12_readLawLine_73 ?_
      refine r_iload_n (i := 2) C dX12_readLawLine_76 rfl 1 rfl ?_
      obtain ⟨g18, hf⟩ := gd_of hf
      refine r_iald C 209 rfl (by decide) g18 dX12_readLawLine_77 ?_
      refine r_iconst (v := 2) C dX12_readLawLine_78 (by decide) ?_
      obtain ⟨v19, h20, r22, hf⟩ := cl2_of hf
      have k21 : VW X 3 h20 0 0 93 [(0, .ref (gad (xG X) 208)), (2, .int x1)] [.int v19, .int (x1 + (1 : Int32)), .ref (gad (xG X) 209)] := by
        obtain ⟨g27, hf⟩ := gd_of hf
        obtain ⟨h28, eh28, hf⟩ := lt_of hf
        refine r_iast C 209 eh28 rfl (by decide) g27 dX12_readLawLine_93 ?_
        refine r_aload_n (i := 0) C dX12_readLawLine_94 rfl 0 rfl ?_
        refine g_X12_13 C dX12_readLawLine_95 ?_
        refine r_iload_n (i := 2) C dX12_readLawLine_98 rfl 1 rfl ?_
        refine r_iconst (v := 1) C dX12_readLawLine_99 (by decide) ?_
        refine r_iadd C dX12_readLawLine_100 ?_
        obtain ⟨g29, hf⟩ := gd_of hf
        refine r_iald C 209 rfl (by decide) g29 dX12_readLawLine_101 ?_
        refine r_if_ge C 107 dX12_readLawLine_102 (by decide) (fun c30 => ?_) (fun c30 => ?_)
        · rw [if_pos c30] at hf
          refine r_aload_n (i := 0) C dX12_readLawLine_107 rfl 0 rfl ?_
          refine g_X12_13 C dX12_readLawLine_108 ?_
          refine r_iload_n (i := 2) C dX12_readLawLine_111 rfl 1 rfl ?_
          refine r_iconst (v := 2) C dX12_readLawLine_112 (by decide) ?_
          refine r_iadd C dX12_readLawLine_113 ?_
          refine r_aload_n (i := 0) C dX12_readLawLine_114 rfl 0 rfl ?_
          refine g_X12_177 C dX12_readLawLine_115 ?_
          obtain ⟨g31, hf⟩ := gd_of hf
          obtain ⟨h32, eh32, hf⟩ := lt_of hf
          refine r_iast C 209 eh32 rfl (by decide) g31 dX12_readLawLine_118 ?_
          refine r_aload_n (i := 0) C dX12_readLawLine_119 rfl 0 rfl ?_
          refine r_iconst (v := 0) C dX12_readLawLine_120 (by decide) ?_
          obtain ⟨h33, eh33, hf⟩ := lt_of hf
          refine p_X12_200 C eh33 dX12_readLawLine_121 ?_
          refine r_aload_n (i := 0) C dX12_readLawLine_124 rfl 0 rfl ?_
          refine r_ldcS (e := 44) C st44 dX12_readLawLine_125 ?_
          obtain ⟨x36, h34, e35, hf⟩ := cl2_of hf
          refine r_callVi (As := [.ref (gsK (xG X) 44)]) (st := []) C 208 rfl (by decide) rfl (kX12_passes (xG X) st44 e35) cw_X12_128 rfl rfl (Nat.le_of_ble_eq_true rfl) (zr2 hR rfl rfl) (zrcs hcs) dX12_readLawLine_127 ?_
          refine r_if_eq C 142 dX12_readLawLine_130 (by decide) (fun c37 => ?_) (fun c37 => ?_)
          · rw [if_pos c37] at hf
            refine r_aload_n (i := 0) C dX12_readLawLine_142 rfl 0 rfl ?_
            refine g_X12_13 C dX12_readLawLine_143 ?_
            refine r_iload_n (i := 2) C dX12_readLawLine_146 rfl 1 rfl ?_
            refine r_iconst (v := 3) C dX12_readLawLine_147 (by decide) ?_
            refine r_iadd C dX12_readLawLine_148 ?_
            refine r_aload_n (i := 0) C dX12_readLawLine_149 rfl 0 rfl ?_
            refine g_X12_177 C dX12_readLawLine_150 ?_
            obtain ⟨g38, hf⟩ := gd_of hf
            obtain ⟨h39, eh39, hf⟩ := lt_of hf
            refine r_iast C 209 eh39 rfl (by decide) g38 dX12_readLawLine_153 ?_
            refine r_iconst (v := 1) C dX12_readLawLine_154 (by decide) ?_
            have zz : (1 : Int32) = 0 ∨ (1 : Int32) = 1 := (Or.inr rfl)
            cases hf
            exact r_zret C zz hF dX12_readLawLine_155
          · rw [if_neg c37] at hf
            refine r_aload_n (i := 0) C dX12_readLawLine_133 rfl 0 rfl ?_
            obtain ⟨x42, h40, e41, hf⟩ := cl2_of hf
            refine r_callVi (As := []) (st := []) C 208 rfl (by decide) rfl (kX12_readCond (xG X) e41) cw_X12_203 rfl rfl (Nat.le_of_ble_eq_true rfl) (zr2 hR rfl rfl) (zrcs hcs) dX12_readLawLine_134 ?_
            refine r_if_ne C 142 dX12_readLawLine_137 (by decide) (fun c43 => ?_) (fun c43 => ?_)
            · rw [if_neg c43] at hf
              refine r_aload_n (i := 0) C dX12_readLawLine_142 rfl 0 rfl ?_
              refine g_X12_13 C dX12_readLawLine_143 ?_
              refine r_iload_n (i := 2) C dX12_readLawLine_146 rfl 1 rfl ?_
              refine r_iconst (v := 3) C dX12_readLawLine_147 (by decide) ?_
              refine r_iadd C dX12_readLawLine_148 ?_
              refine r_aload_n (i := 0) C dX12_readLawLine_149 rfl 0 rfl ?_
              refine g_X12_177 C dX12_readLawLine_150 ?_
              obtain ⟨g44, hf⟩ := gd_of hf
              obtain ⟨h45, eh45, hf⟩ := lt_of hf
              refine r_iast C 209 eh45 rfl (by decide) g44 dX12_readLawLine_153 ?_
              refine r_iconst (v := 1) C dX12_readLawLine_154 (by decide) ?_
              have zz : (1 : Int32) = 0 ∨ (1 : Int32) = 1 := (Or.inr rfl)
              cases hf
              exact r_zret C zz hF dX12_readLawLine_155
            · rw [if_pos c43] at hf
              refine r_iconst (v := 0) C dX12_readLawLine_140 (by decide) ?_
              have zz : (0 : Int32) = 0 ∨ (0 : Int32) = 1 := (Or.inl rfl)
              cases hf
              exact r_zret C zz hF dX12_readLawLine_141
        · rw [if_neg c30] at hf
          refine r_iconst (v := 0) C dX12_readLawLine_105 (by decide) ?_
          have zz : (0 : Int32) = 0 ∨ (0 : Int32) = 1 := (Or.inl rfl)
          cases hf
          exact r_zret C zz hF dX12_readLawLine_106
      clear hf
      have hf := r22
      refine r_icmp_ne C 86 dX12_readLawLine_79 (by decide) (fun c23 => ?_) (fun c23 => ?_)
      · rw [if_neg c23] at hf
        refine r_aload_n (i := 0) C dX12_readLawLine_86 rfl 0 rfl ?_
        refine r_iconst (v := 0) C dX12_readLawLine_87 (by decide) ?_
        refine r_bipush (v := 30) C dX12_readLawLine_88 (by decide) ?_
        obtain ⟨x26, h24, e25, hf⟩ := cl2_of hf
        refine r_callVi (As := [.int (0 : Int32), .int (30 : Int32)]) (st := [.int (x1 + (1 : Int32)), .ref (gad (xG X) 209)]) C 208 rfl (by decide) rfl (kX12_number (xG X) e25) cw_X12_116 rfl rfl (Nat.le_of_ble_eq_true rfl) (zr2 hR rfl rfl) (zrcs hcs) dX12_readLawLine_90 ?_
        cases hf
        exact k21
      · rw [if_pos c23] at hf
        refine r_iconst (v := 1) C dX12_readLawLine_82 (by decide) ?_
        refine r_goto C 93 dX12_readLawLine_83 (by decide) ?_
        cases hf
        exact k21
    · rw [if_neg c17] at hf
      refine r_iconst (v := 0) C dX12_readLawLine_63 (by decide) ?_
      have zz : (0 : Int32) = 0 ∨ (0 : Int32) = 1 := (Or.inl rfl)
      cases hf
      exact r_zret C zz hF dX12_readLawLine_64
  clear hf
  have hf := r6
  refine r_if_eq C 26 dX12_readLawLine_19 (by decide) (fun c7 => ?_) (fun c7 => ?_)
  · rw [if_pos c7] at hf
    refine r_aload_n (i := 0) C dX12_readLawLine_26 rfl 0 rfl ?_
    refine r_ldcS (e := 29) C st29 dX12_readLawLine_27 ?_
    obtain ⟨x8, e9, hf⟩ := cl_of hf
    refine r_callVi (As := [.ref (gsK (xG X) 29)]) (st := [.int x1, .ref (gad (xG X) 209)]) C 208 rfl (by decide) rfl (kX12_isWord (xG X) st29 e9) cw_X12_112 rfl rfl (Nat.le_of_ble_eq_true rfl) (zr2 hR rfl rfl) (zrcs hcs) dX12_readLawLine_29 ?_
    refine r_if_eq C 39 dX12_readLawLine_32 (by decide) (fun c10 => ?_) (fun c10 => ?_)
    · rw [if_pos c10] at hf
      refine r_aload_n (i := 0) C dX12_readLawLine_39 rfl 0 rfl ?_
      refine r_ldcS (e := 43) C st43 dX12_readLawLine_40 ?_
      obtain ⟨x11, e12, hf⟩ := cl_of hf
      refine r_callVi (As := [.ref (gsK (xG X) 43)]) (st := [.int x1, .ref (gad (xG X) 209)]) C 208 rfl (by decide) rfl (kX12_isWord (xG X) st43 e12) cw_X12_112 rfl rfl (Nat.le_of_ble_eq_true rfl) (zr2 hR rfl rfl) (zrcs hcs) dX12_readLawLine_42 ?_
      refine r_if_eq C 52 dX12_readLawLine_45 (by decide) (fun c13 => ?_) (fun c13 => ?_)
      · rw [if_pos c13] at hf
        refine r_iconst (v := (-1)) C dX12_readLawLine_52 (by decide) ?_
        cases hf
        exact r_lv [0, 2] rfl k5
      · rw [if_neg c13] at hf
        refine r_iconst (v := 2) C dX12_readLawLine_48 (by decide) ?_
        refine r_goto C 53 dX12_readLawLine_49 (by decide) ?_
        cases hf
        exact r_lv [0, 2] rfl k5
    · rw [if_neg c10] at hf
      refine r_iconst (v := 1) C dX12_readLawLine_35 (by decide) ?_
      refine r_goto C 53 dX12_readLawLine_36 (by decide) ?_
      cases hf
      exact r_lv [0, 2] rfl k5
  · rw [if_neg c7] at hf
    refine r_iconst (v := 0) C dX12_readLawLine_22 (by decide) ?_
    refine r_goto C 53 dX12_readLawLine_23 (by decide) ?_
    cases hf
    exact r_lv [0, 2] rfl k5
def fX12_readLine (h : Hp) (a1 : Int32) (a2 : Int32) : Option (Int32 × Hp) := cl9 (fX12_letters h) (fun h1 => cl9 ((if a1 = (0 : Int32) then some (12 : Int32) else some (14 : Int32)) : Option (Int32)) (fun v3 => (if v3 ≤ a2 then some ((0 : Int32), h1) else (if a1 = (0 : Int32) then cl2 (fX12_readLawLine h1 a2) (fun x11 h9 => (if x11 = (0 : Int32) then some ((0 : Int32), h9) else some ((1 : Int32), h9))) else cl2 (fX12_readSkyLine h1) (fun x15 h13 => (if x15 = (0 : Int32) then some ((0 : Int32), h13) else some ((1 : Int32), h13)))))))
set_option maxHeartbeats 4000000 in
set_option maxRecDepth 100000 in
theorem kX12_readLine (G : Gx)  {h : Hp} {a1 : Int32} {a2 : Int32} {rr : Int32} {hh : Hp} (hf : fX12_readLine h a1 a2 = some (rr, hh)) : MC G yX12_readLine cX12_readLine 3 (some .boolean) 86 5504 h [.ref (gad G 208), .int a1, .int a2] (some (.int rr)) hh := by
  refine MC.of RX12 (by decide) rfl (Nat.le_of_ble_eq_true rfl) rfl (fun X C hG hR hF => ?_)
  subst hG
  have hcs : True := trivial
  unfold fX12_readLine at hf
  refine r_aload_n (i := 0) C dX12_readLine_0 rfl 0 rfl ?_
  obtain ⟨h1, e2, hf⟩ := cl_of hf
  refine r_callVv (As := []) (st := []) C 208 rfl (by decide) rfl (kX12_letters (xG X) e2) cw_X12_109 rfl rfl (Nat.le_of_ble_eq_true rfl) (zr2 hR rfl rfl) (zrcs hcs) dX12_readLine_1 ?_
  refine r_iload_n (i := 2) C dX12_readLine_4 rfl 2 rfl ?_
  refine r_iload_n (i := 1) C dX12_readLine_5 rfl 1 rfl ?_
  obtain ⟨v3, r5, hf⟩ := cl_of hf
  have k4 : VW X 3 h1 0 0 16 [(0, .ref (gad (xG X) 208)), (1, .int a1), (2, .int a2)] [.int v3, .int a2] := by
    refine r_icmp_ge C 45 dX12_readLine_16 (by decide) (fun c7 => ?_) (fun c7 => ?_)
    · rw [if_pos c7] at hf
      refine r_iconst (v := 0) C dX12_readLine_45 (by decide) ?_
      have zz : (0 : Int32) = 0 ∨ (0 : Int32) = 1 := (Or.inl rfl)
      cases hf
      exact r_zret C zz hF dX12_readLine_46
    · rw [if_neg c7] at hf
      refine r_iload_n (i := 1) C dX12_readLine_19 rfl 1 rfl ?_
      refine r_if_eq C 33 dX12_readLine_20 (by decide) (fun c8 => ?_) (fun c8 => ?_)
      · rw [if_pos c8] at hf
        refine r_aload_n (i := 0) C dX12_readLine_33 rfl 0 rfl ?_
        refine r_iload_n (i := 2) C dX12_readLine_34 rfl 2 rfl ?_
        obtain ⟨x11, h9, e10, hf⟩ := cl2_of hf
        refine r_callVi (As := [.int a2]) (st := []) C 208 rfl (by decide) rfl (kX12_readLawLine (xG X) e10) cw_X12_233 rfl rfl (Nat.le_of_ble_eq_true rfl) (zr2 hR rfl rfl) (zrcs hcs) dX12_readLine_35 ?_
        refine r_if_eq C 45 dX12_readLine_38 (by decide) (fun c12 => ?_) (fun c12 => ?_)
        · rw [if_pos c12] at hf
          refine r_iconst (v := 0) C dX12_readLine_45 (by decide) ?_
          have zz : (0 : Int32) = 0 ∨ (0 : Int32) = 1 := (Or.inl rfl)
          cases hf
          exact r_zret C zz hF dX12_readLine_46
        · rw [if_neg c12] at hf
          refine r_iconst (v := 1) C dX12_readLine_41 (by decide) ?_
          refine r_goto C 46 dX12_readLine_42 (by decide) ?_
          have zz : (1 : Int32) = 0 ∨ (1 : Int32) = 1 := (Or.inr rfl)
          cases hf
          exact r_zret C zz hF dX12_readLine_46
      · rw [if_neg c8] at hf
        refine r_aload_n (i := 0) C dX12_readLine_23 rfl 0 rfl ?_
        obtain ⟨x15, h13, e14, hf⟩ := cl2_of hf
        refine r_callVi (As := []) (st := []) C 208 rfl (by decide) rfl (kX12_readSkyLine (xG X) e14) cw_X12_230 rfl rfl (Nat.le_of_ble_eq_true rfl) (zr2 hR rfl rfl) (zrcs hcs) dX12_readLine_24 ?_
        refine r_if_eq C 45 dX12_readLine_27 (by decide) (fun c16 => ?_) (fun c16 => ?_)
        · rw [if_pos c16] at hf
          refine r_iconst (v := 0) C dX12_readLine_45 (by decide) ?_
          have zz : (0 : Int32) = 0 ∨ (0 : Int32) = 1 := (Or.inl rfl)
          cases hf
          exact r_zret C zz hF dX12_readLine_46
        · rw [if_neg c16] at hf
          refine r_goto C 41 dX12_readLine_30 (by decide) ?_
          refine r_iconst (v := 1) C dX12_readLine_41 (by decide) ?_
          refine r_goto C 46 dX12_readLine_42 (by decide) ?_
          have zz : (1 : Int32) = 0 ∨ (1 : Int32) = 1 := (Or.inr rfl)
          cases hf
          exact r_zret C zz hF dX12_readLine_46
  clear hf
  have hf := r5
  refine r_if_eq C 14 dX12_readLine_6 (by decide) (fun c6 => ?_) (fun c6 => ?_)
  · rw [if_pos c6] at hf
    refine r_bipush (v := 12) C dX12_readLine_14 (by decide) ?_
    cases hf
    exact k4
  · rw [if_neg c6] at hf
    refine r_bipush (v := 14) C dX12_readLine_9 (by decide) ?_
    refine r_goto C 16 dX12_readLine_11 (by decide) ?_
    cases hf
    exact k4
def BX12_readAll_0  (rec : Hp → Int32 → Int32 → Option (Int32 × Hp)) (h : Hp) (y1 : Int32) (y2 : Int32) : Option (Int32 × Hp) := cl2 (fX12_readLine h y1 y2) (fun x3 h1 => (if x3 = (0 : Int32) then some ((-1 : Int32), h1) else cl9 (fX12_blanks h1) (fun h5 => (if (h5 208 10) = (h5 208 11) then some ((y2 + (1 : Int32)), h5) else cl9 (fX12_isAt h5 (59 : Int32) (59 : Int32)) (fun x8 => (if x8 = (0 : Int32) then some ((-1 : Int32), h5) else lt9 (up2 h5 208 10 ((h5 208 10) + (1 : Int32))) (fun h11 => lt9 (y2 + (1 : Int32)) (fun x12 => rec h11 y1 x12))))))))
def LX12_readAll  : Nat → Hp → Int32 → Int32 → Option (Int32 × Hp)
  | 0, _, _, _ => none
  | n + 1, h, y1, y2 => BX12_readAll_0  (LX12_readAll  n) h y1 y2
def fX12_readAll (h : Hp) (a1 : Int32) : Option (Int32 × Hp) := cl9 (fX12_uses h) (fun h13 => lt9 (up2 h13 208 16 (0 : Int32)) (fun h15 => cl9 (fX12_blanks h15) (fun h16 => (if (h16 208 10) = (h16 208 11) then some ((0 : Int32), h16) else LX12_readAll big h16 a1 (0 : Int32)))))
set_option maxHeartbeats 4000000 in
set_option maxRecDepth 100000 in
theorem wX12_readAll {X : Cx}  {rr : Int32} {hh : Hp} (C : OK X cX12_readAll 3 RX12 (some .int)) (hR : xR X = { frames := 87, cells := 0, slots := 0, locals := 5568 }) (hcs : True) (hF : FinR X (some (.int rr)) hh) : ∀ n : Nat, (∀ (h : Hp) (y1 : Int32) (y2 : Int32), LX12_readAll  n h y1 y2 = some (rr, hh) → VW X 3 h 0 0 28 [(0, .ref (gad (xG X) 208)), (1, .int y1), (2, .int y2)] []) := by
  intro n
  induction n with
  | zero => exact (fun _ _ _ hf => (by rw [LX12_readAll] at hf; cases hf))
  | succ n ih =>
    intro h y1 y2 hf
    rw [LX12_readAll] at hf
    unfold BX12_readAll_0 at hf
    refine r_aload_n (i := 0) C dX12_readAll_28 rfl 0 rfl ?_
    refine r_iload_n (i := 1) C dX12_readAll_29 rfl 1 rfl ?_
    refine r_iload_n (i := 2) C dX12_readAll_30 rfl 2 rfl ?_
    obtain ⟨x3, h1, e2, hf⟩ := cl2_of hf
    refine r_callVi (As := [.int y1, .int y2]) (st := []) C 208 rfl (by decide) rfl (kX12_readLine (xG X) e2) cw_X12_239 rfl rfl (Nat.le_of_ble_eq_true rfl) (zr2 hR rfl rfl) (zrcs hcs) dX12_readAll_31 ?_
    refine r_if_ne C 39 dX12_readAll_34 (by decide) (fun c4 => ?_) (fun c4 => ?_)
    · rw [if_neg c4] at hf
      refine r_aload_n (i := 0) C dX12_readAll_39 rfl 0 rfl ?_
      obtain ⟨h5, e6, hf⟩ := cl_of hf
      refine r_callVv (As := []) (st := []) C 208 rfl (by decide) rfl (kX12_blanks (xG X) e6) cw_X12_97 rfl rfl (Nat.le_of_ble_eq_true rfl) (zr2 hR rfl rfl) (zrcs hcs) dX12_readAll_40 ?_
      refine r_aload_n (i := 0) C dX12_readAll_43 rfl 0 rfl ?_
      refine g_X12_85 C dX12_readAll_44 ?_
      refine r_aload_n (i := 0) C dX12_readAll_47 rfl 0 rfl ?_
      refine g_X12_88 C dX12_readAll_48 ?_
      refine r_icmp_ne C 58 dX12_readAll_51 (by decide) (fun c7 => ?_) (fun c7 => ?_)
      · rw [if_neg c7] at hf
        refine r_aload_n (i := 0) C dX12_readAll_58 rfl 0 rfl ?_
        refine r_bipush (v := 59) C dX12_readAll_59 (by decide) ?_
        refine r_bipush (v := 59) C dX12_readAll_61 (by decide) ?_
        obtain ⟨x8, e9, hf⟩ := cl_of hf
        refine r_callVi (As := [.int (59 : Int32), .int (59 : Int32)]) (st := []) C 208 rfl (by decide) rfl (kX12_isAt (xG X) e9) cw_X12_91 rfl rfl (Nat.le_of_ble_eq_true rfl) (zr2 hR rfl rfl) (zrcs hcs) dX12_readAll_63 ?_
        refine r_if_ne C 71 dX12_readAll_66 (by decide) (fun c10 => ?_) (fun c10 => ?_)
        · rw [if_neg c10] at hf
          refine r_aload_n (i := 0) C dX12_readAll_71 rfl 0 rfl ?_
          refine r_dup C dX12_readAll_72 rfl ?_
          refine g_X12_85 C dX12_readAll_73 ?_
          refine r_iconst (v := 1) C dX12_readAll_76 (by decide) ?_
          refine r_iadd C dX12_readAll_77 ?_
          obtain ⟨h11, eh11, hf⟩ := lt_of hf
          refine p_X12_85 C eh11 dX12_readAll_78 ?_
          obtain ⟨x12, ex12, hf⟩ := lt_of hf
          refine r_iinc (j := 2) (v := x12) (lv' := [(0, .ref (gad (xG X) 208)), (1, .int y1), (2, .int x12)]) C dX12_readAll_81 rfl (by rw [ex12]; rfl) (by decide) [1, 2, 0] rfl ?_
          refine r_goto C 28 dX12_readAll_84 (by decide) ?_
          exact r_lv [0, 1, 2] rfl (ih _ _ _ hf)
        · rw [if_pos c10] at hf
          refine r_iconst (v := (-1)) C dX12_readAll_69 (by decide) ?_
          cases hf
          exact r_iret C hF dX12_readAll_70
      · rw [if_pos c7] at hf
        refine r_iload_n (i := 2) C dX12_readAll_54 rfl 2 rfl ?_
        refine r_iconst (v := 1) C dX12_readAll_55 (by decide) ?_
        refine r_iadd C dX12_readAll_56 ?_
        cases hf
        exact r_iret C hF dX12_readAll_57
    · rw [if_pos c4] at hf
      refine r_iconst (v := (-1)) C dX12_readAll_37 (by decide) ?_
      cases hf
      exact r_iret C hF dX12_readAll_38
set_option maxHeartbeats 4000000 in
set_option maxRecDepth 100000 in
theorem kX12_readAll (G : Gx)  {h : Hp} {a1 : Int32} {rr : Int32} {hh : Hp} (hf : fX12_readAll h a1 = some (rr, hh)) : MC G yX12_readAll cX12_readAll 3 (some .int) 87 5568 h [.ref (gad G 208), .int a1] (some (.int rr)) hh := by
  refine MC.of RX12 (by decide) rfl (Nat.le_of_ble_eq_true rfl) rfl (fun X C hG hR hF => ?_)
  subst hG
  have hcs : True := trivial
  unfold fX12_readAll at hf
  refine r_aload_n (i := 0) C dX12_readAll_0 rfl 0 rfl ?_
  obtain ⟨h13, e14, hf⟩ := cl_of hf
  refine r_callVv (As := []) (st := []) C 208 rfl (by decide) rfl (kX12_uses (xG X) e14) cw_X12_236 rfl rfl (Nat.le_of_ble_eq_true rfl) (zr2 hR rfl rfl) (zrcs hcs) dX12_readAll_1 ?_
  refine r_aload_n (i := 0) C dX12_readAll_4 rfl 0 rfl ?_
  refine r_iconst (v := 0) C dX12_readAll_5 (by decide) ?_
  obtain ⟨h15, eh15, hf⟩ := lt_of hf
  refine p_X12_177 C eh15 dX12_readAll_6 ?_
  refine r_aload_n (i := 0) C dX12_readAll_9 rfl 0 rfl ?_
  obtain ⟨h16, e17, hf⟩ := cl_of hf
  refine r_callVv (As := []) (st := []) C 208 rfl (by decide) rfl (kX12_blanks (xG X) e17) cw_X12_97 rfl rfl (Nat.le_of_ble_eq_true rfl) (zr2 hR rfl rfl) (zrcs hcs) dX12_readAll_10 ?_
  refine r_aload_n (i := 0) C dX12_readAll_13 rfl 0 rfl ?_
  refine g_X12_85 C dX12_readAll_14 ?_
  refine r_aload_n (i := 0) C dX12_readAll_17 rfl 0 rfl ?_
  refine g_X12_88 C dX12_readAll_18 ?_
  refine r_icmp_ne C 26 dX12_readAll_21 (by decide) (fun c18 => ?_) (fun c18 => ?_)
  · rw [if_neg c18] at hf
    refine r_iconst (v := 0) C dX12_readAll_26 (by decide) ?_
    refine r_istore_n (i := 2) (lv' := [(0, .ref (gad (xG X) 208)), (1, .int a1), (2, .int (0 : Int32))]) C dX12_readAll_27 rfl (by decide) [1, 2, 0] rfl ?_
    exact r_lv [0, 1, 2] rfl ((wX12_readAll  C hR hcs hF big) _ _ _ hf)
  · rw [if_pos c18] at hf
    refine r_iconst (v := 0) C dX12_readAll_24 (by decide) ?_
    cases hf
    exact r_iret C hF dX12_readAll_25

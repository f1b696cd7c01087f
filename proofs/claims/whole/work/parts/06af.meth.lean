def fX12_height (h : Hp) (a1 : Int32) : Option (Int32 × Hp) := lt9 (up2 h 208 0 (0 : Int32)) (fun h1 => cl9 ((if (fX12_in a1 (1 : Int32) (40 : Int32)) = (0 : Int32) then some (1 : Int32) else some (0 : Int32)) : Option (Int32)) (fun v2 => cl2 (fX12_throwsIf h1 v2 (1 : Int32)) (fun x8 h6 => (if x8 = (0 : Int32) then cl9 (fX12_remembers h6) (fun h10 => gd (inb (4 : Int32) 2031) (lt9 (up2 h10 209 (4 : Int32).toNatClampNeg a1) (fun h13 => some ((h10 209 4), h13)))) else some ((0 : Int32), h6)))))
set_option maxHeartbeats 4000000 in
set_option maxRecDepth 100000 in
theorem kX12_height (G : Gx)  {h : Hp} {a1 : Int32} {rr : Int32} {hh : Hp} (hf : fX12_height h a1 = some (rr, hh)) : MC G yX12_height cX12_height 3 (some .int) 2 128 h [.ref (gad G 208), .int a1] (some (.int rr)) hh := by
  refine MC.of RX12 (by decide) rfl (Nat.le_of_ble_eq_true rfl) rfl (fun X C hG hR hF => ?_)
  subst hG
  have hcs : True := trivial
  unfold fX12_height at hf
  refine r_aload_n (i := 0) C dX12_height_0 rfl 0 rfl ?_
  refine r_iconst (v := 0) C dX12_height_1 (by decide) ?_
  obtain ⟨h1, eh1, hf⟩ := lt_of hf
  refine p_X12_3 C eh1 dX12_height_2 ?_
  refine r_aload_n (i := 0) C dX12_height_5 rfl 0 rfl ?_
  refine r_iload_n (i := 1) C dX12_height_6 rfl 1 rfl ?_
  refine r_iconst (v := 1) C dX12_height_7 (by decide) ?_
  refine r_bipush (v := 40) C dX12_height_8 (by decide) ?_
  refine r_callSi (As := [.int a1, .int (1 : Int32), .int (40 : Int32)]) (st := [.ref (gad (xG X) 208)]) C (kX12_in (xG X)) cw_X12_76 rfl rfl (Nat.le_of_ble_eq_true rfl) (zr2 hR rfl rfl) (zrcs hcs) dX12_height_10 ?_
  obtain ⟨v2, r4, hf⟩ := cl_of hf
  have k3 : VW X 3 h1 0 0 21 [(0, .ref (gad (xG X) 208)), (1, .int a1)] [.int v2, .ref (gad (xG X) 208)] := by
    refine r_iconst (v := 1) C dX12_height_21 (by decide) ?_
    obtain ⟨x8, h6, e7, hf⟩ := cl2_of hf
    refine r_callVi (As := [.int v2, .int (1 : Int32)]) (st := []) C 208 rfl (by decide) rfl (kX12_throwsIf (xG X) e7) cw_X12_247 rfl rfl (Nat.le_of_ble_eq_true rfl) (zr2 hR rfl rfl) (zrcs hcs) dX12_height_22 ?_
    refine r_if_eq C 30 dX12_height_25 (by decide) (fun c9 => ?_) (fun c9 => ?_)
    · rw [if_pos c9] at hf
      refine r_aload_n (i := 0) C dX12_height_30 rfl 0 rfl ?_
      obtain ⟨h10, e11, hf⟩ := cl_of hf
      refine r_callVv (As := []) (st := []) C 208 rfl (by decide) rfl (kX12_remembers (xG X) e11) cw_X12_327 rfl rfl (Nat.le_of_ble_eq_true rfl) (zr2 hR rfl rfl) (zrcs hcs) dX12_height_31 ?_
      refine r_aload_n (i := 0) C dX12_height_34 rfl 0 rfl ?_
      refine g_X12_13 C dX12_height_35 ?_
      refine r_iconst (v := 4) C dX12_height_38 (by decide) ?_
      refine r_ialdc C 209 (m := 4) rfl (by decide) (by decide) (show inb 4 2031 by decide) dX12_height_39 ?_
      refine r_istore_n (i := 2) (lv' := [(0, .ref (gad (xG X) 208)), (1, .int a1), (2, .int (h10 209 4))]) C dX12_height_40 rfl (by decide) [1, 2, 0] rfl ?_
      refine r_aload_n (i := 0) C dX12_height_41 rfl 0 rfl ?_
      refine g_X12_13 C dX12_height_42 ?_
      refine r_iconst (v := 4) C dX12_height_45 (by decide) ?_
      refine r_iload_n (i := 1) C dX12_height_46 rfl 1 rfl ?_
      obtain ⟨g12, hf⟩ := gd_of hf
      obtain ⟨h13, eh13, hf⟩ := lt_of hf
      refine r_iast C 209 eh13 rfl (by decide) g12 dX12_height_47 ?_
      refine r_iload_n (i := 2) C dX12_height_48 rfl 2 rfl ?_
      cases hf
      exact r_iret C hF dX12_height_49
    · rw [if_neg c9] at hf
      refine r_iconst (v := 0) C dX12_height_28 (by decide) ?_
      cases hf
      exact r_iret C hF dX12_height_29
  clear hf
  have hf := r4
  refine r_if_ne C 20 dX12_height_13 (by decide) (fun c5 => ?_) (fun c5 => ?_)
  · rw [if_neg c5] at hf
    refine r_iconst (v := 0) C dX12_height_20 (by decide) ?_
    cases hf
    exact k3
  · rw [if_pos c5] at hf
    refine r_iconst (v := 1) C dX12_height_16 (by decide) ?_
    refine r_goto C 21 dX12_height_17 (by decide) ?_
    cases hf
    exact k3
def fX12_isGone (h : Hp) (a1 : Int32) : Option (Hp) := cl9 (fX12_takesOut h a1 (3 : Int32)) (fun h1 => gd (inb (10 : Int32) 2031) (lt9 (up2 h1 209 (10 : Int32).toNatClampNeg ((h1 209 10) + (1 : Int32))) (fun h4 => some h4)))
set_option maxHeartbeats 4000000 in
set_option maxRecDepth 100000 in
theorem kX12_isGone (G : Gx)  {h : Hp} {a1 : Int32} {hh : Hp} (hf : fX12_isGone h a1 = some hh) : MC G yX12_isGone cX12_isGone 2 none 4 256 h [.ref (gad G 208), .int a1] none hh := by
  refine MC.of RX12 (by decide) rfl (Nat.le_of_ble_eq_true rfl) rfl (fun X C hG hR hF => ?_)
  subst hG
  have hcs : True := trivial
  unfold fX12_isGone at hf
  refine r_aload_n (i := 0) C dX12_isGone_0 rfl 0 rfl ?_
  refine r_iload_n (i := 1) C dX12_isGone_1 rfl 1 rfl ?_
  refine r_iconst (v := 3) C dX12_isGone_2 (by decide) ?_
  obtain ⟨h1, e2, hf⟩ := cl_of hf
  refine r_callVv (As := [.int a1, .int (3 : Int32)]) (st := []) C 208 rfl (by decide) rfl (kX12_takesOut (xG X) e2) cw_X12_330 rfl rfl (Nat.le_of_ble_eq_true rfl) (zr2 hR rfl rfl) (zrcs hcs) dX12_isGone_3 ?_
  refine r_aload_n (i := 0) C dX12_isGone_6 rfl 0 rfl ?_
  refine g_X12_13 C dX12_isGone_7 ?_
  refine r_bipush (v := 10) C dX12_isGone_10 (by decide) ?_
  refine r_dup2 C dX12_isGone_12 rfl rfl ?_
  refine r_ialdc C 209 (m := 10) rfl (by decide) (by decide) (show inb 10 2031 by decide) dX12_isGone_13 ?_
  refine r_iconst (v := 1) C dX12_isGone_14 (by decide) ?_
  refine r_iadd C dX12_isGone_15 ?_
  obtain ⟨g3, hf⟩ := gd_of hf
  obtain ⟨h4, eh4, hf⟩ := lt_of hf
  refine r_iast C 209 eh4 rfl (by decide) g3 dX12_isGone_16 ?_
  cases hf
  exact r_vret C hF dX12_isGone_17
def fX12_blows (h : Hp) : Option (Hp) := cl2 (fX12_drawn h (100 : Int32)) (fun x3 h1 => cl9 ((if (h1 209 8) ≤ x3 then some h1 else cl2 (fX12_drawn h1 (16 : Int32)) (fun x10 h8 => (if (fX12_hasPin h8 x10) = (0 : Int32) then some h8 else cl9 (fX12_isGone h8 x10) (fun h12 => some h12)))) : Option (Hp)) (fun h4 => cl2 (fX12_drawn h4 (100 : Int32)) (fun x16 h14 => (if (h14 209 9) ≤ x16 then some h14 else cl2 (fX12_drawn h14 (16 : Int32)) (fun x20 h18 => (if (fX12_hasPin h18 x20) = (0 : Int32) then some h18 else gd (inb ((62 : Int32) + x20) 2031) (gd (inb ((62 : Int32) + x20) 2031) (lt9 (up2 h18 209 ((62 : Int32) + x20).toNatClampNeg (jmin (99 : Int32) ((h18 209 ((62 : Int32) + x20).toNatClampNeg) + (20 : Int32)))) (fun h24 => some h24)))))))))
set_option maxHeartbeats 4000000 in
set_option maxRecDepth 100000 in
theorem kX12_blows (G : Gx)  {h : Hp}  {hh : Hp} (hf : fX12_blows h = some hh) : MC G yX12_blows cX12_blows 2 none 6 384 h [.ref (gad G 208)] none hh := by
  refine MC.of RX12 (by decide) rfl (Nat.le_of_ble_eq_true rfl) rfl (fun X C hG hR hF => ?_)
  subst hG
  have hcs : True := trivial
  unfold fX12_blows at hf
  refine r_aload_n (i := 0) C dX12_blows_0 rfl 0 rfl ?_
  refine r_bipush (v := 100) C dX12_blows_1 (by decide) ?_
  obtain ⟨x3, h1, e2, hf⟩ := cl2_of hf
  refine r_callVi (As := [.int (100 : Int32)]) (st := []) C 208 rfl (by decide) rfl (kX12_drawn (xG X) e2) cw_X12_333 rfl rfl (Nat.le_of_ble_eq_true rfl) (zr2 hR rfl rfl) (zrcs hcs) dX12_blows_3 ?_
  refine r_aload_n (i := 0) C dX12_blows_6 rfl 0 rfl ?_
  refine g_X12_13 C dX12_blows_7 ?_
  refine r_bipush (v := 8) C dX12_blows_10 (by decide) ?_
  refine r_ialdc C 209 (m := 8) rfl (by decide) (by decide) (show inb 8 2031 by decide) dX12_blows_12 ?_
  obtain ⟨h4, r6, hf⟩ := cl_of hf
  have k5 : VW X 2 h4 0 0 36 [(0, .ref (gad (xG X) 208))] [] := by
    refine r_aload_n (i := 0) C dX12_blows_36 rfl 0 rfl ?_
    refine r_bipush (v := 100) C dX12_blows_37 (by decide) ?_
    obtain ⟨x16, h14, e15, hf⟩ := cl2_of hf
    refine r_callVi (As := [.int (100 : Int32)]) (st := []) C 208 rfl (by decide) rfl (kX12_drawn (xG X) e15) cw_X12_333 rfl rfl (Nat.le_of_ble_eq_true rfl) (zr2 hR rfl rfl) (zrcs hcs) dX12_blows_39 ?_
    refine r_aload_n (i := 0) C dX12_blows_42 rfl 0 rfl ?_
    refine g_X12_13 C dX12_blows_43 ?_
    refine r_bipush (v := 9) C dX12_blows_46 (by decide) ?_
    refine r_ialdc C 209 (m := 9) rfl (by decide) (by decide) (show inb 9 2031 by decide) dX12_blows_48 ?_
    refine r_icmp_ge C 93 dX12_blows_49 (by decide) (fun c17 => ?_) (fun c17 => ?_)
    · rw [if_pos c17] at hf
      cases hf
      exact r_vret C hF dX12_blows_93
    · rw [if_neg c17] at hf
      refine r_aload_n (i := 0) C dX12_blows_52 rfl 0 rfl ?_
      refine r_bipush (v := 16) C dX12_blows_53 (by decide) ?_
      obtain ⟨x20, h18, e19, hf⟩ := cl2_of hf
      refine r_callVi (As := [.int (16 : Int32)]) (st := []) C 208 rfl (by decide) rfl (kX12_drawn (xG X) e19) cw_X12_333 rfl rfl (Nat.le_of_ble_eq_true rfl) (zr2 hR rfl rfl) (zrcs hcs) dX12_blows_55 ?_
      refine r_istore_n (i := 1) (lv' := [(0, .ref (gad (xG X) 208)), (1, .int x20)]) C dX12_blows_58 rfl (by decide) [1, 0] rfl ?_
      refine r_aload_n (i := 0) C dX12_blows_59 rfl 0 rfl ?_
      refine r_iload_n (i := 1) C dX12_blows_60 rfl 1 rfl ?_
      refine r_callVi (As := [.int x20]) (st := []) C 208 rfl (by decide) rfl (kX12_hasPin (xG X)) cw_X12_122 rfl rfl (Nat.le_of_ble_eq_true rfl) (zr2 hR rfl rfl) (zrcs hcs) dX12_blows_61 ?_
      refine r_if_eq C 93 dX12_blows_64 (by decide) (fun c21 => ?_) (fun c21 => ?_)
      · rw [if_pos c21] at hf
        cases hf
        exact r_vret C hF dX12_blows_93
      · rw [if_neg c21] at hf
        refine r_aload_n (i := 0) C dX12_blows_67 rfl 0 rfl ?_
        refine g_X12_13 C dX12_blows_68 ?_
        refine r_bipush (v := 62) C dX12_blows_71 (by decide) ?_
        refine r_iload_n (i := 1) C dX12_blows_73 rfl 1 rfl ?_
        refine r_iadd C dX12_blows_74 ?_
        refine r_bipush (v := 99) C dX12_blows_75 (by decide) ?_
        refine r_aload_n (i := 0) C dX12_blows_77 rfl 0 rfl ?_
        refine g_X12_13 C dX12_blows_78 ?_
        refine r_bipush (v := 62) C dX12_blows_81 (by decide) ?_
        refine r_iload_n (i := 1) C dX12_blows_83 rfl 1 rfl ?_
        refine r_iadd C dX12_blows_84 ?_
        obtain ⟨g22, hf⟩ := gd_of hf
        refine r_iald C 209 rfl (by decide) g22 dX12_blows_85 ?_
        refine r_bipush (v := 20) C dX12_blows_86 (by decide) ?_
        refine r_iadd C dX12_blows_88 ?_
        refine r_mmin9 C gw_1797 gm_min_s gm_i gm_min_c (zr1 hR rfl) (zr0 hR (Nat.le_of_ble_eq_true rfl)) (zrcs hcs) dX12_blows_89 ?_
        obtain ⟨g23, hf⟩ := gd_of hf
        obtain ⟨h24, eh24, hf⟩ := lt_of hf
        refine r_iast C 209 eh24 rfl (by decide) g23 dX12_blows_92 ?_
        cases hf
        exact r_vret C hF dX12_blows_93
  clear hf
  have hf := r6
  refine r_icmp_ge C 36 dX12_blows_13 (by decide) (fun c7 => ?_) (fun c7 => ?_)
  · rw [if_pos c7] at hf
    cases hf
    exact k5
  · rw [if_neg c7] at hf
    refine r_aload_n (i := 0) C dX12_blows_16 rfl 0 rfl ?_
    refine r_bipush (v := 16) C dX12_blows_17 (by decide) ?_
    obtain ⟨x10, h8, e9, hf⟩ := cl2_of hf
    refine r_callVi (As := [.int (16 : Int32)]) (st := []) C 208 rfl (by decide) rfl (kX12_drawn (xG X) e9) cw_X12_333 rfl rfl (Nat.le_of_ble_eq_true rfl) (zr2 hR rfl rfl) (zrcs hcs) dX12_blows_19 ?_
    refine r_istore_n (i := 1) (lv' := [(0, .ref (gad (xG X) 208)), (1, .int x10)]) C dX12_blows_22 rfl (by decide) [1, 0] rfl ?_
    refine r_aload_n (i := 0) C dX12_blows_23 rfl 0 rfl ?_
    refine r_iload_n (i := 1) C dX12_blows_24 rfl 1 rfl ?_
    refine r_callVi (As := [.int x10]) (st := []) C 208 rfl (by decide) rfl (kX12_hasPin (xG X)) cw_X12_122 rfl rfl (Nat.le_of_ble_eq_true rfl) (zr2 hR rfl rfl) (zrcs hcs) dX12_blows_25 ?_
    refine r_if_eq C 36 dX12_blows_28 (by decide) (fun c11 => ?_) (fun c11 => ?_)
    · rw [if_pos c11] at hf
      cases hf
      exact r_lv [0] rfl k5
    · rw [if_neg c11] at hf
      refine r_aload_n (i := 0) C dX12_blows_31 rfl 0 rfl ?_
      refine r_iload_n (i := 1) C dX12_blows_32 rfl 1 rfl ?_
      obtain ⟨h12, e13, hf⟩ := cl_of hf
      refine r_callVv (As := [.int x10]) (st := []) C 208 rfl (by decide) rfl (kX12_isGone (xG X) e13) cw_X12_336 rfl rfl (Nat.le_of_ble_eq_true rfl) (zr2 hR rfl rfl) (zrcs hcs) dX12_blows_33 ?_
      cases hf
      exact r_lv [0] rfl k5
def BX12_oneDay_0  (rec : Nat → Hp → Int32 → Int32 → Int32 → Option (Hp)) (h : Hp) (y1 : Int32) (y2 : Int32) (y3 : Int32) : Option (Hp) := (if (16 : Int32) ≤ y2 then cl9 ((if y1 = (0 : Int32) then cl9 (fX12_blows h) (fun h6 => some h6) else some h) : Option (Hp)) (fun h2 => cl2 (fX12_holdingNow h2) (fun x10 h8 => lt9 ((fX12_pins h2) &&& (x10 ^^^ (-1 : Int32))) (fun x11 => rec 1 h8 0 x11 (0 : Int32)))) else (if (fX12_hasPin h y2) = (0 : Int32) then lt9 (y2 + (1 : Int32)) (fun x13 => rec 0 h y1 x13 0) else gd (inb ((62 : Int32) + y2) 2031) (cl2 (fX12_rustsBy h y2) (fun x17 h15 => gd (inb ((62 : Int32) + y2) 2031) (lt9 (up2 h15 209 ((62 : Int32) + y2).toNatClampNeg (jmin (99 : Int32) ((h 209 ((62 : Int32) + y2).toNatClampNeg) + x17))) (fun h19 => lt9 (y2 + (1 : Int32)) (fun x20 => rec 0 h19 y1 x20 0)))))))
def BX12_oneDay_1  (rec : Nat → Hp → Int32 → Int32 → Int32 → Option (Hp)) (h : Hp) (y1 : Int32) (y2 : Int32) (y3 : Int32) : Option (Hp) := (if (16 : Int32) ≤ y3 then gd (inb (3 : Int32) 2031) (lt9 (up2 h 209 (3 : Int32).toNatClampNeg (jmin (9999 : Int32) ((h 209 3) + (1 : Int32)))) (fun h23 => some h23)) else (if (fX12_has y2 y3) = (0 : Int32) then lt9 (y3 + (1 : Int32)) (fun x25 => rec 1 h 0 y2 x25) else cl9 (fX12_isGone h y3) (fun h26 => lt9 (y3 + (1 : Int32)) (fun x28 => rec 1 h26 0 y2 x28))))
def LX12_oneDay  : Nat → Nat → Hp → Int32 → Int32 → Int32 → Option (Hp)
  | 0, _, _, _, _, _ => none
  | n + 1, lab, h, y1, y2, y3 => if lab = 0 then BX12_oneDay_0  (LX12_oneDay  n) h y1 y2 y3 else if lab = 1 then BX12_oneDay_1  (LX12_oneDay  n) h y1 y2 y3 else none
def fX12_oneDay (h : Hp) (a1 : Int32) : Option (Hp) := lt9 (up2 h 208 18 (fX12_pins h)) (fun h29 => LX12_oneDay big 0 h29 a1 (0 : Int32) 0)
set_option maxHeartbeats 4000000 in
set_option maxRecDepth 100000 in
theorem wX12_oneDay {X : Cx}  {hh : Hp} (C : OK X cX12_oneDay 4 RX12 none) (hR : xR X = { frames := 12, cells := 0, slots := 0, locals := 768 }) (hcs : True) (hF : FinR X none hh) : ∀ n : Nat, (∀ (h : Hp) (y1 : Int32) (y2 : Int32) (y3 : Int32), LX12_oneDay  n 0 h y1 y2 y3 = some hh → VW X 4 h 0 0 10 [(0, .ref (gad (xG X) 208)), (1, .int y1), (2, .int y2)] []) ∧ (∀ (h : Hp) (y1 : Int32) (y2 : Int32) (y3 : Int32), LX12_oneDay  n 1 h y1 y2 y3 = some hh → VW X 4 h 0 0 81 [(0, .ref (gad (xG X) 208)), (2, .int y2), (3, .int y3)] []) := by
  intro n
  induction n with
  | zero => exact ⟨(fun _ _ _ _ hf => (by rw [LX12_oneDay] at hf; cases hf)), (fun _ _ _ _ hf => (by rw [LX12_oneDay] at hf; cases hf))⟩
  | succ n ih =>
    refine ⟨?_, ?_⟩
    · intro h y1 y2 y3 hf
      rw [LX12_oneDay, if_pos rfl] at hf
      unfold BX12_oneDay_0 at hf
      refine r_iload_n (i := 2) C dX12_oneDay_10 rfl 2 rfl ?_
      refine r_bipush (v := 16) C dX12_oneDay_11 (by decide) ?_
      refine r_icmp_ge C 59 dX12_oneDay_13 (by decide) (fun c1 => ?_) (fun c1 => ?_)
      · rw [if_pos c1] at hf
        refine r_iload_n (i := 1) C dX12_oneDay_59 rfl 1 rfl ?_
        obtain ⟨h2, r4, hf⟩ := cl_of hf
        have k3 : VW X 4 h2 0 0 67 [(0, .ref (gad (xG X) 208))] [] := by
          refine r_aload_n (i := 0) C dX12_oneDay_67 rfl 0 rfl ?_
          refine r_callVi (As := []) (st := []) C 208 rfl (by decide) rfl (kX12_pins (xG X)) cw_X12_65 rfl rfl (Nat.le_of_ble_eq_true rfl) (zr2 hR rfl rfl) (zrcs hcs) dX12_oneDay_68 ?_
          refine r_aload_n (i := 0) C dX12_oneDay_71 rfl 0 rfl ?_
          obtain ⟨x10, h8, e9, hf⟩ := cl2_of hf
          refine r_callVi (As := []) (st := [.int (fX12_pins h2)]) C 208 rfl (by decide) rfl (kX12_holdingNow (xG X) e9) cw_X12_308 rfl rfl (Nat.le_of_ble_eq_true rfl) (zr2 hR rfl rfl) (zrcs hcs) dX12_oneDay_72 ?_
          refine r_iconst (v := (-1)) C dX12_oneDay_75 (by decide) ?_
          refine r_ixor C dX12_oneDay_76 ?_
          refine r_iand C dX12_oneDay_77 ?_
          obtain ⟨x11, ex11, hf⟩ := lt_of hf
          refine r_top ex11 ?_
          refine r_istore_n (i := 2) (lv' := [(0, .ref (gad (xG X) 208)), (2, .int x11)]) C dX12_oneDay_78 rfl (by decide) [1, 0] rfl ?_
          refine r_iconst (v := 0) C dX12_oneDay_79 (by decide) ?_
          refine r_istore_n (i := 3) (lv' := [(0, .ref (gad (xG X) 208)), (2, .int x11), (3, .int (0 : Int32))]) C dX12_oneDay_80 rfl (by decide) [1, 2, 0] rfl ?_
          exact r_lv [0, 1, 2] rfl (ih.2 _ _ _ _ hf)
        clear hf
        have hf := r4
        refine r_if_ne C 67 dX12_oneDay_60 (by decide) (fun c5 => ?_) (fun c5 => ?_)
        · rw [if_neg c5] at hf
          cases hf
          exact r_lv [0] rfl k3
        · rw [if_pos c5] at hf
          refine r_aload_n (i := 0) C dX12_oneDay_63 rfl 0 rfl ?_
          obtain ⟨h6, e7, hf⟩ := cl_of hf
          refine r_callVv (As := []) (st := []) C 208 rfl (by decide) rfl (kX12_blows (xG X) e7) cw_X12_340 rfl rfl (Nat.le_of_ble_eq_true rfl) (zr2 hR rfl rfl) (zrcs hcs) dX12_oneDay_64 ?_
          cases hf
          exact r_lv [0] rfl k3
      · rw [if_neg c1] at hf
        refine r_aload_n (i := 0) C dX12_oneDay_16 rfl 0 rfl ?_
        refine r_iload_n (i := 2) C dX12_oneDay_17 rfl 2 rfl ?_
        refine r_callVi (As := [.int y2]) (st := []) C 208 rfl (by decide) rfl (kX12_hasPin (xG X)) cw_X12_122 rfl rfl (Nat.le_of_ble_eq_true rfl) (zr2 hR rfl rfl) (zrcs hcs) dX12_oneDay_18 ?_
        refine r_if_eq C 53 dX12_oneDay_21 (by decide) (fun c12 => ?_) (fun c12 => ?_)
        · rw [if_pos c12] at hf
          obtain ⟨x13, ex13, hf⟩ := lt_of hf
          refine r_iinc (j := 2) (v := x13) (lv' := [(0, .ref (gad (xG X) 208)), (1, .int y1), (2, .int x13)]) C dX12_oneDay_53 rfl (by rw [ex13]; rfl) (by decide) [1, 2, 0] rfl ?_
          refine r_goto C 10 dX12_oneDay_56 (by decide) ?_
          exact r_lv [0, 1, 2] rfl (ih.1 _ _ _ _ hf)
        · rw [if_neg c12] at hf
          refine r_aload_n (i := 0) C dX12_oneDay_24 rfl 0 rfl ?_
          refine g_X12_13 C dX12_oneDay_25 ?_
          refine r_bipush (v := 62) C dX12_oneDay_28 (by decide) ?_
          refine r_iload_n (i := 2) C dX12_oneDay_30 rfl 2 rfl ?_
          refine r_iadd C dX12_oneDay_31 ?_
          refine r_bipush (v := 99) C dX12_oneDay_32 (by decide) ?_
          refine r_aload_n (i := 0) C dX12_oneDay_34 rfl 0 rfl ?_
          refine g_X12_13 C dX12_oneDay_35 ?_
          refine r_bipush (v := 62) C dX12_oneDay_38 (by decide) ?_
          refine r_iload_n (i := 2) C dX12_oneDay_40 rfl 2 rfl ?_
          refine r_iadd C dX12_oneDay_41 ?_
          obtain ⟨g14, hf⟩ := gd_of hf
          refine r_iald C 209 rfl (by decide) g14 dX12_oneDay_42 ?_
          refine r_aload_n (i := 0) C dX12_oneDay_43 rfl 0 rfl ?_
          refine r_iload_n (i := 2) C dX12_oneDay_44 rfl 2 rfl ?_
          obtain ⟨x17, h15, e16, hf⟩ := cl2_of hf
          refine r_callVi (As := [.int y2]) (st := [.int (h 209 ((62 : Int32) + y2).toNatClampNeg), .int (99 : Int32), .int ((62 : Int32) + y2), .ref (gad (xG X) 209)]) C 208 rfl (by decide) rfl (kX12_rustsBy (xG X) e16) cw_X12_317 rfl rfl (Nat.le_of_ble_eq_true rfl) (zr2 hR rfl rfl) (zrcs hcs) dX12_oneDay_45 ?_
          refine r_iadd C dX12_oneDay_48 ?_
          refine r_mmin9 C gw_1797 gm_min_s gm_i gm_min_c (zr1 hR rfl) (zr0 hR (Nat.le_of_ble_eq_true rfl)) (zrcs hcs) dX12_oneDay_49 ?_
          obtain ⟨g18, hf⟩ := gd_of hf
          obtain ⟨h19, eh19, hf⟩ := lt_of hf
          refine r_iast C 209 eh19 rfl (by decide) g18 dX12_oneDay_52 ?_
          obtain ⟨x20, ex20, hf⟩ := lt_of hf
          refine r_iinc (j := 2) (v := x20) (lv' := [(0, .ref (gad (xG X) 208)), (1, .int y1), (2, .int x20)]) C dX12_oneDay_53 rfl (by rw [ex20]; rfl) (by decide) [1, 2, 0] rfl ?_
          refine r_goto C 10 dX12_oneDay_56 (by decide) ?_
          exact r_lv [0, 1, 2] rfl (ih.1 _ _ _ _ hf)
    · intro h y1 y2 y3 hf
      rw [LX12_oneDay, if_neg (by decide), if_pos rfl] at hf
      unfold BX12_oneDay_1 at hf
      refine r_iload_n (i := 3) C dX12_oneDay_81 rfl 2 rfl ?_
      refine r_bipush (v := 16) C dX12_oneDay_82 (by decide) ?_
      refine r_icmp_ge C 106 dX12_oneDay_84 (by decide) (fun c21 => ?_) (fun c21 => ?_)
      · rw [if_pos c21] at hf
        refine r_aload_n (i := 0) C dX12_oneDay_106 rfl 0 rfl ?_
        refine g_X12_13 C dX12_oneDay_107 ?_
        refine r_iconst (v := 3) C dX12_oneDay_110 (by decide) ?_
        refine r_sipush (v := 9999) C dX12_oneDay_111 (by decide) ?_
        refine r_aload_n (i := 0) C dX12_oneDay_114 rfl 0 rfl ?_
        refine g_X12_13 C dX12_oneDay_115 ?_
        refine r_iconst (v := 3) C dX12_oneDay_118 (by decide) ?_
        refine r_ialdc C 209 (m := 3) rfl (by decide) (by decide) (show inb 3 2031 by decide) dX12_oneDay_119 ?_
        refine r_iconst (v := 1) C dX12_oneDay_120 (by decide) ?_
        refine r_iadd C dX12_oneDay_121 ?_
        refine r_mmin9 C gw_1797 gm_min_s gm_i gm_min_c (zr1 hR rfl) (zr0 hR (Nat.le_of_ble_eq_true rfl)) (zrcs hcs) dX12_oneDay_122 ?_
        obtain ⟨g22, hf⟩ := gd_of hf
        obtain ⟨h23, eh23, hf⟩ := lt_of hf
        refine r_iast C 209 eh23 rfl (by decide) g22 dX12_oneDay_125 ?_
        cases hf
        exact r_vret C hF dX12_oneDay_126
      · rw [if_neg c21] at hf
        refine r_iload_n (i := 2) C dX12_oneDay_87 rfl 1 rfl ?_
        refine r_iload_n (i := 3) C dX12_oneDay_88 rfl 2 rfl ?_
        refine r_callSi (As := [.int y2, .int y3]) (st := []) C (kX12_has (xG X)) cw_X12_69 rfl rfl (Nat.le_of_ble_eq_true rfl) (zr2 hR rfl rfl) (zrcs hcs) dX12_oneDay_89 ?_
        refine r_if_eq C 100 dX12_oneDay_92 (by decide) (fun c24 => ?_) (fun c24 => ?_)
        · rw [if_pos c24] at hf
          obtain ⟨x25, ex25, hf⟩ := lt_of hf
          refine r_iinc (j := 2) (v := x25) (lv' := [(0, .ref (gad (xG X) 208)), (2, .int y2), (3, .int x25)]) C dX12_oneDay_100 rfl (by rw [ex25]; rfl) (by decide) [1, 2, 0] rfl ?_
          refine r_goto C 81 dX12_oneDay_103 (by decide) ?_
          exact r_lv [0, 1, 2] rfl (ih.2 _ _ _ _ hf)
        · rw [if_neg c24] at hf
          refine r_aload_n (i := 0) C dX12_oneDay_95 rfl 0 rfl ?_
          refine r_iload_n (i := 3) C dX12_oneDay_96 rfl 2 rfl ?_
          obtain ⟨h26, e27, hf⟩ := cl_of hf
          refine r_callVv (As := [.int y3]) (st := []) C 208 rfl (by decide) rfl (kX12_isGone (xG X) e27) cw_X12_336 rfl rfl (Nat.le_of_ble_eq_true rfl) (zr2 hR rfl rfl) (zrcs hcs) dX12_oneDay_97 ?_
          obtain ⟨x28, ex28, hf⟩ := lt_of hf
          refine r_iinc (j := 2) (v := x28) (lv' := [(0, .ref (gad (xG X) 208)), (2, .int y2), (3, .int x28)]) C dX12_oneDay_100 rfl (by rw [ex28]; rfl) (by decide) [1, 2, 0] rfl ?_
          refine r_goto C 81 dX12_oneDay_103 (by decide) ?_
          exact r_lv [0, 1, 2] rfl (ih.2 _ _ _ _ hf)
set_option maxHeartbeats 4000000 in
set_option maxRecDepth 100000 in
theorem kX12_oneDay (G : Gx)  {h : Hp} {a1 : Int32} {hh : Hp} (hf : fX12_oneDay h a1 = some hh) : MC G yX12_oneDay cX12_oneDay 4 none 12 768 h [.ref (gad G 208), .int a1] none hh := by
  refine MC.of RX12 (by decide) rfl (Nat.le_of_ble_eq_true rfl) rfl (fun X C hG hR hF => ?_)
  subst hG
  have hcs : True := trivial
  unfold fX12_oneDay at hf
  refine r_aload_n (i := 0) C dX12_oneDay_0 rfl 0 rfl ?_
  refine r_aload_n (i := 0) C dX12_oneDay_1 rfl 0 rfl ?_
  refine r_callVi (As := []) (st := [.ref (gad (xG X) 208)]) C 208 rfl (by decide) rfl (kX12_pins (xG X)) cw_X12_65 rfl rfl (Nat.le_of_ble_eq_true rfl) (zr2 hR rfl rfl) (zrcs hcs) dX12_oneDay_2 ?_
  obtain ⟨h29, eh29, hf⟩ := lt_of hf
  refine p_X12_250 C eh29 dX12_oneDay_5 ?_
  refine r_iconst (v := 0) C dX12_oneDay_8 (by decide) ?_
  refine r_istore_n (i := 2) (lv' := [(0, .ref (gad (xG X) 208)), (1, .int a1), (2, .int (0 : Int32))]) C dX12_oneDay_9 rfl (by decide) [1, 2, 0] rfl ?_
  exact r_lv [0, 1, 2] rfl ((wX12_oneDay  C hR hcs hF big).1 _ _ _ _ hf)
def BX12_keepsAll_0  (rec : Hp → Int32 → Option (Hp)) (h : Hp) (y1 : Int32) : Option (Hp) := (if (333 : Int32) ≤ y1 then some h else gd (inb y1 2031) (gd (inb y1 333) (lt9 (up2 h 212 y1.toNatClampNeg (h 209 y1.toNatClampNeg)) (fun h4 => lt9 (y1 + (1 : Int32)) (fun x5 => rec h4 x5)))))
def LX12_keepsAll  : Nat → Hp → Int32 → Option (Hp)
  | 0, _, _ => none
  | n + 1, h, y1 => BX12_keepsAll_0  (LX12_keepsAll  n) h y1
def fX12_keepsAll (h : Hp) : Option (Hp) := LX12_keepsAll big h (0 : Int32)
set_option maxHeartbeats 4000000 in
set_option maxRecDepth 100000 in
theorem wX12_keepsAll {X : Cx}  {hh : Hp} (C : OK X cX12_keepsAll 2 RX12 none) (hR : xR X = { frames := 1, cells := 0, slots := 0, locals := 64 }) (hcs : True) (hF : FinR X none hh) : ∀ n : Nat, (∀ (h : Hp) (y1 : Int32), LX12_keepsAll  n h y1 = some hh → VW X 2 h 0 0 2 [(0, .ref (gad (xG X) 208)), (1, .int y1)] []) := by
  intro n
  induction n with
  | zero => exact (fun _ _ hf => (by rw [LX12_keepsAll] at hf; cases hf))
  | succ n ih =>
    intro h y1 hf
    rw [LX12_keepsAll] at hf
    unfold BX12_keepsAll_0 at hf
    refine r_iload_n (i := 1) C dX12_keepsAll_2 rfl 1 rfl ?_
    refine r_sipush (v := 333) C dX12_keepsAll_3 (by decide) ?_
    refine r_icmp_ge C 27 dX12_keepsAll_6 (by decide) (fun c1 => ?_) (fun c1 => ?_)
    · rw [if_pos c1] at hf
      cases hf
      exact r_vret C hF dX12_keepsAll_27
    · rw [if_neg c1] at hf
      refine r_aload_n (i := 0) C dX12_keepsAll_9 rfl 0 rfl ?_
      refine g_X12_23 C dX12_keepsAll_10 ?_
      refine r_iload_n (i := 1) C dX12_keepsAll_13 rfl 1 rfl ?_
      refine r_aload_n (i := 0) C dX12_keepsAll_14 rfl 0 rfl ?_
      refine g_X12_13 C dX12_keepsAll_15 ?_
      refine r_iload_n (i := 1) C dX12_keepsAll_18 rfl 1 rfl ?_
      obtain ⟨g2, hf⟩ := gd_of hf
      refine r_iald C 209 rfl (by decide) g2 dX12_keepsAll_19 ?_
      obtain ⟨g3, hf⟩ := gd_of hf
      obtain ⟨h4, eh4, hf⟩ := lt_of hf
      refine r_iast C 212 eh4 rfl (by decide) g3 dX12_keepsAll_20 ?_
      obtain ⟨x5, ex5, hf⟩ := lt_of hf
      refine r_iinc (j := 1) (v := x5) (lv' := [(0, .ref (gad (xG X) 208)), (1, .int x5)]) C dX12_keepsAll_21 rfl (by rw [ex5]; rfl) (by decide) [1, 0] rfl ?_
      refine r_goto C 2 dX12_keepsAll_24 (by decide) ?_
      exact r_lv [0, 1] rfl (ih _ _ hf)
set_option maxHeartbeats 4000000 in
set_option maxRecDepth 100000 in
theorem kX12_keepsAll (G : Gx)  {h : Hp}  {hh : Hp} (hf : fX12_keepsAll h = some hh) : MC G yX12_keepsAll cX12_keepsAll 2 none 1 64 h [.ref (gad G 208)] none hh := by
  refine MC.of RX12 (by decide) rfl (Nat.le_of_ble_eq_true rfl) rfl (fun X C hG hR hF => ?_)
  subst hG
  have hcs : True := trivial
  unfold fX12_keepsAll at hf
  refine r_iconst (v := 0) C dX12_keepsAll_0 (by decide) ?_
  refine r_istore_n (i := 1) (lv' := [(0, .ref (gad (xG X) 208)), (1, .int (0 : Int32))]) C dX12_keepsAll_1 rfl (by decide) [1, 0] rfl ?_
  exact r_lv [0, 1] rfl ((wX12_keepsAll  C hR hcs hF big) _ _ hf)
def BX12_bringsBack_0  (rec : Hp → Int32 → Option (Hp)) (h : Hp) (y1 : Int32) : Option (Hp) := (if (333 : Int32) ≤ y1 then some h else gd (inb y1 333) (gd (inb y1 2031) (lt9 (up2 h 209 y1.toNatClampNeg (h 212 y1.toNatClampNeg)) (fun h4 => lt9 (y1 + (1 : Int32)) (fun x5 => rec h4 x5)))))
def LX12_bringsBack  : Nat → Hp → Int32 → Option (Hp)
  | 0, _, _ => none
  | n + 1, h, y1 => BX12_bringsBack_0  (LX12_bringsBack  n) h y1
def fX12_bringsBack (h : Hp) : Option (Hp) := LX12_bringsBack big h (0 : Int32)
set_option maxHeartbeats 4000000 in
set_option maxRecDepth 100000 in
theorem wX12_bringsBack {X : Cx}  {hh : Hp} (C : OK X cX12_bringsBack 2 RX12 none) (hR : xR X = { frames := 1, cells := 0, slots := 0, locals := 64 }) (hcs : True) (hF : FinR X none hh) : ∀ n : Nat, (∀ (h : Hp) (y1 : Int32), LX12_bringsBack  n h y1 = some hh → VW X 2 h 0 0 2 [(0, .ref (gad (xG X) 208)), (1, .int y1)] []) := by
  intro n
  induction n with
  | zero => exact (fun _ _ hf => (by rw [LX12_bringsBack] at hf; cases hf))
  | succ n ih =>
    intro h y1 hf
    rw [LX12_bringsBack] at hf
    unfold BX12_bringsBack_0 at hf
    refine r_iload_n (i := 1) C dX12_bringsBack_2 rfl 1 rfl ?_
    refine r_sipush (v := 333) C dX12_bringsBack_3 (by decide) ?_
    refine r_icmp_ge C 27 dX12_bringsBack_6 (by decide) (fun c1 => ?_) (fun c1 => ?_)
    · rw [if_pos c1] at hf
      cases hf
      exact r_vret C hF dX12_bringsBack_27
    · rw [if_neg c1] at hf
      refine r_aload_n (i := 0) C dX12_bringsBack_9 rfl 0 rfl ?_
      refine g_X12_13 C dX12_bringsBack_10 ?_
      refine r_iload_n (i := 1) C dX12_bringsBack_13 rfl 1 rfl ?_
      refine r_aload_n (i := 0) C dX12_bringsBack_14 rfl 0 rfl ?_
      refine g_X12_23 C dX12_bringsBack_15 ?_
      refine r_iload_n (i := 1) C dX12_bringsBack_18 rfl 1 rfl ?_
      obtain ⟨g2, hf⟩ := gd_of hf
      refine r_iald C 212 rfl (by decide) g2 dX12_bringsBack_19 ?_
      obtain ⟨g3, hf⟩ := gd_of hf
      obtain ⟨h4, eh4, hf⟩ := lt_of hf
      refine r_iast C 209 eh4 rfl (by decide) g3 dX12_bringsBack_20 ?_
      obtain ⟨x5, ex5, hf⟩ := lt_of hf
      refine r_iinc (j := 1) (v := x5) (lv' := [(0, .ref (gad (xG X) 208)), (1, .int x5)]) C dX12_bringsBack_21 rfl (by rw [ex5]; rfl) (by decide) [1, 0] rfl ?_
      refine r_goto C 2 dX12_bringsBack_24 (by decide) ?_
      exact r_lv [0, 1] rfl (ih _ _ hf)
set_option maxHeartbeats 4000000 in
set_option maxRecDepth 100000 in
theorem kX12_bringsBack (G : Gx)  {h : Hp}  {hh : Hp} (hf : fX12_bringsBack h = some hh) : MC G yX12_bringsBack cX12_bringsBack 2 none 1 64 h [.ref (gad G 208)] none hh := by
  refine MC.of RX12 (by decide) rfl (Nat.le_of_ble_eq_true rfl) rfl (fun X C hG hR hF => ?_)
  subst hG
  have hcs : True := trivial
  unfold fX12_bringsBack at hf
  refine r_iconst (v := 0) C dX12_bringsBack_0 (by decide) ?_
  refine r_istore_n (i := 1) (lv' := [(0, .ref (gad (xG X) 208)), (1, .int (0 : Int32))]) C dX12_bringsBack_1 rfl (by decide) [1, 0] rfl ?_
  exact r_lv [0, 1] rfl ((wX12_bringsBack  C hR hcs hF big) _ _ hf)
def BX12_goesAhead_0  (rec : Hp → Int32 → Int32 → Option (Int32 × Hp)) (h : Hp) (y1 : Int32) (y2 : Int32) : Option (Int32 × Hp) := (if y1 ≤ y2 then some (((h 209 10) - (h 212 10)), h) else cl9 (fX12_oneDay h (1 : Int32)) (fun h2 => lt9 (y2 + (1 : Int32)) (fun x4 => rec h2 y1 x4)))
def LX12_goesAhead  : Nat → Hp → Int32 → Int32 → Option (Int32 × Hp)
  | 0, _, _, _ => none
  | n + 1, h, y1, y2 => BX12_goesAhead_0  (LX12_goesAhead  n) h y1 y2
def fX12_goesAhead (h : Hp) (a1 : Int32) : Option (Int32 × Hp) := cl9 (fX12_keepsAll h) (fun h5 => LX12_goesAhead big h5 a1 (0 : Int32))
set_option maxHeartbeats 4000000 in
set_option maxRecDepth 100000 in
theorem wX12_goesAhead {X : Cx}  {rr : Int32} {hh : Hp} (C : OK X cX12_goesAhead 3 RX12 (some .int)) (hR : xR X = { frames := 13, cells := 0, slots := 0, locals := 832 }) (hcs : True) (hF : FinR X (some (.int rr)) hh) : ∀ n : Nat, (∀ (h : Hp) (y1 : Int32) (y2 : Int32), LX12_goesAhead  n h y1 y2 = some (rr, hh) → VW X 3 h 0 0 6 [(0, .ref (gad (xG X) 208)), (1, .int y1), (2, .int y2)] []) := by
  intro n
  induction n with
  | zero => exact (fun _ _ _ hf => (by rw [LX12_goesAhead] at hf; cases hf))
  | succ n ih =>
    intro h y1 y2 hf
    rw [LX12_goesAhead] at hf
    unfold BX12_goesAhead_0 at hf
    refine r_iload_n (i := 2) C dX12_goesAhead_6 rfl 2 rfl ?_
    refine r_iload_n (i := 1) C dX12_goesAhead_7 rfl 1 rfl ?_
    refine r_icmp_ge C 22 dX12_goesAhead_8 (by decide) (fun c1 => ?_) (fun c1 => ?_)
    · rw [if_pos c1] at hf
      refine r_aload_n (i := 0) C dX12_goesAhead_22 rfl 0 rfl ?_
      refine g_X12_13 C dX12_goesAhead_23 ?_
      refine r_bipush (v := 10) C dX12_goesAhead_26 (by decide) ?_
      refine r_ialdc C 209 (m := 10) rfl (by decide) (by decide) (show inb 10 2031 by decide) dX12_goesAhead_28 ?_
      refine r_aload_n (i := 0) C dX12_goesAhead_29 rfl 0 rfl ?_
      refine g_X12_23 C dX12_goesAhead_30 ?_
      refine r_bipush (v := 10) C dX12_goesAhead_33 (by decide) ?_
      refine r_ialdc C 212 (m := 10) rfl (by decide) (by decide) (show inb 10 333 by decide) dX12_goesAhead_35 ?_
      refine r_isub C dX12_goesAhead_36 ?_
      cases hf
      exact r_iret C hF dX12_goesAhead_37
    · rw [if_neg c1] at hf
      refine r_aload_n (i := 0) C dX12_goesAhead_11 rfl 0 rfl ?_
      refine r_iconst (v := 1) C dX12_goesAhead_12 (by decide) ?_
      obtain ⟨h2, e3, hf⟩ := cl_of hf
      refine r_callVv (As := [.int (1 : Int32)]) (st := []) C 208 rfl (by decide) rfl (kX12_oneDay (xG X) e3) cw_X12_346 rfl rfl (Nat.le_of_ble_eq_true rfl) (zr2 hR rfl rfl) (zrcs hcs) dX12_goesAhead_13 ?_
      obtain ⟨x4, ex4, hf⟩ := lt_of hf
      refine r_iinc (j := 2) (v := x4) (lv' := [(0, .ref (gad (xG X) 208)), (1, .int y1), (2, .int x4)]) C dX12_goesAhead_16 rfl (by rw [ex4]; rfl) (by decide) [1, 2, 0] rfl ?_
      refine r_goto C 6 dX12_goesAhead_19 (by decide) ?_
      exact r_lv [0, 1, 2] rfl (ih _ _ _ hf)
set_option maxHeartbeats 4000000 in
set_option maxRecDepth 100000 in
theorem kX12_goesAhead (G : Gx)  {h : Hp} {a1 : Int32} {rr : Int32} {hh : Hp} (hf : fX12_goesAhead h a1 = some (rr, hh)) : MC G yX12_goesAhead cX12_goesAhead 3 (some .int) 13 832 h [.ref (gad G 208), .int a1] (some (.int rr)) hh := by
  refine MC.of RX12 (by decide) rfl (Nat.le_of_ble_eq_true rfl) rfl (fun X C hG hR hF => ?_)
  subst hG
  have hcs : True := trivial
  unfold fX12_goesAhead at hf
  refine r_aload_n (i := 0) C dX12_goesAhead_0 rfl 0 rfl ?_
  obtain ⟨h5, e6, hf⟩ := cl_of hf
  refine r_callVv (As := []) (st := []) C 208 rfl (by decide) rfl (kX12_keepsAll (xG X) e6) cw_X12_343 rfl rfl (Nat.le_of_ble_eq_true rfl) (zr2 hR rfl rfl) (zrcs hcs) dX12_goesAhead_1 ?_
  refine r_iconst (v := 0) C dX12_goesAhead_4 (by decide) ?_
  refine r_istore_n (i := 2) (lv' := [(0, .ref (gad (xG X) 208)), (1, .int a1), (2, .int (0 : Int32))]) C dX12_goesAhead_5 rfl (by decide) [1, 2, 0] rfl ?_
  exact r_lv [0, 1, 2] rfl ((wX12_goesAhead  C hR hcs hF big) _ _ _ hf)
def BX12_days_0  (rec : Hp → Int32 → Int32 → Int32 → Option (Int32 × Hp)) (h : Hp) (y1 : Int32) (y2 : Int32) (y3 : Int32) : Option (Int32 × Hp) := (if y1 ≤ y3 then some (((h 209 10) - y2), h) else cl9 (fX12_oneDay h (0 : Int32)) (fun h2 => lt9 (y3 + (1 : Int32)) (fun x4 => rec h2 y1 y2 x4)))
def LX12_days  : Nat → Hp → Int32 → Int32 → Int32 → Option (Int32 × Hp)
  | 0, _, _, _, _ => none
  | n + 1, h, y1, y2, y3 => BX12_days_0  (LX12_days  n) h y1 y2 y3
def fX12_days (h : Hp) (a1 : Int32) : Option (Int32 × Hp) := lt9 (up2 h 208 0 (0 : Int32)) (fun h5 => cl9 ((if (fX12_in a1 (1 : Int32) (60 : Int32)) = (0 : Int32) then some (1 : Int32) else some (0 : Int32)) : Option (Int32)) (fun v6 => cl2 (fX12_throwsIf h5 v6 (1 : Int32)) (fun x12 h10 => (if x12 = (0 : Int32) then cl9 (fX12_remembers h10) (fun h14 => LX12_days big h14 a1 (h14 209 10) (0 : Int32)) else some ((0 : Int32), h10)))))
set_option maxHeartbeats 4000000 in
set_option maxRecDepth 100000 in
theorem wX12_days {X : Cx}  {rr : Int32} {hh : Hp} (C : OK X cX12_days 4 RX12 (some .int)) (hR : xR X = { frames := 13, cells := 0, slots := 0, locals := 832 }) (hcs : True) (hF : FinR X (some (.int rr)) hh) : ∀ n : Nat, (∀ (h : Hp) (y1 : Int32) (y2 : Int32) (y3 : Int32), LX12_days  n h y1 y2 y3 = some (rr, hh) → VW X 4 h 0 0 44 [(0, .ref (gad (xG X) 208)), (1, .int y1), (2, .int y2), (3, .int y3)] []) := by
  intro n
  induction n with
  | zero => exact (fun _ _ _ _ hf => (by rw [LX12_days] at hf; cases hf))
  | succ n ih =>
    intro h y1 y2 y3 hf
    rw [LX12_days] at hf
    unfold BX12_days_0 at hf
    refine r_iload_n (i := 3) C dX12_days_44 rfl 3 rfl ?_
    refine r_iload_n (i := 1) C dX12_days_45 rfl 1 rfl ?_
    refine r_icmp_ge C 60 dX12_days_46 (by decide) (fun c1 => ?_) (fun c1 => ?_)
    · rw [if_pos c1] at hf
      refine r_aload_n (i := 0) C dX12_days_60 rfl 0 rfl ?_
      refine g_X12_13 C dX12_days_61 ?_
      refine r_bipush (v := 10) C dX12_days_64 (by decide) ?_
      refine r_ialdc C 209 (m := 10) rfl (by decide) (by decide) (show inb 10 2031 by decide) dX12_days_66 ?_
      refine r_iload_n (i := 2) C dX12_days_67 rfl 2 rfl ?_
      refine r_isub C dX12_days_68 ?_
      cases hf
      exact r_iret C hF dX12_days_69
    · rw [if_neg c1] at hf
      refine r_aload_n (i := 0) C dX12_days_49 rfl 0 rfl ?_
      refine r_iconst (v := 0) C dX12_days_50 (by decide) ?_
      obtain ⟨h2, e3, hf⟩ := cl_of hf
      refine r_callVv (As := [.int (0 : Int32)]) (st := []) C 208 rfl (by decide) rfl (kX12_oneDay (xG X) e3) cw_X12_346 rfl rfl (Nat.le_of_ble_eq_true rfl) (zr2 hR rfl rfl) (zrcs hcs) dX12_days_51 ?_
      obtain ⟨x4, ex4, hf⟩ := lt_of hf
      refine r_iinc (j := 3) (v := x4) (lv' := [(0, .ref (gad (xG X) 208)), (1, .int y1), (2, .int y2), (3, .int x4)]) C dX12_days_54 rfl (by rw [ex4]; rfl) (by decide) [1, 2, 3, 0] rfl ?_
      refine r_goto C 44 dX12_days_57 (by decide) ?_
      exact r_lv [0, 1, 2, 3] rfl (ih _ _ _ _ hf)
set_option maxHeartbeats 4000000 in
set_option maxRecDepth 100000 in
theorem kX12_days (G : Gx)  {h : Hp} {a1 : Int32} {rr : Int32} {hh : Hp} (hf : fX12_days h a1 = some (rr, hh)) : MC G yX12_days cX12_days 4 (some .int) 13 832 h [.ref (gad G 208), .int a1] (some (.int rr)) hh := by
  refine MC.of RX12 (by decide) rfl (Nat.le_of_ble_eq_true rfl) rfl (fun X C hG hR hF => ?_)
  subst hG
  have hcs : True := trivial
  unfold fX12_days at hf
  refine r_aload_n (i := 0) C dX12_days_0 rfl 0 rfl ?_
  refine r_iconst (v := 0) C dX12_days_1 (by decide) ?_
  obtain ⟨h5, eh5, hf⟩ := lt_of hf
  refine p_X12_3 C eh5 dX12_days_2 ?_
  refine r_aload_n (i := 0) C dX12_days_5 rfl 0 rfl ?_
  refine r_iload_n (i := 1) C dX12_days_6 rfl 1 rfl ?_
  refine r_iconst (v := 1) C dX12_days_7 (by decide) ?_
  refine r_bipush (v := 60) C dX12_days_8 (by decide) ?_
  refine r_callSi (As := [.int a1, .int (1 : Int32), .int (60 : Int32)]) (st := [.ref (gad (xG X) 208)]) C (kX12_in (xG X)) cw_X12_76 rfl rfl (Nat.le_of_ble_eq_true rfl) (zr2 hR rfl rfl) (zrcs hcs) dX12_days_10 ?_
  obtain ⟨v6, r8, hf⟩ := cl_of hf
  have k7 : VW X 4 h5 0 0 21 [(0, .ref (gad (xG X) 208)), (1, .int a1)] [.int v6, .ref (gad (xG X) 208)] := by
    refine r_iconst (v := 1) C dX12_days_21 (by decide) ?_
    obtain ⟨x12, h10, e11, hf⟩ := cl2_of hf
    refine r_callVi (As := [.int v6, .int (1 : Int32)]) (st := []) C 208 rfl (by decide) rfl (kX12_throwsIf (xG X) e11) cw_X12_247 rfl rfl (Nat.le_of_ble_eq_true rfl) (zr2 hR rfl rfl) (zrcs hcs) dX12_days_22 ?_
    refine r_if_eq C 30 dX12_days_25 (by decide) (fun c13 => ?_) (fun c13 => ?_)
    · rw [if_pos c13] at hf
      refine r_aload_n (i := 0) C dX12_days_30 rfl 0 rfl ?_
      obtain ⟨h14, e15, hf⟩ := cl_of hf
      refine r_callVv (As := []) (st := []) C 208 rfl (by decide) rfl (kX12_remembers (xG X) e15) cw_X12_327 rfl rfl (Nat.le_of_ble_eq_true rfl) (zr2 hR rfl rfl) (zrcs hcs) dX12_days_31 ?_
      refine r_aload_n (i := 0) C dX12_days_34 rfl 0 rfl ?_
      refine g_X12_13 C dX12_days_35 ?_
      refine r_bipush (v := 10) C dX12_days_38 (by decide) ?_
      refine r_ialdc C 209 (m := 10) rfl (by decide) (by decide) (show inb 10 2031 by decide) dX12_days_40 ?_
      refine r_istore_n (i := 2) (lv' := [(0, .ref (gad (xG X) 208)), (1, .int a1), (2, .int (h14 209 10))]) C dX12_days_41 rfl (by decide) [1, 2, 0] rfl ?_
      refine r_iconst (v := 0) C dX12_days_42 (by decide) ?_
      refine r_istore_n (i := 3) (lv' := [(0, .ref (gad (xG X) 208)), (1, .int a1), (2, .int (h14 209 10)), (3, .int (0 : Int32))]) C dX12_days_43 rfl (by decide) [1, 2, 3, 0] rfl ?_
      exact r_lv [0, 1, 2, 3] rfl ((wX12_days  C hR hcs hF big) _ _ _ _ hf)
    · rw [if_neg c13] at hf
      refine r_iconst (v := 0) C dX12_days_28 (by decide) ?_
      cases hf
      exact r_iret C hF dX12_days_29
  clear hf
  have hf := r8
  refine r_if_ne C 20 dX12_days_13 (by decide) (fun c9 => ?_) (fun c9 => ?_)
  · rw [if_neg c9] at hf
    refine r_iconst (v := 0) C dX12_days_20 (by decide) ?_
    cases hf
    exact k7
  · rw [if_pos c9] at hf
    refine r_iconst (v := 1) C dX12_days_16 (by decide) ?_
    refine r_goto C 21 dX12_days_17 (by decide) ?_
    cases hf
    exact k7
def fX12_ahead (h : Hp) (a1 : Int32) (a2 : Int32) (a3 : Int32) : Option (Int32 × Hp) := lt9 (up2 h 208 0 (0 : Int32)) (fun h1 => cl2 (fX12_throwsIf h1 (fX12_noPlace a1) (1 : Int32)) (fun x4 h2 => (if x4 = (0 : Int32) then cl9 ((if (fX12_in a2 (0 : Int32) (60 : Int32)) = (0 : Int32) then some (1 : Int32) else some (0 : Int32)) : Option (Int32)) (fun v6 => cl2 (fX12_throwsIf h2 v6 (2 : Int32)) (fun x12 h10 => (if x12 = (0 : Int32) then cl2 (fX12_goesAhead h10 a2) (fun x16 h14 => cl2 ((if a3 = (0 : Int32) then cl2 (fX12_holdingNow h14) (fun x24 h22 => cl9 (fX12_skyBy h22 x24 a1) (fun x25 => some (x25, h22))) else gd (inb ((62 : Int32) + a1) 2031) (some ((h14 209 ((62 : Int32) + a1).toNatClampNeg), h14))) : Option (Int32 × Hp)) (fun v17 h18 => cl9 (fX12_bringsBack h18) (fun h28 => some (v17, h28)))) else some ((0 : Int32), h10)))) else some ((0 : Int32), h2))))
set_option maxHeartbeats 4000000 in
set_option maxRecDepth 100000 in
theorem kX12_ahead (G : Gx)  {h : Hp} {a1 : Int32} {a2 : Int32} {a3 : Int32} {rr : Int32} {hh : Hp} (hf : fX12_ahead h a1 a2 a3 = some (rr, hh)) : MC G yX12_ahead cX12_ahead 5 (some .int) 14 896 h [.ref (gad G 208), .int a1, .int a2, .int a3] (some (.int rr)) hh := by
  refine MC.of RX12 (by decide) rfl (Nat.le_of_ble_eq_true rfl) rfl (fun X C hG hR hF => ?_)
  subst hG
  have hcs : True := trivial
  unfold fX12_ahead at hf
  refine r_aload_n (i := 0) C dX12_ahead_0 rfl 0 rfl ?_
  refine r_iconst (v := 0) C dX12_ahead_1 (by decide) ?_
  obtain ⟨h1, eh1, hf⟩ := lt_of hf
  refine p_X12_3 C eh1 dX12_ahead_2 ?_
  refine r_aload_n (i := 0) C dX12_ahead_5 rfl 0 rfl ?_
  refine r_iload_n (i := 1) C dX12_ahead_6 rfl 1 rfl ?_
  refine r_callSi (As := [.int a1]) (st := [.ref (gad (xG X) 208)]) C (kX12_noPlace (xG X)) cw_X12_305 rfl rfl (Nat.le_of_ble_eq_true rfl) (zr2 hR rfl rfl) (zrcs hcs) dX12_ahead_7 ?_
  refine r_iconst (v := 1) C dX12_ahead_10 (by decide) ?_
  obtain ⟨x4, h2, e3, hf⟩ := cl2_of hf
  refine r_callVi (As := [.int (fX12_noPlace a1), .int (1 : Int32)]) (st := []) C 208 rfl (by decide) rfl (kX12_throwsIf (xG X) e3) cw_X12_247 rfl rfl (Nat.le_of_ble_eq_true rfl) (zr2 hR rfl rfl) (zrcs hcs) dX12_ahead_11 ?_
  refine r_if_ne C 40 dX12_ahead_14 (by decide) (fun c5 => ?_) (fun c5 => ?_)
  · rw [if_neg c5] at hf
    refine r_iconst (v := 0) C dX12_ahead_40 (by decide) ?_
    cases hf
    exact r_iret C hF dX12_ahead_41
  · rw [if_pos c5] at hf
    refine r_aload_n (i := 0) C dX12_ahead_17 rfl 0 rfl ?_
    refine r_iload_n (i := 2) C dX12_ahead_18 rfl 2 rfl ?_
    refine r_iconst (v := 0) C dX12_ahead_19 (by decide) ?_
    refine r_bipush (v := 60) C dX12_ahead_20 (by decide) ?_
    refine r_callSi (As := [.int a2, .int (0 : Int32), .int (60 : Int32)]) (st := [.ref (gad (xG X) 208)]) C (kX12_in (xG X)) cw_X12_76 rfl rfl (Nat.le_of_ble_eq_true rfl) (zr2 hR rfl rfl) (zrcs hcs) dX12_ahead_22 ?_
    obtain ⟨v6, r8, hf⟩ := cl_of hf
    have k7 : VW X 5 h2 0 0 33 [(0, .ref (gad (xG X) 208)), (1, .int a1), (2, .int a2), (3, .int a3)] [.int v6, .ref (gad (xG X) 208)] := by
      refine r_iconst (v := 2) C dX12_ahead_33 (by decide) ?_
      obtain ⟨x12, h10, e11, hf⟩ := cl2_of hf
      refine r_callVi (As := [.int v6, .int (2 : Int32)]) (st := []) C 208 rfl (by decide) rfl (kX12_throwsIf (xG X) e11) cw_X12_247 rfl rfl (Nat.le_of_ble_eq_true rfl) (zr2 hR rfl rfl) (zrcs hcs) dX12_ahead_34 ?_
      refine r_if_eq C 42 dX12_ahead_37 (by decide) (fun c13 => ?_) (fun c13 => ?_)
      · rw [if_pos c13] at hf
        refine r_aload_n (i := 0) C dX12_ahead_42 rfl 0 rfl ?_
        refine r_iload_n (i := 2) C dX12_ahead_43 rfl 2 rfl ?_
        obtain ⟨x16, h14, e15, hf⟩ := cl2_of hf
        refine r_callVi (As := [.int a2]) (st := []) C 208 rfl (by decide) rfl (kX12_goesAhead (xG X) e15) cw_X12_350 rfl rfl (Nat.le_of_ble_eq_true rfl) (zr2 hR rfl rfl) (zrcs hcs) dX12_ahead_44 ?_
        refine r_pop C dX12_ahead_47 rfl ?_
        refine r_iload_n (i := 3) C dX12_ahead_48 rfl 3 rfl ?_
        obtain ⟨v17, h18, r20, hf⟩ := cl2_of hf
        have k19 : VW X 5 h18 0 0 73 [(0, .ref (gad (xG X) 208))] [.int v17] := by
          refine r_istore (i := 4) (lv' := [(0, .ref (gad (xG X) 208)), (4, .int v17)]) C dX12_ahead_73 (by decide) [1, 0] rfl ?_
          refine r_aload_n (i := 0) C dX12_ahead_75 rfl 0 rfl ?_
          obtain ⟨h28, e29, hf⟩ := cl_of hf
          refine r_callVv (As := []) (st := []) C 208 rfl (by decide) rfl (kX12_bringsBack (xG X) e29) cw_X12_353 rfl rfl (Nat.le_of_ble_eq_true rfl) (zr2 hR rfl rfl) (zrcs hcs) dX12_ahead_76 ?_
          refine r_iload (i := 4) C dX12_ahead_79 1 rfl ?_
          cases hf
          exact r_iret C hF dX12_ahead_81
        clear hf
        have hf := r20
        refine r_if_eq C 64 dX12_ahead_49 (by decide) (fun c21 => ?_) (fun c21 => ?_)
        · rw [if_pos c21] at hf
          refine r_aload_n (i := 0) C dX12_ahead_64 rfl 0 rfl ?_
          refine r_aload_n (i := 0) C dX12_ahead_65 rfl 0 rfl ?_
          obtain ⟨x24, h22, e23, hf⟩ := cl2_of hf
          refine r_callVi (As := []) (st := [.ref (gad (xG X) 208)]) C 208 rfl (by decide) rfl (kX12_holdingNow (xG X) e23) cw_X12_308 rfl rfl (Nat.le_of_ble_eq_true rfl) (zr2 hR rfl rfl) (zrcs hcs) dX12_ahead_66 ?_
          refine r_iload_n (i := 1) C dX12_ahead_69 rfl 1 rfl ?_
          obtain ⟨x25, e26, hf⟩ := cl_of hf
          refine r_callVi (As := [.int x24, .int a1]) (st := []) C 208 rfl (by decide) rfl (kX12_skyBy (xG X) e26) cw_X12_296 rfl rfl (Nat.le_of_ble_eq_true rfl) (zr2 hR rfl rfl) (zrcs hcs) dX12_ahead_70 ?_
          cases hf
          exact r_lv [0] rfl k19
        · rw [if_neg c21] at hf
          refine r_aload_n (i := 0) C dX12_ahead_52 rfl 0 rfl ?_
          refine g_X12_13 C dX12_ahead_53 ?_
          refine r_bipush (v := 62) C dX12_ahead_56 (by decide) ?_
          refine r_iload_n (i := 1) C dX12_ahead_58 rfl 1 rfl ?_
          refine r_iadd C dX12_ahead_59 ?_
          obtain ⟨g27, hf⟩ := gd_of hf
          refine r_iald C 209 rfl (by decide) g27 dX12_ahead_60 ?_
          refine r_goto C 73 dX12_ahead_61 (by decide) ?_
          cases hf
          exact r_lv [0] rfl k19
      · rw [if_neg c13] at hf
        refine r_iconst (v := 0) C dX12_ahead_40 (by decide) ?_
        cases hf
        exact r_iret C hF dX12_ahead_41
    clear hf
    have hf := r8
    refine r_if_ne C 32 dX12_ahead_25 (by decide) (fun c9 => ?_) (fun c9 => ?_)
    · rw [if_neg c9] at hf
      refine r_iconst (v := 0) C dX12_ahead_32 (by decide) ?_
      cases hf
      exact k7
    · rw [if_pos c9] at hf
      refine r_iconst (v := 1) C dX12_ahead_28 (by decide) ?_
      refine r_goto C 33 dX12_ahead_29 (by decide) ?_
      cases hf
      exact k7
def fX12_needs (h : Hp) (a1 : Int32) : Option (Int32 × Hp) := lt9 (up2 h 208 0 (0 : Int32)) (fun h1 => cl9 ((if (fX12_in a1 (0 : Int32) (60 : Int32)) = (0 : Int32) then some (1 : Int32) else some (0 : Int32)) : Option (Int32)) (fun v2 => cl2 (fX12_throwsIf h1 v2 (1 : Int32)) (fun x8 h6 => (if x8 = (0 : Int32) then cl2 (fX12_goesAhead h6 a1) (fun x12 h10 => cl9 (fX12_bringsBack h10) (fun h13 => some (x12, h13))) else some ((0 : Int32), h6)))))
set_option maxHeartbeats 4000000 in
set_option maxRecDepth 100000 in
theorem kX12_needs (G : Gx)  {h : Hp} {a1 : Int32} {rr : Int32} {hh : Hp} (hf : fX12_needs h a1 = some (rr, hh)) : MC G yX12_needs cX12_needs 3 (some .int) 14 896 h [.ref (gad G 208), .int a1] (some (.int rr)) hh := by
  refine MC.of RX12 (by decide) rfl (Nat.le_of_ble_eq_true rfl) rfl (fun X C hG hR hF => ?_)
  subst hG
  have hcs : True := trivial
  unfold fX12_needs at hf
  refine r_aload_n (i := 0) C dX12_needs_0 rfl 0 rfl ?_
  refine r_iconst (v := 0) C dX12_needs_1 (by decide) ?_
  obtain ⟨h1, eh1, hf⟩ := lt_of hf
  refine p_X12_3 C eh1 dX12_needs_2 ?_
  refine r_aload_n (i := 0) C dX12_needs_5 rfl 0 rfl ?_
  refine r_iload_n (i := 1) C dX12_needs_6 rfl 1 rfl ?_
  refine r_iconst (v := 0) C dX12_needs_7 (by decide) ?_
  refine r_bipush (v := 60) C dX12_needs_8 (by decide) ?_
  refine r_callSi (As := [.int a1, .int (0 : Int32), .int (60 : Int32)]) (st := [.ref (gad (xG X) 208)]) C (kX12_in (xG X)) cw_X12_76 rfl rfl (Nat.le_of_ble_eq_true rfl) (zr2 hR rfl rfl) (zrcs hcs) dX12_needs_10 ?_
  obtain ⟨v2, r4, hf⟩ := cl_of hf
  have k3 : VW X 3 h1 0 0 21 [(0, .ref (gad (xG X) 208)), (1, .int a1)] [.int v2, .ref (gad (xG X) 208)] := by
    refine r_iconst (v := 1) C dX12_needs_21 (by decide) ?_
    obtain ⟨x8, h6, e7, hf⟩ := cl2_of hf
    refine r_callVi (As := [.int v2, .int (1 : Int32)]) (st := []) C 208 rfl (by decide) rfl (kX12_throwsIf (xG X) e7) cw_X12_247 rfl rfl (Nat.le_of_ble_eq_true rfl) (zr2 hR rfl rfl) (zrcs hcs) dX12_needs_22 ?_
    refine r_if_eq C 30 dX12_needs_25 (by decide) (fun c9 => ?_) (fun c9 => ?_)
    · rw [if_pos c9] at hf
      refine r_aload_n (i := 0) C dX12_needs_30 rfl 0 rfl ?_
      refine r_iload_n (i := 1) C dX12_needs_31 rfl 1 rfl ?_
      obtain ⟨x12, h10, e11, hf⟩ := cl2_of hf
      refine r_callVi (As := [.int a1]) (st := []) C 208 rfl (by decide) rfl (kX12_goesAhead (xG X) e11) cw_X12_350 rfl rfl (Nat.le_of_ble_eq_true rfl) (zr2 hR rfl rfl) (zrcs hcs) dX12_needs_32 ?_
      refine r_istore_n (i := 2) (lv' := [(0, .ref (gad (xG X) 208)), (1, .int a1), (2, .int x12)]) C dX12_needs_35 rfl (by decide) [1, 2, 0] rfl ?_
      refine r_aload_n (i := 0) C dX12_needs_36 rfl 0 rfl ?_
      obtain ⟨h13, e14, hf⟩ := cl_of hf
      refine r_callVv (As := []) (st := []) C 208 rfl (by decide) rfl (kX12_bringsBack (xG X) e14) cw_X12_353 rfl rfl (Nat.le_of_ble_eq_true rfl) (zr2 hR rfl rfl) (zrcs hcs) dX12_needs_37 ?_
      refine r_iload_n (i := 2) C dX12_needs_40 rfl 2 rfl ?_
      cases hf
      exact r_iret C hF dX12_needs_41
    · rw [if_neg c9] at hf
      refine r_iconst (v := 0) C dX12_needs_28 (by decide) ?_
      cases hf
      exact r_iret C hF dX12_needs_29
  clear hf
  have hf := r4
  refine r_if_ne C 20 dX12_needs_13 (by decide) (fun c5 => ?_) (fun c5 => ?_)
  · rw [if_neg c5] at hf
    refine r_iconst (v := 0) C dX12_needs_20 (by decide) ?_
    cases hf
    exact k3
  · rw [if_pos c5] at hf
    refine r_iconst (v := 1) C dX12_needs_16 (by decide) ?_
    refine r_goto C 21 dX12_needs_17 (by decide) ?_
    cases hf
    exact k3
def BX12_gives_0  (rec : Nat → Hp → Int32 → Int32 → Int32 → Int32 → Option (Int32 × Hp)) (h : Hp) (y1 : Int32) (y2 : Int32) (y3 : Int32) (y4 : Int32) : Option (Int32 × Hp) := cl9 ((if (60 : Int32) < y4 then some false else (if (0 : Int32) ≤ y3 then some false else some true)) : Option Bool) (fun q1 => if q1 = true then cl9 (fX12_oneDay h (1 : Int32)) (fun h7 => (if (fX12_pins h7) = y2 then lt9 (y4 + (1 : Int32)) (fun x10 => rec 0 h7 y1 y2 (-1 : Int32) x10) else lt9 (y4 + (1 : Int32)) (fun x11 => rec 0 h7 y1 y2 y4 x11))) else rec 1 h y1 y2 y3 0)
def BX12_gives_1  (rec : Nat → Hp → Int32 → Int32 → Int32 → Int32 → Option (Int32 × Hp)) (h : Hp) (y1 : Int32) (y2 : Int32) (y3 : Int32) (y4 : Int32) : Option (Int32 × Hp) := lt9 (y2 &&& ((fX12_pins h) ^^^ (-1 : Int32))) (fun x12 => cl9 (fX12_bringsBack h) (fun h13 => (if y1 = (0 : Int32) then some (y3, h13) else some (x12, h13))))
def LX12_gives  : Nat → Nat → Hp → Int32 → Int32 → Int32 → Int32 → Option (Int32 × Hp)
  | 0, _, _, _, _, _, _ => none
  | n + 1, lab, h, y1, y2, y3, y4 => if lab = 0 then BX12_gives_0  (LX12_gives  n) h y1 y2 y3 y4 else if lab = 1 then BX12_gives_1  (LX12_gives  n) h y1 y2 y3 y4 else none
def fX12_gives (h : Hp) (a1 : Int32) : Option (Int32 × Hp) := lt9 (up2 h 208 0 (0 : Int32)) (fun h16 => lt9 (fX12_pins h16) (fun x17 => cl9 (fX12_keepsAll h16) (fun h18 => LX12_gives big 0 h18 a1 x17 (-1 : Int32) (1 : Int32))))
set_option maxHeartbeats 4000000 in
set_option maxRecDepth 100000 in
theorem wX12_gives {X : Cx}  {rr : Int32} {hh : Hp} (C : OK X cX12_gives 5 RX12 (some .int)) (hR : xR X = { frames := 13, cells := 0, slots := 0, locals := 832 }) (hcs : True) (hF : FinR X (some (.int rr)) hh) : ∀ n : Nat, (∀ (h : Hp) (y1 : Int32) (y2 : Int32) (y3 : Int32) (y4 : Int32), LX12_gives  n 0 h y1 y2 y3 y4 = some (rr, hh) → VW X 5 h 0 0 19 [(0, .ref (gad (xG X) 208)), (1, .int y1), (2, .int y2), (3, .int y3), (4, .int y4)] []) ∧ (∀ (h : Hp) (y1 : Int32) (y2 : Int32) (y3 : Int32) (y4 : Int32), LX12_gives  n 1 h y1 y2 y3 y4 = some (rr, hh) → VW X 5 h 0 0 56 [(0, .ref (gad (xG X) 208)), (1, .int y1), (2, .int y2), (3, .int y3)] []) := by
  intro n
  induction n with
  | zero => exact ⟨(fun _ _ _ _ _ hf => (by rw [LX12_gives] at hf; cases hf)), (fun _ _ _ _ _ hf => (by rw [LX12_gives] at hf; cases hf))⟩
  | succ n ih =>
    refine ⟨?_, ?_⟩
    · intro h y1 y2 y3 y4 hf
      rw [LX12_gives, if_pos rfl] at hf
      unfold BX12_gives_0 at hf
      refine r_iload (i := 4) C dX12_gives_19 4 rfl ?_
      refine r_bipush (v := 60) C dX12_gives_21 (by decide) ?_
      obtain ⟨q1, r4, hf⟩ := cl_of hf
      have k2 : q1 = true → VW X 5 h 0 0 30 [(0, .ref (gad (xG X) 208)), (1, .int y1), (2, .int y2), (3, .int y3), (4, .int y4)] [] := fun qq => by
        rw [if_pos qq] at hf
        refine r_aload_n (i := 0) C dX12_gives_30 rfl 0 rfl ?_
        refine r_iconst (v := 1) C dX12_gives_31 (by decide) ?_
        obtain ⟨h7, e8, hf⟩ := cl_of hf
        refine r_callVv (As := [.int (1 : Int32)]) (st := []) C 208 rfl (by decide) rfl (kX12_oneDay (xG X) e8) cw_X12_346 rfl rfl (Nat.le_of_ble_eq_true rfl) (zr2 hR rfl rfl) (zrcs hcs) dX12_gives_32 ?_
        refine r_aload_n (i := 0) C dX12_gives_35 rfl 0 rfl ?_
        refine r_callVi (As := []) (st := []) C 208 rfl (by decide) rfl (kX12_pins (xG X)) cw_X12_65 rfl rfl (Nat.le_of_ble_eq_true rfl) (zr2 hR rfl rfl) (zrcs hcs) dX12_gives_36 ?_
        refine r_iload_n (i := 2) C dX12_gives_39 rfl 2 rfl ?_
        refine r_icmp_eq C 48 dX12_gives_40 (by decide) (fun c9 => ?_) (fun c9 => ?_)
        · rw [if_pos c9] at hf
          refine r_iconst (v := (-1)) C dX12_gives_48 (by decide) ?_
          refine r_istore_n (i := 3) (lv' := [(0, .ref (gad (xG X) 208)), (1, .int y1), (2, .int y2), (3, .int (-1 : Int32)), (4, .int y4)]) C dX12_gives_49 rfl (by decide) [1, 2, 3, 0, 4] rfl ?_
          obtain ⟨x10, ex10, hf⟩ := lt_of hf
          refine r_iinc (j := 4) (v := x10) (lv' := [(0, .ref (gad (xG X) 208)), (1, .int y1), (2, .int y2), (3, .int (-1 : Int32)), (4, .int x10)]) C dX12_gives_50 rfl (by rw [ex10]; rfl) (by decide) [1, 2, 3, 4, 0] rfl ?_
          refine r_goto C 19 dX12_gives_53 (by decide) ?_
          exact r_lv [0, 1, 2, 3, 4] rfl (ih.1 _ _ _ _ _ hf)
        · rw [if_neg c9] at hf
          refine r_iload (i := 4) C dX12_gives_43 4 rfl ?_
          refine r_goto C 49 dX12_gives_45 (by decide) ?_
          refine r_istore_n (i := 3) (lv' := [(0, .ref (gad (xG X) 208)), (1, .int y1), (2, .int y2), (3, .int y4), (4, .int y4)]) C dX12_gives_49 rfl (by decide) [1, 2, 3, 0, 4] rfl ?_
          obtain ⟨x11, ex11, hf⟩ := lt_of hf
          refine r_iinc (j := 4) (v := x11) (lv' := [(0, .ref (gad (xG X) 208)), (1, .int y1), (2, .int y2), (3, .int y4), (4, .int x11)]) C dX12_gives_50 rfl (by rw [ex11]; rfl) (by decide) [1, 2, 3, 4, 0] rfl ?_
          refine r_goto C 19 dX12_gives_53 (by decide) ?_
          exact r_lv [0, 1, 2, 3, 4] rfl (ih.1 _ _ _ _ _ hf)
      have k3 : q1 = false → VW X 5 h 0 0 56 [(0, .ref (gad (xG X) 208)), (1, .int y1), (2, .int y2), (3, .int y3), (4, .int y4)] [] := fun qq => by
        rw [if_neg (by rw [qq]; decide)] at hf
        exact r_lv [0, 1, 2, 3] rfl (ih.2 _ _ _ _ _ hf)
      clear hf
      have hf := r4
      refine r_icmp_gt C 56 dX12_gives_23 (by decide) (fun c5 => ?_) (fun c5 => ?_)
      · rw [if_pos c5] at hf
        exact k3 (Option.some.inj hf).symm
      · rw [if_neg c5] at hf
        refine r_iload_n (i := 3) C dX12_gives_26 rfl 3 rfl ?_
        refine r_if_ge C 56 dX12_gives_27 (by decide) (fun c6 => ?_) (fun c6 => ?_)
        · rw [if_pos c6] at hf
          exact k3 (Option.some.inj hf).symm
        · rw [if_neg c6] at hf
          exact k2 (Option.some.inj hf).symm
    · intro h y1 y2 y3 y4 hf
      rw [LX12_gives, if_neg (by decide), if_pos rfl] at hf
      unfold BX12_gives_1 at hf
      refine r_iload_n (i := 2) C dX12_gives_56 rfl 2 rfl ?_
      refine r_aload_n (i := 0) C dX12_gives_57 rfl 0 rfl ?_
      refine r_callVi (As := []) (st := [.int y2]) C 208 rfl (by decide) rfl (kX12_pins (xG X)) cw_X12_65 rfl rfl (Nat.le_of_ble_eq_true rfl) (zr2 hR rfl rfl) (zrcs hcs) dX12_gives_58 ?_
      refine r_iconst (v := (-1)) C dX12_gives_61 (by decide) ?_
      refine r_ixor C dX12_gives_62 ?_
      refine r_iand C dX12_gives_63 ?_
      obtain ⟨x12, ex12, hf⟩ := lt_of hf
      refine r_top ex12 ?_
      refine r_istore (i := 4) (lv' := [(0, .ref (gad (xG X) 208)), (1, .int y1), (2, .int y2), (3, .int y3), (4, .int x12)]) C dX12_gives_64 (by decide) [1, 2, 3, 4, 0] rfl ?_
      refine r_aload_n (i := 0) C dX12_gives_66 rfl 0 rfl ?_
      obtain ⟨h13, e14, hf⟩ := cl_of hf
      refine r_callVv (As := []) (st := []) C 208 rfl (by decide) rfl (kX12_bringsBack (xG X) e14) cw_X12_353 rfl rfl (Nat.le_of_ble_eq_true rfl) (zr2 hR rfl rfl) (zrcs hcs) dX12_gives_67 ?_
      refine r_iload_n (i := 1) C dX12_gives_70 rfl 1 rfl ?_
      refine r_if_eq C 79 dX12_gives_71 (by decide) (fun c15 => ?_) (fun c15 => ?_)
      · rw [if_pos c15] at hf
        refine r_iload_n (i := 3) C dX12_gives_79 rfl 3 rfl ?_
        cases hf
        exact r_iret C hF dX12_gives_80
      · rw [if_neg c15] at hf
        refine r_iload (i := 4) C dX12_gives_74 4 rfl ?_
        refine r_goto C 80 dX12_gives_76 (by decide) ?_
        cases hf
        exact r_iret C hF dX12_gives_80
set_option maxHeartbeats 4000000 in
set_option maxRecDepth 100000 in
theorem kX12_gives (G : Gx)  {h : Hp} {a1 : Int32} {rr : Int32} {hh : Hp} (hf : fX12_gives h a1 = some (rr, hh)) : MC G yX12_gives cX12_gives 5 (some .int) 13 832 h [.ref (gad G 208), .int a1] (some (.int rr)) hh := by
  refine MC.of RX12 (by decide) rfl (Nat.le_of_ble_eq_true rfl) rfl (fun X C hG hR hF => ?_)
  subst hG
  have hcs : True := trivial
  unfold fX12_gives at hf
  refine r_aload_n (i := 0) C dX12_gives_0 rfl 0 rfl ?_
  refine r_iconst (v := 0) C dX12_gives_1 (by decide) ?_
  obtain ⟨h16, eh16, hf⟩ := lt_of hf
  refine p_X12_3 C eh16 dX12_gives_2 ?_
  refine r_aload_n (i := 0) C dX12_gives_5 rfl 0 rfl ?_
  refine r_callVi (As := []) (st := []) C 208 rfl (by decide) rfl (kX12_pins (xG X)) cw_X12_65 rfl rfl (Nat.le_of_ble_eq_true rfl) (zr2 hR rfl rfl) (zrcs hcs) dX12_gives_6 ?_
  obtain ⟨x17, ex17, hf⟩ := lt_of hf
  refine r_top ex17 ?_
  refine r_istore_n (i := 2) (lv' := [(0, .ref (gad (xG X) 208)), (1, .int a1), (2, .int x17)]) C dX12_gives_9 rfl (by decide) [1, 2, 0] rfl ?_
  refine r_iconst (v := (-1)) C dX12_gives_10 (by decide) ?_
  refine r_istore_n (i := 3) (lv' := [(0, .ref (gad (xG X) 208)), (1, .int a1), (2, .int x17), (3, .int (-1 : Int32))]) C dX12_gives_11 rfl (by decide) [1, 2, 3, 0] rfl ?_
  refine r_aload_n (i := 0) C dX12_gives_12 rfl 0 rfl ?_
  obtain ⟨h18, e19, hf⟩ := cl_of hf
  refine r_callVv (As := []) (st := []) C 208 rfl (by decide) rfl (kX12_keepsAll (xG X) e19) cw_X12_343 rfl rfl (Nat.le_of_ble_eq_true rfl) (zr2 hR rfl rfl) (zrcs hcs) dX12_gives_13 ?_
  refine r_iconst (v := 1) C dX12_gives_16 (by decide) ?_
  refine r_istore (i := 4) (lv' := [(0, .ref (gad (xG X) 208)), (1, .int a1), (2, .int x17), (3, .int (-1 : Int32)), (4, .int (1 : Int32))]) C dX12_gives_17 (by decide) [1, 2, 3, 4, 0] rfl ?_
  exact r_lv [0, 1, 2, 3, 4] rfl ((wX12_gives  C hR hcs hF big).1 _ _ _ _ _ hf)
def BX12_lasts_0  (rec : Nat → Hp → Int32 → Int32 → Int32 → Option (Int32 × Hp)) (h : Hp) (y1 : Int32) (y2 : Int32) (y3 : Int32) : Option (Int32 × Hp) := cl9 ((if (60 : Int32) < y3 then some false else (if (0 : Int32) ≤ y2 then some false else some true)) : Option Bool) (fun q1 => if q1 = true then cl9 (fX12_oneDay h (1 : Int32)) (fun h7 => cl2 (fX12_standingNow h7) (fun x11 h9 => (if (y1 &&& (x11 ^^^ (-1 : Int32))) = (0 : Int32) then lt9 (y3 + (1 : Int32)) (fun x13 => rec 0 h9 y1 (-1 : Int32) x13) else lt9 (y3 + (1 : Int32)) (fun x14 => rec 0 h9 y1 y3 x14)))) else rec 1 h 0 y2 0)
def BX12_lasts_1  (rec : Nat → Hp → Int32 → Int32 → Int32 → Option (Int32 × Hp)) (h : Hp) (y1 : Int32) (y2 : Int32) (y3 : Int32) : Option (Int32 × Hp) := cl9 (fX12_bringsBack h) (fun h15 => some (y2, h15))
def LX12_lasts  : Nat → Nat → Hp → Int32 → Int32 → Int32 → Option (Int32 × Hp)
  | 0, _, _, _, _, _ => none
  | n + 1, lab, h, y1, y2, y3 => if lab = 0 then BX12_lasts_0  (LX12_lasts  n) h y1 y2 y3 else if lab = 1 then BX12_lasts_1  (LX12_lasts  n) h y1 y2 y3 else none
def fX12_lasts (h : Hp) : Option (Int32 × Hp) := lt9 (up2 h 208 0 (0 : Int32)) (fun h17 => cl2 (fX12_standingNow h17) (fun x20 h18 => cl9 (fX12_keepsAll h18) (fun h21 => LX12_lasts big 0 h21 x20 (-1 : Int32) (1 : Int32))))
set_option maxHeartbeats 4000000 in
set_option maxRecDepth 100000 in
theorem wX12_lasts {X : Cx}  {rr : Int32} {hh : Hp} (C : OK X cX12_lasts 4 RX12 (some .int)) (hR : xR X = { frames := 13, cells := 0, slots := 0, locals := 832 }) (hcs : True) (hF : FinR X (some (.int rr)) hh) : ∀ n : Nat, (∀ (h : Hp) (y1 : Int32) (y2 : Int32) (y3 : Int32), LX12_lasts  n 0 h y1 y2 y3 = some (rr, hh) → VW X 4 h 0 0 18 [(0, .ref (gad (xG X) 208)), (1, .int y1), (2, .int y2), (3, .int y3)] []) ∧ (∀ (h : Hp) (y1 : Int32) (y2 : Int32) (y3 : Int32), LX12_lasts  n 1 h y1 y2 y3 = some (rr, hh) → VW X 4 h 0 0 56 [(0, .ref (gad (xG X) 208)), (2, .int y2)] []) := by
  intro n
  induction n with
  | zero => exact ⟨(fun _ _ _ _ hf => (by rw [LX12_lasts] at hf; cases hf)), (fun _ _ _ _ hf => (by rw [LX12_lasts] at hf; cases hf))⟩
  | succ n ih =>
    refine ⟨?_, ?_⟩
    · intro h y1 y2 y3 hf
      rw [LX12_lasts, if_pos rfl] at hf
      unfold BX12_lasts_0 at hf
      refine r_iload_n (i := 3) C dX12_lasts_18 rfl 3 rfl ?_
      refine r_bipush (v := 60) C dX12_lasts_19 (by decide) ?_
      obtain ⟨q1, r4, hf⟩ := cl_of hf
      have k2 : q1 = true → VW X 4 h 0 0 28 [(0, .ref (gad (xG X) 208)), (1, .int y1), (2, .int y2), (3, .int y3)] [] := fun qq => by
        rw [if_pos qq] at hf
        refine r_aload_n (i := 0) C dX12_lasts_28 rfl 0 rfl ?_
        refine r_iconst (v := 1) C dX12_lasts_29 (by decide) ?_
        obtain ⟨h7, e8, hf⟩ := cl_of hf
        refine r_callVv (As := [.int (1 : Int32)]) (st := []) C 208 rfl (by decide) rfl (kX12_oneDay (xG X) e8) cw_X12_346 rfl rfl (Nat.le_of_ble_eq_true rfl) (zr2 hR rfl rfl) (zrcs hcs) dX12_lasts_30 ?_
        refine r_iload_n (i := 1) C dX12_lasts_33 rfl 1 rfl ?_
        refine r_aload_n (i := 0) C dX12_lasts_34 rfl 0 rfl ?_
        obtain ⟨x11, h9, e10, hf⟩ := cl2_of hf
        refine r_callVi (As := []) (st := [.int y1]) C 208 rfl (by decide) rfl (kX12_standingNow (xG X) e10) cw_X12_320 rfl rfl (Nat.le_of_ble_eq_true rfl) (zr2 hR rfl rfl) (zrcs hcs) dX12_lasts_35 ?_
        refine r_iconst (v := (-1)) C dX12_lasts_38 (by decide) ?_
        refine r_ixor C dX12_lasts_39 ?_
        refine r_iand C dX12_lasts_40 ?_
        refine r_if_eq C 48 dX12_lasts_41 (by decide) (fun c12 => ?_) (fun c12 => ?_)
        · rw [if_pos c12] at hf
          refine r_iconst (v := (-1)) C dX12_lasts_48 (by decide) ?_
          refine r_istore_n (i := 2) (lv' := [(0, .ref (gad (xG X) 208)), (1, .int y1), (2, .int (-1 : Int32)), (3, .int y3)]) C dX12_lasts_49 rfl (by decide) [1, 2, 0, 3] rfl ?_
          obtain ⟨x13, ex13, hf⟩ := lt_of hf
          refine r_iinc (j := 3) (v := x13) (lv' := [(0, .ref (gad (xG X) 208)), (1, .int y1), (2, .int (-1 : Int32)), (3, .int x13)]) C dX12_lasts_50 rfl (by rw [ex13]; rfl) (by decide) [1, 2, 3, 0] rfl ?_
          refine r_goto C 18 dX12_lasts_53 (by decide) ?_
          exact r_lv [0, 1, 2, 3] rfl (ih.1 _ _ _ _ hf)
        · rw [if_neg c12] at hf
          refine r_iload_n (i := 3) C dX12_lasts_44 rfl 3 rfl ?_
          refine r_goto C 49 dX12_lasts_45 (by decide) ?_
          refine r_istore_n (i := 2) (lv' := [(0, .ref (gad (xG X) 208)), (1, .int y1), (2, .int y3), (3, .int y3)]) C dX12_lasts_49 rfl (by decide) [1, 2, 0, 3] rfl ?_
          obtain ⟨x14, ex14, hf⟩ := lt_of hf
          refine r_iinc (j := 3) (v := x14) (lv' := [(0, .ref (gad (xG X) 208)), (1, .int y1), (2, .int y3), (3, .int x14)]) C dX12_lasts_50 rfl (by rw [ex14]; rfl) (by decide) [1, 2, 3, 0] rfl ?_
          refine r_goto C 18 dX12_lasts_53 (by decide) ?_
          exact r_lv [0, 1, 2, 3] rfl (ih.1 _ _ _ _ hf)
      have k3 : q1 = false → VW X 4 h 0 0 56 [(0, .ref (gad (xG X) 208)), (1, .int y1), (2, .int y2), (3, .int y3)] [] := fun qq => by
        rw [if_neg (by rw [qq]; decide)] at hf
        exact r_lv [0, 2] rfl (ih.2 _ _ _ _ hf)
      clear hf
      have hf := r4
      refine r_icmp_gt C 56 dX12_lasts_21 (by decide) (fun c5 => ?_) (fun c5 => ?_)
      · rw [if_pos c5] at hf
        exact k3 (Option.some.inj hf).symm
      · rw [if_neg c5] at hf
        refine r_iload_n (i := 2) C dX12_lasts_24 rfl 2 rfl ?_
        refine r_if_ge C 56 dX12_lasts_25 (by decide) (fun c6 => ?_) (fun c6 => ?_)
        · rw [if_pos c6] at hf
          exact k3 (Option.some.inj hf).symm
        · rw [if_neg c6] at hf
          exact k2 (Option.some.inj hf).symm
    · intro h y1 y2 y3 hf
      rw [LX12_lasts, if_neg (by decide), if_pos rfl] at hf
      unfold BX12_lasts_1 at hf
      refine r_aload_n (i := 0) C dX12_lasts_56 rfl 0 rfl ?_
      obtain ⟨h15, e16, hf⟩ := cl_of hf
      refine r_callVv (As := []) (st := []) C 208 rfl (by decide) rfl (kX12_bringsBack (xG X) e16) cw_X12_353 rfl rfl (Nat.le_of_ble_eq_true rfl) (zr2 hR rfl rfl) (zrcs hcs) dX12_lasts_57 ?_
      refine r_iload_n (i := 2) C dX12_lasts_60 rfl 1 rfl ?_
      cases hf
      exact r_iret C hF dX12_lasts_61
set_option maxHeartbeats 4000000 in
set_option maxRecDepth 100000 in
theorem kX12_lasts (G : Gx)  {h : Hp}  {rr : Int32} {hh : Hp} (hf : fX12_lasts h = some (rr, hh)) : MC G yX12_lasts cX12_lasts 4 (some .int) 13 832 h [.ref (gad G 208)] (some (.int rr)) hh := by
  refine MC.of RX12 (by decide) rfl (Nat.le_of_ble_eq_true rfl) rfl (fun X C hG hR hF => ?_)
  subst hG
  have hcs : True := trivial
  unfold fX12_lasts at hf
  refine r_aload_n (i := 0) C dX12_lasts_0 rfl 0 rfl ?_
  refine r_iconst (v := 0) C dX12_lasts_1 (by decide) ?_
  obtain ⟨h17, eh17, hf⟩ := lt_of hf
  refine p_X12_3 C eh17 dX12_lasts_2 ?_
  refine r_aload_n (i := 0) C dX12_lasts_5 rfl 0 rfl ?_
  obtain ⟨x20, h18, e19, hf⟩ := cl2_of hf
  refine r_callVi (As := []) (st := []) C 208 rfl (by decide) rfl (kX12_standingNow (xG X) e19) cw_X12_320 rfl rfl (Nat.le_of_ble_eq_true rfl) (zr2 hR rfl rfl) (zrcs hcs) dX12_lasts_6 ?_
  refine r_istore_n (i := 1) (lv' := [(0, .ref (gad (xG X) 208)), (1, .int x20)]) C dX12_lasts_9 rfl (by decide) [1, 0] rfl ?_
  refine r_iconst (v := (-1)) C dX12_lasts_10 (by decide) ?_
  refine r_istore_n (i := 2) (lv' := [(0, .ref (gad (xG X) 208)), (1, .int x20), (2, .int (-1 : Int32))]) C dX12_lasts_11 rfl (by decide) [1, 2, 0] rfl ?_
  refine r_aload_n (i := 0) C dX12_lasts_12 rfl 0 rfl ?_
  obtain ⟨h21, e22, hf⟩ := cl_of hf
  refine r_callVv (As := []) (st := []) C 208 rfl (by decide) rfl (kX12_keepsAll (xG X) e22) cw_X12_343 rfl rfl (Nat.le_of_ble_eq_true rfl) (zr2 hR rfl rfl) (zrcs hcs) dX12_lasts_13 ?_
  refine r_iconst (v := 1) C dX12_lasts_16 (by decide) ?_
  refine r_istore_n (i := 3) (lv' := [(0, .ref (gad (xG X) 208)), (1, .int x20), (2, .int (-1 : Int32)), (3, .int (1 : Int32))]) C dX12_lasts_17 rfl (by decide) [1, 2, 3, 0] rfl ?_
  exact r_lv [0, 1, 2, 3] rfl ((wX12_lasts  C hR hcs hF big).1 _ _ _ _ hf)
def BX12_weakest_0  (rec : Hp → Int32 → Int32 → Int32 → Option (Int32 × Hp)) (h : Hp) (y1 : Int32) (y2 : Int32) (y3 : Int32) : Option (Int32 × Hp) := (if (16 : Int32) ≤ y3 then some (y1, h) else cl2 ((if (fX12_hasPin h y3) = (0 : Int32) then some ((-1 : Int32), h) else cl9 (fX12_rustOf h y3) (fun x7 => cl2 (fX12_strainOf h y3) (fun x11 h9 => some ((x7 + x11), h9)))) : Option (Int32 × Hp)) (fun v2 h3 => cl9 ((if v2 ≤ y2 then some y1 else some y3) : Option (Int32)) (fun v12 => lt9 (jmax y2 v2) (fun x16 => lt9 (y3 + (1 : Int32)) (fun x17 => rec h3 v12 x16 x17)))))
def LX12_weakest  : Nat → Hp → Int32 → Int32 → Int32 → Option (Int32 × Hp)
  | 0, _, _, _, _ => none
  | n + 1, h, y1, y2, y3 => BX12_weakest_0  (LX12_weakest  n) h y1 y2 y3
def fX12_weakest (h : Hp) : Option (Int32 × Hp) := lt9 (up2 h 208 0 (0 : Int32)) (fun h18 => lt9 (up2 h18 208 18 (fX12_pins h18)) (fun h19 => LX12_weakest big h19 (-1 : Int32) (-1 : Int32) (0 : Int32)))
set_option maxHeartbeats 4000000 in
set_option maxRecDepth 100000 in
theorem wX12_weakest {X : Cx}  {rr : Int32} {hh : Hp} (C : OK X cX12_weakest 5 RX12 (some .int)) (hR : xR X = { frames := 9, cells := 0, slots := 0, locals := 576 }) (hcs : True) (hF : FinR X (some (.int rr)) hh) : ∀ n : Nat, (∀ (h : Hp) (y1 : Int32) (y2 : Int32) (y3 : Int32), LX12_weakest  n h y1 y2 y3 = some (rr, hh) → VW X 5 h 0 0 19 [(0, .ref (gad (xG X) 208)), (1, .int y1), (2, .int y2), (3, .int y3)] []) := by
  intro n
  induction n with
  | zero => exact (fun _ _ _ _ hf => (by rw [LX12_weakest] at hf; cases hf))
  | succ n ih =>
    intro h y1 y2 y3 hf
    rw [LX12_weakest] at hf
    unfold BX12_weakest_0 at hf
    refine r_iload_n (i := 3) C dX12_weakest_19 rfl 3 rfl ?_
    refine r_bipush (v := 16) C dX12_weakest_20 (by decide) ?_
    refine r_icmp_ge C 75 dX12_weakest_22 (by decide) (fun c1 => ?_) (fun c1 => ?_)
    · rw [if_pos c1] at hf
      refine r_iload_n (i := 1) C dX12_weakest_75 rfl 1 rfl ?_
      cases hf
      exact r_iret C hF dX12_weakest_76
    · rw [if_neg c1] at hf
      refine r_aload_n (i := 0) C dX12_weakest_25 rfl 0 rfl ?_
      refine r_iload_n (i := 3) C dX12_weakest_26 rfl 3 rfl ?_
      refine r_callVi (As := [.int y3]) (st := []) C 208 rfl (by decide) rfl (kX12_hasPin (xG X)) cw_X12_122 rfl rfl (Nat.le_of_ble_eq_true rfl) (zr2 hR rfl rfl) (zrcs hcs) dX12_weakest_27 ?_
      obtain ⟨v2, h3, r5, hf⟩ := cl2_of hf
      have k4 : VW X 5 h3 0 0 48 [(0, .ref (gad (xG X) 208)), (1, .int y1), (2, .int y2), (3, .int y3)] [.int v2] := by
        refine r_istore (i := 4) (lv' := [(0, .ref (gad (xG X) 208)), (1, .int y1), (2, .int y2), (3, .int y3), (4, .int v2)]) C dX12_weakest_48 (by decide) [1, 2, 3, 4, 0] rfl ?_
        refine r_iload (i := 4) C dX12_weakest_50 4 rfl ?_
        refine r_iload_n (i := 2) C dX12_weakest_52 rfl 2 rfl ?_
        obtain ⟨v12, r14, hf⟩ := cl_of hf
        have k13 : VW X 5 h3 0 0 61 [(0, .ref (gad (xG X) 208)), (2, .int y2), (3, .int y3), (4, .int v2)] [.int v12] := by
          refine r_istore_n (i := 1) (lv' := [(0, .ref (gad (xG X) 208)), (1, .int v12), (2, .int y2), (3, .int y3), (4, .int v2)]) C dX12_weakest_61 rfl (by decide) [1, 0, 2, 3, 4] rfl ?_
          refine r_iload_n (i := 2) C dX12_weakest_62 rfl 2 rfl ?_
          refine r_iload (i := 4) C dX12_weakest_63 4 rfl ?_
          refine r_mmax9 C gw_1806 gm_max_s gm_i gm_max_c (zr1 hR rfl) (zr0 hR (Nat.le_of_ble_eq_true rfl)) (zrcs hcs) dX12_weakest_65 ?_
          obtain ⟨x16, ex16, hf⟩ := lt_of hf
          refine r_top ex16 ?_
          refine r_istore_n (i := 2) (lv' := [(0, .ref (gad (xG X) 208)), (1, .int v12), (2, .int x16), (3, .int y3), (4, .int v2)]) C dX12_weakest_68 rfl (by decide) [1, 2, 0, 3, 4] rfl ?_
          obtain ⟨x17, ex17, hf⟩ := lt_of hf
          refine r_iinc (j := 3) (v := x17) (lv' := [(0, .ref (gad (xG X) 208)), (1, .int v12), (2, .int x16), (3, .int x17), (4, .int v2)]) C dX12_weakest_69 rfl (by rw [ex17]; rfl) (by decide) [1, 2, 3, 0, 4] rfl ?_
          refine r_goto C 19 dX12_weakest_72 (by decide) ?_
          exact r_lv [0, 1, 2, 3] rfl (ih _ _ _ _ hf)
        clear hf
        have hf := r14
        refine r_icmp_le C 60 dX12_weakest_53 (by decide) (fun c15 => ?_) (fun c15 => ?_)
        · rw [if_pos c15] at hf
          refine r_iload_n (i := 1) C dX12_weakest_60 rfl 1 rfl ?_
          cases hf
          exact r_lv [0, 2, 3, 4] rfl k13
        · rw [if_neg c15] at hf
          refine r_iload_n (i := 3) C dX12_weakest_56 rfl 3 rfl ?_
          refine r_goto C 61 dX12_weakest_57 (by decide) ?_
          cases hf
          exact r_lv [0, 2, 3, 4] rfl k13
      clear hf
      have hf := r5
      refine r_if_eq C 47 dX12_weakest_30 (by decide) (fun c6 => ?_) (fun c6 => ?_)
      · rw [if_pos c6] at hf
        refine r_iconst (v := (-1)) C dX12_weakest_47 (by decide) ?_
        cases hf
        exact k4
      · rw [if_neg c6] at hf
        refine r_aload_n (i := 0) C dX12_weakest_33 rfl 0 rfl ?_
        refine r_iload_n (i := 3) C dX12_weakest_34 rfl 3 rfl ?_
        obtain ⟨x7, e8, hf⟩ := cl_of hf
        refine r_callVi (As := [.int y3]) (st := []) C 208 rfl (by decide) rfl (kX12_rustOf (xG X) e8) cw_X12_262 rfl rfl (Nat.le_of_ble_eq_true rfl) (zr2 hR rfl rfl) (zrcs hcs) dX12_weakest_35 ?_
        refine r_aload_n (i := 0) C dX12_weakest_38 rfl 0 rfl ?_
        refine r_iload_n (i := 3) C dX12_weakest_39 rfl 3 rfl ?_
        obtain ⟨x11, h9, e10, hf⟩ := cl2_of hf
        refine r_callVi (As := [.int y3]) (st := [.int x7]) C 208 rfl (by decide) rfl (kX12_strainOf (xG X) e10) cw_X12_284 rfl rfl (Nat.le_of_ble_eq_true rfl) (zr2 hR rfl rfl) (zrcs hcs) dX12_weakest_40 ?_
        refine r_iadd C dX12_weakest_43 ?_
        refine r_goto C 48 dX12_weakest_44 (by decide) ?_
        cases hf
        exact k4
set_option maxHeartbeats 4000000 in
set_option maxRecDepth 100000 in
theorem kX12_weakest (G : Gx)  {h : Hp}  {rr : Int32} {hh : Hp} (hf : fX12_weakest h = some (rr, hh)) : MC G yX12_weakest cX12_weakest 5 (some .int) 9 576 h [.ref (gad G 208)] (some (.int rr)) hh := by
  refine MC.of RX12 (by decide) rfl (Nat.le_of_ble_eq_true rfl) rfl (fun X C hG hR hF => ?_)
  subst hG
  have hcs : True := trivial
  unfold fX12_weakest at hf
  refine r_aload_n (i := 0) C dX12_weakest_0 rfl 0 rfl ?_
  refine r_iconst (v := 0) C dX12_weakest_1 (by decide) ?_
  obtain ⟨h18, eh18, hf⟩ := lt_of hf
  refine p_X12_3 C eh18 dX12_weakest_2 ?_
  refine r_iconst (v := (-1)) C dX12_weakest_5 (by decide) ?_
  refine r_istore_n (i := 1) (lv' := [(0, .ref (gad (xG X) 208)), (1, .int (-1 : Int32))]) C dX12_weakest_6 rfl (by decide) [1, 0] rfl ?_
  refine r_iconst (v := (-1)) C dX12_weakest_7 (by decide) ?_
  refine r_istore_n (i := 2) (lv' := [(0, .ref (gad (xG X) 208)), (1, .int (-1 : Int32)), (2, .int (-1 : Int32))]) C dX12_weakest_8 rfl (by decide) [1, 2, 0] rfl ?_
  refine r_aload_n (i := 0) C dX12_weakest_9 rfl 0 rfl ?_
  refine r_aload_n (i := 0) C dX12_weakest_10 rfl 0 rfl ?_
  refine r_callVi (As := []) (st := [.ref (gad (xG X) 208)]) C 208 rfl (by decide) rfl (kX12_pins (xG X)) cw_X12_65 rfl rfl (Nat.le_of_ble_eq_true rfl) (zr2 hR rfl rfl) (zrcs hcs) dX12_weakest_11 ?_
  obtain ⟨h19, eh19, hf⟩ := lt_of hf
  refine p_X12_250 C eh19 dX12_weakest_14 ?_
  refine r_iconst (v := 0) C dX12_weakest_17 (by decide) ?_
  refine r_istore_n (i := 3) (lv' := [(0, .ref (gad (xG X) 208)), (1, .int (-1 : Int32)), (2, .int (-1 : Int32)), (3, .int (0 : Int32))]) C dX12_weakest_18 rfl (by decide) [1, 2, 3, 0] rfl ?_
  exact r_lv [0, 1, 2, 3] rfl ((wX12_weakest  C hR hcs hF big) _ _ _ _ hf)
def BX12_spare_0  (rec : Hp → Int32 → Int32 → Int32 → Option (Int32 × Hp)) (h : Hp) (y1 : Int32) (y2 : Int32) (y3 : Int32) : Option (Int32 × Hp) := (if (16 : Int32) ≤ y3 then some (y2, h) else (if (fX12_hasPin h y3) = (0 : Int32) then lt9 (y2 ||| (0 : Int32)) (fun x3 => lt9 (y3 + (1 : Int32)) (fun x4 => rec h y1 x3 x4)) else cl2 (fX12_standingWith h ((fX12_pins h) &&& (((1 : Int32) <<< (y3 &&& 31)) ^^^ (-1 : Int32)))) (fun x7 h5 => (if (y1 &&& (x7 ^^^ (-1 : Int32))) = (0 : Int32) then lt9 (y2 ||| ((1 : Int32) <<< (y3 &&& 31))) (fun x11 => lt9 (y3 + (1 : Int32)) (fun x12 => rec h5 y1 x11 x12)) else lt9 (y2 ||| (0 : Int32)) (fun x9 => lt9 (y3 + (1 : Int32)) (fun x10 => rec h5 y1 x9 x10))))))
def LX12_spare  : Nat → Hp → Int32 → Int32 → Int32 → Option (Int32 × Hp)
  | 0, _, _, _, _ => none
  | n + 1, h, y1, y2, y3 => BX12_spare_0  (LX12_spare  n) h y1 y2 y3
def fX12_spare (h : Hp) : Option (Int32 × Hp) := lt9 (up2 h 208 0 (0 : Int32)) (fun h13 => cl2 (fX12_standingNow h13) (fun x16 h14 => LX12_spare big h14 x16 (0 : Int32) (0 : Int32)))
set_option maxHeartbeats 4000000 in
set_option maxRecDepth 100000 in
theorem wX12_spare {X : Cx}  {rr : Int32} {hh : Hp} (C : OK X cX12_spare 4 RX12 (some .int)) (hR : xR X = { frames := 12, cells := 0, slots := 0, locals := 768 }) (hcs : True) (hF : FinR X (some (.int rr)) hh) : ∀ n : Nat, (∀ (h : Hp) (y1 : Int32) (y2 : Int32) (y3 : Int32), LX12_spare  n h y1 y2 y3 = some (rr, hh) → VW X 4 h 0 0 14 [(0, .ref (gad (xG X) 208)), (1, .int y1), (2, .int y2), (3, .int y3)] []) := by
  intro n
  induction n with
  | zero => exact (fun _ _ _ _ hf => (by rw [LX12_spare] at hf; cases hf))
  | succ n ih =>
    intro h y1 y2 y3 hf
    rw [LX12_spare] at hf
    unfold BX12_spare_0 at hf
    refine r_iload_n (i := 3) C dX12_spare_14 rfl 3 rfl ?_
    refine r_bipush (v := 16) C dX12_spare_15 (by decide) ?_
    refine r_icmp_ge C 65 dX12_spare_17 (by decide) (fun c1 => ?_) (fun c1 => ?_)
    · rw [if_pos c1] at hf
      refine r_iload_n (i := 2) C dX12_spare_65 rfl 2 rfl ?_
      cases hf
      exact r_iret C hF dX12_spare_66
    · rw [if_neg c1] at hf
      refine r_iload_n (i := 2) C dX12_spare_20 rfl 2 rfl ?_
      refine r_aload_n (i := 0) C dX12_spare_21 rfl 0 rfl ?_
      refine r_iload_n (i := 3) C dX12_spare_22 rfl 3 rfl ?_
      refine r_callVi (As := [.int y3]) (st := [.int y2]) C 208 rfl (by decide) rfl (kX12_hasPin (xG X)) cw_X12_122 rfl rfl (Nat.le_of_ble_eq_true rfl) (zr2 hR rfl rfl) (zrcs hcs) dX12_spare_23 ?_
      refine r_if_eq C 56 dX12_spare_26 (by decide) (fun c2 => ?_) (fun c2 => ?_)
      · rw [if_pos c2] at hf
        refine r_iconst (v := 0) C dX12_spare_56 (by decide) ?_
        refine r_ior C dX12_spare_57 ?_
        obtain ⟨x3, ex3, hf⟩ := lt_of hf
        refine r_top ex3 ?_
        refine r_istore_n (i := 2) (lv' := [(0, .ref (gad (xG X) 208)), (1, .int y1), (2, .int x3), (3, .int y3)]) C dX12_spare_58 rfl (by decide) [1, 2, 0, 3] rfl ?_
        obtain ⟨x4, ex4, hf⟩ := lt_of hf
        refine r_iinc (j := 3) (v := x4) (lv' := [(0, .ref (gad (xG X) 208)), (1, .int y1), (2, .int x3), (3, .int x4)]) C dX12_spare_59 rfl (by rw [ex4]; rfl) (by decide) [1, 2, 3, 0] rfl ?_
        refine r_goto C 14 dX12_spare_62 (by decide) ?_
        exact r_lv [0, 1, 2, 3] rfl (ih _ _ _ _ hf)
      · rw [if_neg c2] at hf
        refine r_iload_n (i := 1) C dX12_spare_29 rfl 1 rfl ?_
        refine r_aload_n (i := 0) C dX12_spare_30 rfl 0 rfl ?_
        refine r_aload_n (i := 0) C dX12_spare_31 rfl 0 rfl ?_
        refine r_callVi (As := []) (st := [.ref (gad (xG X) 208), .int y1, .int y2]) C 208 rfl (by decide) rfl (kX12_pins (xG X)) cw_X12_65 rfl rfl (Nat.le_of_ble_eq_true rfl) (zr2 hR rfl rfl) (zrcs hcs) dX12_spare_32 ?_
        refine r_iconst (v := 1) C dX12_spare_35 (by decide) ?_
        refine r_iload_n (i := 3) C dX12_spare_36 rfl 3 rfl ?_
        refine r_ishl C dX12_spare_37 ?_
        refine r_iconst (v := (-1)) C dX12_spare_38 (by decide) ?_
        refine r_ixor C dX12_spare_39 ?_
        refine r_iand C dX12_spare_40 ?_
        obtain ⟨x7, h5, e6, hf⟩ := cl2_of hf
        refine r_callVi (As := [.int ((fX12_pins h) &&& (((1 : Int32) <<< (y3 &&& 31)) ^^^ (-1 : Int32)))]) (st := [.int y1, .int y2]) C 208 rfl (by decide) rfl (kX12_standingWith (xG X) e6) cw_X12_302 rfl rfl (Nat.le_of_ble_eq_true rfl) (zr2 hR rfl rfl) (zrcs hcs) dX12_spare_41 ?_
        refine r_iconst (v := (-1)) C dX12_spare_44 (by decide) ?_
        refine r_ixor C dX12_spare_45 ?_
        refine r_iand C dX12_spare_46 ?_
        refine r_if_ne C 56 dX12_spare_47 (by decide) (fun c8 => ?_) (fun c8 => ?_)
        · rw [if_neg c8] at hf
          refine r_iconst (v := 0) C dX12_spare_56 (by decide) ?_
          refine r_ior C dX12_spare_57 ?_
          obtain ⟨x9, ex9, hf⟩ := lt_of hf
          refine r_top ex9 ?_
          refine r_istore_n (i := 2) (lv' := [(0, .ref (gad (xG X) 208)), (1, .int y1), (2, .int x9), (3, .int y3)]) C dX12_spare_58 rfl (by decide) [1, 2, 0, 3] rfl ?_
          obtain ⟨x10, ex10, hf⟩ := lt_of hf
          refine r_iinc (j := 3) (v := x10) (lv' := [(0, .ref (gad (xG X) 208)), (1, .int y1), (2, .int x9), (3, .int x10)]) C dX12_spare_59 rfl (by rw [ex10]; rfl) (by decide) [1, 2, 3, 0] rfl ?_
          refine r_goto C 14 dX12_spare_62 (by decide) ?_
          exact r_lv [0, 1, 2, 3] rfl (ih _ _ _ _ hf)
        · rw [if_pos c8] at hf
          refine r_iconst (v := 1) C dX12_spare_50 (by decide) ?_
          refine r_iload_n (i := 3) C dX12_spare_51 rfl 3 rfl ?_
          refine r_ishl C dX12_spare_52 ?_
          refine r_goto C 57 dX12_spare_53 (by decide) ?_
          refine r_ior C dX12_spare_57 ?_
          obtain ⟨x11, ex11, hf⟩ := lt_of hf
          refine r_top ex11 ?_
          refine r_istore_n (i := 2) (lv' := [(0, .ref (gad (xG X) 208)), (1, .int y1), (2, .int x11), (3, .int y3)]) C dX12_spare_58 rfl (by decide) [1, 2, 0, 3] rfl ?_
          obtain ⟨x12, ex12, hf⟩ := lt_of hf
          refine r_iinc (j := 3) (v := x12) (lv' := [(0, .ref (gad (xG X) 208)), (1, .int y1), (2, .int x11), (3, .int x12)]) C dX12_spare_59 rfl (by rw [ex12]; rfl) (by decide) [1, 2, 3, 0] rfl ?_
          refine r_goto C 14 dX12_spare_62 (by decide) ?_
          exact r_lv [0, 1, 2, 3] rfl (ih _ _ _ _ hf)
set_option maxHeartbeats 4000000 in
set_option maxRecDepth 100000 in
theorem kX12_spare (G : Gx)  {h : Hp}  {rr : Int32} {hh : Hp} (hf : fX12_spare h = some (rr, hh)) : MC G yX12_spare cX12_spare 4 (some .int) 12 768 h [.ref (gad G 208)] (some (.int rr)) hh := by
  refine MC.of RX12 (by decide) rfl (Nat.le_of_ble_eq_true rfl) rfl (fun X C hG hR hF => ?_)
  subst hG
  have hcs : True := trivial
  unfold fX12_spare at hf
  refine r_aload_n (i := 0) C dX12_spare_0 rfl 0 rfl ?_
  refine r_iconst (v := 0) C dX12_spare_1 (by decide) ?_
  obtain ⟨h13, eh13, hf⟩ := lt_of hf
  refine p_X12_3 C eh13 dX12_spare_2 ?_
  refine r_aload_n (i := 0) C dX12_spare_5 rfl 0 rfl ?_
  obtain ⟨x16, h14, e15, hf⟩ := cl2_of hf
  refine r_callVi (As := []) (st := []) C 208 rfl (by decide) rfl (kX12_standingNow (xG X) e15) cw_X12_320 rfl rfl (Nat.le_of_ble_eq_true rfl) (zr2 hR rfl rfl) (zrcs hcs) dX12_spare_6 ?_
  refine r_istore_n (i := 1) (lv' := [(0, .ref (gad (xG X) 208)), (1, .int x16)]) C dX12_spare_9 rfl (by decide) [1, 0] rfl ?_
  refine r_iconst (v := 0) C dX12_spare_10 (by decide) ?_
  refine r_istore_n (i := 2) (lv' := [(0, .ref (gad (xG X) 208)), (1, .int x16), (2, .int (0 : Int32))]) C dX12_spare_11 rfl (by decide) [1, 2, 0] rfl ?_
  refine r_iconst (v := 0) C dX12_spare_12 (by decide) ?_
  refine r_istore_n (i := 3) (lv' := [(0, .ref (gad (xG X) 208)), (1, .int x16), (2, .int (0 : Int32)), (3, .int (0 : Int32))]) C dX12_spare_13 rfl (by decide) [1, 2, 3, 0] rfl ?_
  exact r_lv [0, 1, 2, 3] rfl ((wX12_spare  C hR hcs hF big) _ _ _ _ hf)
def fX12_daysOf (h : Hp) (a1 : Int32) (a2 : Int32) : Option (Int32) := cl9 (fX12_of h a1 (0 : Int32)) (fun x1 => cl9 (fX12_of h a1 (1 : Int32)) (fun x3 => cl9 (fX12_of h a1 (1 : Int32)) (fun x5 => gd (¬ x5 = 0) (some ((((jabs (x1 - a2)) + x3) - (1 : Int32)) / x5)))))
set_option maxHeartbeats 4000000 in
set_option maxRecDepth 100000 in
theorem kX12_daysOf (G : Gx)  {h : Hp} {a1 : Int32} {a2 : Int32} {rr : Int32} (hf : fX12_daysOf h a1 a2 = some rr) : MC G yX12_daysOf cX12_daysOf 3 (some .int) 4 256 h [.ref (gad G 208), .int a1, .int a2] (some (.int rr)) h := by
  refine MC.of RX12 (by decide) rfl (Nat.le_of_ble_eq_true rfl) rfl (fun X C hG hR hF => ?_)
  subst hG
  have hcs : True := trivial
  unfold fX12_daysOf at hf
  refine r_aload_n (i := 0) C dX12_daysOf_0 rfl 0 rfl ?_
  refine r_iload_n (i := 1) C dX12_daysOf_1 rfl 1 rfl ?_
  refine r_iconst (v := 0) C dX12_daysOf_2 (by decide) ?_
  obtain ⟨x1, e2, hf⟩ := cl_of hf
  refine r_callVi (As := [.int a1, .int (0 : Int32)]) (st := []) C 208 rfl (by decide) rfl (kX12_of (xG X) e2) cw_X12_314 rfl rfl (Nat.le_of_ble_eq_true rfl) (zr2 hR rfl rfl) (zrcs hcs) dX12_daysOf_3 ?_
  refine r_iload_n (i := 2) C dX12_daysOf_6 rfl 2 rfl ?_
  refine r_isub C dX12_daysOf_7 ?_
  refine r_mabs9 C gw_1796 gm_abs_s gm_i gm_abs_c (zr1 hR rfl) (zr0 hR (Nat.le_of_ble_eq_true rfl)) (zrcs hcs) dX12_daysOf_8 ?_
  refine r_aload_n (i := 0) C dX12_daysOf_11 rfl 0 rfl ?_
  refine r_iload_n (i := 1) C dX12_daysOf_12 rfl 1 rfl ?_
  refine r_iconst (v := 1) C dX12_daysOf_13 (by decide) ?_
  obtain ⟨x3, e4, hf⟩ := cl_of hf
  refine r_callVi (As := [.int a1, .int (1 : Int32)]) (st := [.int (jabs (x1 - a2))]) C 208 rfl (by decide) rfl (kX12_of (xG X) e4) cw_X12_314 rfl rfl (Nat.le_of_ble_eq_true rfl) (zr2 hR rfl rfl) (zrcs hcs) dX12_daysOf_14 ?_
  refine r_iadd C dX12_daysOf_17 ?_
  refine r_iconst (v := 1) C dX12_daysOf_18 (by decide) ?_
  refine r_isub C dX12_daysOf_19 ?_
  refine r_aload_n (i := 0) C dX12_daysOf_20 rfl 0 rfl ?_
  refine r_iload_n (i := 1) C dX12_daysOf_21 rfl 1 rfl ?_
  refine r_iconst (v := 1) C dX12_daysOf_22 (by decide) ?_
  obtain ⟨x5, e6, hf⟩ := cl_of hf
  refine r_callVi (As := [.int a1, .int (1 : Int32)]) (st := [.int (((jabs (x1 - a2)) + x3) - (1 : Int32))]) C 208 rfl (by decide) rfl (kX12_of (xG X) e6) cw_X12_314 rfl rfl (Nat.le_of_ble_eq_true rfl) (zr2 hR rfl rfl) (zrcs hcs) dX12_daysOf_23 ?_
  obtain ⟨g7, hf⟩ := gd_of hf
  refine r_idiv C dX12_daysOf_26 g7 ?_
  cases hf
  exact r_iret C hF dX12_daysOf_27
def fX12_leastOf (h : Hp) (a1 : Int32) (a2 : Int32) : Option (Int32) := gd (inb ((a1 <<< ((5 : Int32) &&& 31)) + a2) 192) (some (h 217 ((a1 <<< ((5 : Int32) &&& 31)) + a2).toNatClampNeg))
set_option maxHeartbeats 4000000 in
set_option maxRecDepth 100000 in
theorem kX12_leastOf (G : Gx)  {h : Hp} {a1 : Int32} {a2 : Int32} {rr : Int32} (hf : fX12_leastOf h a1 a2 = some rr) : MC G yX12_leastOf cX12_leastOf 3 (some .int) 1 64 h [.ref (gad G 208), .int a1, .int a2] (some (.int rr)) h := by
  refine MC.of RX12 (by decide) rfl (Nat.le_of_ble_eq_true rfl) rfl (fun X C hG hR hF => ?_)
  subst hG
  have hcs : True := trivial
  unfold fX12_leastOf at hf
  refine r_aload_n (i := 0) C dX12_leastOf_0 rfl 0 rfl ?_
  refine g_X12_42 C dX12_leastOf_1 ?_
  refine r_iload_n (i := 1) C dX12_leastOf_4 rfl 1 rfl ?_
  refine r_iconst (v := 5) C dX12_leastOf_5 (by decide) ?_
  refine r_ishl C dX12_leastOf_6 ?_
  refine r_iload_n (i := 2) C dX12_leastOf_7 rfl 2 rfl ?_
  refine r_iadd C dX12_leastOf_8 ?_
  obtain ⟨g1, hf⟩ := gd_of hf
  refine r_iald C 217 rfl (by decide) g1 dX12_leastOf_9 ?_
  cases hf
  exact r_iret C hF dX12_leastOf_10
def fX12_leastBy (h : Hp) (a1 : Int32) (a2 : Int32) (a3 : Int32) : Option (Int32) := gd (inb a3 400) (cl9 (fX12_daysOf h a1 (h 214 a3.toNatClampNeg)) (fun x2 => cl9 (fX12_leastOf h (a1 + (1 : Int32)) (a2 ||| ((1 : Int32) <<< (a3 &&& 31)))) (fun x4 => some (jmax x2 x4))))
set_option maxHeartbeats 4000000 in
set_option maxRecDepth 100000 in
theorem kX12_leastBy (G : Gx)  {h : Hp} {a1 : Int32} {a2 : Int32} {a3 : Int32} {rr : Int32} (hf : fX12_leastBy h a1 a2 a3 = some rr) : MC G yX12_leastBy cX12_leastBy 4 (some .int) 6 384 h [.ref (gad G 208), .int a1, .int a2, .int a3] (some (.int rr)) h := by
  refine MC.of RX12 (by decide) rfl (Nat.le_of_ble_eq_true rfl) rfl (fun X C hG hR hF => ?_)
  subst hG
  have hcs : True := trivial
  unfold fX12_leastBy at hf
  refine r_aload_n (i := 0) C dX12_leastBy_0 rfl 0 rfl ?_
  refine r_iload_n (i := 1) C dX12_leastBy_1 rfl 1 rfl ?_
  refine r_aload_n (i := 0) C dX12_leastBy_2 rfl 0 rfl ?_
  refine g_X12_29 C dX12_leastBy_3 ?_
  refine r_iload_n (i := 3) C dX12_leastBy_6 rfl 3 rfl ?_
  obtain ⟨g1, hf⟩ := gd_of hf
  refine r_bald C 214 rfl (by decide) g1 dX12_leastBy_7 ?_
  obtain ⟨x2, e3, hf⟩ := cl_of hf
  refine r_callVi (As := [.int a1, .int (h 214 a3.toNatClampNeg)]) (st := []) C 208 rfl (by decide) rfl (kX12_daysOf (xG X) e3) cw_X12_376 rfl rfl (Nat.le_of_ble_eq_true rfl) (zr2 hR rfl rfl) (zrcs hcs) dX12_leastBy_8 ?_
  refine r_aload_n (i := 0) C dX12_leastBy_11 rfl 0 rfl ?_
  refine r_iload_n (i := 1) C dX12_leastBy_12 rfl 1 rfl ?_
  refine r_iconst (v := 1) C dX12_leastBy_13 (by decide) ?_
  refine r_iadd C dX12_leastBy_14 ?_
  refine r_iload_n (i := 2) C dX12_leastBy_15 rfl 2 rfl ?_
  refine r_iconst (v := 1) C dX12_leastBy_16 (by decide) ?_
  refine r_iload_n (i := 3) C dX12_leastBy_17 rfl 3 rfl ?_
  refine r_ishl C dX12_leastBy_18 ?_
  refine r_ior C dX12_leastBy_19 ?_
  obtain ⟨x4, e5, hf⟩ := cl_of hf
  refine r_callVi (As := [.int (a1 + (1 : Int32)), .int (a2 ||| ((1 : Int32) <<< (a3 &&& 31)))]) (st := [.int x2]) C 208 rfl (by decide) rfl (kX12_leastOf (xG X) e5) cw_X12_379 rfl rfl (Nat.le_of_ble_eq_true rfl) (zr2 hR rfl rfl) (zrcs hcs) dX12_leastBy_20 ?_
  refine r_mmax9 C gw_1806 gm_max_s gm_i gm_max_c (zr1 hR rfl) (zr0 hR (Nat.le_of_ble_eq_true rfl)) (zrcs hcs) dX12_leastBy_23 ?_
  cases hf
  exact r_iret C hF dX12_leastBy_26

def BX12_laysLeast_0  (rec : Nat → Hp → Int32 → Int32 → Int32 → Int32 → Option (Hp)) (h : Hp) (y1 : Int32) (y2 : Int32) (y3 : Int32) (y4 : Int32) : Option (Hp) := (if (32 : Int32) ≤ y1 then lt9 ((fX12_pinners h) - (1 : Int32)) (fun x2 => rec 1 h x2 0 0 0) else gd (inb (((fX12_pinners h) <<< ((5 : Int32) &&& 31)) + y1) 192) (lt9 (up2 h 217 (((fX12_pinners h) <<< ((5 : Int32) &&& 31)) + y1).toNatClampNeg (0 : Int32)) (fun h4 => lt9 (y1 + (1 : Int32)) (fun x5 => rec 0 h4 x5 0 0 0))))
def BX12_laysLeast_1  (rec : Nat → Hp → Int32 → Int32 → Int32 → Int32 → Option (Hp)) (h : Hp) (y1 : Int32) (y2 : Int32) (y3 : Int32) (y4 : Int32) : Option (Hp) := (if y1 < (0 : Int32) then some h else rec 2 h y1 (0 : Int32) 0 0)
def BX12_laysLeast_2  (rec : Nat → Hp → Int32 → Int32 → Int32 → Int32 → Option (Hp)) (h : Hp) (y1 : Int32) (y2 : Int32) (y3 : Int32) (y4 : Int32) : Option (Hp) := (if (32 : Int32) ≤ y2 then lt9 (y1 + (-1 : Int32)) (fun x8 => rec 1 h x8 0 0 0) else rec 3 h y1 y2 (1000000 : Int32) (0 : Int32))
def BX12_laysLeast_3  (rec : Nat → Hp → Int32 → Int32 → Int32 → Int32 → Option (Hp)) (h : Hp) (y1 : Int32) (y2 : Int32) (y3 : Int32) (y4 : Int32) : Option (Hp) := (if (fX12_pinners h) ≤ y4 then gd (inb ((y1 <<< ((5 : Int32) &&& 31)) + y2) 192) (lt9 (up2 h 217 ((y1 <<< ((5 : Int32) &&& 31)) + y2).toNatClampNeg y3) (fun h11 => lt9 (y2 + (1 : Int32)) (fun x12 => rec 2 h11 y1 x12 0 0))) else (if (fX12_has y2 y4) = (0 : Int32) then cl9 (fX12_leastBy h y1 y2 y4) (fun x15 => lt9 (jmin y3 x15) (fun x17 => lt9 (y4 + (1 : Int32)) (fun x18 => rec 3 h y1 y2 x17 x18))) else lt9 (y4 + (1 : Int32)) (fun x14 => rec 3 h y1 y2 y3 x14)))
def LX12_laysLeast  : Nat → Nat → Hp → Int32 → Int32 → Int32 → Int32 → Option (Hp)
  | 0, _, _, _, _, _, _ => none
  | n + 1, lab, h, y1, y2, y3, y4 => if lab = 0 then BX12_laysLeast_0  (LX12_laysLeast  n) h y1 y2 y3 y4 else if lab = 1 then BX12_laysLeast_1  (LX12_laysLeast  n) h y1 y2 y3 y4 else if lab = 2 then BX12_laysLeast_2  (LX12_laysLeast  n) h y1 y2 y3 y4 else if lab = 3 then BX12_laysLeast_3  (LX12_laysLeast  n) h y1 y2 y3 y4 else none
def fX12_laysLeast (h : Hp) : Option (Hp) := LX12_laysLeast big 0 h (0 : Int32) 0 0 0
set_option maxHeartbeats 4000000 in
set_option maxRecDepth 100000 in
theorem wX12_laysLeast {X : Cx}  {hh : Hp} (C : OK X cX12_laysLeast 5 RX12 none) (hR : xR X = { frames := 8, cells := 0, slots := 0, locals := 512 }) (hcs : True) (hF : FinR X none hh) : ∀ n : Nat, (∀ (h : Hp) (y1 : Int32) (y2 : Int32) (y3 : Int32) (y4 : Int32), LX12_laysLeast  n 0 h y1 y2 y3 y4 = some hh → VW X 5 h 0 0 2 [(0, .ref (gad (xG X) 208)), (1, .int y1)] []) ∧ (∀ (h : Hp) (y1 : Int32) (y2 : Int32) (y3 : Int32) (y4 : Int32), LX12_laysLeast  n 1 h y1 y2 y3 y4 = some hh → VW X 5 h 0 0 35 [(0, .ref (gad (xG X) 208)), (1, .int y1)] []) ∧ (∀ (h : Hp) (y1 : Int32) (y2 : Int32) (y3 : Int32) (y4 : Int32), LX12_laysLeast  n 2 h y1 y2 y3 y4 = some hh → VW X 5 h 0 0 41 [(0, .ref (gad (xG X) 208)), (1, .int y1), (2, .int y2)] []) ∧ (∀ (h : Hp) (y1 : Int32) (y2 : Int32) (y3 : Int32) (y4 : Int32), LX12_laysLeast  n 3 h y1 y2 y3 y4 = some hh → VW X 5 h 0 0 54 [(0, .ref (gad (xG X) 208)), (1, .int y1), (2, .int y2), (3, .int y3), (4, .int y4)] []) := by
  intro n
  induction n with
  | zero => exact ⟨(fun _ _ _ _ _ hf => (by rw [LX12_laysLeast] at hf; cases hf)), (fun _ _ _ _ _ hf => (by rw [LX12_laysLeast] at hf; cases hf)), (fun _ _ _ _ _ hf => (by rw [LX12_laysLeast] at hf; cases hf)), (fun _ _ _ _ _ hf => (by rw [LX12_laysLeast] at hf; cases hf))⟩
  | succ n ih =>
    refine ⟨?_, ?_, ?_, ?_⟩
    · intro h y1 y2 y3 y4 hf
      rw [LX12_laysLeast, if_pos rfl] at hf
      unfold BX12_laysLeast_0 at hf
      refine r_iload_n (i := 1) C dX12_laysLeast_2 rfl 1 rfl ?_
      refine r_bipush (v := 32) C dX12_laysLeast_3 (by decide) ?_
      refine r_icmp_ge C 28 dX12_laysLeast_5 (by decide) (fun c1 => ?_) (fun c1 => ?_)
      · rw [if_pos c1] at hf
        refine r_aload_n (i := 0) C dX12_laysLeast_28 rfl 0 rfl ?_
        refine r_callVi (As := []) (st := []) C 208 rfl (by decide) rfl (kX12_pinners (xG X)) cw_X12_73 rfl rfl (Nat.le_of_ble_eq_true rfl) (zr2 hR rfl rfl) (zrcs hcs) dX12_laysLeast_29 ?_
        refine r_iconst (v := 1) C dX12_laysLeast_32 (by decide) ?_
        refine r_isub C dX12_laysLeast_33 ?_
        obtain ⟨x2, ex2, hf⟩ := lt_of hf
        refine r_top ex2 ?_
        refine r_istore_n (i := 1) (lv' := [(0, .ref (gad (xG X) 208)), (1, .int x2)]) C dX12_laysLeast_34 rfl (by decide) [1, 0] rfl ?_
        exact r_lv [0, 1] rfl (ih.2.1 _ _ _ _ _ hf)
      · rw [if_neg c1] at hf
        refine r_aload_n (i := 0) C dX12_laysLeast_8 rfl 0 rfl ?_
        refine g_X12_42 C dX12_laysLeast_9 ?_
        refine r_aload_n (i := 0) C dX12_laysLeast_12 rfl 0 rfl ?_
        refine r_callVi (As := []) (st := [.ref (gad (xG X) 217)]) C 208 rfl (by decide) rfl (kX12_pinners (xG X)) cw_X12_73 rfl rfl (Nat.le_of_ble_eq_true rfl) (zr2 hR rfl rfl) (zrcs hcs) dX12_laysLeast_13 ?_
        refine r_iconst (v := 5) C dX12_laysLeast_16 (by decide) ?_
        refine r_ishl C dX12_laysLeast_17 ?_
        refine r_iload_n (i := 1) C dX12_laysLeast_18 rfl 1 rfl ?_
        refine r_iadd C dX12_laysLeast_19 ?_
        refine r_iconst (v := 0) C dX12_laysLeast_20 (by decide) ?_
        obtain ⟨g3, hf⟩ := gd_of hf
        obtain ⟨h4, eh4, hf⟩ := lt_of hf
        refine r_iast C 217 eh4 rfl (by decide) g3 dX12_laysLeast_21 ?_
        obtain ⟨x5, ex5, hf⟩ := lt_of hf
        refine r_iinc (j := 1) (v := x5) (lv' := [(0, .ref (gad (xG X) 208)), (1, .int x5)]) C dX12_laysLeast_22 rfl (by rw [ex5]; rfl) (by decide) [1, 0] rfl ?_
        refine r_goto C 2 dX12_laysLeast_25 (by decide) ?_
        exact r_lv [0, 1] rfl (ih.1 _ _ _ _ _ hf)
    · intro h y1 y2 y3 y4 hf
      rw [LX12_laysLeast, if_neg (by decide), if_pos rfl] at hf
      unfold BX12_laysLeast_1 at hf
      refine r_iload_n (i := 1) C dX12_laysLeast_35 rfl 1 rfl ?_
      refine r_if_lt C 114 dX12_laysLeast_36 (by decide) (fun c6 => ?_) (fun c6 => ?_)
      · rw [if_pos c6] at hf
        cases hf
        exact r_vret C hF dX12_laysLeast_114
      · rw [if_neg c6] at hf
        refine r_iconst (v := 0) C dX12_laysLeast_39 (by decide) ?_
        refine r_istore_n (i := 2) (lv' := [(0, .ref (gad (xG X) 208)), (1, .int y1), (2, .int (0 : Int32))]) C dX12_laysLeast_40 rfl (by decide) [1, 2, 0] rfl ?_
        exact r_lv [0, 1, 2] rfl (ih.2.2.1 _ _ _ _ _ hf)
    · intro h y1 y2 y3 y4 hf
      rw [LX12_laysLeast, if_neg (by decide), if_neg (by decide), if_pos rfl] at hf
      unfold BX12_laysLeast_2 at hf
      refine r_iload_n (i := 2) C dX12_laysLeast_41 rfl 2 rfl ?_
      refine r_bipush (v := 32) C dX12_laysLeast_42 (by decide) ?_
      refine r_icmp_ge C 108 dX12_laysLeast_44 (by decide) (fun c7 => ?_) (fun c7 => ?_)
      · rw [if_pos c7] at hf
        obtain ⟨x8, ex8, hf⟩ := lt_of hf
        refine r_iinc (j := 1) (v := x8) (lv' := [(0, .ref (gad (xG X) 208)), (1, .int x8), (2, .int y2)]) C dX12_laysLeast_108 rfl (by rw [ex8]; rfl) (by decide) [1, 0, 2] rfl ?_
        refine r_goto C 35 dX12_laysLeast_111 (by decide) ?_
        exact r_lv [0, 1] rfl (ih.2.1 _ _ _ _ _ hf)
      · rw [if_neg c7] at hf
        refine r_ldcw (v := 1000000) C dX12_laysLeast_47 gw_1984 ?_
        refine r_istore_n (i := 3) (lv' := [(0, .ref (gad (xG X) 208)), (1, .int y1), (2, .int y2), (3, .int (1000000 : Int32))]) C dX12_laysLeast_50 rfl (by decide) [1, 2, 3, 0] rfl ?_
        refine r_iconst (v := 0) C dX12_laysLeast_51 (by decide) ?_
        refine r_istore (i := 4) (lv' := [(0, .ref (gad (xG X) 208)), (1, .int y1), (2, .int y2), (3, .int (1000000 : Int32)), (4, .int (0 : Int32))]) C dX12_laysLeast_52 (by decide) [1, 2, 3, 4, 0] rfl ?_
        exact r_lv [0, 1, 2, 3, 4] rfl (ih.2.2.2 _ _ _ _ _ hf)
    · intro h y1 y2 y3 y4 hf
      rw [LX12_laysLeast, if_neg (by decide), if_neg (by decide), if_neg (by decide), if_pos rfl] at hf
      unfold BX12_laysLeast_3 at hf
      refine r_iload (i := 4) C dX12_laysLeast_54 4 rfl ?_
      refine r_aload_n (i := 0) C dX12_laysLeast_56 rfl 0 rfl ?_
      refine r_callVi (As := []) (st := [.int y4]) C 208 rfl (by decide) rfl (kX12_pinners (xG X)) cw_X12_73 rfl rfl (Nat.le_of_ble_eq_true rfl) (zr2 hR rfl rfl) (zrcs hcs) dX12_laysLeast_57 ?_
      refine r_icmp_ge C 91 dX12_laysLeast_60 (by decide) (fun c9 => ?_) (fun c9 => ?_)
      · rw [if_pos c9] at hf
        refine r_aload_n (i := 0) C dX12_laysLeast_91 rfl 0 rfl ?_
        refine g_X12_42 C dX12_laysLeast_92 ?_
        refine r_iload_n (i := 1) C dX12_laysLeast_95 rfl 1 rfl ?_
        refine r_iconst (v := 5) C dX12_laysLeast_96 (by decide) ?_
        refine r_ishl C dX12_laysLeast_97 ?_
        refine r_iload_n (i := 2) C dX12_laysLeast_98 rfl 2 rfl ?_
        refine r_iadd C dX12_laysLeast_99 ?_
        refine r_iload_n (i := 3) C dX12_laysLeast_100 rfl 3 rfl ?_
        obtain ⟨g10, hf⟩ := gd_of hf
        obtain ⟨h11, eh11, hf⟩ := lt_of hf
        refine r_iast C 217 eh11 rfl (by decide) g10 dX12_laysLeast_101 ?_
        obtain ⟨x12, ex12, hf⟩ := lt_of hf
        refine r_iinc (j := 2) (v := x12) (lv' := [(0, .ref (gad (xG X) 208)), (1, .int y1), (2, .int x12), (3, .int y3), (4, .int y4)]) C dX12_laysLeast_102 rfl (by rw [ex12]; rfl) (by decide) [1, 2, 0, 3, 4] rfl ?_
        refine r_goto C 41 dX12_laysLeast_105 (by decide) ?_
        exact r_lv [0, 1, 2] rfl (ih.2.2.1 _ _ _ _ _ hf)
      · rw [if_neg c9] at hf
        refine r_iload_n (i := 2) C dX12_laysLeast_63 rfl 2 rfl ?_
        refine r_iload (i := 4) C dX12_laysLeast_64 4 rfl ?_
        refine r_callSi (As := [.int y2, .int y4]) (st := []) C (kX12_has (xG X)) cw_X12_69 rfl rfl (Nat.le_of_ble_eq_true rfl) (zr2 hR rfl rfl) (zrcs hcs) dX12_laysLeast_66 ?_
        refine r_if_ne C 85 dX12_laysLeast_69 (by decide) (fun c13 => ?_) (fun c13 => ?_)
        · rw [if_neg c13] at hf
          obtain ⟨x14, ex14, hf⟩ := lt_of hf
          refine r_iinc (j := 4) (v := x14) (lv' := [(0, .ref (gad (xG X) 208)), (1, .int y1), (2, .int y2), (3, .int y3), (4, .int x14)]) C dX12_laysLeast_85 rfl (by rw [ex14]; rfl) (by decide) [1, 2, 3, 4, 0] rfl ?_
          refine r_goto C 54 dX12_laysLeast_88 (by decide) ?_
          exact r_lv [0, 1, 2, 3, 4] rfl (ih.2.2.2 _ _ _ _ _ hf)
        · rw [if_pos c13] at hf
          refine r_iload_n (i := 3) C dX12_laysLeast_72 rfl 3 rfl ?_
          refine r_aload_n (i := 0) C dX12_laysLeast_73 rfl 0 rfl ?_
          refine r_iload_n (i := 1) C dX12_laysLeast_74 rfl 1 rfl ?_
          refine r_iload_n (i := 2) C dX12_laysLeast_75 rfl 2 rfl ?_
          refine r_iload (i := 4) C dX12_laysLeast_76 4 rfl ?_
          obtain ⟨x15, e16, hf⟩ := cl_of hf
          refine r_callVi (As := [.int y1, .int y2, .int y4]) (st := [.int y3]) C 208 rfl (by decide) rfl (kX12_leastBy (xG X) e16) cw_X12_383 rfl rfl (Nat.le_of_ble_eq_true rfl) (zr2 hR rfl rfl) (zrcs hcs) dX12_laysLeast_78 ?_
          refine r_mmin9 C gw_1797 gm_min_s gm_i gm_min_c (zr1 hR rfl) (zr0 hR (Nat.le_of_ble_eq_true rfl)) (zrcs hcs) dX12_laysLeast_81 ?_
          obtain ⟨x17, ex17, hf⟩ := lt_of hf
          refine r_top ex17 ?_
          refine r_istore_n (i := 3) (lv' := [(0, .ref (gad (xG X) 208)), (1, .int y1), (2, .int y2), (3, .int x17), (4, .int y4)]) C dX12_laysLeast_84 rfl (by decide) [1, 2, 3, 0, 4] rfl ?_
          obtain ⟨x18, ex18, hf⟩ := lt_of hf
          refine r_iinc (j := 4) (v := x18) (lv' := [(0, .ref (gad (xG X) 208)), (1, .int y1), (2, .int y2), (3, .int x17), (4, .int x18)]) C dX12_laysLeast_85 rfl (by rw [ex18]; rfl) (by decide) [1, 2, 3, 4, 0] rfl ?_
          refine r_goto C 54 dX12_laysLeast_88 (by decide) ?_
          exact r_lv [0, 1, 2, 3, 4] rfl (ih.2.2.2 _ _ _ _ _ hf)
set_option maxHeartbeats 4000000 in
set_option maxRecDepth 100000 in
theorem kX12_laysLeast (G : Gx)  {h : Hp}  {hh : Hp} (hf : fX12_laysLeast h = some hh) : MC G yX12_laysLeast cX12_laysLeast 5 none 8 512 h [.ref (gad G 208)] none hh := by
  refine MC.of RX12 (by decide) rfl (Nat.le_of_ble_eq_true rfl) rfl (fun X C hG hR hF => ?_)
  subst hG
  have hcs : True := trivial
  unfold fX12_laysLeast at hf
  refine r_iconst (v := 0) C dX12_laysLeast_0 (by decide) ?_
  refine r_istore_n (i := 1) (lv' := [(0, .ref (gad (xG X) 208)), (1, .int (0 : Int32))]) C dX12_laysLeast_1 rfl (by decide) [1, 0] rfl ?_
  exact r_lv [0, 1] rfl ((wX12_laysLeast  C hR hcs hF big).1 _ _ _ _ _ hf)
def BX12_goes_0  (rec : Nat → Hp → Int32 → Int32 → Int32 → Int32 → Int32 → Int32 → Option (Int32 × Hp)) (h : Hp) (y1 : Int32) (y2 : Int32) (y3 : Int32) (y4 : Int32) (y5 : Int32) (y6 : Int32) : Option (Int32 × Hp) := (if (h 208 11) ≤ y3 then rec 1 h y1 y2 0 0 0 0 else (if y2 = (0 : Int32) then rec 1 h y1 y2 0 0 0 0 else gd (inb y3 400) ((if (fX12_noPlace (h 214 y3.toNatClampNeg)) = (0 : Int32) then lt9 (y3 + (1 : Int32)) (fun x6 => rec 0 h y1 (1 : Int32) x6 0 0 0) else lt9 (y3 + (1 : Int32)) (fun x5 => rec 0 h y1 (0 : Int32) x5 0 0 0)))))
def BX12_goes_1  (rec : Nat → Hp → Int32 → Int32 → Int32 → Int32 → Int32 → Int32 → Option (Int32 × Hp)) (h : Hp) (y1 : Int32) (y2 : Int32) (y3 : Int32) (y4 : Int32) (y5 : Int32) (y6 : Int32) : Option (Int32 × Hp) := cl9 ((if y2 = (0 : Int32) then some (1 : Int32) else some (0 : Int32)) : Option (Int32)) (fun v7 => cl2 (fX12_throwsIf h v7 (2 : Int32)) (fun x13 h11 => (if x13 = (0 : Int32) then cl9 (fX12_laysLeast h11) (fun h15 => cl9 (fX12_leastOf h15 (0 : Int32) (0 : Int32)) (fun x17 => (if y1 = (-1 : Int32) then some (x17, h15) else rec 2 h15 y1 0 x17 (0 : Int32) (0 : Int32) (0 : Int32)))) else some ((0 : Int32), h11))))
def BX12_goes_2  (rec : Nat → Hp → Int32 → Int32 → Int32 → Int32 → Int32 → Int32 → Option (Int32 × Hp)) (h : Hp) (y1 : Int32) (y2 : Int32) (y3 : Int32) (y4 : Int32) (y5 : Int32) (y6 : Int32) : Option (Int32 × Hp) := (if y1 < y6 then some (y5, h) else rec 3 h y1 0 y3 y4 (0 : Int32) y6)
def BX12_goes_3  (rec : Nat → Hp → Int32 → Int32 → Int32 → Int32 → Int32 → Int32 → Option (Int32 × Hp)) (h : Hp) (y1 : Int32) (y2 : Int32) (y3 : Int32) (y4 : Int32) (y5 : Int32) (y6 : Int32) : Option (Int32 × Hp) := cl9 ((if (fX12_has y4 y5) = (0 : Int32) then cl9 (fX12_leastBy h y6 y4 y5) (fun x26 => (if x26 ≤ y3 then some false else some true)) else some true) : Option Bool) (fun q21 => if q21 = true then lt9 (y5 + (1 : Int32)) (fun x29 => rec 3 h y1 0 y3 y4 x29 y6) else lt9 (y4 ||| ((1 : Int32) <<< (y5 &&& 31))) (fun x30 => lt9 (y6 + (1 : Int32)) (fun x31 => rec 2 h y1 0 y3 x30 y5 x31)))
def LX12_goes  : Nat → Nat → Hp → Int32 → Int32 → Int32 → Int32 → Int32 → Int32 → Option (Int32 × Hp)
  | 0, _, _, _, _, _, _, _, _ => none
  | n + 1, lab, h, y1, y2, y3, y4, y5, y6 => if lab = 0 then BX12_goes_0  (LX12_goes  n) h y1 y2 y3 y4 y5 y6 else if lab = 1 then BX12_goes_1  (LX12_goes  n) h y1 y2 y3 y4 y5 y6 else if lab = 2 then BX12_goes_2  (LX12_goes  n) h y1 y2 y3 y4 y5 y6 else if lab = 3 then BX12_goes_3  (LX12_goes  n) h y1 y2 y3 y4 y5 y6 else none
def fX12_goes (h : Hp) (a1 : Int32) : Option (Int32 × Hp) := cl9 (fX12_uses h) (fun h32 => cl9 (cl9 ((if a1 = (-1 : Int32) then some false else (if (fX12_noPinner h32 a1) = (0 : Int32) then some false else some true)) : Option Bool) (fun q37 => if q37 = true then some (1 : Int32) else some (0 : Int32)) : Option (Int32)) (fun v34 => cl2 (fX12_throwsIf h32 v34 (1 : Int32)) (fun x45 h43 => (if x45 = (0 : Int32) then (if (h43 208 11) = (fX12_pinners h43) then LX12_goes big 0 h43 a1 (1 : Int32) (0 : Int32) 0 0 0 else LX12_goes big 0 h43 a1 (0 : Int32) (0 : Int32) 0 0 0) else some ((0 : Int32), h43)))))
set_option maxHeartbeats 4000000 in
set_option maxRecDepth 100000 in
theorem wX12_goes {X : Cx}  {rr : Int32} {hh : Hp} (C : OK X cX12_goes 7 RX12 (some .int)) (hR : xR X = { frames := 9, cells := 0, slots := 0, locals := 576 }) (hcs : True) (hF : FinR X (some (.int rr)) hh) : ∀ n : Nat, (∀ (h : Hp) (y1 : Int32) (y2 : Int32) (y3 : Int32) (y4 : Int32) (y5 : Int32) (y6 : Int32), LX12_goes  n 0 h y1 y2 y3 y4 y5 y6 = some (rr, hh) → VW X 7 h 0 0 51 [(0, .ref (gad (xG X) 208)), (1, .int y1), (2, .int y2), (3, .int y3)] []) ∧ (∀ (h : Hp) (y1 : Int32) (y2 : Int32) (y3 : Int32) (y4 : Int32) (y5 : Int32) (y6 : Int32), LX12_goes  n 1 h y1 y2 y3 y4 y5 y6 = some (rr, hh) → VW X 7 h 0 0 87 [(0, .ref (gad (xG X) 208)), (1, .int y1), (2, .int y2)] []) ∧ (∀ (h : Hp) (y1 : Int32) (y2 : Int32) (y3 : Int32) (y4 : Int32) (y5 : Int32) (y6 : Int32), LX12_goes  n 2 h y1 y2 y3 y4 y5 y6 = some (rr, hh) → VW X 7 h 0 0 133 [(0, .ref (gad (xG X) 208)), (1, .int y1), (3, .int y3), (4, .int y4), (5, .int y5), (6, .int y6)] []) ∧ (∀ (h : Hp) (y1 : Int32) (y2 : Int32) (y3 : Int32) (y4 : Int32) (y5 : Int32) (y6 : Int32), LX12_goes  n 3 h y1 y2 y3 y4 y5 y6 = some (rr, hh) → VW X 7 h 0 0 142 [(0, .ref (gad (xG X) 208)), (1, .int y1), (3, .int y3), (4, .int y4), (5, .int y5), (6, .int y6)] []) := by
  intro n
  induction n with
  | zero => exact ⟨(fun _ _ _ _ _ _ _ hf => (by rw [LX12_goes] at hf; cases hf)), (fun _ _ _ _ _ _ _ hf => (by rw [LX12_goes] at hf; cases hf)), (fun _ _ _ _ _ _ _ hf => (by rw [LX12_goes] at hf; cases hf)), (fun _ _ _ _ _ _ _ hf => (by rw [LX12_goes] at hf; cases hf))⟩
  | succ n ih =>
    refine ⟨?_, ?_, ?_, ?_⟩
    · intro h y1 y2 y3 y4 y5 y6 hf
      rw [LX12_goes, if_pos rfl] at hf
      unfold BX12_goes_0 at hf
      refine r_iload_n (i := 3) C dX12_goes_51 rfl 3 rfl ?_
      refine r_aload_n (i := 0) C dX12_goes_52 rfl 0 rfl ?_
      refine g_X12_88 C dX12_goes_53 ?_
      refine r_icmp_ge C 87 dX12_goes_56 (by decide) (fun c1 => ?_) (fun c1 => ?_)
      · rw [if_pos c1] at hf
        exact r_lv [0, 1, 2] rfl (ih.2.1 _ _ _ _ _ _ _ hf)
      · rw [if_neg c1] at hf
        refine r_iload_n (i := 2) C dX12_goes_59 rfl 2 rfl ?_
        refine r_if_eq C 87 dX12_goes_60 (by decide) (fun c2 => ?_) (fun c2 => ?_)
        · rw [if_pos c2] at hf
          exact r_lv [0, 1, 2] rfl (ih.2.1 _ _ _ _ _ _ _ hf)
        · rw [if_neg c2] at hf
          refine r_aload_n (i := 0) C dX12_goes_63 rfl 0 rfl ?_
          refine g_X12_29 C dX12_goes_64 ?_
          refine r_iload_n (i := 3) C dX12_goes_67 rfl 3 rfl ?_
          obtain ⟨g3, hf⟩ := gd_of hf
          refine r_bald C 214 rfl (by decide) g3 dX12_goes_68 ?_
          refine r_callSi (As := [.int (h 214 y3.toNatClampNeg)]) (st := []) C (kX12_noPlace (xG X)) cw_X12_305 rfl rfl (Nat.le_of_ble_eq_true rfl) (zr2 hR rfl rfl) (zrcs hcs) dX12_goes_69 ?_
          refine r_if_ne C 79 dX12_goes_72 (by decide) (fun c4 => ?_) (fun c4 => ?_)
          · rw [if_neg c4] at hf
            refine r_iconst (v := 0) C dX12_goes_79 (by decide) ?_
            refine r_istore_n (i := 2) (lv' := [(0, .ref (gad (xG X) 208)), (1, .int y1), (2, .int (0 : Int32)), (3, .int y3)]) C dX12_goes_80 rfl (by decide) [1, 2, 0, 3] rfl ?_
            obtain ⟨x5, ex5, hf⟩ := lt_of hf
            refine r_iinc (j := 3) (v := x5) (lv' := [(0, .ref (gad (xG X) 208)), (1, .int y1), (2, .int (0 : Int32)), (3, .int x5)]) C dX12_goes_81 rfl (by rw [ex5]; rfl) (by decide) [1, 2, 3, 0] rfl ?_
            refine r_goto C 51 dX12_goes_84 (by decide) ?_
            exact r_lv [0, 1, 2, 3] rfl (ih.1 _ _ _ _ _ _ _ hf)
          · rw [if_pos c4] at hf
            refine r_iconst (v := 1) C dX12_goes_75 (by decide) ?_
            refine r_goto C 80 dX12_goes_76 (by decide) ?_
            refine r_istore_n (i := 2) (lv' := [(0, .ref (gad (xG X) 208)), (1, .int y1), (2, .int (1 : Int32)), (3, .int y3)]) C dX12_goes_80 rfl (by decide) [1, 2, 0, 3] rfl ?_
            obtain ⟨x6, ex6, hf⟩ := lt_of hf
            refine r_iinc (j := 3) (v := x6) (lv' := [(0, .ref (gad (xG X) 208)), (1, .int y1), (2, .int (1 : Int32)), (3, .int x6)]) C dX12_goes_81 rfl (by rw [ex6]; rfl) (by decide) [1, 2, 3, 0] rfl ?_
            refine r_goto C 51 dX12_goes_84 (by decide) ?_
            exact r_lv [0, 1, 2, 3] rfl (ih.1 _ _ _ _ _ _ _ hf)
    · intro h y1 y2 y3 y4 y5 y6 hf
      rw [LX12_goes, if_neg (by decide), if_pos rfl] at hf
      unfold BX12_goes_1 at hf
      refine r_aload_n (i := 0) C dX12_goes_87 rfl 0 rfl ?_
      refine r_iload_n (i := 2) C dX12_goes_88 rfl 2 rfl ?_
      obtain ⟨v7, r9, hf⟩ := cl_of hf
      have k8 : VW X 7 h 0 0 97 [(0, .ref (gad (xG X) 208)), (1, .int y1)] [.int v7, .ref (gad (xG X) 208)] := by
        refine r_iconst (v := 2) C dX12_goes_97 (by decide) ?_
        obtain ⟨x13, h11, e12, hf⟩ := cl2_of hf
        refine r_callVi (As := [.int v7, .int (2 : Int32)]) (st := []) C 208 rfl (by decide) rfl (kX12_throwsIf (xG X) e12) cw_X12_247 rfl rfl (Nat.le_of_ble_eq_true rfl) (zr2 hR rfl rfl) (zrcs hcs) dX12_goes_98 ?_
        refine r_if_eq C 106 dX12_goes_101 (by decide) (fun c14 => ?_) (fun c14 => ?_)
        · rw [if_pos c14] at hf
          refine r_aload_n (i := 0) C dX12_goes_106 rfl 0 rfl ?_
          obtain ⟨h15, e16, hf⟩ := cl_of hf
          refine r_callVv (As := []) (st := []) C 208 rfl (by decide) rfl (kX12_laysLeast (xG X) e16) cw_X12_386 rfl rfl (Nat.le_of_ble_eq_true rfl) (zr2 hR rfl rfl) (zrcs hcs) dX12_goes_107 ?_
          refine r_aload_n (i := 0) C dX12_goes_110 rfl 0 rfl ?_
          refine r_iconst (v := 0) C dX12_goes_111 (by decide) ?_
          refine r_iconst (v := 0) C dX12_goes_112 (by decide) ?_
          obtain ⟨x17, e18, hf⟩ := cl_of hf
          refine r_callVi (As := [.int (0 : Int32), .int (0 : Int32)]) (st := []) C 208 rfl (by decide) rfl (kX12_leastOf (xG X) e18) cw_X12_379 rfl rfl (Nat.le_of_ble_eq_true rfl) (zr2 hR rfl rfl) (zrcs hcs) dX12_goes_113 ?_
          refine r_istore_n (i := 3) (lv' := [(0, .ref (gad (xG X) 208)), (1, .int y1), (3, .int x17)]) C dX12_goes_116 rfl (by decide) [1, 2, 0] rfl ?_
          refine r_iload_n (i := 1) C dX12_goes_117 rfl 1 rfl ?_
          refine r_iconst (v := (-1)) C dX12_goes_118 (by decide) ?_
          refine r_icmp_ne C 124 dX12_goes_119 (by decide) (fun c19 => ?_) (fun c19 => ?_)
          · rw [if_neg c19] at hf
            refine r_iconst (v := 0) C dX12_goes_124 (by decide) ?_
            refine r_istore (i := 4) (lv' := [(0, .ref (gad (xG X) 208)), (1, .int y1), (3, .int x17), (4, .int (0 : Int32))]) C dX12_goes_125 (by decide) [1, 2, 3, 0] rfl ?_
            refine r_iconst (v := 0) C dX12_goes_127 (by decide) ?_
            refine r_istore (i := 5) (lv' := [(0, .ref (gad (xG X) 208)), (1, .int y1), (3, .int x17), (4, .int (0 : Int32)), (5, .int (0 : Int32))]) C dX12_goes_128 (by decide) [1, 2, 3, 4, 0] rfl ?_
            refine r_iconst (v := 0) C dX12_goes_130 (by decide) ?_
            refine r_istore (i := 6) (lv' := [(0, .ref (gad (xG X) 208)), (1, .int y1), (3, .int x17), (4, .int (0 : Int32)), (5, .int (0 : Int32)), (6, .int (0 : Int32))]) C dX12_goes_131 (by decide) [1, 2, 3, 4, 5, 0] rfl ?_
            exact r_lv [0, 1, 2, 3, 4, 5] rfl (ih.2.2.1 _ _ _ _ _ _ _ hf)
          · rw [if_pos c19] at hf
            refine r_iload_n (i := 3) C dX12_goes_122 rfl 2 rfl ?_
            cases hf
            exact r_iret C hF dX12_goes_123
        · rw [if_neg c14] at hf
          refine r_iconst (v := 0) C dX12_goes_104 (by decide) ?_
          cases hf
          exact r_iret C hF dX12_goes_105
      clear hf
      have hf := r9
      refine r_if_ne C 96 dX12_goes_89 (by decide) (fun c10 => ?_) (fun c10 => ?_)
      · rw [if_neg c10] at hf
        refine r_iconst (v := 0) C dX12_goes_96 (by decide) ?_
        cases hf
        exact r_lv [0, 1] rfl k8
      · rw [if_pos c10] at hf
        refine r_iconst (v := 1) C dX12_goes_92 (by decide) ?_
        refine r_goto C 97 dX12_goes_93 (by decide) ?_
        cases hf
        exact r_lv [0, 1] rfl k8
    · intro h y1 y2 y3 y4 y5 y6 hf
      rw [LX12_goes, if_neg (by decide), if_neg (by decide), if_pos rfl] at hf
      unfold BX12_goes_2 at hf
      refine r_iload (i := 6) C dX12_goes_133 5 rfl ?_
      refine r_iload_n (i := 1) C dX12_goes_135 rfl 1 rfl ?_
      refine r_icmp_gt C 187 dX12_goes_136 (by decide) (fun c20 => ?_) (fun c20 => ?_)
      · rw [if_pos c20] at hf
        refine r_iload (i := 5) C dX12_goes_187 4 rfl ?_
        cases hf
        exact r_iret C hF dX12_goes_189
      · rw [if_neg c20] at hf
        refine r_iconst (v := 0) C dX12_goes_139 (by decide) ?_
        refine r_istore (i := 5) (lv' := [(0, .ref (gad (xG X) 208)), (1, .int y1), (3, .int y3), (4, .int y4), (5, .int (0 : Int32)), (6, .int y6)]) C dX12_goes_140 (by decide) [1, 2, 3, 4, 0, 5] rfl ?_
        exact r_lv [0, 1, 2, 3, 4, 5] rfl (ih.2.2.2 _ _ _ _ _ _ _ hf)
    · intro h y1 y2 y3 y4 y5 y6 hf
      rw [LX12_goes, if_neg (by decide), if_neg (by decide), if_neg (by decide), if_pos rfl] at hf
      unfold BX12_goes_3 at hf
      refine r_iload (i := 4) C dX12_goes_142 3 rfl ?_
      refine r_iload (i := 5) C dX12_goes_144 4 rfl ?_
      refine r_callSi (As := [.int y4, .int y5]) (st := []) C (kX12_has (xG X)) cw_X12_69 rfl rfl (Nat.le_of_ble_eq_true rfl) (zr2 hR rfl rfl) (zrcs hcs) dX12_goes_146 ?_
      obtain ⟨q21, r24, hf⟩ := cl_of hf
      have k22 : q21 = true → VW X 7 h 0 0 166 [(0, .ref (gad (xG X) 208)), (1, .int y1), (3, .int y3), (4, .int y4), (5, .int y5), (6, .int y6)] [] := fun qq => by
        rw [if_pos qq] at hf
        obtain ⟨x29, ex29, hf⟩ := lt_of hf
        refine r_iinc (j := 4) (v := x29) (lv' := [(0, .ref (gad (xG X) 208)), (1, .int y1), (3, .int y3), (4, .int y4), (5, .int x29), (6, .int y6)]) C dX12_goes_166 rfl (by rw [ex29]; rfl) (by decide) [1, 2, 3, 4, 0, 5] rfl ?_
        refine r_goto C 142 dX12_goes_169 (by decide) ?_
        exact r_lv [0, 1, 2, 3, 4, 5] rfl (ih.2.2.2 _ _ _ _ _ _ _ hf)
      have k23 : q21 = false → VW X 7 h 0 0 172 [(0, .ref (gad (xG X) 208)), (1, .int y1), (3, .int y3), (4, .int y4), (5, .int y5), (6, .int y6)] [] := fun qq => by
        rw [if_neg (by rw [qq]; decide)] at hf
        refine r_iload (i := 4) C dX12_goes_172 3 rfl ?_
        refine r_iconst (v := 1) C dX12_goes_174 (by decide) ?_
        refine r_iload (i := 5) C dX12_goes_175 4 rfl ?_
        refine r_ishl C dX12_goes_177 ?_
        refine r_ior C dX12_goes_178 ?_
        obtain ⟨x30, ex30, hf⟩ := lt_of hf
        refine r_top ex30 ?_
        refine r_istore (i := 4) (lv' := [(0, .ref (gad (xG X) 208)), (1, .int y1), (3, .int y3), (4, .int x30), (5, .int y5), (6, .int y6)]) C dX12_goes_179 (by decide) [1, 2, 3, 0, 4, 5] rfl ?_
        obtain ⟨x31, ex31, hf⟩ := lt_of hf
        refine r_iinc (j := 5) (v := x31) (lv' := [(0, .ref (gad (xG X) 208)), (1, .int y1), (3, .int y3), (4, .int x30), (5, .int y5), (6, .int x31)]) C dX12_goes_181 rfl (by rw [ex31]; rfl) (by decide) [1, 2, 3, 4, 5, 0] rfl ?_
        refine r_goto C 133 dX12_goes_184 (by decide) ?_
        exact r_lv [0, 1, 2, 3, 4, 5] rfl (ih.2.2.1 _ _ _ _ _ _ _ hf)
      clear hf
      have hf := r24
      refine r_if_ne C 166 dX12_goes_149 (by decide) (fun c25 => ?_) (fun c25 => ?_)
      · rw [if_neg c25] at hf
        exact k22 (Option.some.inj hf).symm
      · rw [if_pos c25] at hf
        refine r_aload_n (i := 0) C dX12_goes_152 rfl 0 rfl ?_
        refine r_iload (i := 6) C dX12_goes_153 5 rfl ?_
        refine r_iload (i := 4) C dX12_goes_155 3 rfl ?_
        refine r_iload (i := 5) C dX12_goes_157 4 rfl ?_
        obtain ⟨x26, e27, hf⟩ := cl_of hf
        refine r_callVi (As := [.int y6, .int y4, .int y5]) (st := []) C 208 rfl (by decide) rfl (kX12_leastBy (xG X) e27) cw_X12_383 rfl rfl (Nat.le_of_ble_eq_true rfl) (zr2 hR rfl rfl) (zrcs hcs) dX12_goes_159 ?_
        refine r_iload_n (i := 3) C dX12_goes_162 rfl 2 rfl ?_
        refine r_icmp_le C 172 dX12_goes_163 (by decide) (fun c28 => ?_) (fun c28 => ?_)
        · rw [if_pos c28] at hf
          exact k23 (Option.some.inj hf).symm
        · rw [if_neg c28] at hf
          exact k22 (Option.some.inj hf).symm
set_option maxHeartbeats 4000000 in
set_option maxRecDepth 100000 in
theorem kX12_goes (G : Gx)  {h : Hp} {a1 : Int32} {rr : Int32} {hh : Hp} (hf : fX12_goes h a1 = some (rr, hh)) : MC G yX12_goes cX12_goes 7 (some .int) 9 576 h [.ref (gad G 208), .int a1] (some (.int rr)) hh := by
  refine MC.of RX12 (by decide) rfl (Nat.le_of_ble_eq_true rfl) rfl (fun X C hG hR hF => ?_)
  subst hG
  have hcs : True := trivial
  unfold fX12_goes at hf
  refine r_aload_n (i := 0) C dX12_goes_0 rfl 0 rfl ?_
  obtain ⟨h32, e33, hf⟩ := cl_of hf
  refine r_callVv (As := []) (st := []) C 208 rfl (by decide) rfl (kX12_uses (xG X) e33) cw_X12_236 rfl rfl (Nat.le_of_ble_eq_true rfl) (zr2 hR rfl rfl) (zrcs hcs) dX12_goes_1 ?_
  refine r_aload_n (i := 0) C dX12_goes_4 rfl 0 rfl ?_
  refine r_iload_n (i := 1) C dX12_goes_5 rfl 1 rfl ?_
  refine r_iconst (v := (-1)) C dX12_goes_6 (by decide) ?_
  obtain ⟨v34, r36, hf⟩ := cl_of hf
  have k35 : VW X 7 h32 0 0 23 [(0, .ref (gad (xG X) 208)), (1, .int a1)] [.int v34, .ref (gad (xG X) 208)] := by
    refine r_iconst (v := 1) C dX12_goes_23 (by decide) ?_
    obtain ⟨x45, h43, e44, hf⟩ := cl2_of hf
    refine r_callVi (As := [.int v34, .int (1 : Int32)]) (st := []) C 208 rfl (by decide) rfl (kX12_throwsIf (xG X) e44) cw_X12_247 rfl rfl (Nat.le_of_ble_eq_true rfl) (zr2 hR rfl rfl) (zrcs hcs) dX12_goes_24 ?_
    refine r_if_eq C 32 dX12_goes_27 (by decide) (fun c46 => ?_) (fun c46 => ?_)
    · rw [if_pos c46] at hf
      refine r_aload_n (i := 0) C dX12_goes_32 rfl 0 rfl ?_
      refine g_X12_88 C dX12_goes_33 ?_
      refine r_aload_n (i := 0) C dX12_goes_36 rfl 0 rfl ?_
      refine r_callVi (As := []) (st := [.int (h43 208 11)]) C 208 rfl (by decide) rfl (kX12_pinners (xG X)) cw_X12_73 rfl rfl (Nat.le_of_ble_eq_true rfl) (zr2 hR rfl rfl) (zrcs hcs) dX12_goes_37 ?_
      refine r_icmp_ne C 47 dX12_goes_40 (by decide) (fun c47 => ?_) (fun c47 => ?_)
      · rw [if_neg c47] at hf
        refine r_iconst (v := 0) C dX12_goes_47 (by decide) ?_
        refine r_istore_n (i := 2) (lv' := [(0, .ref (gad (xG X) 208)), (1, .int a1), (2, .int (0 : Int32))]) C dX12_goes_48 rfl (by decide) [1, 2, 0] rfl ?_
        refine r_iconst (v := 0) C dX12_goes_49 (by decide) ?_
        refine r_istore_n (i := 3) (lv' := [(0, .ref (gad (xG X) 208)), (1, .int a1), (2, .int (0 : Int32)), (3, .int (0 : Int32))]) C dX12_goes_50 rfl (by decide) [1, 2, 3, 0] rfl ?_
        exact r_lv [0, 1, 2, 3] rfl ((wX12_goes  C hR hcs hF big).1 _ _ _ _ _ _ _ hf)
      · rw [if_pos c47] at hf
        refine r_iconst (v := 1) C dX12_goes_43 (by decide) ?_
        refine r_goto C 48 dX12_goes_44 (by decide) ?_
        refine r_istore_n (i := 2) (lv' := [(0, .ref (gad (xG X) 208)), (1, .int a1), (2, .int (1 : Int32))]) C dX12_goes_48 rfl (by decide) [1, 2, 0] rfl ?_
        refine r_iconst (v := 0) C dX12_goes_49 (by decide) ?_
        refine r_istore_n (i := 3) (lv' := [(0, .ref (gad (xG X) 208)), (1, .int a1), (2, .int (1 : Int32)), (3, .int (0 : Int32))]) C dX12_goes_50 rfl (by decide) [1, 2, 3, 0] rfl ?_
        exact r_lv [0, 1, 2, 3] rfl ((wX12_goes  C hR hcs hF big).1 _ _ _ _ _ _ _ hf)
    · rw [if_neg c46] at hf
      refine r_iconst (v := 0) C dX12_goes_30 (by decide) ?_
      cases hf
      exact r_iret C hF dX12_goes_31
  clear hf
  have hf := r36
  obtain ⟨q37, r40, hf⟩ := cl_of hf
  have k38 : q37 = true → VW X 7 h32 0 0 18 [(0, .ref (gad (xG X) 208)), (1, .int a1)] [.ref (gad (xG X) 208)] := fun qq => by
    rw [if_pos qq] at hf
    refine r_iconst (v := 1) C dX12_goes_18 (by decide) ?_
    refine r_goto C 23 dX12_goes_19 (by decide) ?_
    cases hf
    exact k35
  have k39 : q37 = false → VW X 7 h32 0 0 22 [(0, .ref (gad (xG X) 208)), (1, .int a1)] [.ref (gad (xG X) 208)] := fun qq => by
    rw [if_neg (by rw [qq]; decide)] at hf
    refine r_iconst (v := 0) C dX12_goes_22 (by decide) ?_
    cases hf
    exact k35
  clear hf
  have hf := r40
  refine r_icmp_eq C 22 dX12_goes_7 (by decide) (fun c41 => ?_) (fun c41 => ?_)
  · rw [if_pos c41] at hf
    exact k39 (Option.some.inj hf).symm
  · rw [if_neg c41] at hf
    refine r_aload_n (i := 0) C dX12_goes_10 rfl 0 rfl ?_
    refine r_iload_n (i := 1) C dX12_goes_11 rfl 1 rfl ?_
    refine r_callVi (As := [.int a1]) (st := [.ref (gad (xG X) 208)]) C 208 rfl (by decide) rfl (kX12_noPinner (xG X)) cw_X12_311 rfl rfl (Nat.le_of_ble_eq_true rfl) (zr2 hR rfl rfl) (zrcs hcs) dX12_goes_12 ?_
    refine r_if_eq C 22 dX12_goes_15 (by decide) (fun c42 => ?_) (fun c42 => ?_)
    · rw [if_pos c42] at hf
      exact k39 (Option.some.inj hf).symm
    · rw [if_neg c42] at hf
      exact k38 (Option.some.inj hf).symm
def BX12_before_0  (rec : Nat → Hp → Int32 → Int32 → Int32 → Int32 → Option (Int32 × Hp)) (h : Hp) (y1 : Int32) (y2 : Int32) (y3 : Int32) (y4 : Int32) : Option (Int32 × Hp) := (if (fX12_pinners h) ≤ y3 then some (y2, h) else rec 1 h y1 y2 y3 (0 : Int32))
def BX12_before_1  (rec : Nat → Hp → Int32 → Int32 → Int32 → Int32 → Option (Int32 × Hp)) (h : Hp) (y1 : Int32) (y2 : Int32) (y3 : Int32) (y4 : Int32) : Option (Int32 × Hp) := (if (16 : Int32) ≤ y4 then lt9 (y3 + (1 : Int32)) (fun x3 => rec 0 h y1 y2 x3 0) else cl9 (fX12_daysOf h y3 y4) (fun x4 => (if y1 < x4 then lt9 (y2 ||| (0 : Int32)) (fun x7 => lt9 (y4 + (1 : Int32)) (fun x8 => rec 1 h y1 x7 y3 x8)) else lt9 (y2 ||| ((1 : Int32) <<< (y4 &&& 31))) (fun x9 => lt9 (y4 + (1 : Int32)) (fun x10 => rec 1 h y1 x9 y3 x10)))))
def LX12_before  : Nat → Nat → Hp → Int32 → Int32 → Int32 → Int32 → Option (Int32 × Hp)
  | 0, _, _, _, _, _, _ => none
  | n + 1, lab, h, y1, y2, y3, y4 => if lab = 0 then BX12_before_0  (LX12_before  n) h y1 y2 y3 y4 else if lab = 1 then BX12_before_1  (LX12_before  n) h y1 y2 y3 y4 else none
def fX12_before (h : Hp) (a1 : Int32) : Option (Int32 × Hp) := lt9 (up2 h 208 0 (0 : Int32)) (fun h11 => cl9 ((if (fX12_in a1 (0 : Int32) (20 : Int32)) = (0 : Int32) then some (1 : Int32) else some (0 : Int32)) : Option (Int32)) (fun v12 => cl2 (fX12_throwsIf h11 v12 (1 : Int32)) (fun x18 h16 => (if x18 = (0 : Int32) then LX12_before big 0 h16 a1 (0 : Int32) (0 : Int32) 0 else some ((0 : Int32), h16)))))
set_option maxHeartbeats 4000000 in
set_option maxRecDepth 100000 in
theorem wX12_before {X : Cx}  {rr : Int32} {hh : Hp} (C : OK X cX12_before 5 RX12 (some .int)) (hR : xR X = { frames := 5, cells := 0, slots := 0, locals := 320 }) (hcs : True) (hF : FinR X (some (.int rr)) hh) : ∀ n : Nat, (∀ (h : Hp) (y1 : Int32) (y2 : Int32) (y3 : Int32) (y4 : Int32), LX12_before  n 0 h y1 y2 y3 y4 = some (rr, hh) → VW X 5 h 0 0 34 [(0, .ref (gad (xG X) 208)), (1, .int y1), (2, .int y2), (3, .int y3)] []) ∧ (∀ (h : Hp) (y1 : Int32) (y2 : Int32) (y3 : Int32) (y4 : Int32), LX12_before  n 1 h y1 y2 y3 y4 = some (rr, hh) → VW X 5 h 0 0 45 [(0, .ref (gad (xG X) 208)), (1, .int y1), (2, .int y2), (3, .int y3), (4, .int y4)] []) := by
  intro n
  induction n with
  | zero => exact ⟨(fun _ _ _ _ _ hf => (by rw [LX12_before] at hf; cases hf)), (fun _ _ _ _ _ hf => (by rw [LX12_before] at hf; cases hf))⟩
  | succ n ih =>
    refine ⟨?_, ?_⟩
    · intro h y1 y2 y3 y4 hf
      rw [LX12_before, if_pos rfl] at hf
      unfold BX12_before_0 at hf
      refine r_iload_n (i := 3) C dX12_before_34 rfl 3 rfl ?_
      refine r_aload_n (i := 0) C dX12_before_35 rfl 0 rfl ?_
      refine r_callVi (As := []) (st := [.int y3]) C 208 rfl (by decide) rfl (kX12_pinners (xG X)) cw_X12_73 rfl rfl (Nat.le_of_ble_eq_true rfl) (zr2 hR rfl rfl) (zrcs hcs) dX12_before_36 ?_
      refine r_icmp_ge C 86 dX12_before_39 (by decide) (fun c1 => ?_) (fun c1 => ?_)
      · rw [if_pos c1] at hf
        refine r_iload_n (i := 2) C dX12_before_86 rfl 2 rfl ?_
        cases hf
        exact r_iret C hF dX12_before_87
      · rw [if_neg c1] at hf
        refine r_iconst (v := 0) C dX12_before_42 (by decide) ?_
        refine r_istore (i := 4) (lv' := [(0, .ref (gad (xG X) 208)), (1, .int y1), (2, .int y2), (3, .int y3), (4, .int (0 : Int32))]) C dX12_before_43 (by decide) [1, 2, 3, 4, 0] rfl ?_
        exact r_lv [0, 1, 2, 3, 4] rfl (ih.2 _ _ _ _ _ hf)
    · intro h y1 y2 y3 y4 hf
      rw [LX12_before, if_neg (by decide), if_pos rfl] at hf
      unfold BX12_before_1 at hf
      refine r_iload (i := 4) C dX12_before_45 4 rfl ?_
      refine r_bipush (v := 16) C dX12_before_47 (by decide) ?_
      refine r_icmp_ge C 80 dX12_before_49 (by decide) (fun c2 => ?_) (fun c2 => ?_)
      · rw [if_pos c2] at hf
        obtain ⟨x3, ex3, hf⟩ := lt_of hf
        refine r_iinc (j := 3) (v := x3) (lv' := [(0, .ref (gad (xG X) 208)), (1, .int y1), (2, .int y2), (3, .int x3), (4, .int y4)]) C dX12_before_80 rfl (by rw [ex3]; rfl) (by decide) [1, 2, 3, 0, 4] rfl ?_
        refine r_goto C 34 dX12_before_83 (by decide) ?_
        exact r_lv [0, 1, 2, 3] rfl (ih.1 _ _ _ _ _ hf)
      · rw [if_neg c2] at hf
        refine r_iload_n (i := 2) C dX12_before_52 rfl 2 rfl ?_
        refine r_aload_n (i := 0) C dX12_before_53 rfl 0 rfl ?_
        refine r_iload_n (i := 3) C dX12_before_54 rfl 3 rfl ?_
        refine r_iload (i := 4) C dX12_before_55 4 rfl ?_
        obtain ⟨x4, e5, hf⟩ := cl_of hf
        refine r_callVi (As := [.int y3, .int y4]) (st := [.int y2]) C 208 rfl (by decide) rfl (kX12_daysOf (xG X) e5) cw_X12_376 rfl rfl (Nat.le_of_ble_eq_true rfl) (zr2 hR rfl rfl) (zrcs hcs) dX12_before_57 ?_
        refine r_iload_n (i := 1) C dX12_before_60 rfl 1 rfl ?_
        refine r_icmp_gt C 71 dX12_before_61 (by decide) (fun c6 => ?_) (fun c6 => ?_)
        · rw [if_pos c6] at hf
          refine r_iconst (v := 0) C dX12_before_71 (by decide) ?_
          refine r_ior C dX12_before_72 ?_
          obtain ⟨x7, ex7, hf⟩ := lt_of hf
          refine r_top ex7 ?_
          refine r_istore_n (i := 2) (lv' := [(0, .ref (gad (xG X) 208)), (1, .int y1), (2, .int x7), (3, .int y3), (4, .int y4)]) C dX12_before_73 rfl (by decide) [1, 2, 0, 3, 4] rfl ?_
          obtain ⟨x8, ex8, hf⟩ := lt_of hf
          refine r_iinc (j := 4) (v := x8) (lv' := [(0, .ref (gad (xG X) 208)), (1, .int y1), (2, .int x7), (3, .int y3), (4, .int x8)]) C dX12_before_74 rfl (by rw [ex8]; rfl) (by decide) [1, 2, 3, 4, 0] rfl ?_
          refine r_goto C 45 dX12_before_77 (by decide) ?_
          exact r_lv [0, 1, 2, 3, 4] rfl (ih.2 _ _ _ _ _ hf)
        · rw [if_neg c6] at hf
          refine r_iconst (v := 1) C dX12_before_64 (by decide) ?_
          refine r_iload (i := 4) C dX12_before_65 4 rfl ?_
          refine r_ishl C dX12_before_67 ?_
          refine r_goto C 72 dX12_before_68 (by decide) ?_
          refine r_ior C dX12_before_72 ?_
          obtain ⟨x9, ex9, hf⟩ := lt_of hf
          refine r_top ex9 ?_
          refine r_istore_n (i := 2) (lv' := [(0, .ref (gad (xG X) 208)), (1, .int y1), (2, .int x9), (3, .int y3), (4, .int y4)]) C dX12_before_73 rfl (by decide) [1, 2, 0, 3, 4] rfl ?_
          obtain ⟨x10, ex10, hf⟩ := lt_of hf
          refine r_iinc (j := 4) (v := x10) (lv' := [(0, .ref (gad (xG X) 208)), (1, .int y1), (2, .int x9), (3, .int y3), (4, .int x10)]) C dX12_before_74 rfl (by rw [ex10]; rfl) (by decide) [1, 2, 3, 4, 0] rfl ?_
          refine r_goto C 45 dX12_before_77 (by decide) ?_
          exact r_lv [0, 1, 2, 3, 4] rfl (ih.2 _ _ _ _ _ hf)
set_option maxHeartbeats 4000000 in
set_option maxRecDepth 100000 in
theorem kX12_before (G : Gx)  {h : Hp} {a1 : Int32} {rr : Int32} {hh : Hp} (hf : fX12_before h a1 = some (rr, hh)) : MC G yX12_before cX12_before 5 (some .int) 5 320 h [.ref (gad G 208), .int a1] (some (.int rr)) hh := by
  refine MC.of RX12 (by decide) rfl (Nat.le_of_ble_eq_true rfl) rfl (fun X C hG hR hF => ?_)
  subst hG
  have hcs : True := trivial
  unfold fX12_before at hf
  refine r_aload_n (i := 0) C dX12_before_0 rfl 0 rfl ?_
  refine r_iconst (v := 0) C dX12_before_1 (by decide) ?_
  obtain ⟨h11, eh11, hf⟩ := lt_of hf
  refine p_X12_3 C eh11 dX12_before_2 ?_
  refine r_aload_n (i := 0) C dX12_before_5 rfl 0 rfl ?_
  refine r_iload_n (i := 1) C dX12_before_6 rfl 1 rfl ?_
  refine r_iconst (v := 0) C dX12_before_7 (by decide) ?_
  refine r_bipush (v := 20) C dX12_before_8 (by decide) ?_
  refine r_callSi (As := [.int a1, .int (0 : Int32), .int (20 : Int32)]) (st := [.ref (gad (xG X) 208)]) C (kX12_in (xG X)) cw_X12_76 rfl rfl (Nat.le_of_ble_eq_true rfl) (zr2 hR rfl rfl) (zrcs hcs) dX12_before_10 ?_
  obtain ⟨v12, r14, hf⟩ := cl_of hf
  have k13 : VW X 5 h11 0 0 21 [(0, .ref (gad (xG X) 208)), (1, .int a1)] [.int v12, .ref (gad (xG X) 208)] := by
    refine r_iconst (v := 1) C dX12_before_21 (by decide) ?_
    obtain ⟨x18, h16, e17, hf⟩ := cl2_of hf
    refine r_callVi (As := [.int v12, .int (1 : Int32)]) (st := []) C 208 rfl (by decide) rfl (kX12_throwsIf (xG X) e17) cw_X12_247 rfl rfl (Nat.le_of_ble_eq_true rfl) (zr2 hR rfl rfl) (zrcs hcs) dX12_before_22 ?_
    refine r_if_eq C 30 dX12_before_25 (by decide) (fun c19 => ?_) (fun c19 => ?_)
    · rw [if_pos c19] at hf
      refine r_iconst (v := 0) C dX12_before_30 (by decide) ?_
      refine r_istore_n (i := 2) (lv' := [(0, .ref (gad (xG X) 208)), (1, .int a1), (2, .int (0 : Int32))]) C dX12_before_31 rfl (by decide) [1, 2, 0] rfl ?_
      refine r_iconst (v := 0) C dX12_before_32 (by decide) ?_
      refine r_istore_n (i := 3) (lv' := [(0, .ref (gad (xG X) 208)), (1, .int a1), (2, .int (0 : Int32)), (3, .int (0 : Int32))]) C dX12_before_33 rfl (by decide) [1, 2, 3, 0] rfl ?_
      exact r_lv [0, 1, 2, 3] rfl ((wX12_before  C hR hcs hF big).1 _ _ _ _ _ hf)
    · rw [if_neg c19] at hf
      refine r_iconst (v := 0) C dX12_before_28 (by decide) ?_
      cases hf
      exact r_iret C hF dX12_before_29
  clear hf
  have hf := r14
  refine r_if_ne C 20 dX12_before_13 (by decide) (fun c15 => ?_) (fun c15 => ?_)
  · rw [if_neg c15] at hf
    refine r_iconst (v := 0) C dX12_before_20 (by decide) ?_
    cases hf
    exact k13
  · rw [if_pos c15] at hf
    refine r_iconst (v := 1) C dX12_before_16 (by decide) ?_
    refine r_goto C 21 dX12_before_17 (by decide) ?_
    cases hf
    exact k13
def BX12_isTold_0 (h : Hp) (rec : Int32 → Int32 → Option (Int32)) (y1 : Int32) (y2 : Int32) : Option (Int32) := (if (h 208 11) ≤ y2 then gd (y1 = 0 ∨ y1 = 1) (some y1) else (if y1 = (0 : Int32) then gd (y1 = 0 ∨ y1 = 1) (some y1) else gd (inb y2 400) ((if (fX12_noPlace (h 214 y2.toNatClampNeg)) = (0 : Int32) then lt9 (y2 + (2 : Int32)) (fun x6 => rec (1 : Int32) x6) else lt9 (y2 + (2 : Int32)) (fun x5 => rec (0 : Int32) x5)))))
def LX12_isTold (h : Hp) : Nat → Int32 → Int32 → Option (Int32)
  | 0, _, _ => none
  | n + 1, y1, y2 => BX12_isTold_0 h (LX12_isTold h n) y1 y2
def fX12_isTold (h : Hp) : Option (Int32) := cl9 ((if (irem (h 208 11) (2 : Int32)) = (0 : Int32) then (if (40 : Int32) < (h 208 11) then some false else some true) else some false) : Option Bool) (fun q7 => if q7 = true then LX12_isTold h big (1 : Int32) (0 : Int32) else LX12_isTold h big (0 : Int32) (0 : Int32))
set_option maxHeartbeats 4000000 in
set_option maxRecDepth 100000 in
theorem wX12_isTold {X : Cx} {h : Hp}  {rr : Int32} (C : OK X cX12_isTold 3 RX12 (some .boolean)) (hR : xR X = { frames := 3, cells := 0, slots := 0, locals := 192 }) (hcs : True) (hF : FinR X (some (.int rr)) h) : ∀ n : Nat, (∀ (y1 : Int32) (y2 : Int32), LX12_isTold h n y1 y2 = some rr → VW X 3 h 0 0 26 [(0, .ref (gad (xG X) 208)), (1, .int y1), (2, .int y2)] []) := by
  intro n
  induction n with
  | zero => exact (fun _ _ hf => (by rw [LX12_isTold] at hf; cases hf))
  | succ n ih =>
    intro y1 y2 hf
    rw [LX12_isTold] at hf
    unfold BX12_isTold_0 at hf
    refine r_iload_n (i := 2) C dX12_isTold_26 rfl 2 rfl ?_
    refine r_aload_n (i := 0) C dX12_isTold_27 rfl 0 rfl ?_
    refine g_X12_88 C dX12_isTold_28 ?_
    refine r_icmp_ge C 62 dX12_isTold_31 (by decide) (fun c1 => ?_) (fun c1 => ?_)
    · rw [if_pos c1] at hf
      refine r_iload_n (i := 1) C dX12_isTold_62 rfl 1 rfl ?_
      obtain ⟨zz, hf⟩ := gd_of hf
      cases hf
      exact r_zret C zz hF dX12_isTold_63
    · rw [if_neg c1] at hf
      refine r_iload_n (i := 1) C dX12_isTold_34 rfl 1 rfl ?_
      refine r_if_eq C 62 dX12_isTold_35 (by decide) (fun c2 => ?_) (fun c2 => ?_)
      · rw [if_pos c2] at hf
        refine r_iload_n (i := 1) C dX12_isTold_62 rfl 1 rfl ?_
        obtain ⟨zz, hf⟩ := gd_of hf
        cases hf
        exact r_zret C zz hF dX12_isTold_63
      · rw [if_neg c2] at hf
        refine r_aload_n (i := 0) C dX12_isTold_38 rfl 0 rfl ?_
        refine g_X12_29 C dX12_isTold_39 ?_
        refine r_iload_n (i := 2) C dX12_isTold_42 rfl 2 rfl ?_
        obtain ⟨g3, hf⟩ := gd_of hf
        refine r_bald C 214 rfl (by decide) g3 dX12_isTold_43 ?_
        refine r_callSi (As := [.int (h 214 y2.toNatClampNeg)]) (st := []) C (kX12_noPlace (xG X)) cw_X12_305 rfl rfl (Nat.le_of_ble_eq_true rfl) (zr2 hR rfl rfl) (zrcs hcs) dX12_isTold_44 ?_
        refine r_if_ne C 54 dX12_isTold_47 (by decide) (fun c4 => ?_) (fun c4 => ?_)
        · rw [if_neg c4] at hf
          refine r_iconst (v := 0) C dX12_isTold_54 (by decide) ?_
          refine r_istore_n (i := 1) (lv' := [(0, .ref (gad (xG X) 208)), (1, .int (0 : Int32)), (2, .int y2)]) C dX12_isTold_55 rfl (by decide) [1, 0, 2] rfl ?_
          obtain ⟨x5, ex5, hf⟩ := lt_of hf
          refine r_iinc (j := 2) (v := x5) (lv' := [(0, .ref (gad (xG X) 208)), (1, .int (0 : Int32)), (2, .int x5)]) C dX12_isTold_56 rfl (by rw [ex5]; rfl) (by decide) [1, 2, 0] rfl ?_
          refine r_goto C 26 dX12_isTold_59 (by decide) ?_
          exact r_lv [0, 1, 2] rfl (ih _ _ hf)
        · rw [if_pos c4] at hf
          refine r_iconst (v := 1) C dX12_isTold_50 (by decide) ?_
          refine r_goto C 55 dX12_isTold_51 (by decide) ?_
          refine r_istore_n (i := 1) (lv' := [(0, .ref (gad (xG X) 208)), (1, .int (1 : Int32)), (2, .int y2)]) C dX12_isTold_55 rfl (by decide) [1, 0, 2] rfl ?_
          obtain ⟨x6, ex6, hf⟩ := lt_of hf
          refine r_iinc (j := 2) (v := x6) (lv' := [(0, .ref (gad (xG X) 208)), (1, .int (1 : Int32)), (2, .int x6)]) C dX12_isTold_56 rfl (by rw [ex6]; rfl) (by decide) [1, 2, 0] rfl ?_
          refine r_goto C 26 dX12_isTold_59 (by decide) ?_
          exact r_lv [0, 1, 2] rfl (ih _ _ hf)
set_option maxHeartbeats 4000000 in
set_option maxRecDepth 100000 in
theorem kX12_isTold (G : Gx)  {h : Hp}  {rr : Int32} (hf : fX12_isTold h = some rr) : MC G yX12_isTold cX12_isTold 3 (some .boolean) 3 192 h [.ref (gad G 208)] (some (.int rr)) h := by
  refine MC.of RX12 (by decide) rfl (Nat.le_of_ble_eq_true rfl) rfl (fun X C hG hR hF => ?_)
  subst hG
  have hcs : True := trivial
  unfold fX12_isTold at hf
  refine r_aload_n (i := 0) C dX12_isTold_0 rfl 0 rfl ?_
  refine g_X12_88 C dX12_isTold_1 ?_
  refine r_iconst (v := 2) C dX12_isTold_4 (by decide) ?_
  refine r_irem C dX12_isTold_5 (by decide) ?_
  obtain ⟨q7, r10, hf⟩ := cl_of hf
  have k8 : q7 = true → VW X 3 h 0 0 18 [(0, .ref (gad (xG X) 208))] [] := fun qq => by
    rw [if_pos qq] at hf
    refine r_iconst (v := 1) C dX12_isTold_18 (by decide) ?_
    refine r_goto C 23 dX12_isTold_19 (by decide) ?_
    refine r_istore_n (i := 1) (lv' := [(0, .ref (gad (xG X) 208)), (1, .int (1 : Int32))]) C dX12_isTold_23 rfl (by decide) [1, 0] rfl ?_
    refine r_iconst (v := 0) C dX12_isTold_24 (by decide) ?_
    refine r_istore_n (i := 2) (lv' := [(0, .ref (gad (xG X) 208)), (1, .int (1 : Int32)), (2, .int (0 : Int32))]) C dX12_isTold_25 rfl (by decide) [1, 2, 0] rfl ?_
    exact r_lv [0, 1, 2] rfl ((wX12_isTold  C hR hcs hF big) _ _ hf)
  have k9 : q7 = false → VW X 3 h 0 0 22 [(0, .ref (gad (xG X) 208))] [] := fun qq => by
    rw [if_neg (by rw [qq]; decide)] at hf
    refine r_iconst (v := 0) C dX12_isTold_22 (by decide) ?_
    refine r_istore_n (i := 1) (lv' := [(0, .ref (gad (xG X) 208)), (1, .int (0 : Int32))]) C dX12_isTold_23 rfl (by decide) [1, 0] rfl ?_
    refine r_iconst (v := 0) C dX12_isTold_24 (by decide) ?_
    refine r_istore_n (i := 2) (lv' := [(0, .ref (gad (xG X) 208)), (1, .int (0 : Int32)), (2, .int (0 : Int32))]) C dX12_isTold_25 rfl (by decide) [1, 2, 0] rfl ?_
    exact r_lv [0, 1, 2] rfl ((wX12_isTold  C hR hcs hF big) _ _ hf)
  clear hf
  have hf := r10
  refine r_if_ne C 22 dX12_isTold_6 (by decide) (fun c11 => ?_) (fun c11 => ?_)
  · rw [if_neg c11] at hf
    exact k9 (Option.some.inj hf).symm
  · rw [if_pos c11] at hf
    refine r_aload_n (i := 0) C dX12_isTold_9 rfl 0 rfl ?_
    refine g_X12_88 C dX12_isTold_10 ?_
    refine r_bipush (v := 40) C dX12_isTold_13 (by decide) ?_
    refine r_icmp_gt C 22 dX12_isTold_15 (by decide) (fun c12 => ?_) (fun c12 => ?_)
    · rw [if_pos c12] at hf
      exact k9 (Option.some.inj hf).symm
    · rw [if_neg c12] at hf
      exact k8 (Option.some.inj hf).symm
def BX12_fits_0  (rec : Nat → Hp → Int32 → Int32 → Int32 → Option (Int32 × Hp)) (h : Hp) (y2 : Int32) (y3 : Int32) (y4 : Int32) : Option (Int32 × Hp) := (if (16 : Int32) ≤ y4 then rec 1 h 0 y3 (0 : Int32) else cl9 (fX12_skyBy h y2 y4) (fun x2 => gd (inb (((16 : Int32) * (h 208 22)) + y4) 4368) (lt9 (up2 h 219 (((16 : Int32) * (h 208 22)) + y4).toNatClampNeg x2) (fun h5 => lt9 (y4 + (1 : Int32)) (fun x6 => rec 0 h5 y2 y3 x6)))))
def BX12_fits_1  (rec : Nat → Hp → Int32 → Int32 → Int32 → Option (Int32 × Hp)) (h : Hp) (y2 : Int32) (y3 : Int32) (y4 : Int32) : Option (Int32 × Hp) := (if (h 208 11) ≤ y4 then gd (y3 = 0 ∨ y3 = 1) (some (y3, h)) else cl9 ((if y3 = (0 : Int32) then some false else gd (inb y4 400) (gd (inb (((16 : Int32) * (h 208 22)) + (h 214 y4.toNatClampNeg)) 4368) (gd (inb (y4 + (1 : Int32)) 400) ((if (h 219 (((16 : Int32) * (h 208 22)) + (h 214 y4.toNatClampNeg)).toNatClampNeg) = ((h 214 (y4 + (1 : Int32)).toNatClampNeg) &&& (255 : Int32)) then some true else some false))))) : Option Bool) (fun q8 => if q8 = true then lt9 (y4 + (2 : Int32)) (fun x17 => rec 1 h 0 (1 : Int32) x17) else lt9 (y4 + (2 : Int32)) (fun x18 => rec 1 h 0 (0 : Int32) x18)))
def LX12_fits  : Nat → Nat → Hp → Int32 → Int32 → Int32 → Option (Int32 × Hp)
  | 0, _, _, _, _, _ => none
  | n + 1, lab, h, y2, y3, y4 => if lab = 0 then BX12_fits_0  (LX12_fits  n) h y2 y3 y4 else if lab = 1 then BX12_fits_1  (LX12_fits  n) h y2 y3 y4 else none
def fX12_fits (h : Hp) (a1 : Int32) : Option (Int32 × Hp) := cl2 (fX12_holdingOf h ((fX12_pins h) &&& (a1 ^^^ (-1 : Int32)))) (fun x21 h19 => LX12_fits big 0 h19 x21 (1 : Int32) (0 : Int32))
set_option maxHeartbeats 4000000 in
set_option maxRecDepth 100000 in
theorem wX12_fits {X : Cx}  {rr : Int32} {hh : Hp} (C : OK X cX12_fits 5 RX12 (some .boolean)) (hR : xR X = { frames := 10, cells := 0, slots := 0, locals := 640 }) (hcs : True) (hF : FinR X (some (.int rr)) hh) : ∀ n : Nat, (∀ (h : Hp) (y2 : Int32) (y3 : Int32) (y4 : Int32), LX12_fits  n 0 h y2 y3 y4 = some (rr, hh) → VW X 5 h 0 0 18 [(0, .ref (gad (xG X) 208)), (2, .int y2), (3, .int y3), (4, .int y4)] []) ∧ (∀ (h : Hp) (y2 : Int32) (y3 : Int32) (y4 : Int32), LX12_fits  n 1 h y2 y3 y4 = some (rr, hh) → VW X 5 h 0 0 56 [(0, .ref (gad (xG X) 208)), (3, .int y3), (4, .int y4)] []) := by
  intro n
  induction n with
  | zero => exact ⟨(fun _ _ _ _ hf => (by rw [LX12_fits] at hf; cases hf)), (fun _ _ _ _ hf => (by rw [LX12_fits] at hf; cases hf))⟩
  | succ n ih =>
    refine ⟨?_, ?_⟩
    · intro h y2 y3 y4 hf
      rw [LX12_fits, if_pos rfl] at hf
      unfold BX12_fits_0 at hf
      refine r_iload (i := 4) C dX12_fits_18 3 rfl ?_
      refine r_bipush (v := 16) C dX12_fits_20 (by decide) ?_
      refine r_icmp_ge C 53 dX12_fits_22 (by decide) (fun c1 => ?_) (fun c1 => ?_)
      · rw [if_pos c1] at hf
        refine r_iconst (v := 0) C dX12_fits_53 (by decide) ?_
        refine r_istore (i := 4) (lv' := [(0, .ref (gad (xG X) 208)), (2, .int y2), (3, .int y3), (4, .int (0 : Int32))]) C dX12_fits_54 (by decide) [1, 2, 3, 0] rfl ?_
        exact r_lv [0, 2, 3] rfl (ih.2 _ _ _ _ hf)
      · rw [if_neg c1] at hf
        refine r_aload_n (i := 0) C dX12_fits_25 rfl 0 rfl ?_
        refine g_X12_48 C dX12_fits_26 ?_
        refine r_bipush (v := 16) C dX12_fits_29 (by decide) ?_
        refine r_aload_n (i := 0) C dX12_fits_31 rfl 0 rfl ?_
        refine g_X12_389 C dX12_fits_32 ?_
        refine r_imul C dX12_fits_35 ?_
        refine r_iload (i := 4) C dX12_fits_36 3 rfl ?_
        refine r_iadd C dX12_fits_38 ?_
        refine r_aload_n (i := 0) C dX12_fits_39 rfl 0 rfl ?_
        refine r_iload_n (i := 2) C dX12_fits_40 rfl 1 rfl ?_
        refine r_iload (i := 4) C dX12_fits_41 3 rfl ?_
        obtain ⟨x2, e3, hf⟩ := cl_of hf
        refine r_callVi (As := [.int y2, .int y4]) (st := [.int (((16 : Int32) * (h 208 22)) + y4), .ref (gad (xG X) 219)]) C 208 rfl (by decide) rfl (kX12_skyBy (xG X) e3) cw_X12_296 rfl rfl (Nat.le_of_ble_eq_true rfl) (zr2 hR rfl rfl) (zrcs hcs) dX12_fits_43 ?_
        obtain ⟨g4, hf⟩ := gd_of hf
        obtain ⟨h5, eh5, hf⟩ := lt_of hf
        refine r_iast C 219 eh5 rfl (by decide) g4 dX12_fits_46 ?_
        obtain ⟨x6, ex6, hf⟩ := lt_of hf
        refine r_iinc (j := 3) (v := x6) (lv' := [(0, .ref (gad (xG X) 208)), (2, .int y2), (3, .int y3), (4, .int x6)]) C dX12_fits_47 rfl (by rw [ex6]; rfl) (by decide) [1, 2, 3, 0] rfl ?_
        refine r_goto C 18 dX12_fits_50 (by decide) ?_
        exact r_lv [0, 1, 2, 3] rfl (ih.1 _ _ _ _ hf)
    · intro h y2 y3 y4 hf
      rw [LX12_fits, if_neg (by decide), if_pos rfl] at hf
      unfold BX12_fits_1 at hf
      refine r_iload (i := 4) C dX12_fits_56 2 rfl ?_
      refine r_aload_n (i := 0) C dX12_fits_58 rfl 0 rfl ?_
      refine g_X12_88 C dX12_fits_59 ?_
      refine r_icmp_ge C 117 dX12_fits_62 (by decide) (fun c7 => ?_) (fun c7 => ?_)
      · rw [if_pos c7] at hf
        refine r_iload_n (i := 3) C dX12_fits_117 rfl 1 rfl ?_
        obtain ⟨zz, hf⟩ := gd_of hf
        cases hf
        exact r_zret C zz hF dX12_fits_118
      · rw [if_neg c7] at hf
        refine r_iload_n (i := 3) C dX12_fits_65 rfl 1 rfl ?_
        obtain ⟨q8, r11, hf⟩ := cl_of hf
        have k9 : q8 = true → VW X 5 h 0 0 105 [(0, .ref (gad (xG X) 208)), (3, .int y3), (4, .int y4)] [] := fun qq => by
          rw [if_pos qq] at hf
          refine r_iconst (v := 1) C dX12_fits_105 (by decide) ?_
          refine r_goto C 110 dX12_fits_106 (by decide) ?_
          refine r_istore_n (i := 3) (lv' := [(0, .ref (gad (xG X) 208)), (3, .int (1 : Int32)), (4, .int y4)]) C dX12_fits_110 rfl (by decide) [1, 0, 2] rfl ?_
          obtain ⟨x17, ex17, hf⟩ := lt_of hf
          refine r_iinc (j := 2) (v := x17) (lv' := [(0, .ref (gad (xG X) 208)), (3, .int (1 : Int32)), (4, .int x17)]) C dX12_fits_111 rfl (by rw [ex17]; rfl) (by decide) [1, 2, 0] rfl ?_
          refine r_goto C 56 dX12_fits_114 (by decide) ?_
          exact r_lv [0, 1, 2] rfl (ih.2 _ _ _ _ hf)
        have k10 : q8 = false → VW X 5 h 0 0 109 [(0, .ref (gad (xG X) 208)), (3, .int y3), (4, .int y4)] [] := fun qq => by
          rw [if_neg (by rw [qq]; decide)] at hf
          refine r_iconst (v := 0) C dX12_fits_109 (by decide) ?_
          refine r_istore_n (i := 3) (lv' := [(0, .ref (gad (xG X) 208)), (3, .int (0 : Int32)), (4, .int y4)]) C dX12_fits_110 rfl (by decide) [1, 0, 2] rfl ?_
          obtain ⟨x18, ex18, hf⟩ := lt_of hf
          refine r_iinc (j := 2) (v := x18) (lv' := [(0, .ref (gad (xG X) 208)), (3, .int (0 : Int32)), (4, .int x18)]) C dX12_fits_111 rfl (by rw [ex18]; rfl) (by decide) [1, 2, 0] rfl ?_
          refine r_goto C 56 dX12_fits_114 (by decide) ?_
          exact r_lv [0, 1, 2] rfl (ih.2 _ _ _ _ hf)
        clear hf
        have hf := r11
        refine r_if_eq C 109 dX12_fits_66 (by decide) (fun c12 => ?_) (fun c12 => ?_)
        · rw [if_pos c12] at hf
          exact k10 (Option.some.inj hf).symm
        · rw [if_neg c12] at hf
          refine r_aload_n (i := 0) C dX12_fits_69 rfl 0 rfl ?_
          refine g_X12_48 C dX12_fits_70 ?_
          refine r_bipush (v := 16) C dX12_fits_73 (by decide) ?_
          refine r_aload_n (i := 0) C dX12_fits_75 rfl 0 rfl ?_
          refine g_X12_389 C dX12_fits_76 ?_
          refine r_imul C dX12_fits_79 ?_
          refine r_aload_n (i := 0) C dX12_fits_80 rfl 0 rfl ?_
          refine g_X12_29 C dX12_fits_81 ?_
          refine r_iload (i := 4) C dX12_fits_84 2 rfl ?_
          obtain ⟨g13, hf⟩ := gd_of hf
          refine r_bald C 214 rfl (by decide) g13 dX12_fits_86 ?_
          refine r_iadd C dX12_fits_87 ?_
          obtain ⟨g14, hf⟩ := gd_of hf
          refine r_iald C 219 rfl (by decide) g14 dX12_fits_88 ?_
          refine r_aload_n (i := 0) C dX12_fits_89 rfl 0 rfl ?_
          refine g_X12_29 C dX12_fits_90 ?_
          refine r_iload (i := 4) C dX12_fits_93 2 rfl ?_
          refine r_iconst (v := 1) C dX12_fits_95 (by decide) ?_
          refine r_iadd C dX12_fits_96 ?_
          obtain ⟨g15, hf⟩ := gd_of hf
          refine r_bald C 214 rfl (by decide) g15 dX12_fits_97 ?_
          refine r_sipush (v := 255) C dX12_fits_98 (by decide) ?_
          refine r_iand C dX12_fits_101 ?_
          refine r_icmp_ne C 109 dX12_fits_102 (by decide) (fun c16 => ?_) (fun c16 => ?_)
          · rw [if_neg c16] at hf
            exact k10 (Option.some.inj hf).symm
          · rw [if_pos c16] at hf
            exact k9 (Option.some.inj hf).symm
set_option maxHeartbeats 4000000 in
set_option maxRecDepth 100000 in
theorem kX12_fits (G : Gx)  {h : Hp} {a1 : Int32} {rr : Int32} {hh : Hp} (hf : fX12_fits h a1 = some (rr, hh)) : MC G yX12_fits cX12_fits 5 (some .boolean) 10 640 h [.ref (gad G 208), .int a1] (some (.int rr)) hh := by
  refine MC.of RX12 (by decide) rfl (Nat.le_of_ble_eq_true rfl) rfl (fun X C hG hR hF => ?_)
  subst hG
  have hcs : True := trivial
  unfold fX12_fits at hf
  refine r_aload_n (i := 0) C dX12_fits_0 rfl 0 rfl ?_
  refine r_aload_n (i := 0) C dX12_fits_1 rfl 0 rfl ?_
  refine r_callVi (As := []) (st := [.ref (gad (xG X) 208)]) C 208 rfl (by decide) rfl (kX12_pins (xG X)) cw_X12_65 rfl rfl (Nat.le_of_ble_eq_true rfl) (zr2 hR rfl rfl) (zrcs hcs) dX12_fits_2 ?_
  refine r_iload_n (i := 1) C dX12_fits_5 rfl 1 rfl ?_
  refine r_iconst (v := (-1)) C dX12_fits_6 (by decide) ?_
  refine r_ixor C dX12_fits_7 ?_
  refine r_iand C dX12_fits_8 ?_
  obtain ⟨x21, h19, e20, hf⟩ := cl2_of hf
  refine r_callVi (As := [.int ((fX12_pins h) &&& (a1 ^^^ (-1 : Int32)))]) (st := []) C 208 rfl (by decide) rfl (kX12_holdingOf (xG X) e20) cw_X12_290 rfl rfl (Nat.le_of_ble_eq_true rfl) (zr2 hR rfl rfl) (zrcs hcs) dX12_fits_9 ?_
  refine r_istore_n (i := 2) (lv' := [(0, .ref (gad (xG X) 208)), (1, .int a1), (2, .int x21)]) C dX12_fits_12 rfl (by decide) [1, 2, 0] rfl ?_
  refine r_iconst (v := 1) C dX12_fits_13 (by decide) ?_
  refine r_istore_n (i := 3) (lv' := [(0, .ref (gad (xG X) 208)), (1, .int a1), (2, .int x21), (3, .int (1 : Int32))]) C dX12_fits_14 rfl (by decide) [1, 2, 3, 0] rfl ?_
  refine r_iconst (v := 0) C dX12_fits_15 (by decide) ?_
  refine r_istore (i := 4) (lv' := [(0, .ref (gad (xG X) 208)), (1, .int a1), (2, .int x21), (3, .int (1 : Int32)), (4, .int (0 : Int32))]) C dX12_fits_16 (by decide) [1, 2, 3, 4, 0] rfl ?_
  exact r_lv [0, 2, 3, 4] rfl ((wX12_fits  C hR hcs hF big).1 _ _ _ _ hf)
def BX12_greatestPart_0 (h : Hp) (rec : Nat → Int32 → Int32 → Int32 → Int32 → Int32 → Option (Int32)) (y1 : Int32) (y2 : Int32) (y3 : Int32) (y4 : Int32) (y5 : Int32) : Option (Int32) := (if (40 : Int32) < y3 then some y2 else rec 1 y1 y2 y3 (0 : Int32) (0 : Int32))
def BX12_greatestPart_1 (h : Hp) (rec : Nat → Int32 → Int32 → Int32 → Int32 → Int32 → Option (Int32)) (y1 : Int32) (y2 : Int32) (y3 : Int32) (y4 : Int32) (y5 : Int32) : Option (Int32) := (if (h 208 22) ≤ y5 then lt9 (jmax y2 y4) (fun x3 => lt9 (y3 + (1 : Int32)) (fun x4 => rec 0 y1 x3 x4 0 0)) else gd (inb (((16 : Int32) * y5) + y1) 4368) ((if (h 219 (((16 : Int32) * y5) + y1).toNatClampNeg) = y3 then lt9 (y4 + (1 : Int32)) (fun x9 => lt9 (y5 + (1 : Int32)) (fun x10 => rec 1 y1 y2 y3 x9 x10)) else lt9 (y4 + (0 : Int32)) (fun x7 => lt9 (y5 + (1 : Int32)) (fun x8 => rec 1 y1 y2 y3 x7 x8)))))
def LX12_greatestPart (h : Hp) : Nat → Nat → Int32 → Int32 → Int32 → Int32 → Int32 → Option (Int32)
  | 0, _, _, _, _, _, _ => none
  | n + 1, lab, y1, y2, y3, y4, y5 => if lab = 0 then BX12_greatestPart_0 h (LX12_greatestPart h n) y1 y2 y3 y4 y5 else if lab = 1 then BX12_greatestPart_1 h (LX12_greatestPart h n) y1 y2 y3 y4 y5 else none
def fX12_greatestPart (h : Hp) (a1 : Int32) : Option (Int32) := LX12_greatestPart h big 0 a1 (0 : Int32) (0 : Int32) 0 0
set_option maxHeartbeats 4000000 in
set_option maxRecDepth 100000 in
theorem wX12_greatestPart {X : Cx} {h : Hp}  {rr : Int32} (C : OK X cX12_greatestPart 6 RX12 (some .int)) (hR : xR X = { frames := 2, cells := 0, slots := 0, locals := 128 }) (hcs : True) (hF : FinR X (some (.int rr)) h) : ∀ n : Nat, (∀ (y1 : Int32) (y2 : Int32) (y3 : Int32) (y4 : Int32) (y5 : Int32), LX12_greatestPart h n 0 y1 y2 y3 y4 y5 = some rr → VW X 6 h 0 0 4 [(0, .ref (gad (xG X) 208)), (1, .int y1), (2, .int y2), (3, .int y3)] []) ∧ (∀ (y1 : Int32) (y2 : Int32) (y3 : Int32) (y4 : Int32) (y5 : Int32), LX12_greatestPart h n 1 y1 y2 y3 y4 y5 = some rr → VW X 6 h 0 0 16 [(0, .ref (gad (xG X) 208)), (1, .int y1), (2, .int y2), (3, .int y3), (4, .int y4), (5, .int y5)] []) := by
  intro n
  induction n with
  | zero => exact ⟨(fun _ _ _ _ _ hf => (by rw [LX12_greatestPart] at hf; cases hf)), (fun _ _ _ _ _ hf => (by rw [LX12_greatestPart] at hf; cases hf))⟩
  | succ n ih =>
    refine ⟨?_, ?_⟩
    · intro y1 y2 y3 y4 y5 hf
      rw [LX12_greatestPart, if_pos rfl] at hf
      unfold BX12_greatestPart_0 at hf
      refine r_iload_n (i := 3) C dX12_greatestPart_4 rfl 3 rfl ?_
      refine r_bipush (v := 40) C dX12_greatestPart_5 (by decide) ?_
      refine r_icmp_gt C 70 dX12_greatestPart_7 (by decide) (fun c1 => ?_) (fun c1 => ?_)
      · rw [if_pos c1] at hf
        refine r_iload_n (i := 2) C dX12_greatestPart_70 rfl 2 rfl ?_
        cases hf
        exact r_iret C hF dX12_greatestPart_71
      · rw [if_neg c1] at hf
        refine r_iconst (v := 0) C dX12_greatestPart_10 (by decide) ?_
        refine r_istore (i := 4) (lv' := [(0, .ref (gad (xG X) 208)), (1, .int y1), (2, .int y2), (3, .int y3), (4, .int (0 : Int32))]) C dX12_greatestPart_11 (by decide) [1, 2, 3, 4, 0] rfl ?_
        refine r_iconst (v := 0) C dX12_greatestPart_13 (by decide) ?_
        refine r_istore (i := 5) (lv' := [(0, .ref (gad (xG X) 208)), (1, .int y1), (2, .int y2), (3, .int y3), (4, .int (0 : Int32)), (5, .int (0 : Int32))]) C dX12_greatestPart_14 (by decide) [1, 2, 3, 4, 5, 0] rfl ?_
        exact r_lv [0, 1, 2, 3, 4, 5] rfl (ih.2 _ _ _ _ _ hf)
    · intro y1 y2 y3 y4 y5 hf
      rw [LX12_greatestPart, if_neg (by decide), if_pos rfl] at hf
      unfold BX12_greatestPart_1 at hf
      refine r_iload (i := 5) C dX12_greatestPart_16 5 rfl ?_
      refine r_aload_n (i := 0) C dX12_greatestPart_18 rfl 0 rfl ?_
      refine g_X12_389 C dX12_greatestPart_19 ?_
      refine r_icmp_ge C 57 dX12_greatestPart_22 (by decide) (fun c2 => ?_) (fun c2 => ?_)
      · rw [if_pos c2] at hf
        refine r_iload_n (i := 2) C dX12_greatestPart_57 rfl 2 rfl ?_
        refine r_iload (i := 4) C dX12_greatestPart_58 4 rfl ?_
        refine r_mmax9 C gw_1806 gm_max_s gm_i gm_max_c (zr1 hR rfl) (zr0 hR (Nat.le_of_ble_eq_true rfl)) (zrcs hcs) dX12_greatestPart_60 ?_
        obtain ⟨x3, ex3, hf⟩ := lt_of hf
        refine r_top ex3 ?_
        refine r_istore_n (i := 2) (lv' := [(0, .ref (gad (xG X) 208)), (1, .int y1), (2, .int x3), (3, .int y3), (4, .int y4), (5, .int y5)]) C dX12_greatestPart_63 rfl (by decide) [1, 2, 0, 3, 4, 5] rfl ?_
        obtain ⟨x4, ex4, hf⟩ := lt_of hf
        refine r_iinc (j := 3) (v := x4) (lv' := [(0, .ref (gad (xG X) 208)), (1, .int y1), (2, .int x3), (3, .int x4), (4, .int y4), (5, .int y5)]) C dX12_greatestPart_64 rfl (by rw [ex4]; rfl) (by decide) [1, 2, 3, 0, 4, 5] rfl ?_
        refine r_goto C 4 dX12_greatestPart_67 (by decide) ?_
        exact r_lv [0, 1, 2, 3] rfl (ih.1 _ _ _ _ _ hf)
      · rw [if_neg c2] at hf
        refine r_iload (i := 4) C dX12_greatestPart_25 4 rfl ?_
        refine r_aload_n (i := 0) C dX12_greatestPart_27 rfl 0 rfl ?_
        refine g_X12_48 C dX12_greatestPart_28 ?_
        refine r_bipush (v := 16) C dX12_greatestPart_31 (by decide) ?_
        refine r_iload (i := 5) C dX12_greatestPart_33 5 rfl ?_
        refine r_imul C dX12_greatestPart_35 ?_
        refine r_iload_n (i := 1) C dX12_greatestPart_36 rfl 1 rfl ?_
        refine r_iadd C dX12_greatestPart_37 ?_
        obtain ⟨g5, hf⟩ := gd_of hf
        refine r_iald C 219 rfl (by decide) g5 dX12_greatestPart_38 ?_
        refine r_iload_n (i := 3) C dX12_greatestPart_39 rfl 3 rfl ?_
        refine r_icmp_ne C 47 dX12_greatestPart_40 (by decide) (fun c6 => ?_) (fun c6 => ?_)
        · rw [if_neg c6] at hf
          refine r_iconst (v := 0) C dX12_greatestPart_47 (by decide) ?_
          refine r_iadd C dX12_greatestPart_48 ?_
          obtain ⟨x7, ex7, hf⟩ := lt_of hf
          refine r_top ex7 ?_
          refine r_istore (i := 4) (lv' := [(0, .ref (gad (xG X) 208)), (1, .int y1), (2, .int y2), (3, .int y3), (4, .int x7), (5, .int y5)]) C dX12_greatestPart_49 (by decide) [1, 2, 3, 4, 0, 5] rfl ?_
          obtain ⟨x8, ex8, hf⟩ := lt_of hf
          refine r_iinc (j := 5) (v := x8) (lv' := [(0, .ref (gad (xG X) 208)), (1, .int y1), (2, .int y2), (3, .int y3), (4, .int x7), (5, .int x8)]) C dX12_greatestPart_51 rfl (by rw [ex8]; rfl) (by decide) [1, 2, 3, 4, 5, 0] rfl ?_
          refine r_goto C 16 dX12_greatestPart_54 (by decide) ?_
          exact r_lv [0, 1, 2, 3, 4, 5] rfl (ih.2 _ _ _ _ _ hf)
        · rw [if_pos c6] at hf
          refine r_iconst (v := 1) C dX12_greatestPart_43 (by decide) ?_
          refine r_goto C 48 dX12_greatestPart_44 (by decide) ?_
          refine r_iadd C dX12_greatestPart_48 ?_
          obtain ⟨x9, ex9, hf⟩ := lt_of hf
          refine r_top ex9 ?_
          refine r_istore (i := 4) (lv' := [(0, .ref (gad (xG X) 208)), (1, .int y1), (2, .int y2), (3, .int y3), (4, .int x9), (5, .int y5)]) C dX12_greatestPart_49 (by decide) [1, 2, 3, 4, 0, 5] rfl ?_
          obtain ⟨x10, ex10, hf⟩ := lt_of hf
          refine r_iinc (j := 5) (v := x10) (lv' := [(0, .ref (gad (xG X) 208)), (1, .int y1), (2, .int y2), (3, .int y3), (4, .int x9), (5, .int x10)]) C dX12_greatestPart_51 rfl (by rw [ex10]; rfl) (by decide) [1, 2, 3, 4, 5, 0] rfl ?_
          refine r_goto C 16 dX12_greatestPart_54 (by decide) ?_
          exact r_lv [0, 1, 2, 3, 4, 5] rfl (ih.2 _ _ _ _ _ hf)
set_option maxHeartbeats 4000000 in
set_option maxRecDepth 100000 in
theorem kX12_greatestPart (G : Gx)  {h : Hp} {a1 : Int32} {rr : Int32} (hf : fX12_greatestPart h a1 = some rr) : MC G yX12_greatestPart cX12_greatestPart 6 (some .int) 2 128 h [.ref (gad G 208), .int a1] (some (.int rr)) h := by
  refine MC.of RX12 (by decide) rfl (Nat.le_of_ble_eq_true rfl) rfl (fun X C hG hR hF => ?_)
  subst hG
  have hcs : True := trivial
  unfold fX12_greatestPart at hf
  refine r_iconst (v := 0) C dX12_greatestPart_0 (by decide) ?_
  refine r_istore_n (i := 2) (lv' := [(0, .ref (gad (xG X) 208)), (1, .int a1), (2, .int (0 : Int32))]) C dX12_greatestPart_1 rfl (by decide) [1, 2, 0] rfl ?_
  refine r_iconst (v := 0) C dX12_greatestPart_2 (by decide) ?_
  refine r_istore_n (i := 3) (lv' := [(0, .ref (gad (xG X) 208)), (1, .int a1), (2, .int (0 : Int32)), (3, .int (0 : Int32))]) C dX12_greatestPart_3 rfl (by decide) [1, 2, 3, 0] rfl ?_
  exact r_lv [0, 1, 2, 3] rfl ((wX12_greatestPart  C hR hcs hF big).1 _ _ _ _ _ hf)
def fX12_canDuke (h : Hp) (a1 : Int32) : Int32 := (if a1 = (16 : Int32) then (1 : Int32) else (if (fX12_hasPin h a1) = (0 : Int32) then (0 : Int32) else (1 : Int32)))
set_option maxHeartbeats 4000000 in
set_option maxRecDepth 100000 in
theorem kX12_canDuke (G : Gx)  {h : Hp} {a1 : Int32} : MC G yX12_canDuke cX12_canDuke 2 (some .boolean) 3 192 h [.ref (gad G 208), .int a1] (some (.int (fX12_canDuke h a1))) h := by
  refine MC.of RX12 (by decide) rfl (Nat.le_of_ble_eq_true rfl) rfl (fun X C hG hR hF => ?_)
  subst hG
  have hcs : True := trivial
  obtain ⟨rr, hf⟩ : ∃ rr, fX12_canDuke h a1 = rr := ⟨_, rfl⟩
  rw [hf] at hF
  unfold fX12_canDuke at hf
  refine r_iload_n (i := 1) C dX12_canDuke_0 rfl 1 rfl ?_
  refine r_bipush (v := 16) C dX12_canDuke_1 (by decide) ?_
  refine r_icmp_eq C 14 dX12_canDuke_3 (by decide) (fun c1 => ?_) (fun c1 => ?_)
  · rw [if_pos c1] at hf
    refine r_iconst (v := 1) C dX12_canDuke_14 (by decide) ?_
    refine r_goto C 19 dX12_canDuke_15 (by decide) ?_
    subst hf
    exact r_zret C (Or.inr rfl) hF dX12_canDuke_19
  · rw [if_neg c1] at hf
    refine r_aload_n (i := 0) C dX12_canDuke_6 rfl 0 rfl ?_
    refine r_iload_n (i := 1) C dX12_canDuke_7 rfl 1 rfl ?_
    refine r_callVi (As := [.int a1]) (st := []) C 208 rfl (by decide) rfl (kX12_hasPin (xG X)) cw_X12_122 rfl rfl (Nat.le_of_ble_eq_true rfl) (zr2 hR rfl rfl) (zrcs hcs) dX12_canDuke_8 ?_
    refine r_if_eq C 18 dX12_canDuke_11 (by decide) (fun c2 => ?_) (fun c2 => ?_)
    · rw [if_pos c2] at hf
      refine r_iconst (v := 0) C dX12_canDuke_18 (by decide) ?_
      subst hf
      exact r_zret C (Or.inl rfl) hF dX12_canDuke_19
    · rw [if_neg c2] at hf
      refine r_iconst (v := 1) C dX12_canDuke_14 (by decide) ?_
      refine r_goto C 19 dX12_canDuke_15 (by decide) ?_
      subst hf
      exact r_zret C (Or.inr rfl) hF dX12_canDuke_19
theorem zX12_canDuke {h : Hp}  {a1 : Int32} : fX12_canDuke h a1 = 0 ∨ fX12_canDuke h a1 = 1 := by
  unfold fX12_canDuke
  exact by repeat' (first | exact Or.inl rfl | exact Or.inr rfl | (apply b_ite) | (unfold lt9) | assumption | exact zqq)
def fX12_canGuild (h : Hp) (a1 : Int32) : Int32 := (if a1 = (16 : Int32) then (1 : Int32) else (if (fX12_has (fX12_openPlaces h) a1) = (0 : Int32) then (0 : Int32) else (1 : Int32)))
set_option maxHeartbeats 4000000 in
set_option maxRecDepth 100000 in
theorem kX12_canGuild (G : Gx)  {h : Hp} {a1 : Int32} : MC G yX12_canGuild cX12_canGuild 2 (some .boolean) 3 192 h [.ref (gad G 208), .int a1] (some (.int (fX12_canGuild h a1))) h := by
  refine MC.of RX12 (by decide) rfl (Nat.le_of_ble_eq_true rfl) rfl (fun X C hG hR hF => ?_)
  subst hG
  have hcs : True := trivial
  obtain ⟨rr, hf⟩ : ∃ rr, fX12_canGuild h a1 = rr := ⟨_, rfl⟩
  rw [hf] at hF
  unfold fX12_canGuild at hf
  refine r_iload_n (i := 1) C dX12_canGuild_0 rfl 1 rfl ?_
  refine r_bipush (v := 16) C dX12_canGuild_1 (by decide) ?_
  refine r_icmp_eq C 17 dX12_canGuild_3 (by decide) (fun c1 => ?_) (fun c1 => ?_)
  · rw [if_pos c1] at hf
    refine r_iconst (v := 1) C dX12_canGuild_17 (by decide) ?_
    refine r_goto C 22 dX12_canGuild_18 (by decide) ?_
    subst hf
    exact r_zret C (Or.inr rfl) hF dX12_canGuild_22
  · rw [if_neg c1] at hf
    refine r_aload_n (i := 0) C dX12_canGuild_6 rfl 0 rfl ?_
    refine r_callVi (As := []) (st := []) C 208 rfl (by decide) rfl (kX12_openPlaces (xG X)) cw_X12_361 rfl rfl (Nat.le_of_ble_eq_true rfl) (zr2 hR rfl rfl) (zrcs hcs) dX12_canGuild_7 ?_
    refine r_iload_n (i := 1) C dX12_canGuild_10 rfl 1 rfl ?_
    refine r_callSi (As := [.int (fX12_openPlaces h), .int a1]) (st := []) C (kX12_has (xG X)) cw_X12_69 rfl rfl (Nat.le_of_ble_eq_true rfl) (zr2 hR rfl rfl) (zrcs hcs) dX12_canGuild_11 ?_
    refine r_if_eq C 21 dX12_canGuild_14 (by decide) (fun c2 => ?_) (fun c2 => ?_)
    · rw [if_pos c2] at hf
      refine r_iconst (v := 0) C dX12_canGuild_21 (by decide) ?_
      subst hf
      exact r_zret C (Or.inl rfl) hF dX12_canGuild_22
    · rw [if_neg c2] at hf
      refine r_iconst (v := 1) C dX12_canGuild_17 (by decide) ?_
      refine r_goto C 22 dX12_canGuild_18 (by decide) ?_
      subst hf
      exact r_zret C (Or.inr rfl) hF dX12_canGuild_22
theorem zX12_canGuild {h : Hp}  {a1 : Int32} : fX12_canGuild h a1 = 0 ∨ fX12_canGuild h a1 = 1 := by
  unfold fX12_canGuild
  exact by repeat' (first | exact Or.inl rfl | exact Or.inr rfl | (apply b_ite) | (unfold lt9) | assumption | exact zqq)
def fX12_standsBy (h : Hp) (a1 : Int32) (a2 : Int32) : Option (Int32) := gd (inb (((17 : Int32) * a1) + a2) 289) (some (h 220 (((17 : Int32) * a1) + a2).toNatClampNeg))
set_option maxHeartbeats 4000000 in
set_option maxRecDepth 100000 in
theorem kX12_standsBy (G : Gx)  {h : Hp} {a1 : Int32} {a2 : Int32} {rr : Int32} (hf : fX12_standsBy h a1 a2 = some rr) : MC G yX12_standsBy cX12_standsBy 3 (some .int) 1 64 h [.ref (gad G 208), .int a1, .int a2] (some (.int rr)) h := by
  refine MC.of RX12 (by decide) rfl (Nat.le_of_ble_eq_true rfl) rfl (fun X C hG hR hF => ?_)
  subst hG
  have hcs : True := trivial
  unfold fX12_standsBy at hf
  refine r_aload_n (i := 0) C dX12_standsBy_0 rfl 0 rfl ?_
  refine g_X12_51 C dX12_standsBy_1 ?_
  refine r_bipush (v := 17) C dX12_standsBy_4 (by decide) ?_
  refine r_iload_n (i := 1) C dX12_standsBy_6 rfl 1 rfl ?_
  refine r_imul C dX12_standsBy_7 ?_
  refine r_iload_n (i := 2) C dX12_standsBy_8 rfl 2 rfl ?_
  refine r_iadd C dX12_standsBy_9 ?_
  obtain ⟨g1, hf⟩ := gd_of hf
  refine r_iald C 220 rfl (by decide) g1 dX12_standsBy_10 ?_
  cases hf
  exact r_iret C hF dX12_standsBy_11
def BX12_doesRest_0 (h : Hp) (rec : Int32 → Int32 → Int32 → Int32 → Option (Int32)) (y1 : Int32) (y2 : Int32) (y3 : Int32) (y4 : Int32) : Option (Int32) := (if (16 : Int32) < y4 then gd (y3 = 0 ∨ y3 = 1) (some y3) else (if y3 = (0 : Int32) then gd (y3 = 0 ∨ y3 = 1) (some y3) else cl9 ((if (fX12_canDuke h y4) = (0 : Int32) then (if (fX12_canGuild h y4) = (0 : Int32) then some true else cl9 (fX12_standsBy h y1 y4) (fun x9 => cl9 (fX12_standsBy h y1 y2) (fun x11 => (if x11 < x9 then some false else some true)))) else cl9 (fX12_standsBy h y4 y2) (fun x14 => cl9 (fX12_standsBy h y1 y2) (fun x16 => (if x14 < x16 then some false else (if (fX12_canGuild h y4) = (0 : Int32) then some true else cl9 (fX12_standsBy h y1 y4) (fun x20 => cl9 (fX12_standsBy h y1 y2) (fun x22 => (if x22 < x20 then some false else some true)))))))) : Option Bool) (fun q3 => if q3 = true then lt9 (y4 + (1 : Int32)) (fun x25 => rec y1 y2 (1 : Int32) x25) else lt9 (y4 + (1 : Int32)) (fun x26 => rec y1 y2 (0 : Int32) x26))))
def LX12_doesRest (h : Hp) : Nat → Int32 → Int32 → Int32 → Int32 → Option (Int32)
  | 0, _, _, _, _ => none
  | n + 1, y1, y2, y3, y4 => BX12_doesRest_0 h (LX12_doesRest h n) y1 y2 y3 y4
def fX12_doesRest (h : Hp) (a1 : Int32) (a2 : Int32) : Option (Int32) := cl9 ((if (fX12_canDuke h a1) = (0 : Int32) then some false else (if (fX12_canGuild h a2) = (0 : Int32) then some false else some true)) : Option Bool) (fun q27 => if q27 = true then LX12_doesRest h big a1 a2 (1 : Int32) (0 : Int32) else LX12_doesRest h big a1 a2 (0 : Int32) (0 : Int32))
set_option maxHeartbeats 4000000 in
set_option maxRecDepth 100000 in
theorem wX12_doesRest {X : Cx} {h : Hp}  {rr : Int32} (C : OK X cX12_doesRest 5 RX12 (some .boolean)) (hR : xR X = { frames := 4, cells := 0, slots := 0, locals := 256 }) (hcs : True) (hF : FinR X (some (.int rr)) h) : ∀ n : Nat, (∀ (y1 : Int32) (y2 : Int32) (y3 : Int32) (y4 : Int32), LX12_doesRest h n y1 y2 y3 y4 = some rr → VW X 5 h 0 0 25 [(0, .ref (gad (xG X) 208)), (1, .int y1), (2, .int y2), (3, .int y3), (4, .int y4)] []) := by
  intro n
  induction n with
  | zero => exact (fun _ _ _ _ hf => (by rw [LX12_doesRest] at hf; cases hf))
  | succ n ih =>
    intro y1 y2 y3 y4 hf
    rw [LX12_doesRest] at hf
    unfold BX12_doesRest_0 at hf
    refine r_iload (i := 4) C dX12_doesRest_25 4 rfl ?_
    refine r_bipush (v := 16) C dX12_doesRest_27 (by decide) ?_
    refine r_icmp_gt C 98 dX12_doesRest_29 (by decide) (fun c1 => ?_) (fun c1 => ?_)
    · rw [if_pos c1] at hf
      refine r_iload_n (i := 3) C dX12_doesRest_98 rfl 3 rfl ?_
      obtain ⟨zz, hf⟩ := gd_of hf
      cases hf
      exact r_zret C zz hF dX12_doesRest_99
    · rw [if_neg c1] at hf
      refine r_iload_n (i := 3) C dX12_doesRest_32 rfl 3 rfl ?_
      refine r_if_eq C 98 dX12_doesRest_33 (by decide) (fun c2 => ?_) (fun c2 => ?_)
      · rw [if_pos c2] at hf
        refine r_iload_n (i := 3) C dX12_doesRest_98 rfl 3 rfl ?_
        obtain ⟨zz, hf⟩ := gd_of hf
        cases hf
        exact r_zret C zz hF dX12_doesRest_99
      · rw [if_neg c2] at hf
        refine r_aload_n (i := 0) C dX12_doesRest_36 rfl 0 rfl ?_
        refine r_iload (i := 4) C dX12_doesRest_37 4 rfl ?_
        refine r_callVi (As := [.int y4]) (st := []) C 208 rfl (by decide) rfl (kX12_canDuke (xG X)) cw_X12_404 rfl rfl (Nat.le_of_ble_eq_true rfl) (zr2 hR rfl rfl) (zrcs hcs) dX12_doesRest_39 ?_
        obtain ⟨q3, r6, hf⟩ := cl_of hf
        have k4 : q3 = true → VW X 5 h 0 0 86 [(0, .ref (gad (xG X) 208)), (1, .int y1), (2, .int y2), (3, .int y3), (4, .int y4)] [] := fun qq => by
          rw [if_pos qq] at hf
          refine r_iconst (v := 1) C dX12_doesRest_86 (by decide) ?_
          refine r_goto C 91 dX12_doesRest_87 (by decide) ?_
          refine r_istore_n (i := 3) (lv' := [(0, .ref (gad (xG X) 208)), (1, .int y1), (2, .int y2), (3, .int (1 : Int32)), (4, .int y4)]) C dX12_doesRest_91 rfl (by decide) [1, 2, 3, 0, 4] rfl ?_
          obtain ⟨x25, ex25, hf⟩ := lt_of hf
          refine r_iinc (j := 4) (v := x25) (lv' := [(0, .ref (gad (xG X) 208)), (1, .int y1), (2, .int y2), (3, .int (1 : Int32)), (4, .int x25)]) C dX12_doesRest_92 rfl (by rw [ex25]; rfl) (by decide) [1, 2, 3, 4, 0] rfl ?_
          refine r_goto C 25 dX12_doesRest_95 (by decide) ?_
          exact r_lv [0, 1, 2, 3, 4] rfl (ih _ _ _ _ hf)
        have k5 : q3 = false → VW X 5 h 0 0 90 [(0, .ref (gad (xG X) 208)), (1, .int y1), (2, .int y2), (3, .int y3), (4, .int y4)] [] := fun qq => by
          rw [if_neg (by rw [qq]; decide)] at hf
          refine r_iconst (v := 0) C dX12_doesRest_90 (by decide) ?_
          refine r_istore_n (i := 3) (lv' := [(0, .ref (gad (xG X) 208)), (1, .int y1), (2, .int y2), (3, .int (0 : Int32)), (4, .int y4)]) C dX12_doesRest_91 rfl (by decide) [1, 2, 3, 0, 4] rfl ?_
          obtain ⟨x26, ex26, hf⟩ := lt_of hf
          refine r_iinc (j := 4) (v := x26) (lv' := [(0, .ref (gad (xG X) 208)), (1, .int y1), (2, .int y2), (3, .int (0 : Int32)), (4, .int x26)]) C dX12_doesRest_92 rfl (by rw [ex26]; rfl) (by decide) [1, 2, 3, 4, 0] rfl ?_
          refine r_goto C 25 dX12_doesRest_95 (by decide) ?_
          exact r_lv [0, 1, 2, 3, 4] rfl (ih _ _ _ _ hf)
        clear hf
        have hf := r6
        refine r_if_eq C 61 dX12_doesRest_42 (by decide) (fun c7 => ?_) (fun c7 => ?_)
        · rw [if_pos c7] at hf
          refine r_aload_n (i := 0) C dX12_doesRest_61 rfl 0 rfl ?_
          refine r_iload (i := 4) C dX12_doesRest_62 4 rfl ?_
          refine r_callVi (As := [.int y4]) (st := []) C 208 rfl (by decide) rfl (kX12_canGuild (xG X)) cw_X12_407 rfl rfl (Nat.le_of_ble_eq_true rfl) (zr2 hR rfl rfl) (zrcs hcs) dX12_doesRest_64 ?_
          refine r_if_eq C 86 dX12_doesRest_67 (by decide) (fun c8 => ?_) (fun c8 => ?_)
          · rw [if_pos c8] at hf
            exact k4 (Option.some.inj hf).symm
          · rw [if_neg c8] at hf
            refine r_aload_n (i := 0) C dX12_doesRest_70 rfl 0 rfl ?_
            refine r_iload_n (i := 1) C dX12_doesRest_71 rfl 1 rfl ?_
            refine r_iload (i := 4) C dX12_doesRest_72 4 rfl ?_
            obtain ⟨x9, e10, hf⟩ := cl_of hf
            refine r_callVi (As := [.int y1, .int y4]) (st := []) C 208 rfl (by decide) rfl (kX12_standsBy (xG X) e10) cw_X12_410 rfl rfl (Nat.le_of_ble_eq_true rfl) (zr2 hR rfl rfl) (zrcs hcs) dX12_doesRest_74 ?_
            refine r_aload_n (i := 0) C dX12_doesRest_77 rfl 0 rfl ?_
            refine r_iload_n (i := 1) C dX12_doesRest_78 rfl 1 rfl ?_
            refine r_iload_n (i := 2) C dX12_doesRest_79 rfl 2 rfl ?_
            obtain ⟨x11, e12, hf⟩ := cl_of hf
            refine r_callVi (As := [.int y1, .int y2]) (st := [.int x9]) C 208 rfl (by decide) rfl (kX12_standsBy (xG X) e12) cw_X12_410 rfl rfl (Nat.le_of_ble_eq_true rfl) (zr2 hR rfl rfl) (zrcs hcs) dX12_doesRest_80 ?_
            refine r_icmp_gt C 90 dX12_doesRest_83 (by decide) (fun c13 => ?_) (fun c13 => ?_)
            · rw [if_pos c13] at hf
              exact k5 (Option.some.inj hf).symm
            · rw [if_neg c13] at hf
              exact k4 (Option.some.inj hf).symm
        · rw [if_neg c7] at hf
          refine r_aload_n (i := 0) C dX12_doesRest_45 rfl 0 rfl ?_
          refine r_iload (i := 4) C dX12_doesRest_46 4 rfl ?_
          refine r_iload_n (i := 2) C dX12_doesRest_48 rfl 2 rfl ?_
          obtain ⟨x14, e15, hf⟩ := cl_of hf
          refine r_callVi (As := [.int y4, .int y2]) (st := []) C 208 rfl (by decide) rfl (kX12_standsBy (xG X) e15) cw_X12_410 rfl rfl (Nat.le_of_ble_eq_true rfl) (zr2 hR rfl rfl) (zrcs hcs) dX12_doesRest_49 ?_
          refine r_aload_n (i := 0) C dX12_doesRest_52 rfl 0 rfl ?_
          refine r_iload_n (i := 1) C dX12_doesRest_53 rfl 1 rfl ?_
          refine r_iload_n (i := 2) C dX12_doesRest_54 rfl 2 rfl ?_
          obtain ⟨x16, e17, hf⟩ := cl_of hf
          refine r_callVi (As := [.int y1, .int y2]) (st := [.int x14]) C 208 rfl (by decide) rfl (kX12_standsBy (xG X) e17) cw_X12_410 rfl rfl (Nat.le_of_ble_eq_true rfl) (zr2 hR rfl rfl) (zrcs hcs) dX12_doesRest_55 ?_
          refine r_icmp_lt C 90 dX12_doesRest_58 (by decide) (fun c18 => ?_) (fun c18 => ?_)
          · rw [if_pos c18] at hf
            exact k5 (Option.some.inj hf).symm
          · rw [if_neg c18] at hf
            refine r_aload_n (i := 0) C dX12_doesRest_61 rfl 0 rfl ?_
            refine r_iload (i := 4) C dX12_doesRest_62 4 rfl ?_
            refine r_callVi (As := [.int y4]) (st := []) C 208 rfl (by decide) rfl (kX12_canGuild (xG X)) cw_X12_407 rfl rfl (Nat.le_of_ble_eq_true rfl) (zr2 hR rfl rfl) (zrcs hcs) dX12_doesRest_64 ?_
            refine r_if_eq C 86 dX12_doesRest_67 (by decide) (fun c19 => ?_) (fun c19 => ?_)
            · rw [if_pos c19] at hf
              exact k4 (Option.some.inj hf).symm
            · rw [if_neg c19] at hf
              refine r_aload_n (i := 0) C dX12_doesRest_70 rfl 0 rfl ?_
              refine r_iload_n (i := 1) C dX12_doesRest_71 rfl 1 rfl ?_
              refine r_iload (i := 4) C dX12_doesRest_72 4 rfl ?_
              obtain ⟨x20, e21, hf⟩ := cl_of hf
              refine r_callVi (As := [.int y1, .int y4]) (st := []) C 208 rfl (by decide) rfl (kX12_standsBy (xG X) e21) cw_X12_410 rfl rfl (Nat.le_of_ble_eq_true rfl) (zr2 hR rfl rfl) (zrcs hcs) dX12_doesRest_74 ?_
              refine r_aload_n (i := 0) C dX12_doesRest_77 rfl 0 rfl ?_
              refine r_iload_n (i := 1) C dX12_doesRest_78 rfl 1 rfl ?_
              refine r_iload_n (i := 2) C dX12_doesRest_79 rfl 2 rfl ?_
              obtain ⟨x22, e23, hf⟩ := cl_of hf
              refine r_callVi (As := [.int y1, .int y2]) (st := [.int x20]) C 208 rfl (by decide) rfl (kX12_standsBy (xG X) e23) cw_X12_410 rfl rfl (Nat.le_of_ble_eq_true rfl) (zr2 hR rfl rfl) (zrcs hcs) dX12_doesRest_80 ?_
              refine r_icmp_gt C 90 dX12_doesRest_83 (by decide) (fun c24 => ?_) (fun c24 => ?_)
              · rw [if_pos c24] at hf
                exact k5 (Option.some.inj hf).symm
              · rw [if_neg c24] at hf
                exact k4 (Option.some.inj hf).symm
set_option maxHeartbeats 4000000 in
set_option maxRecDepth 100000 in
theorem kX12_doesRest (G : Gx)  {h : Hp} {a1 : Int32} {a2 : Int32} {rr : Int32} (hf : fX12_doesRest h a1 a2 = some rr) : MC G yX12_doesRest cX12_doesRest 5 (some .boolean) 4 256 h [.ref (gad G 208), .int a1, .int a2] (some (.int rr)) h := by
  refine MC.of RX12 (by decide) rfl (Nat.le_of_ble_eq_true rfl) rfl (fun X C hG hR hF => ?_)
  subst hG
  have hcs : True := trivial
  unfold fX12_doesRest at hf
  refine r_aload_n (i := 0) C dX12_doesRest_0 rfl 0 rfl ?_
  refine r_iload_n (i := 1) C dX12_doesRest_1 rfl 1 rfl ?_
  refine r_callVi (As := [.int a1]) (st := []) C 208 rfl (by decide) rfl (kX12_canDuke (xG X)) cw_X12_404 rfl rfl (Nat.le_of_ble_eq_true rfl) (zr2 hR rfl rfl) (zrcs hcs) dX12_doesRest_2 ?_
  obtain ⟨q27, r30, hf⟩ := cl_of hf
  have k28 : q27 = true → VW X 5 h 0 0 16 [(0, .ref (gad (xG X) 208)), (1, .int a1), (2, .int a2)] [] := fun qq => by
    rw [if_pos qq] at hf
    refine r_iconst (v := 1) C dX12_doesRest_16 (by decide) ?_
    refine r_goto C 21 dX12_doesRest_17 (by decide) ?_
    refine r_istore_n (i := 3) (lv' := [(0, .ref (gad (xG X) 208)), (1, .int a1), (2, .int a2), (3, .int (1 : Int32))]) C dX12_doesRest_21 rfl (by decide) [1, 2, 3, 0] rfl ?_
    refine r_iconst (v := 0) C dX12_doesRest_22 (by decide) ?_
    refine r_istore (i := 4) (lv' := [(0, .ref (gad (xG X) 208)), (1, .int a1), (2, .int a2), (3, .int (1 : Int32)), (4, .int (0 : Int32))]) C dX12_doesRest_23 (by decide) [1, 2, 3, 4, 0] rfl ?_
    exact r_lv [0, 1, 2, 3, 4] rfl ((wX12_doesRest  C hR hcs hF big) _ _ _ _ hf)
  have k29 : q27 = false → VW X 5 h 0 0 20 [(0, .ref (gad (xG X) 208)), (1, .int a1), (2, .int a2)] [] := fun qq => by
    rw [if_neg (by rw [qq]; decide)] at hf
    refine r_iconst (v := 0) C dX12_doesRest_20 (by decide) ?_
    refine r_istore_n (i := 3) (lv' := [(0, .ref (gad (xG X) 208)), (1, .int a1), (2, .int a2), (3, .int (0 : Int32))]) C dX12_doesRest_21 rfl (by decide) [1, 2, 3, 0] rfl ?_
    refine r_iconst (v := 0) C dX12_doesRest_22 (by decide) ?_
    refine r_istore (i := 4) (lv' := [(0, .ref (gad (xG X) 208)), (1, .int a1), (2, .int a2), (3, .int (0 : Int32)), (4, .int (0 : Int32))]) C dX12_doesRest_23 (by decide) [1, 2, 3, 4, 0] rfl ?_
    exact r_lv [0, 1, 2, 3, 4] rfl ((wX12_doesRest  C hR hcs hF big) _ _ _ _ hf)
  clear hf
  have hf := r30
  refine r_if_eq C 20 dX12_doesRest_5 (by decide) (fun c31 => ?_) (fun c31 => ?_)
  · rw [if_pos c31] at hf
    exact k29 (Option.some.inj hf).symm
  · rw [if_neg c31] at hf
    refine r_aload_n (i := 0) C dX12_doesRest_8 rfl 0 rfl ?_
    refine r_iload_n (i := 2) C dX12_doesRest_9 rfl 2 rfl ?_
    refine r_callVi (As := [.int a2]) (st := []) C 208 rfl (by decide) rfl (kX12_canGuild (xG X)) cw_X12_407 rfl rfl (Nat.le_of_ble_eq_true rfl) (zr2 hR rfl rfl) (zrcs hcs) dX12_doesRest_10 ?_
    refine r_if_eq C 20 dX12_doesRest_13 (by decide) (fun c32 => ?_) (fun c32 => ?_)
    · rw [if_pos c32] at hf
      exact k29 (Option.some.inj hf).symm
    · rw [if_neg c32] at hf
      exact k28 (Option.some.inj hf).symm
def fX12_standingAt (h : Hp) (a1 : Int32) (a2 : Int32) : Option (Int32 × Hp) := gd (inb a1 2031) (cl2 (fX12_holdingNow h) (fun x4 h2 => gd (inb a1 2031) (lt9 (up2 h2 209 a1.toNatClampNeg a2) (fun h6 => cl9 (fX12_standingBy h6 x4) (fun x7 => gd (inb a1 2031) (lt9 (up2 h6 209 a1.toNatClampNeg (h 209 a1.toNatClampNeg)) (fun h10 => some (x7, h10))))))))
set_option maxHeartbeats 4000000 in
set_option maxRecDepth 100000 in
theorem kX12_standingAt (G : Gx)  {h : Hp} {a1 : Int32} {a2 : Int32} {rr : Int32} {hh : Hp} (hf : fX12_standingAt h a1 a2 = some (rr, hh)) : MC G yX12_standingAt cX12_standingAt 6 (some .int) 11 704 h [.ref (gad G 208), .int a1, .int a2] (some (.int rr)) hh := by
  refine MC.of RX12 (by decide) rfl (Nat.le_of_ble_eq_true rfl) rfl (fun X C hG hR hF => ?_)
  subst hG
  have hcs : True := trivial
  unfold fX12_standingAt at hf
  refine r_aload_n (i := 0) C dX12_standingAt_0 rfl 0 rfl ?_
  refine g_X12_13 C dX12_standingAt_1 ?_
  refine r_iload_n (i := 1) C dX12_standingAt_4 rfl 1 rfl ?_
  obtain ⟨g1, hf⟩ := gd_of hf
  refine r_iald C 209 rfl (by decide) g1 dX12_standingAt_5 ?_
  refine r_istore_n (i := 3) (lv' := [(0, .ref (gad (xG X) 208)), (1, .int a1), (2, .int a2), (3, .int (h 209 a1.toNatClampNeg))]) C dX12_standingAt_6 rfl (by decide) [1, 2, 3, 0] rfl ?_
  refine r_aload_n (i := 0) C dX12_standingAt_7 rfl 0 rfl ?_
  obtain ⟨x4, h2, e3, hf⟩ := cl2_of hf
  refine r_callVi (As := []) (st := []) C 208 rfl (by decide) rfl (kX12_holdingNow (xG X) e3) cw_X12_308 rfl rfl (Nat.le_of_ble_eq_true rfl) (zr2 hR rfl rfl) (zrcs hcs) dX12_standingAt_8 ?_
  refine r_istore (i := 4) (lv' := [(0, .ref (gad (xG X) 208)), (1, .int a1), (2, .int a2), (3, .int (h 209 a1.toNatClampNeg)), (4, .int x4)]) C dX12_standingAt_11 (by decide) [1, 2, 3, 4, 0] rfl ?_
  refine r_aload_n (i := 0) C dX12_standingAt_13 rfl 0 rfl ?_
  refine g_X12_13 C dX12_standingAt_14 ?_
  refine r_iload_n (i := 1) C dX12_standingAt_17 rfl 1 rfl ?_
  refine r_iload_n (i := 2) C dX12_standingAt_18 rfl 2 rfl ?_
  obtain ⟨g5, hf⟩ := gd_of hf
  obtain ⟨h6, eh6, hf⟩ := lt_of hf
  refine r_iast C 209 eh6 rfl (by decide) g5 dX12_standingAt_19 ?_
  refine r_aload_n (i := 0) C dX12_standingAt_20 rfl 0 rfl ?_
  refine r_iload (i := 4) C dX12_standingAt_21 4 rfl ?_
  obtain ⟨x7, e8, hf⟩ := cl_of hf
  refine r_callVi (As := [.int x4]) (st := []) C 208 rfl (by decide) rfl (kX12_standingBy (xG X) e8) cw_X12_299 rfl rfl (Nat.le_of_ble_eq_true rfl) (zr2 hR rfl rfl) (zrcs hcs) dX12_standingAt_23 ?_
  refine r_istore (i := 5) (lv' := [(0, .ref (gad (xG X) 208)), (1, .int a1), (2, .int a2), (3, .int (h 209 a1.toNatClampNeg)), (4, .int x4), (5, .int x7)]) C dX12_standingAt_26 (by decide) [1, 2, 3, 4, 5, 0] rfl ?_
  refine r_aload_n (i := 0) C dX12_standingAt_28 rfl 0 rfl ?_
  refine g_X12_13 C dX12_standingAt_29 ?_
  refine r_iload_n (i := 1) C dX12_standingAt_32 rfl 1 rfl ?_
  refine r_iload_n (i := 3) C dX12_standingAt_33 rfl 3 rfl ?_
  obtain ⟨g9, hf⟩ := gd_of hf
  obtain ⟨h10, eh10, hf⟩ := lt_of hf
  refine r_iast C 209 eh10 rfl (by decide) g9 dX12_standingAt_34 ?_
  refine r_iload (i := 5) C dX12_standingAt_35 5 rfl ?_
  cases hf
  exact r_iret C hF dX12_standingAt_37

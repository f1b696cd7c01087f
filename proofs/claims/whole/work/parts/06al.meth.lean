def BX12_sky_0  (rec : Nat → Hp → Int32 → Int32 → Option (Int32 × Hp)) (h : Hp) (y1 : Int32) (y2 : Int32) : Option (Int32 × Hp) := (if (1182 : Int32) ≤ y1 then cl2 (fX12_readAll h (1 : Int32)) (fun x4 h2 => cl9 ((if (0 : Int32) ≤ x4 then some (-1 : Int32) else some (h2 208 12)) : Option (Int32)) (fun v5 => lt9 (up2 h2 208 14 v5) (fun h9 => cl9 ((if (0 : Int32) ≤ x4 then some (0 : Int32) else some (1 : Int32)) : Option (Int32)) (fun v10 => cl2 (fX12_throwsIf h9 v10 (1 : Int32)) (fun x16 h14 => (if x16 = (0 : Int32) then cl9 ((if (h14 209 1) = (12 : Int32) then some (1 : Int32) else some (0 : Int32)) : Option (Int32)) (fun v18 => cl2 (fX12_throwsIf h14 v18 (2 : Int32)) (fun x24 h22 => (if x24 = (0 : Int32) then gd (inb (1 : Int32) 2031) (lt9 (up2 h22 209 (1 : Int32).toNatClampNeg ((h22 209 1) + (1 : Int32))) (fun h27 => lt9 (up2 h27 208 7 (0 : Int32)) (fun h28 => some ((h28 209 1), h28)))) else rec 1 h22 0 (0 : Int32)))) else rec 1 h14 0 (0 : Int32))))))) else gd (inb y1 2031) (gd (inb y1 1182) (lt9 (up2 h 211 y1.toNatClampNeg (h 209 y1.toNatClampNeg)) (fun h31 => lt9 (y1 + (1 : Int32)) (fun x32 => rec 0 h31 x32 0)))))
def BX12_sky_1  (rec : Nat → Hp → Int32 → Int32 → Option (Int32 × Hp)) (h : Hp) (y1 : Int32) (y2 : Int32) : Option (Int32 × Hp) := (if (1182 : Int32) ≤ y2 then some ((0 : Int32), h) else gd (inb y2 1182) (gd (inb y2 2031) (lt9 (up2 h 209 y2.toNatClampNeg (h 211 y2.toNatClampNeg)) (fun h36 => lt9 (y2 + (1 : Int32)) (fun x37 => rec 1 h36 0 x37)))))
def LX12_sky  : Nat → Nat → Hp → Int32 → Int32 → Option (Int32 × Hp)
  | 0, _, _, _, _ => none
  | n + 1, lab, h, y1, y2 => if lab = 0 then BX12_sky_0  (LX12_sky  n) h y1 y2 else if lab = 1 then BX12_sky_1  (LX12_sky  n) h y1 y2 else none
def fX12_sky (h : Hp) : Option (Int32 × Hp) := LX12_sky big 0 h (0 : Int32) 0
set_option maxHeartbeats 4000000 in
set_option maxRecDepth 100000 in
theorem wX12_sky {X : Cx}  {rr : Int32} {hh : Hp} (C : OK X cX12_sky 3 RX12 (some .int)) (hR : xR X = { frames := 88, cells := 0, slots := 0, locals := 5632 }) (hcs : True) (hF : FinR X (some (.int rr)) hh) : ∀ n : Nat, (∀ (h : Hp) (y1 : Int32) (y2 : Int32), LX12_sky  n 0 h y1 y2 = some (rr, hh) → VW X 3 h 0 0 2 [(0, .ref (gad (xG X) 208)), (1, .int y1)] []) ∧ (∀ (h : Hp) (y1 : Int32) (y2 : Int32), LX12_sky  n 1 h y1 y2 = some (rr, hh) → VW X 3 h 0 0 92 [(0, .ref (gad (xG X) 208)), (2, .int y2)] []) := by
  intro n
  induction n with
  | zero => exact ⟨(fun _ _ _ hf => (by rw [LX12_sky] at hf; cases hf)), (fun _ _ _ hf => (by rw [LX12_sky] at hf; cases hf))⟩
  | succ n ih =>
    refine ⟨?_, ?_⟩
    · intro h y1 y2 hf
      rw [LX12_sky, if_pos rfl] at hf
      unfold BX12_sky_0 at hf
      refine r_iload_n (i := 1) C dX12_sky_2 rfl 1 rfl ?_
      refine r_sipush (v := 1182) C dX12_sky_3 (by decide) ?_
      refine r_icmp_ge C 27 dX12_sky_6 (by decide) (fun c1 => ?_) (fun c1 => ?_)
      · rw [if_pos c1] at hf
        refine r_aload_n (i := 0) C dX12_sky_27 rfl 0 rfl ?_
        refine r_iconst (v := 1) C dX12_sky_28 (by decide) ?_
        obtain ⟨x4, h2, e3, hf⟩ := cl2_of hf
        refine r_callVi (As := [.int (1 : Int32)]) (st := []) C 208 rfl (by decide) rfl (kX12_readAll (xG X) e3) cw_X12_243 rfl rfl (Nat.le_of_ble_eq_true rfl) (zr2 hR rfl rfl) (zrcs hcs) dX12_sky_29 ?_
        refine r_istore_n (i := 1) (lv' := [(0, .ref (gad (xG X) 208)), (1, .int x4)]) C dX12_sky_32 rfl (by decide) [1, 0] rfl ?_
        refine r_aload_n (i := 0) C dX12_sky_33 rfl 0 rfl ?_
        refine r_iload_n (i := 1) C dX12_sky_34 rfl 1 rfl ?_
        obtain ⟨v5, r7, hf⟩ := cl_of hf
        have k6 : VW X 3 h2 0 0 46 [(0, .ref (gad (xG X) 208)), (1, .int x4)] [.int v5, .ref (gad (xG X) 208)] := by
          obtain ⟨h9, eh9, hf⟩ := lt_of hf
          refine p_X12_33 C eh9 dX12_sky_46 ?_
          refine r_aload_n (i := 0) C dX12_sky_49 rfl 0 rfl ?_
          refine r_iload_n (i := 1) C dX12_sky_50 rfl 1 rfl ?_
          obtain ⟨v10, r12, hf⟩ := cl_of hf
          have k11 : VW X 3 h9 0 0 59 [(0, .ref (gad (xG X) 208))] [.int v10, .ref (gad (xG X) 208)] := by
            refine r_iconst (v := 1) C dX12_sky_59 (by decide) ?_
            obtain ⟨x16, h14, e15, hf⟩ := cl2_of hf
            refine r_callVi (As := [.int v10, .int (1 : Int32)]) (st := []) C 208 rfl (by decide) rfl (kX12_throwsIf (xG X) e15) cw_X12_247 rfl rfl (Nat.le_of_ble_eq_true rfl) (zr2 hR rfl rfl) (zrcs hcs) dX12_sky_60 ?_
            refine r_if_ne C 90 dX12_sky_63 (by decide) (fun c17 => ?_) (fun c17 => ?_)
            · rw [if_neg c17] at hf
              refine r_iconst (v := 0) C dX12_sky_90 (by decide) ?_
              refine r_istore_n (i := 2) (lv' := [(0, .ref (gad (xG X) 208)), (2, .int (0 : Int32))]) C dX12_sky_91 rfl (by decide) [1, 0] rfl ?_
              exact r_lv [0, 1] rfl (ih.2 _ _ _ hf)
            · rw [if_pos c17] at hf
              refine r_aload_n (i := 0) C dX12_sky_66 rfl 0 rfl ?_
              refine r_aload_n (i := 0) C dX12_sky_67 rfl 0 rfl ?_
              refine g_X12_13 C dX12_sky_68 ?_
              refine r_iconst (v := 1) C dX12_sky_71 (by decide) ?_
              refine r_ialdc C 209 (m := 1) rfl (by decide) (by decide) (show inb 1 2031 by decide) dX12_sky_72 ?_
              refine r_bipush (v := 12) C dX12_sky_73 (by decide) ?_
              obtain ⟨v18, r20, hf⟩ := cl_of hf
              have k19 : VW X 3 h14 0 0 83 [(0, .ref (gad (xG X) 208))] [.int v18, .ref (gad (xG X) 208)] := by
                refine r_iconst (v := 2) C dX12_sky_83 (by decide) ?_
                obtain ⟨x24, h22, e23, hf⟩ := cl2_of hf
                refine r_callVi (As := [.int v18, .int (2 : Int32)]) (st := []) C 208 rfl (by decide) rfl (kX12_throwsIf (xG X) e23) cw_X12_247 rfl rfl (Nat.le_of_ble_eq_true rfl) (zr2 hR rfl rfl) (zrcs hcs) dX12_sky_84 ?_
                refine r_if_eq C 119 dX12_sky_87 (by decide) (fun c25 => ?_) (fun c25 => ?_)
                · rw [if_pos c25] at hf
                  refine r_aload_n (i := 0) C dX12_sky_119 rfl 0 rfl ?_
                  refine g_X12_13 C dX12_sky_120 ?_
                  refine r_iconst (v := 1) C dX12_sky_123 (by decide) ?_
                  refine r_dup2 C dX12_sky_124 rfl rfl ?_
                  refine r_ialdc C 209 (m := 1) rfl (by decide) (by decide) (show inb 1 2031 by decide) dX12_sky_125 ?_
                  refine r_iconst (v := 1) C dX12_sky_126 (by decide) ?_
                  refine r_iadd C dX12_sky_127 ?_
                  obtain ⟨g26, hf⟩ := gd_of hf
                  obtain ⟨h27, eh27, hf⟩ := lt_of hf
                  refine r_iast C 209 eh27 rfl (by decide) g26 dX12_sky_128 ?_
                  refine r_aload_n (i := 0) C dX12_sky_129 rfl 0 rfl ?_
                  refine r_iconst (v := 0) C dX12_sky_130 (by decide) ?_
                  obtain ⟨h28, eh28, hf⟩ := lt_of hf
                  refine p_X12_58 C eh28 dX12_sky_131 ?_
                  refine r_aload_n (i := 0) C dX12_sky_134 rfl 0 rfl ?_
                  refine g_X12_13 C dX12_sky_135 ?_
                  refine r_iconst (v := 1) C dX12_sky_138 (by decide) ?_
                  refine r_ialdc C 209 (m := 1) rfl (by decide) (by decide) (show inb 1 2031 by decide) dX12_sky_139 ?_
                  cases hf
                  exact r_iret C hF dX12_sky_140
                · rw [if_neg c25] at hf
                  refine r_iconst (v := 0) C dX12_sky_90 (by decide) ?_
                  refine r_istore_n (i := 2) (lv' := [(0, .ref (gad (xG X) 208)), (2, .int (0 : Int32))]) C dX12_sky_91 rfl (by decide) [1, 0] rfl ?_
                  exact r_lv [0, 1] rfl (ih.2 _ _ _ hf)
              clear hf
              have hf := r20
              refine r_icmp_ne C 82 dX12_sky_75 (by decide) (fun c21 => ?_) (fun c21 => ?_)
              · rw [if_neg c21] at hf
                refine r_iconst (v := 0) C dX12_sky_82 (by decide) ?_
                cases hf
                exact k19
              · rw [if_pos c21] at hf
                refine r_iconst (v := 1) C dX12_sky_78 (by decide) ?_
                refine r_goto C 83 dX12_sky_79 (by decide) ?_
                cases hf
                exact k19
          clear hf
          have hf := r12
          refine r_if_ge C 58 dX12_sky_51 (by decide) (fun c13 => ?_) (fun c13 => ?_)
          · rw [if_pos c13] at hf
            refine r_iconst (v := 0) C dX12_sky_58 (by decide) ?_
            cases hf
            exact r_lv [0] rfl k11
          · rw [if_neg c13] at hf
            refine r_iconst (v := 1) C dX12_sky_54 (by decide) ?_
            refine r_goto C 59 dX12_sky_55 (by decide) ?_
            cases hf
            exact r_lv [0] rfl k11
        clear hf
        have hf := r7
        refine r_if_ge C 45 dX12_sky_35 (by decide) (fun c8 => ?_) (fun c8 => ?_)
        · rw [if_pos c8] at hf
          refine r_iconst (v := (-1)) C dX12_sky_45 (by decide) ?_
          cases hf
          exact k6
        · rw [if_neg c8] at hf
          refine r_aload_n (i := 0) C dX12_sky_38 rfl 0 rfl ?_
          refine g_X12_94 C dX12_sky_39 ?_
          refine r_goto C 46 dX12_sky_42 (by decide) ?_
          cases hf
          exact k6
      · rw [if_neg c1] at hf
        refine r_aload_n (i := 0) C dX12_sky_9 rfl 0 rfl ?_
        refine g_X12_20 C dX12_sky_10 ?_
        refine r_iload_n (i := 1) C dX12_sky_13 rfl 1 rfl ?_
        refine r_aload_n (i := 0) C dX12_sky_14 rfl 0 rfl ?_
        refine g_X12_13 C dX12_sky_15 ?_
        refine r_iload_n (i := 1) C dX12_sky_18 rfl 1 rfl ?_
        obtain ⟨g29, hf⟩ := gd_of hf
        refine r_iald C 209 rfl (by decide) g29 dX12_sky_19 ?_
        obtain ⟨g30, hf⟩ := gd_of hf
        obtain ⟨h31, eh31, hf⟩ := lt_of hf
        refine r_iast C 211 eh31 rfl (by decide) g30 dX12_sky_20 ?_
        obtain ⟨x32, ex32, hf⟩ := lt_of hf
        refine r_iinc (j := 1) (v := x32) (lv' := [(0, .ref (gad (xG X) 208)), (1, .int x32)]) C dX12_sky_21 rfl (by rw [ex32]; rfl) (by decide) [1, 0] rfl ?_
        refine r_goto C 2 dX12_sky_24 (by decide) ?_
        exact r_lv [0, 1] rfl (ih.1 _ _ _ hf)
    · intro h y1 y2 hf
      rw [LX12_sky, if_neg (by decide), if_pos rfl] at hf
      unfold BX12_sky_1 at hf
      refine r_iload_n (i := 2) C dX12_sky_92 rfl 1 rfl ?_
      refine r_sipush (v := 1182) C dX12_sky_93 (by decide) ?_
      refine r_icmp_ge C 117 dX12_sky_96 (by decide) (fun c33 => ?_) (fun c33 => ?_)
      · rw [if_pos c33] at hf
        refine r_iconst (v := 0) C dX12_sky_117 (by decide) ?_
        cases hf
        exact r_iret C hF dX12_sky_118
      · rw [if_neg c33] at hf
        refine r_aload_n (i := 0) C dX12_sky_99 rfl 0 rfl ?_
        refine g_X12_13 C dX12_sky_100 ?_
        refine r_iload_n (i := 2) C dX12_sky_103 rfl 1 rfl ?_
        refine r_aload_n (i := 0) C dX12_sky_104 rfl 0 rfl ?_
        refine g_X12_20 C dX12_sky_105 ?_
        refine r_iload_n (i := 2) C dX12_sky_108 rfl 1 rfl ?_
        obtain ⟨g34, hf⟩ := gd_of hf
        refine r_iald C 211 rfl (by decide) g34 dX12_sky_109 ?_
        obtain ⟨g35, hf⟩ := gd_of hf
        obtain ⟨h36, eh36, hf⟩ := lt_of hf
        refine r_iast C 209 eh36 rfl (by decide) g35 dX12_sky_110 ?_
        obtain ⟨x37, ex37, hf⟩ := lt_of hf
        refine r_iinc (j := 1) (v := x37) (lv' := [(0, .ref (gad (xG X) 208)), (2, .int x37)]) C dX12_sky_111 rfl (by rw [ex37]; rfl) (by decide) [1, 0] rfl ?_
        refine r_goto C 92 dX12_sky_114 (by decide) ?_
        exact r_lv [0, 1] rfl (ih.2 _ _ _ hf)
set_option maxHeartbeats 4000000 in
set_option maxRecDepth 100000 in
theorem kX12_sky (G : Gx)  {h : Hp}  {rr : Int32} {hh : Hp} (hf : fX12_sky h = some (rr, hh)) : MC G yX12_sky cX12_sky 3 (some .int) 88 5632 h [.ref (gad G 208)] (some (.int rr)) hh := by
  refine MC.of RX12 (by decide) rfl (Nat.le_of_ble_eq_true rfl) rfl (fun X C hG hR hF => ?_)
  subst hG
  have hcs : True := trivial
  unfold fX12_sky at hf
  refine r_iconst (v := 0) C dX12_sky_0 (by decide) ?_
  refine r_istore_n (i := 1) (lv' := [(0, .ref (gad (xG X) 208)), (1, .int (0 : Int32))]) C dX12_sky_1 rfl (by decide) [1, 0] rfl ?_
  exact r_lv [0, 1] rfl ((wX12_sky  C hR hcs hF big).1 _ _ _ hf)
def BX12_law_0  (rec : Hp → Int32 → Int32 → Option (Int32 × Hp)) (h : Hp) (y1 : Int32) (y2 : Int32) : Option (Int32 × Hp) := (if (849 : Int32) ≤ y2 then gd (inb (2 : Int32) 2031) (lt9 (up2 h 209 (2 : Int32).toNatClampNeg (1 : Int32)) (fun h3 => lt9 (up2 h3 208 7 (0 : Int32)) (fun h4 => some (y1, h4)))) else gd (inb ((1182 : Int32) + y2) 2031) (gd (inb ((333 : Int32) + y2) 2031) (lt9 (up2 h 209 ((333 : Int32) + y2).toNatClampNeg (h 209 ((1182 : Int32) + y2).toNatClampNeg)) (fun h7 => lt9 (y2 + (1 : Int32)) (fun x8 => rec h7 y1 x8)))))
def LX12_law  : Nat → Hp → Int32 → Int32 → Option (Int32 × Hp)
  | 0, _, _, _ => none
  | n + 1, h, y1, y2 => BX12_law_0  (LX12_law  n) h y1 y2
def fX12_law (h : Hp) : Option (Int32 × Hp) := cl2 (fX12_readAll h (0 : Int32)) (fun x11 h9 => cl9 ((if (0 : Int32) ≤ x11 then some (-1 : Int32) else some (h9 208 12)) : Option (Int32)) (fun v12 => lt9 (up2 h9 208 14 v12) (fun h16 => cl9 ((if (0 : Int32) ≤ x11 then some (0 : Int32) else some (1 : Int32)) : Option (Int32)) (fun v17 => cl2 (fX12_throwsIf h16 v17 (1 : Int32)) (fun x23 h21 => (if x23 = (0 : Int32) then gd (inb (1182 : Int32) 2031) (lt9 (up2 h21 209 (1182 : Int32).toNatClampNeg x11) (fun h26 => LX12_law big h26 x11 (0 : Int32))) else some ((0 : Int32), h21)))))))
set_option maxHeartbeats 4000000 in
set_option maxRecDepth 100000 in
theorem wX12_law {X : Cx}  {rr : Int32} {hh : Hp} (C : OK X cX12_law 3 RX12 (some .int)) (hR : xR X = { frames := 88, cells := 0, slots := 0, locals := 5632 }) (hcs : True) (hF : FinR X (some (.int rr)) hh) : ∀ n : Nat, (∀ (h : Hp) (y1 : Int32) (y2 : Int32), LX12_law  n h y1 y2 = some (rr, hh) → VW X 3 h 0 0 52 [(0, .ref (gad (xG X) 208)), (1, .int y1), (2, .int y2)] []) := by
  intro n
  induction n with
  | zero => exact (fun _ _ _ hf => (by rw [LX12_law] at hf; cases hf))
  | succ n ih =>
    intro h y1 y2 hf
    rw [LX12_law] at hf
    unfold BX12_law_0 at hf
    refine r_iload_n (i := 2) C dX12_law_52 rfl 2 rfl ?_
    refine r_sipush (v := 849) C dX12_law_53 (by decide) ?_
    refine r_icmp_ge C 85 dX12_law_56 (by decide) (fun c1 => ?_) (fun c1 => ?_)
    · rw [if_pos c1] at hf
      refine r_aload_n (i := 0) C dX12_law_85 rfl 0 rfl ?_
      refine g_X12_13 C dX12_law_86 ?_
      refine r_iconst (v := 2) C dX12_law_89 (by decide) ?_
      refine r_iconst (v := 1) C dX12_law_90 (by decide) ?_
      obtain ⟨g2, hf⟩ := gd_of hf
      obtain ⟨h3, eh3, hf⟩ := lt_of hf
      refine r_iast C 209 eh3 rfl (by decide) g2 dX12_law_91 ?_
      refine r_aload_n (i := 0) C dX12_law_92 rfl 0 rfl ?_
      refine r_iconst (v := 0) C dX12_law_93 (by decide) ?_
      obtain ⟨h4, eh4, hf⟩ := lt_of hf
      refine p_X12_58 C eh4 dX12_law_94 ?_
      refine r_iload_n (i := 1) C dX12_law_97 rfl 1 rfl ?_
      cases hf
      exact r_iret C hF dX12_law_98
    · rw [if_neg c1] at hf
      refine r_aload_n (i := 0) C dX12_law_59 rfl 0 rfl ?_
      refine g_X12_13 C dX12_law_60 ?_
      refine r_sipush (v := 333) C dX12_law_63 (by decide) ?_
      refine r_iload_n (i := 2) C dX12_law_66 rfl 2 rfl ?_
      refine r_iadd C dX12_law_67 ?_
      refine r_aload_n (i := 0) C dX12_law_68 rfl 0 rfl ?_
      refine g_X12_13 C dX12_law_69 ?_
      refine r_sipush (v := 1182) C dX12_law_72 (by decide) ?_
      refine r_iload_n (i := 2) C dX12_law_75 rfl 2 rfl ?_
      refine r_iadd C dX12_law_76 ?_
      obtain ⟨g5, hf⟩ := gd_of hf
      refine r_iald C 209 rfl (by decide) g5 dX12_law_77 ?_
      obtain ⟨g6, hf⟩ := gd_of hf
      obtain ⟨h7, eh7, hf⟩ := lt_of hf
      refine r_iast C 209 eh7 rfl (by decide) g6 dX12_law_78 ?_
      obtain ⟨x8, ex8, hf⟩ := lt_of hf
      refine r_iinc (j := 2) (v := x8) (lv' := [(0, .ref (gad (xG X) 208)), (1, .int y1), (2, .int x8)]) C dX12_law_79 rfl (by rw [ex8]; rfl) (by decide) [1, 2, 0] rfl ?_
      refine r_goto C 52 dX12_law_82 (by decide) ?_
      exact r_lv [0, 1, 2] rfl (ih _ _ _ hf)
set_option maxHeartbeats 4000000 in
set_option maxRecDepth 100000 in
theorem kX12_law (G : Gx)  {h : Hp}  {rr : Int32} {hh : Hp} (hf : fX12_law h = some (rr, hh)) : MC G yX12_law cX12_law 3 (some .int) 88 5632 h [.ref (gad G 208)] (some (.int rr)) hh := by
  refine MC.of RX12 (by decide) rfl (Nat.le_of_ble_eq_true rfl) rfl (fun X C hG hR hF => ?_)
  subst hG
  have hcs : True := trivial
  unfold fX12_law at hf
  refine r_aload_n (i := 0) C dX12_law_0 rfl 0 rfl ?_
  refine r_iconst (v := 0) C dX12_law_1 (by decide) ?_
  obtain ⟨x11, h9, e10, hf⟩ := cl2_of hf
  refine r_callVi (As := [.int (0 : Int32)]) (st := []) C 208 rfl (by decide) rfl (kX12_readAll (xG X) e10) cw_X12_243 rfl rfl (Nat.le_of_ble_eq_true rfl) (zr2 hR rfl rfl) (zrcs hcs) dX12_law_2 ?_
  refine r_istore_n (i := 1) (lv' := [(0, .ref (gad (xG X) 208)), (1, .int x11)]) C dX12_law_5 rfl (by decide) [1, 0] rfl ?_
  refine r_aload_n (i := 0) C dX12_law_6 rfl 0 rfl ?_
  refine r_iload_n (i := 1) C dX12_law_7 rfl 1 rfl ?_
  obtain ⟨v12, r14, hf⟩ := cl_of hf
  have k13 : VW X 3 h9 0 0 19 [(0, .ref (gad (xG X) 208)), (1, .int x11)] [.int v12, .ref (gad (xG X) 208)] := by
    obtain ⟨h16, eh16, hf⟩ := lt_of hf
    refine p_X12_33 C eh16 dX12_law_19 ?_
    refine r_aload_n (i := 0) C dX12_law_22 rfl 0 rfl ?_
    refine r_iload_n (i := 1) C dX12_law_23 rfl 1 rfl ?_
    obtain ⟨v17, r19, hf⟩ := cl_of hf
    have k18 : VW X 3 h16 0 0 32 [(0, .ref (gad (xG X) 208)), (1, .int x11)] [.int v17, .ref (gad (xG X) 208)] := by
      refine r_iconst (v := 1) C dX12_law_32 (by decide) ?_
      obtain ⟨x23, h21, e22, hf⟩ := cl2_of hf
      refine r_callVi (As := [.int v17, .int (1 : Int32)]) (st := []) C 208 rfl (by decide) rfl (kX12_throwsIf (xG X) e22) cw_X12_247 rfl rfl (Nat.le_of_ble_eq_true rfl) (zr2 hR rfl rfl) (zrcs hcs) dX12_law_33 ?_
      refine r_if_eq C 41 dX12_law_36 (by decide) (fun c24 => ?_) (fun c24 => ?_)
      · rw [if_pos c24] at hf
        refine r_aload_n (i := 0) C dX12_law_41 rfl 0 rfl ?_
        refine g_X12_13 C dX12_law_42 ?_
        refine r_sipush (v := 1182) C dX12_law_45 (by decide) ?_
        refine r_iload_n (i := 1) C dX12_law_48 rfl 1 rfl ?_
        obtain ⟨g25, hf⟩ := gd_of hf
        obtain ⟨h26, eh26, hf⟩ := lt_of hf
        refine r_iast C 209 eh26 rfl (by decide) g25 dX12_law_49 ?_
        refine r_iconst (v := 0) C dX12_law_50 (by decide) ?_
        refine r_istore_n (i := 2) (lv' := [(0, .ref (gad (xG X) 208)), (1, .int x11), (2, .int (0 : Int32))]) C dX12_law_51 rfl (by decide) [1, 2, 0] rfl ?_
        exact r_lv [0, 1, 2] rfl ((wX12_law  C hR hcs hF big) _ _ _ hf)
      · rw [if_neg c24] at hf
        refine r_iconst (v := 0) C dX12_law_39 (by decide) ?_
        cases hf
        exact r_iret C hF dX12_law_40
    clear hf
    have hf := r19
    refine r_if_ge C 31 dX12_law_24 (by decide) (fun c20 => ?_) (fun c20 => ?_)
    · rw [if_pos c20] at hf
      refine r_iconst (v := 0) C dX12_law_31 (by decide) ?_
      cases hf
      exact k18
    · rw [if_neg c20] at hf
      refine r_iconst (v := 1) C dX12_law_27 (by decide) ?_
      refine r_goto C 32 dX12_law_28 (by decide) ?_
      cases hf
      exact k18
  clear hf
  have hf := r14
  refine r_if_ge C 18 dX12_law_8 (by decide) (fun c15 => ?_) (fun c15 => ?_)
  · rw [if_pos c15] at hf
    refine r_iconst (v := (-1)) C dX12_law_18 (by decide) ?_
    cases hf
    exact k13
  · rw [if_neg c15] at hf
    refine r_aload_n (i := 0) C dX12_law_11 rfl 0 rfl ?_
    refine g_X12_94 C dX12_law_12 ?_
    refine r_goto C 19 dX12_law_15 (by decide) ?_
    cases hf
    exact k13
def BX12_key_0  (rec : Hp → Int32 → Int32 → Int32 → Option (Int32 × Hp)) (h : Hp) (y1 : Int32) (y2 : Int32) (y3 : Int32) : Option (Int32 × Hp) := (if (16 : Int32) ≤ y3 then some (y2, h) else (if (fX12_hasPin h y3) = (0 : Int32) then lt9 (y2 ||| (0 : Int32)) (fun x3 => lt9 (y3 + (1 : Int32)) (fun x4 => rec h y1 x3 x4)) else cl2 (fX12_standingWith h ((fX12_pins h) &&& (((1 : Int32) <<< (y3 &&& 31)) ^^^ (-1 : Int32)))) (fun x7 h5 => (if y1 ≤ (fJ_bitCount x7) then lt9 (y2 ||| (0 : Int32)) (fun x9 => lt9 (y3 + (1 : Int32)) (fun x10 => rec h5 y1 x9 x10)) else lt9 (y2 ||| ((1 : Int32) <<< (y3 &&& 31))) (fun x11 => lt9 (y3 + (1 : Int32)) (fun x12 => rec h5 y1 x11 x12))))))
def LX12_key  : Nat → Hp → Int32 → Int32 → Int32 → Option (Int32 × Hp)
  | 0, _, _, _, _ => none
  | n + 1, h, y1, y2, y3 => BX12_key_0  (LX12_key  n) h y1 y2 y3
def fX12_key (h : Hp) : Option (Int32 × Hp) := lt9 (up2 h 208 0 (0 : Int32)) (fun h13 => cl2 (fX12_standingNow h13) (fun x16 h14 => lt9 (fJ_bitCount x16) (fun x17 => LX12_key big h14 x17 (0 : Int32) (0 : Int32))))
set_option maxHeartbeats 4000000 in
set_option maxRecDepth 100000 in
theorem wX12_key {X : Cx}  {rr : Int32} {hh : Hp} (C : OK X cX12_key 4 RX12 (some .int)) (hR : xR X = { frames := 12, cells := 0, slots := 0, locals := 768 }) (hcs : True) (hF : FinR X (some (.int rr)) hh) : ∀ n : Nat, (∀ (h : Hp) (y1 : Int32) (y2 : Int32) (y3 : Int32), LX12_key  n h y1 y2 y3 = some (rr, hh) → VW X 4 h 0 0 17 [(0, .ref (gad (xG X) 208)), (1, .int y1), (2, .int y2), (3, .int y3)] []) := by
  intro n
  induction n with
  | zero => exact (fun _ _ _ _ hf => (by rw [LX12_key] at hf; cases hf))
  | succ n ih =>
    intro h y1 y2 y3 hf
    rw [LX12_key] at hf
    unfold BX12_key_0 at hf
    refine r_iload_n (i := 3) C dX12_key_17 rfl 3 rfl ?_
    refine r_bipush (v := 16) C dX12_key_18 (by decide) ?_
    refine r_icmp_ge C 68 dX12_key_20 (by decide) (fun c1 => ?_) (fun c1 => ?_)
    · rw [if_pos c1] at hf
      refine r_iload_n (i := 2) C dX12_key_68 rfl 2 rfl ?_
      cases hf
      exact r_iret C hF dX12_key_69
    · rw [if_neg c1] at hf
      refine r_iload_n (i := 2) C dX12_key_23 rfl 2 rfl ?_
      refine r_aload_n (i := 0) C dX12_key_24 rfl 0 rfl ?_
      refine r_iload_n (i := 3) C dX12_key_25 rfl 3 rfl ?_
      refine r_callVi (As := [.int y3]) (st := [.int y2]) C 208 rfl (by decide) rfl (kX12_hasPin (xG X)) cw_X12_122 rfl rfl (Nat.le_of_ble_eq_true rfl) (zr2 hR rfl rfl) (zrcs hcs) dX12_key_26 ?_
      refine r_if_eq C 59 dX12_key_29 (by decide) (fun c2 => ?_) (fun c2 => ?_)
      · rw [if_pos c2] at hf
        refine r_iconst (v := 0) C dX12_key_59 (by decide) ?_
        refine r_ior C dX12_key_60 ?_
        obtain ⟨x3, ex3, hf⟩ := lt_of hf
        refine r_top ex3 ?_
        refine r_istore_n (i := 2) (lv' := [(0, .ref (gad (xG X) 208)), (1, .int y1), (2, .int x3), (3, .int y3)]) C dX12_key_61 rfl (by decide) [1, 2, 0, 3] rfl ?_
        obtain ⟨x4, ex4, hf⟩ := lt_of hf
        refine r_iinc (j := 3) (v := x4) (lv' := [(0, .ref (gad (xG X) 208)), (1, .int y1), (2, .int x3), (3, .int x4)]) C dX12_key_62 rfl (by rw [ex4]; rfl) (by decide) [1, 2, 3, 0] rfl ?_
        refine r_goto C 17 dX12_key_65 (by decide) ?_
        exact r_lv [0, 1, 2, 3] rfl (ih _ _ _ _ hf)
      · rw [if_neg c2] at hf
        refine r_aload_n (i := 0) C dX12_key_32 rfl 0 rfl ?_
        refine r_aload_n (i := 0) C dX12_key_33 rfl 0 rfl ?_
        refine r_callVi (As := []) (st := [.ref (gad (xG X) 208), .int y2]) C 208 rfl (by decide) rfl (kX12_pins (xG X)) cw_X12_65 rfl rfl (Nat.le_of_ble_eq_true rfl) (zr2 hR rfl rfl) (zrcs hcs) dX12_key_34 ?_
        refine r_iconst (v := 1) C dX12_key_37 (by decide) ?_
        refine r_iload_n (i := 3) C dX12_key_38 rfl 3 rfl ?_
        refine r_ishl C dX12_key_39 ?_
        refine r_iconst (v := (-1)) C dX12_key_40 (by decide) ?_
        refine r_ixor C dX12_key_41 ?_
        refine r_iand C dX12_key_42 ?_
        obtain ⟨x7, h5, e6, hf⟩ := cl2_of hf
        refine r_callVi (As := [.int ((fX12_pins h) &&& (((1 : Int32) <<< (y3 &&& 31)) ^^^ (-1 : Int32)))]) (st := [.int y2]) C 208 rfl (by decide) rfl (kX12_standingWith (xG X) e6) cw_X12_302 rfl rfl (Nat.le_of_ble_eq_true rfl) (zr2 hR rfl rfl) (zrcs hcs) dX12_key_43 ?_
        refine r_callSi (As := [.int x7]) (st := [.int y2]) C (kJ_bitCount (xG X)) cw_X12_356 rfl rfl (Nat.le_of_ble_eq_true rfl) (zr2 hR rfl rfl) (zrcs hcs) dX12_key_46 ?_
        refine r_iload_n (i := 1) C dX12_key_49 rfl 1 rfl ?_
        refine r_icmp_ge C 59 dX12_key_50 (by decide) (fun c8 => ?_) (fun c8 => ?_)
        · rw [if_pos c8] at hf
          refine r_iconst (v := 0) C dX12_key_59 (by decide) ?_
          refine r_ior C dX12_key_60 ?_
          obtain ⟨x9, ex9, hf⟩ := lt_of hf
          refine r_top ex9 ?_
          refine r_istore_n (i := 2) (lv' := [(0, .ref (gad (xG X) 208)), (1, .int y1), (2, .int x9), (3, .int y3)]) C dX12_key_61 rfl (by decide) [1, 2, 0, 3] rfl ?_
          obtain ⟨x10, ex10, hf⟩ := lt_of hf
          refine r_iinc (j := 3) (v := x10) (lv' := [(0, .ref (gad (xG X) 208)), (1, .int y1), (2, .int x9), (3, .int x10)]) C dX12_key_62 rfl (by rw [ex10]; rfl) (by decide) [1, 2, 3, 0] rfl ?_
          refine r_goto C 17 dX12_key_65 (by decide) ?_
          exact r_lv [0, 1, 2, 3] rfl (ih _ _ _ _ hf)
        · rw [if_neg c8] at hf
          refine r_iconst (v := 1) C dX12_key_53 (by decide) ?_
          refine r_iload_n (i := 3) C dX12_key_54 rfl 3 rfl ?_
          refine r_ishl C dX12_key_55 ?_
          refine r_goto C 60 dX12_key_56 (by decide) ?_
          refine r_ior C dX12_key_60 ?_
          obtain ⟨x11, ex11, hf⟩ := lt_of hf
          refine r_top ex11 ?_
          refine r_istore_n (i := 2) (lv' := [(0, .ref (gad (xG X) 208)), (1, .int y1), (2, .int x11), (3, .int y3)]) C dX12_key_61 rfl (by decide) [1, 2, 0, 3] rfl ?_
          obtain ⟨x12, ex12, hf⟩ := lt_of hf
          refine r_iinc (j := 3) (v := x12) (lv' := [(0, .ref (gad (xG X) 208)), (1, .int y1), (2, .int x11), (3, .int x12)]) C dX12_key_62 rfl (by rw [ex12]; rfl) (by decide) [1, 2, 3, 0] rfl ?_
          refine r_goto C 17 dX12_key_65 (by decide) ?_
          exact r_lv [0, 1, 2, 3] rfl (ih _ _ _ _ hf)
set_option maxHeartbeats 4000000 in
set_option maxRecDepth 100000 in
theorem kX12_key (G : Gx)  {h : Hp}  {rr : Int32} {hh : Hp} (hf : fX12_key h = some (rr, hh)) : MC G yX12_key cX12_key 4 (some .int) 12 768 h [.ref (gad G 208)] (some (.int rr)) hh := by
  refine MC.of RX12 (by decide) rfl (Nat.le_of_ble_eq_true rfl) rfl (fun X C hG hR hF => ?_)
  subst hG
  have hcs : True := trivial
  unfold fX12_key at hf
  refine r_aload_n (i := 0) C dX12_key_0 rfl 0 rfl ?_
  refine r_iconst (v := 0) C dX12_key_1 (by decide) ?_
  obtain ⟨h13, eh13, hf⟩ := lt_of hf
  refine p_X12_3 C eh13 dX12_key_2 ?_
  refine r_aload_n (i := 0) C dX12_key_5 rfl 0 rfl ?_
  obtain ⟨x16, h14, e15, hf⟩ := cl2_of hf
  refine r_callVi (As := []) (st := []) C 208 rfl (by decide) rfl (kX12_standingNow (xG X) e15) cw_X12_320 rfl rfl (Nat.le_of_ble_eq_true rfl) (zr2 hR rfl rfl) (zrcs hcs) dX12_key_6 ?_
  refine r_callSi (As := [.int x16]) (st := []) C (kJ_bitCount (xG X)) cw_X12_356 rfl rfl (Nat.le_of_ble_eq_true rfl) (zr2 hR rfl rfl) (zrcs hcs) dX12_key_9 ?_
  obtain ⟨x17, ex17, hf⟩ := lt_of hf
  refine r_top ex17 ?_
  refine r_istore_n (i := 1) (lv' := [(0, .ref (gad (xG X) 208)), (1, .int x17)]) C dX12_key_12 rfl (by decide) [1, 0] rfl ?_
  refine r_iconst (v := 0) C dX12_key_13 (by decide) ?_
  refine r_istore_n (i := 2) (lv' := [(0, .ref (gad (xG X) 208)), (1, .int x17), (2, .int (0 : Int32))]) C dX12_key_14 rfl (by decide) [1, 2, 0] rfl ?_
  refine r_iconst (v := 0) C dX12_key_15 (by decide) ?_
  refine r_istore_n (i := 3) (lv' := [(0, .ref (gad (xG X) 208)), (1, .int x17), (2, .int (0 : Int32)), (3, .int (0 : Int32))]) C dX12_key_16 rfl (by decide) [1, 2, 3, 0] rfl ?_
  exact r_lv [0, 1, 2, 3] rfl ((wX12_key  C hR hcs hF big) _ _ _ _ hf)
def BX12_first_0  (rec : Hp → Int32 → Int32 → Int32 → Option (Int32 × Hp)) (h : Hp) (y1 : Int32) (y2 : Int32) (y3 : Int32) : Option (Int32 × Hp) := (if (16 : Int32) ≤ y3 then some (y1, h) else cl2 ((if (fX12_has (fX12_openPlaces h) y3) = (0 : Int32) then some ((-1 : Int32), h) else cl2 (fX12_standingWith h ((fX12_pins h) ||| ((1 : Int32) <<< (y3 &&& 31)))) (fun x9 h7 => some ((fJ_bitCount x9), h7))) : Option (Int32 × Hp)) (fun v2 h3 => cl9 ((if v2 ≤ y2 then some y1 else some y3) : Option (Int32)) (fun v10 => lt9 (jmax y2 v2) (fun x14 => lt9 (y3 + (1 : Int32)) (fun x15 => rec h3 v10 x14 x15)))))
def LX12_first  : Nat → Hp → Int32 → Int32 → Int32 → Option (Int32 × Hp)
  | 0, _, _, _, _ => none
  | n + 1, h, y1, y2, y3 => BX12_first_0  (LX12_first  n) h y1 y2 y3
def fX12_first (h : Hp) : Option (Int32 × Hp) := lt9 (up2 h 208 0 (0 : Int32)) (fun h16 => LX12_first big h16 (-1 : Int32) (-1 : Int32) (0 : Int32))
set_option maxHeartbeats 4000000 in
set_option maxRecDepth 100000 in
theorem wX12_first {X : Cx}  {rr : Int32} {hh : Hp} (C : OK X cX12_first 5 RX12 (some .int)) (hR : xR X = { frames := 12, cells := 0, slots := 0, locals := 768 }) (hcs : True) (hF : FinR X (some (.int rr)) hh) : ∀ n : Nat, (∀ (h : Hp) (y1 : Int32) (y2 : Int32) (y3 : Int32), LX12_first  n h y1 y2 y3 = some (rr, hh) → VW X 5 h 0 0 11 [(0, .ref (gad (xG X) 208)), (1, .int y1), (2, .int y2), (3, .int y3)] []) := by
  intro n
  induction n with
  | zero => exact (fun _ _ _ _ hf => (by rw [LX12_first] at hf; cases hf))
  | succ n ih =>
    intro h y1 y2 y3 hf
    rw [LX12_first] at hf
    unfold BX12_first_0 at hf
    refine r_iload_n (i := 3) C dX12_first_11 rfl 3 rfl ?_
    refine r_bipush (v := 16) C dX12_first_12 (by decide) ?_
    refine r_icmp_ge C 74 dX12_first_14 (by decide) (fun c1 => ?_) (fun c1 => ?_)
    · rw [if_pos c1] at hf
      refine r_iload_n (i := 1) C dX12_first_74 rfl 1 rfl ?_
      cases hf
      exact r_iret C hF dX12_first_75
    · rw [if_neg c1] at hf
      refine r_aload_n (i := 0) C dX12_first_17 rfl 0 rfl ?_
      refine r_callVi (As := []) (st := []) C 208 rfl (by decide) rfl (kX12_openPlaces (xG X)) cw_X12_361 rfl rfl (Nat.le_of_ble_eq_true rfl) (zr2 hR rfl rfl) (zrcs hcs) dX12_first_18 ?_
      refine r_iload_n (i := 3) C dX12_first_21 rfl 3 rfl ?_
      refine r_callSi (As := [.int (fX12_openPlaces h), .int y3]) (st := []) C (kX12_has (xG X)) cw_X12_69 rfl rfl (Nat.le_of_ble_eq_true rfl) (zr2 hR rfl rfl) (zrcs hcs) dX12_first_22 ?_
      obtain ⟨v2, h3, r5, hf⟩ := cl2_of hf
      have k4 : VW X 5 h3 0 0 47 [(0, .ref (gad (xG X) 208)), (1, .int y1), (2, .int y2), (3, .int y3)] [.int v2] := by
        refine r_istore (i := 4) (lv' := [(0, .ref (gad (xG X) 208)), (1, .int y1), (2, .int y2), (3, .int y3), (4, .int v2)]) C dX12_first_47 (by decide) [1, 2, 3, 4, 0] rfl ?_
        refine r_iload (i := 4) C dX12_first_49 4 rfl ?_
        refine r_iload_n (i := 2) C dX12_first_51 rfl 2 rfl ?_
        obtain ⟨v10, r12, hf⟩ := cl_of hf
        have k11 : VW X 5 h3 0 0 60 [(0, .ref (gad (xG X) 208)), (2, .int y2), (3, .int y3), (4, .int v2)] [.int v10] := by
          refine r_istore_n (i := 1) (lv' := [(0, .ref (gad (xG X) 208)), (1, .int v10), (2, .int y2), (3, .int y3), (4, .int v2)]) C dX12_first_60 rfl (by decide) [1, 0, 2, 3, 4] rfl ?_
          refine r_iload_n (i := 2) C dX12_first_61 rfl 2 rfl ?_
          refine r_iload (i := 4) C dX12_first_62 4 rfl ?_
          refine r_mmax9 C gw_1806 gm_max_s gm_i gm_max_c (zr1 hR rfl) (zr0 hR (Nat.le_of_ble_eq_true rfl)) (zrcs hcs) dX12_first_64 ?_
          obtain ⟨x14, ex14, hf⟩ := lt_of hf
          refine r_top ex14 ?_
          refine r_istore_n (i := 2) (lv' := [(0, .ref (gad (xG X) 208)), (1, .int v10), (2, .int x14), (3, .int y3), (4, .int v2)]) C dX12_first_67 rfl (by decide) [1, 2, 0, 3, 4] rfl ?_
          obtain ⟨x15, ex15, hf⟩ := lt_of hf
          refine r_iinc (j := 3) (v := x15) (lv' := [(0, .ref (gad (xG X) 208)), (1, .int v10), (2, .int x14), (3, .int x15), (4, .int v2)]) C dX12_first_68 rfl (by rw [ex15]; rfl) (by decide) [1, 2, 3, 0, 4] rfl ?_
          refine r_goto C 11 dX12_first_71 (by decide) ?_
          exact r_lv [0, 1, 2, 3] rfl (ih _ _ _ _ hf)
        clear hf
        have hf := r12
        refine r_icmp_le C 59 dX12_first_52 (by decide) (fun c13 => ?_) (fun c13 => ?_)
        · rw [if_pos c13] at hf
          refine r_iload_n (i := 1) C dX12_first_59 rfl 1 rfl ?_
          cases hf
          exact r_lv [0, 2, 3, 4] rfl k11
        · rw [if_neg c13] at hf
          refine r_iload_n (i := 3) C dX12_first_55 rfl 3 rfl ?_
          refine r_goto C 60 dX12_first_56 (by decide) ?_
          cases hf
          exact r_lv [0, 2, 3, 4] rfl k11
      clear hf
      have hf := r5
      refine r_if_eq C 46 dX12_first_25 (by decide) (fun c6 => ?_) (fun c6 => ?_)
      · rw [if_pos c6] at hf
        refine r_iconst (v := (-1)) C dX12_first_46 (by decide) ?_
        cases hf
        exact k4
      · rw [if_neg c6] at hf
        refine r_aload_n (i := 0) C dX12_first_28 rfl 0 rfl ?_
        refine r_aload_n (i := 0) C dX12_first_29 rfl 0 rfl ?_
        refine r_callVi (As := []) (st := [.ref (gad (xG X) 208)]) C 208 rfl (by decide) rfl (kX12_pins (xG X)) cw_X12_65 rfl rfl (Nat.le_of_ble_eq_true rfl) (zr2 hR rfl rfl) (zrcs hcs) dX12_first_30 ?_
        refine r_iconst (v := 1) C dX12_first_33 (by decide) ?_
        refine r_iload_n (i := 3) C dX12_first_34 rfl 3 rfl ?_
        refine r_ishl C dX12_first_35 ?_
        refine r_ior C dX12_first_36 ?_
        obtain ⟨x9, h7, e8, hf⟩ := cl2_of hf
        refine r_callVi (As := [.int ((fX12_pins h) ||| ((1 : Int32) <<< (y3 &&& 31)))]) (st := []) C 208 rfl (by decide) rfl (kX12_standingWith (xG X) e8) cw_X12_302 rfl rfl (Nat.le_of_ble_eq_true rfl) (zr2 hR rfl rfl) (zrcs hcs) dX12_first_37 ?_
        refine r_callSi (As := [.int x9]) (st := []) C (kJ_bitCount (xG X)) cw_X12_356 rfl rfl (Nat.le_of_ble_eq_true rfl) (zr2 hR rfl rfl) (zrcs hcs) dX12_first_40 ?_
        refine r_goto C 47 dX12_first_43 (by decide) ?_
        cases hf
        exact k4
set_option maxHeartbeats 4000000 in
set_option maxRecDepth 100000 in
theorem kX12_first (G : Gx)  {h : Hp}  {rr : Int32} {hh : Hp} (hf : fX12_first h = some (rr, hh)) : MC G yX12_first cX12_first 5 (some .int) 12 768 h [.ref (gad G 208)] (some (.int rr)) hh := by
  refine MC.of RX12 (by decide) rfl (Nat.le_of_ble_eq_true rfl) rfl (fun X C hG hR hF => ?_)
  subst hG
  have hcs : True := trivial
  unfold fX12_first at hf
  refine r_aload_n (i := 0) C dX12_first_0 rfl 0 rfl ?_
  refine r_iconst (v := 0) C dX12_first_1 (by decide) ?_
  obtain ⟨h16, eh16, hf⟩ := lt_of hf
  refine p_X12_3 C eh16 dX12_first_2 ?_
  refine r_iconst (v := (-1)) C dX12_first_5 (by decide) ?_
  refine r_istore_n (i := 1) (lv' := [(0, .ref (gad (xG X) 208)), (1, .int (-1 : Int32))]) C dX12_first_6 rfl (by decide) [1, 0] rfl ?_
  refine r_iconst (v := (-1)) C dX12_first_7 (by decide) ?_
  refine r_istore_n (i := 2) (lv' := [(0, .ref (gad (xG X) 208)), (1, .int (-1 : Int32)), (2, .int (-1 : Int32))]) C dX12_first_8 rfl (by decide) [1, 2, 0] rfl ?_
  refine r_iconst (v := 0) C dX12_first_9 (by decide) ?_
  refine r_istore_n (i := 3) (lv' := [(0, .ref (gad (xG X) 208)), (1, .int (-1 : Int32)), (2, .int (-1 : Int32)), (3, .int (0 : Int32))]) C dX12_first_10 rfl (by decide) [1, 2, 3, 0] rfl ?_
  exact r_lv [0, 1, 2, 3] rfl ((wX12_first  C hR hcs hF big) _ _ _ _ hf)
def BX12_fewest_0  (rec : Hp → Int32 → Int32 → Int32 → Int32 → Int32 → Option (Int32 × Hp)) (h : Hp) (y2 : Int32) (y3 : Int32) (y4 : Int32) (y5 : Int32) (y6 : Int32) : Option (Int32 × Hp) := (if (65535 : Int32) < y6 then some (y4, h) else cl9 ((if (y6 &&& (y3 ^^^ (-1 : Int32))) = (0 : Int32) then (if y5 ≤ (fJ_bitCount y6) then some false else some true) else some false) : Option Bool) (fun q2 => if q2 = true then cl2 (fX12_standingWith h ((fX12_pins h) ||| y6)) (fun x10 h8 => (if (y2 &&& (x10 ^^^ (-1 : Int32))) = (0 : Int32) then lt9 (fJ_bitCount y6) (fun x12 => lt9 (y6 + (1 : Int32)) (fun x13 => rec h8 y2 y3 y6 x12 x13)) else lt9 (y6 + (1 : Int32)) (fun x14 => rec h8 y2 y3 y4 y5 x14))) else lt9 (y6 + (1 : Int32)) (fun x15 => rec h y2 y3 y4 y5 x15)))
def LX12_fewest  : Nat → Hp → Int32 → Int32 → Int32 → Int32 → Int32 → Option (Int32 × Hp)
  | 0, _, _, _, _, _, _ => none
  | n + 1, h, y2, y3, y4, y5, y6 => BX12_fewest_0  (LX12_fewest  n) h y2 y3 y4 y5 y6
def fX12_fewest (h : Hp) (a1 : Int32) : Option (Int32 × Hp) := lt9 (up2 h 208 0 (0 : Int32)) (fun h16 => lt9 (a1 &&& (65535 : Int32)) (fun x17 => lt9 (fX12_openPlaces h16) (fun x18 => LX12_fewest big h16 x17 x18 (-1 : Int32) (5 : Int32) (0 : Int32))))
set_option maxHeartbeats 4000000 in
set_option maxRecDepth 100000 in
theorem wX12_fewest {X : Cx}  {rr : Int32} {hh : Hp} (C : OK X cX12_fewest 7 RX12 (some .int)) (hR : xR X = { frames := 11, cells := 0, slots := 0, locals := 704 }) (hcs : True) (hF : FinR X (some (.int rr)) hh) : ∀ n : Nat, (∀ (h : Hp) (y2 : Int32) (y3 : Int32) (y4 : Int32) (y5 : Int32) (y6 : Int32), LX12_fewest  n h y2 y3 y4 y5 y6 = some (rr, hh) → VW X 7 h 0 0 24 [(0, .ref (gad (xG X) 208)), (2, .int y2), (3, .int y3), (4, .int y4), (5, .int y5), (6, .int y6)] []) := by
  intro n
  induction n with
  | zero => exact (fun _ _ _ _ _ _ hf => (by rw [LX12_fewest] at hf; cases hf))
  | succ n ih =>
    intro h y2 y3 y4 y5 y6 hf
    rw [LX12_fewest] at hf
    unfold BX12_fewest_0 at hf
    refine r_iload (i := 6) C dX12_fewest_24 5 rfl ?_
    refine r_ldc (v := 65535) C dX12_fewest_26 gw_1835 ?_
    refine r_icmp_gt C 88 dX12_fewest_28 (by decide) (fun c1 => ?_) (fun c1 => ?_)
    · rw [if_pos c1] at hf
      refine r_iload (i := 4) C dX12_fewest_88 3 rfl ?_
      cases hf
      exact r_iret C hF dX12_fewest_90
    · rw [if_neg c1] at hf
      refine r_iload (i := 6) C dX12_fewest_31 5 rfl ?_
      refine r_iload_n (i := 3) C dX12_fewest_33 rfl 2 rfl ?_
      refine r_iconst (v := (-1)) C dX12_fewest_34 (by decide) ?_
      refine r_ixor C dX12_fewest_35 ?_
      refine r_iand C dX12_fewest_36 ?_
      obtain ⟨q2, r5, hf⟩ := cl_of hf
      have k3 : q2 = true → VW X 7 h 0 0 50 [(0, .ref (gad (xG X) 208)), (2, .int y2), (3, .int y3), (4, .int y4), (5, .int y5), (6, .int y6)] [] := fun qq => by
        rw [if_pos qq] at hf
        refine r_iload_n (i := 2) C dX12_fewest_50 rfl 1 rfl ?_
        refine r_aload_n (i := 0) C dX12_fewest_51 rfl 0 rfl ?_
        refine r_aload_n (i := 0) C dX12_fewest_52 rfl 0 rfl ?_
        refine r_callVi (As := []) (st := [.ref (gad (xG X) 208), .int y2]) C 208 rfl (by decide) rfl (kX12_pins (xG X)) cw_X12_65 rfl rfl (Nat.le_of_ble_eq_true rfl) (zr2 hR rfl rfl) (zrcs hcs) dX12_fewest_53 ?_
        refine r_iload (i := 6) C dX12_fewest_56 5 rfl ?_
        refine r_ior C dX12_fewest_58 ?_
        obtain ⟨x10, h8, e9, hf⟩ := cl2_of hf
        refine r_callVi (As := [.int ((fX12_pins h) ||| y6)]) (st := [.int y2]) C 208 rfl (by decide) rfl (kX12_standingWith (xG X) e9) cw_X12_302 rfl rfl (Nat.le_of_ble_eq_true rfl) (zr2 hR rfl rfl) (zrcs hcs) dX12_fewest_59 ?_
        refine r_iconst (v := (-1)) C dX12_fewest_62 (by decide) ?_
        refine r_ixor C dX12_fewest_63 ?_
        refine r_iand C dX12_fewest_64 ?_
        refine r_if_eq C 71 dX12_fewest_65 (by decide) (fun c11 => ?_) (fun c11 => ?_)
        · rw [if_pos c11] at hf
          refine r_iload (i := 6) C dX12_fewest_71 5 rfl ?_
          refine r_istore (i := 4) (lv' := [(0, .ref (gad (xG X) 208)), (2, .int y2), (3, .int y3), (4, .int y6), (5, .int y5), (6, .int y6)]) C dX12_fewest_73 (by decide) [1, 2, 3, 0, 4, 5] rfl ?_
          refine r_iload (i := 6) C dX12_fewest_75 5 rfl ?_
          refine r_callSi (As := [.int y6]) (st := []) C (kJ_bitCount (xG X)) cw_X12_356 rfl rfl (Nat.le_of_ble_eq_true rfl) (zr2 hR rfl rfl) (zrcs hcs) dX12_fewest_77 ?_
          obtain ⟨x12, ex12, hf⟩ := lt_of hf
          refine r_top ex12 ?_
          refine r_istore (i := 5) (lv' := [(0, .ref (gad (xG X) 208)), (2, .int y2), (3, .int y3), (4, .int y6), (5, .int x12), (6, .int y6)]) C dX12_fewest_80 (by decide) [1, 2, 3, 4, 0, 5] rfl ?_
          obtain ⟨x13, ex13, hf⟩ := lt_of hf
          refine r_iinc (j := 5) (v := x13) (lv' := [(0, .ref (gad (xG X) 208)), (2, .int y2), (3, .int y3), (4, .int y6), (5, .int x12), (6, .int x13)]) C dX12_fewest_82 rfl (by rw [ex13]; rfl) (by decide) [1, 2, 3, 4, 5, 0] rfl ?_
          refine r_goto C 24 dX12_fewest_85 (by decide) ?_
          exact r_lv [0, 1, 2, 3, 4, 5] rfl (ih _ _ _ _ _ _ hf)
        · rw [if_neg c11] at hf
          refine r_goto C 82 dX12_fewest_68 (by decide) ?_
          obtain ⟨x14, ex14, hf⟩ := lt_of hf
          refine r_iinc (j := 5) (v := x14) (lv' := [(0, .ref (gad (xG X) 208)), (2, .int y2), (3, .int y3), (4, .int y4), (5, .int y5), (6, .int x14)]) C dX12_fewest_82 rfl (by rw [ex14]; rfl) (by decide) [1, 2, 3, 4, 5, 0] rfl ?_
          refine r_goto C 24 dX12_fewest_85 (by decide) ?_
          exact r_lv [0, 1, 2, 3, 4, 5] rfl (ih _ _ _ _ _ _ hf)
      have k4 : q2 = false → VW X 7 h 0 0 82 [(0, .ref (gad (xG X) 208)), (2, .int y2), (3, .int y3), (4, .int y4), (5, .int y5), (6, .int y6)] [] := fun qq => by
        rw [if_neg (by rw [qq]; decide)] at hf
        obtain ⟨x15, ex15, hf⟩ := lt_of hf
        refine r_iinc (j := 5) (v := x15) (lv' := [(0, .ref (gad (xG X) 208)), (2, .int y2), (3, .int y3), (4, .int y4), (5, .int y5), (6, .int x15)]) C dX12_fewest_82 rfl (by rw [ex15]; rfl) (by decide) [1, 2, 3, 4, 5, 0] rfl ?_
        refine r_goto C 24 dX12_fewest_85 (by decide) ?_
        exact r_lv [0, 1, 2, 3, 4, 5] rfl (ih _ _ _ _ _ _ hf)
      clear hf
      have hf := r5
      refine r_if_ne C 82 dX12_fewest_37 (by decide) (fun c6 => ?_) (fun c6 => ?_)
      · rw [if_neg c6] at hf
        exact k4 (Option.some.inj hf).symm
      · rw [if_pos c6] at hf
        refine r_iload (i := 6) C dX12_fewest_40 5 rfl ?_
        refine r_callSi (As := [.int y6]) (st := []) C (kJ_bitCount (xG X)) cw_X12_356 rfl rfl (Nat.le_of_ble_eq_true rfl) (zr2 hR rfl rfl) (zrcs hcs) dX12_fewest_42 ?_
        refine r_iload (i := 5) C dX12_fewest_45 4 rfl ?_
        refine r_icmp_ge C 82 dX12_fewest_47 (by decide) (fun c7 => ?_) (fun c7 => ?_)
        · rw [if_pos c7] at hf
          exact k4 (Option.some.inj hf).symm
        · rw [if_neg c7] at hf
          exact k3 (Option.some.inj hf).symm
set_option maxHeartbeats 4000000 in
set_option maxRecDepth 100000 in
theorem kX12_fewest (G : Gx)  {h : Hp} {a1 : Int32} {rr : Int32} {hh : Hp} (hf : fX12_fewest h a1 = some (rr, hh)) : MC G yX12_fewest cX12_fewest 7 (some .int) 11 704 h [.ref (gad G 208), .int a1] (some (.int rr)) hh := by
  refine MC.of RX12 (by decide) rfl (Nat.le_of_ble_eq_true rfl) rfl (fun X C hG hR hF => ?_)
  subst hG
  have hcs : True := trivial
  unfold fX12_fewest at hf
  refine r_aload_n (i := 0) C dX12_fewest_0 rfl 0 rfl ?_
  refine r_iconst (v := 0) C dX12_fewest_1 (by decide) ?_
  obtain ⟨h16, eh16, hf⟩ := lt_of hf
  refine p_X12_3 C eh16 dX12_fewest_2 ?_
  refine r_iload_n (i := 1) C dX12_fewest_5 rfl 1 rfl ?_
  refine r_ldc (v := 65535) C dX12_fewest_6 gw_1835 ?_
  refine r_iand C dX12_fewest_8 ?_
  obtain ⟨x17, ex17, hf⟩ := lt_of hf
  refine r_top ex17 ?_
  refine r_istore_n (i := 2) (lv' := [(0, .ref (gad (xG X) 208)), (1, .int a1), (2, .int x17)]) C dX12_fewest_9 rfl (by decide) [1, 2, 0] rfl ?_
  refine r_aload_n (i := 0) C dX12_fewest_10 rfl 0 rfl ?_
  refine r_callVi (As := []) (st := []) C 208 rfl (by decide) rfl (kX12_openPlaces (xG X)) cw_X12_361 rfl rfl (Nat.le_of_ble_eq_true rfl) (zr2 hR rfl rfl) (zrcs hcs) dX12_fewest_11 ?_
  obtain ⟨x18, ex18, hf⟩ := lt_of hf
  refine r_top ex18 ?_
  refine r_istore_n (i := 3) (lv' := [(0, .ref (gad (xG X) 208)), (1, .int a1), (2, .int x17), (3, .int x18)]) C dX12_fewest_14 rfl (by decide) [1, 2, 3, 0] rfl ?_
  refine r_iconst (v := (-1)) C dX12_fewest_15 (by decide) ?_
  refine r_istore (i := 4) (lv' := [(0, .ref (gad (xG X) 208)), (1, .int a1), (2, .int x17), (3, .int x18), (4, .int (-1 : Int32))]) C dX12_fewest_16 (by decide) [1, 2, 3, 4, 0] rfl ?_
  refine r_iconst (v := 5) C dX12_fewest_18 (by decide) ?_
  refine r_istore (i := 5) (lv' := [(0, .ref (gad (xG X) 208)), (1, .int a1), (2, .int x17), (3, .int x18), (4, .int (-1 : Int32)), (5, .int (5 : Int32))]) C dX12_fewest_19 (by decide) [1, 2, 3, 4, 5, 0] rfl ?_
  refine r_iconst (v := 0) C dX12_fewest_21 (by decide) ?_
  refine r_istore (i := 6) (lv' := [(0, .ref (gad (xG X) 208)), (1, .int a1), (2, .int x17), (3, .int x18), (4, .int (-1 : Int32)), (5, .int (5 : Int32)), (6, .int (0 : Int32))]) C dX12_fewest_22 (by decide) [1, 2, 3, 4, 5, 6, 0] rfl ?_
  exact r_lv [0, 2, 3, 4, 5, 6] rfl ((wX12_fewest  C hR hcs hF big) _ _ _ _ _ _ hf)
def fX12_lowestOf (h : Hp) (a1 : Int32) (a2 : Int32) : Option (Int32) := (if a1 = (0 : Int32) then some a2 else cl9 (fJ_numberOfTrailingZeros h a1) (fun x2 => some (jmin a2 x2)))
set_option maxHeartbeats 4000000 in
set_option maxRecDepth 100000 in
theorem kX12_lowestOf (G : Gx)  {h : Hp} {a1 : Int32} {a2 : Int32} {rr : Int32} (hf : fX12_lowestOf h a1 a2 = some rr) : MC G yX12_lowestOf cX12_lowestOf 3 (some .int) 3 192 h [.ref (gad G 208), .int a1, .int a2] (some (.int rr)) h := by
  refine MC.of RX12 (by decide) rfl (Nat.le_of_ble_eq_true rfl) rfl (fun X C hG hR hF => ?_)
  subst hG
  have hcs : True := trivial
  unfold fX12_lowestOf at hf
  refine r_iload_n (i := 1) C dX12_lowestOf_0 rfl 1 rfl ?_
  refine r_if_ne C 8 dX12_lowestOf_1 (by decide) (fun c1 => ?_) (fun c1 => ?_)
  · rw [if_neg c1] at hf
    refine r_iload_n (i := 2) C dX12_lowestOf_8 rfl 2 rfl ?_
    refine r_iload_n (i := 1) C dX12_lowestOf_9 rfl 1 rfl ?_
    obtain ⟨x2, e3, hf⟩ := cl_of hf
    refine r_callSi (As := [.int a1]) (st := [.int a2]) C (kJ_numberOfTrailingZeros (xG X) e3) cw_X12_364 rfl rfl (Nat.le_of_ble_eq_true rfl) (zr2 hR rfl rfl) (zrcs hcs) dX12_lowestOf_10 ?_
    refine r_mmin9 C gw_1797 gm_min_s gm_i gm_min_c (zr1 hR rfl) (zr0 hR (Nat.le_of_ble_eq_true rfl)) (zrcs hcs) dX12_lowestOf_13 ?_
    cases hf
    exact r_iret C hF dX12_lowestOf_16
  · rw [if_pos c1] at hf
    refine r_iload_n (i := 2) C dX12_lowestOf_4 rfl 2 rfl ?_
    refine r_goto C 16 dX12_lowestOf_5 (by decide) ?_
    cases hf
    exact r_iret C hF dX12_lowestOf_16
def fX12_highestOf (h : Hp) (a1 : Int32) (a2 : Int32) : Option (Int32) := (if a1 = (0 : Int32) then some a2 else cl9 (fJ_numberOfLeadingZeros h a1) (fun x2 => some (jmax a2 ((31 : Int32) - x2))))
set_option maxHeartbeats 4000000 in
set_option maxRecDepth 100000 in
theorem kX12_highestOf (G : Gx)  {h : Hp} {a1 : Int32} {a2 : Int32} {rr : Int32} (hf : fX12_highestOf h a1 a2 = some rr) : MC G yX12_highestOf cX12_highestOf 3 (some .int) 3 192 h [.ref (gad G 208), .int a1, .int a2] (some (.int rr)) h := by
  refine MC.of RX12 (by decide) rfl (Nat.le_of_ble_eq_true rfl) rfl (fun X C hG hR hF => ?_)
  subst hG
  have hcs : True := trivial
  unfold fX12_highestOf at hf
  refine r_iload_n (i := 1) C dX12_highestOf_0 rfl 1 rfl ?_
  refine r_if_ne C 8 dX12_highestOf_1 (by decide) (fun c1 => ?_) (fun c1 => ?_)
  · rw [if_neg c1] at hf
    refine r_iload_n (i := 2) C dX12_highestOf_8 rfl 2 rfl ?_
    refine r_bipush (v := 31) C dX12_highestOf_9 (by decide) ?_
    refine r_iload_n (i := 1) C dX12_highestOf_11 rfl 1 rfl ?_
    obtain ⟨x2, e3, hf⟩ := cl_of hf
    refine r_callSi (As := [.int a1]) (st := [.int (31 : Int32), .int a2]) C (kJ_numberOfLeadingZeros (xG X) e3) cw_X12_367 rfl rfl (Nat.le_of_ble_eq_true rfl) (zr2 hR rfl rfl) (zrcs hcs) dX12_highestOf_12 ?_
    refine r_isub C dX12_highestOf_15 ?_
    refine r_mmax9 C gw_1806 gm_max_s gm_i gm_max_c (zr1 hR rfl) (zr0 hR (Nat.le_of_ble_eq_true rfl)) (zrcs hcs) dX12_highestOf_16 ?_
    cases hf
    exact r_iret C hF dX12_highestOf_19
  · rw [if_pos c1] at hf
    refine r_iload_n (i := 2) C dX12_highestOf_4 rfl 2 rfl ?_
    refine r_goto C 19 dX12_highestOf_5 (by decide) ?_
    cases hf
    exact r_iret C hF dX12_highestOf_19
def fX12_round (h : Hp) (a1 : Int32) (a2 : Int32) (a3 : Int32) : Option (Int32 × Hp) := lt9 (up2 h 208 0 (0 : Int32)) (fun h1 => cl2 (fX12_throwsIf h1 (fX12_noPinner h1 a1) (1 : Int32)) (fun x4 h2 => (if x4 = (0 : Int32) then cl9 (fX12_of h2 a1 (0 : Int32)) (fun x6 => lt9 (a2 &&& (65535 : Int32)) (fun x8 => cl9 (fX12_lowestOf h2 x8 x6) (fun x9 => cl9 (fX12_highestOf h2 x8 x6) (fun x11 => lt9 (x6 - x9) (fun x13 => lt9 (x11 - x6) (fun x14 => (if a3 = (0 : Int32) then some (((x13 + x14) + (jmin x13 x14)), h2) else (if x13 = (0 : Int32) then some (x11, h2) else (if x14 = (0 : Int32) then some (x9, h2) else (if x13 < x14 then some (x11, h2) else some (x9, h2))))))))))) else some ((0 : Int32), h2))))
set_option maxHeartbeats 4000000 in
set_option maxRecDepth 100000 in
theorem kX12_round (G : Gx)  {h : Hp} {a1 : Int32} {a2 : Int32} {a3 : Int32} {rr : Int32} {hh : Hp} (hf : fX12_round h a1 a2 a3 = some (rr, hh)) : MC G yX12_round cX12_round 10 (some .int) 5 320 h [.ref (gad G 208), .int a1, .int a2, .int a3] (some (.int rr)) hh := by
  refine MC.of RX12 (by decide) rfl (Nat.le_of_ble_eq_true rfl) rfl (fun X C hG hR hF => ?_)
  subst hG
  have hcs : True := trivial
  unfold fX12_round at hf
  refine r_aload_n (i := 0) C dX12_round_0 rfl 0 rfl ?_
  refine r_iconst (v := 0) C dX12_round_1 (by decide) ?_
  obtain ⟨h1, eh1, hf⟩ := lt_of hf
  refine p_X12_3 C eh1 dX12_round_2 ?_
  refine r_aload_n (i := 0) C dX12_round_5 rfl 0 rfl ?_
  refine r_aload_n (i := 0) C dX12_round_6 rfl 0 rfl ?_
  refine r_iload_n (i := 1) C dX12_round_7 rfl 1 rfl ?_
  refine r_callVi (As := [.int a1]) (st := [.ref (gad (xG X) 208)]) C 208 rfl (by decide) rfl (kX12_noPinner (xG X)) cw_X12_311 rfl rfl (Nat.le_of_ble_eq_true rfl) (zr2 hR rfl rfl) (zrcs hcs) dX12_round_8 ?_
  refine r_iconst (v := 1) C dX12_round_11 (by decide) ?_
  obtain ⟨x4, h2, e3, hf⟩ := cl2_of hf
  refine r_callVi (As := [.int (fX12_noPinner h1 a1), .int (1 : Int32)]) (st := []) C 208 rfl (by decide) rfl (kX12_throwsIf (xG X) e3) cw_X12_247 rfl rfl (Nat.le_of_ble_eq_true rfl) (zr2 hR rfl rfl) (zrcs hcs) dX12_round_12 ?_
  refine r_if_eq C 20 dX12_round_15 (by decide) (fun c5 => ?_) (fun c5 => ?_)
  · rw [if_pos c5] at hf
    refine r_aload_n (i := 0) C dX12_round_20 rfl 0 rfl ?_
    refine r_iload_n (i := 1) C dX12_round_21 rfl 1 rfl ?_
    refine r_iconst (v := 0) C dX12_round_22 (by decide) ?_
    obtain ⟨x6, e7, hf⟩ := cl_of hf
    refine r_callVi (As := [.int a1, .int (0 : Int32)]) (st := []) C 208 rfl (by decide) rfl (kX12_of (xG X) e7) cw_X12_314 rfl rfl (Nat.le_of_ble_eq_true rfl) (zr2 hR rfl rfl) (zrcs hcs) dX12_round_23 ?_
    refine r_istore (i := 4) (lv' := [(0, .ref (gad (xG X) 208)), (1, .int a1), (2, .int a2), (3, .int a3), (4, .int x6)]) C dX12_round_26 (by decide) [1, 2, 3, 4, 0] rfl ?_
    refine r_iload_n (i := 2) C dX12_round_28 rfl 2 rfl ?_
    refine r_ldc (v := 65535) C dX12_round_29 gw_1835 ?_
    refine r_iand C dX12_round_31 ?_
    obtain ⟨x8, ex8, hf⟩ := lt_of hf
    refine r_top ex8 ?_
    refine r_istore (i := 5) (lv' := [(0, .ref (gad (xG X) 208)), (1, .int a1), (2, .int a2), (3, .int a3), (4, .int x6), (5, .int x8)]) C dX12_round_32 (by decide) [1, 2, 3, 4, 5, 0] rfl ?_
    refine r_aload_n (i := 0) C dX12_round_34 rfl 0 rfl ?_
    refine r_iload (i := 5) C dX12_round_35 5 rfl ?_
    refine r_iload (i := 4) C dX12_round_37 4 rfl ?_
    obtain ⟨x9, e10, hf⟩ := cl_of hf
    refine r_callVi (As := [.int x8, .int x6]) (st := []) C 208 rfl (by decide) rfl (kX12_lowestOf (xG X) e10) cw_X12_370 rfl rfl (Nat.le_of_ble_eq_true rfl) (zr2 hR rfl rfl) (zrcs hcs) dX12_round_39 ?_
    refine r_istore (i := 6) (lv' := [(0, .ref (gad (xG X) 208)), (1, .int a1), (2, .int a2), (3, .int a3), (4, .int x6), (5, .int x8), (6, .int x9)]) C dX12_round_42 (by decide) [1, 2, 3, 4, 5, 6, 0] rfl ?_
    refine r_aload_n (i := 0) C dX12_round_44 rfl 0 rfl ?_
    refine r_iload (i := 5) C dX12_round_45 5 rfl ?_
    refine r_iload (i := 4) C dX12_round_47 4 rfl ?_
    obtain ⟨x11, e12, hf⟩ := cl_of hf
    refine r_callVi (As := [.int x8, .int x6]) (st := []) C 208 rfl (by decide) rfl (kX12_highestOf (xG X) e12) cw_X12_373 rfl rfl (Nat.le_of_ble_eq_true rfl) (zr2 hR rfl rfl) (zrcs hcs) dX12_round_49 ?_
    refine r_istore (i := 7) (lv' := [(0, .ref (gad (xG X) 208)), (1, .int a1), (2, .int a2), (3, .int a3), (4, .int x6), (5, .int x8), (6, .int x9), (7, .int x11)]) C dX12_round_52 (by decide) [1, 2, 3, 4, 5, 6, 7, 0] rfl ?_
    refine r_iload (i := 4) C dX12_round_54 4 rfl ?_
    refine r_iload (i := 6) C dX12_round_56 6 rfl ?_
    refine r_isub C dX12_round_58 ?_
    obtain ⟨x13, ex13, hf⟩ := lt_of hf
    refine r_top ex13 ?_
    refine r_istore (i := 8) (lv' := [(0, .ref (gad (xG X) 208)), (1, .int a1), (2, .int a2), (3, .int a3), (4, .int x6), (5, .int x8), (6, .int x9), (7, .int x11), (8, .int x13)]) C dX12_round_59 (by decide) [1, 2, 3, 4, 5, 6, 7, 8, 0] rfl ?_
    refine r_iload (i := 7) C dX12_round_61 7 rfl ?_
    refine r_iload (i := 4) C dX12_round_63 4 rfl ?_
    refine r_isub C dX12_round_65 ?_
    obtain ⟨x14, ex14, hf⟩ := lt_of hf
    refine r_top ex14 ?_
    refine r_istore (i := 9) (lv' := [(0, .ref (gad (xG X) 208)), (1, .int a1), (2, .int a2), (3, .int a3), (4, .int x6), (5, .int x8), (6, .int x9), (7, .int x11), (8, .int x13), (9, .int x14)]) C dX12_round_66 (by decide) [1, 2, 3, 4, 5, 6, 7, 8, 9, 0] rfl ?_
    refine r_iload_n (i := 3) C dX12_round_68 rfl 3 rfl ?_
    refine r_if_ne C 86 dX12_round_69 (by decide) (fun c15 => ?_) (fun c15 => ?_)
    · rw [if_neg c15] at hf
      refine r_iload (i := 8) C dX12_round_86 8 rfl ?_
      refine r_if_ne C 96 dX12_round_88 (by decide) (fun c16 => ?_) (fun c16 => ?_)
      · rw [if_neg c16] at hf
        refine r_iload (i := 9) C dX12_round_96 9 rfl ?_
        refine r_if_eq C 108 dX12_round_98 (by decide) (fun c17 => ?_) (fun c17 => ?_)
        · rw [if_pos c17] at hf
          refine r_iload (i := 6) C dX12_round_108 6 rfl ?_
          refine r_goto C 115 dX12_round_110 (by decide) ?_
          cases hf
          exact r_iret C hF dX12_round_115
        · rw [if_neg c17] at hf
          refine r_iload (i := 9) C dX12_round_101 9 rfl ?_
          refine r_iload (i := 8) C dX12_round_103 8 rfl ?_
          refine r_icmp_gt C 113 dX12_round_105 (by decide) (fun c18 => ?_) (fun c18 => ?_)
          · rw [if_pos c18] at hf
            refine r_iload (i := 7) C dX12_round_113 7 rfl ?_
            cases hf
            exact r_iret C hF dX12_round_115
          · rw [if_neg c18] at hf
            refine r_iload (i := 6) C dX12_round_108 6 rfl ?_
            refine r_goto C 115 dX12_round_110 (by decide) ?_
            cases hf
            exact r_iret C hF dX12_round_115
      · rw [if_pos c16] at hf
        refine r_iload (i := 7) C dX12_round_91 7 rfl ?_
        refine r_goto C 115 dX12_round_93 (by decide) ?_
        cases hf
        exact r_iret C hF dX12_round_115
    · rw [if_pos c15] at hf
      refine r_iload (i := 8) C dX12_round_72 8 rfl ?_
      refine r_iload (i := 9) C dX12_round_74 9 rfl ?_
      refine r_iadd C dX12_round_76 ?_
      refine r_iload (i := 8) C dX12_round_77 8 rfl ?_
      refine r_iload (i := 9) C dX12_round_79 9 rfl ?_
      refine r_mmin9 C gw_1797 gm_min_s gm_i gm_min_c (zr1 hR rfl) (zr0 hR (Nat.le_of_ble_eq_true rfl)) (zrcs hcs) dX12_round_81 ?_
      refine r_iadd C dX12_round_84 ?_
      cases hf
      exact r_iret C hF dX12_round_85
  · rw [if_neg c5] at hf
    refine r_iconst (v := 0) C dX12_round_18 (by decide) ?_
    cases hf
    exact r_iret C hF dX12_round_19
def BX12_laysSets_0  (rec : Hp → Int32 → Option (Hp)) (h : Hp) (y1 : Int32) : Option (Hp) := (if (fX12_pins h) < y1 then some h else cl9 ((if (y1 &&& ((fX12_pins h) ^^^ (-1 : Int32))) = (0 : Int32) then (if (2 : Int32) < (fJ_bitCount y1) then some false else some true) else some false) : Option Bool) (fun q2 => if q2 = true then cl2 (fX12_fits h y1) (fun x10 h8 => (if x10 = (0 : Int32) then lt9 (y1 + (1 : Int32)) (fun x16 => rec h8 x16) else gd (inb (h8 208 22) 273) (lt9 (up2 h8 218 (h8 208 22).toNatClampNeg y1) (fun h13 => lt9 (up2 h13 208 22 ((h13 208 22) + (1 : Int32))) (fun h14 => lt9 (y1 + (1 : Int32)) (fun x15 => rec h14 x15)))))) else lt9 (y1 + (1 : Int32)) (fun x17 => rec h x17)))
def LX12_laysSets  : Nat → Hp → Int32 → Option (Hp)
  | 0, _, _ => none
  | n + 1, h, y1 => BX12_laysSets_0  (LX12_laysSets  n) h y1
def fX12_laysSets (h : Hp) : Option (Hp) := lt9 (up2 h 208 22 (0 : Int32)) (fun h18 => LX12_laysSets big h18 (0 : Int32))
set_option maxHeartbeats 4000000 in
set_option maxRecDepth 100000 in
theorem wX12_laysSets {X : Cx}  {hh : Hp} (C : OK X cX12_laysSets 2 RX12 none) (hR : xR X = { frames := 11, cells := 0, slots := 0, locals := 704 }) (hcs : True) (hF : FinR X none hh) : ∀ n : Nat, (∀ (h : Hp) (y1 : Int32), LX12_laysSets  n h y1 = some hh → VW X 2 h 0 0 7 [(0, .ref (gad (xG X) 208)), (1, .int y1)] []) := by
  intro n
  induction n with
  | zero => exact (fun _ _ hf => (by rw [LX12_laysSets] at hf; cases hf))
  | succ n ih =>
    intro h y1 hf
    rw [LX12_laysSets] at hf
    unfold BX12_laysSets_0 at hf
    refine r_iload_n (i := 1) C dX12_laysSets_7 rfl 1 rfl ?_
    refine r_aload_n (i := 0) C dX12_laysSets_8 rfl 0 rfl ?_
    refine r_callVi (As := []) (st := [.int y1]) C 208 rfl (by decide) rfl (kX12_pins (xG X)) cw_X12_65 rfl rfl (Nat.le_of_ble_eq_true rfl) (zr2 hR rfl rfl) (zrcs hcs) dX12_laysSets_9 ?_
    refine r_icmp_gt C 71 dX12_laysSets_12 (by decide) (fun c1 => ?_) (fun c1 => ?_)
    · rw [if_pos c1] at hf
      cases hf
      exact r_vret C hF dX12_laysSets_71
    · rw [if_neg c1] at hf
      refine r_iload_n (i := 1) C dX12_laysSets_15 rfl 1 rfl ?_
      refine r_aload_n (i := 0) C dX12_laysSets_16 rfl 0 rfl ?_
      refine r_callVi (As := []) (st := [.int y1]) C 208 rfl (by decide) rfl (kX12_pins (xG X)) cw_X12_65 rfl rfl (Nat.le_of_ble_eq_true rfl) (zr2 hR rfl rfl) (zrcs hcs) dX12_laysSets_17 ?_
      refine r_iconst (v := (-1)) C dX12_laysSets_20 (by decide) ?_
      refine r_ixor C dX12_laysSets_21 ?_
      refine r_iand C dX12_laysSets_22 ?_
      obtain ⟨q2, r5, hf⟩ := cl_of hf
      have k3 : q2 = true → VW X 2 h 0 0 34 [(0, .ref (gad (xG X) 208)), (1, .int y1)] [] := fun qq => by
        rw [if_pos qq] at hf
        refine r_aload_n (i := 0) C dX12_laysSets_34 rfl 0 rfl ?_
        refine r_iload_n (i := 1) C dX12_laysSets_35 rfl 1 rfl ?_
        obtain ⟨x10, h8, e9, hf⟩ := cl2_of hf
        refine r_callVi (As := [.int y1]) (st := []) C 208 rfl (by decide) rfl (kX12_fits (xG X) e9) cw_X12_392 rfl rfl (Nat.le_of_ble_eq_true rfl) (zr2 hR rfl rfl) (zrcs hcs) dX12_laysSets_36 ?_
        refine r_if_ne C 45 dX12_laysSets_39 (by decide) (fun c11 => ?_) (fun c11 => ?_)
        · rw [if_neg c11] at hf
          refine r_aload_n (i := 0) C dX12_laysSets_45 rfl 0 rfl ?_
          refine g_X12_45 C dX12_laysSets_46 ?_
          refine r_aload_n (i := 0) C dX12_laysSets_49 rfl 0 rfl ?_
          refine g_X12_389 C dX12_laysSets_50 ?_
          refine r_iload_n (i := 1) C dX12_laysSets_53 rfl 1 rfl ?_
          obtain ⟨g12, hf⟩ := gd_of hf
          obtain ⟨h13, eh13, hf⟩ := lt_of hf
          refine r_iast C 218 eh13 rfl (by decide) g12 dX12_laysSets_54 ?_
          refine r_aload_n (i := 0) C dX12_laysSets_55 rfl 0 rfl ?_
          refine r_dup C dX12_laysSets_56 rfl ?_
          refine g_X12_389 C dX12_laysSets_57 ?_
          refine r_iconst (v := 1) C dX12_laysSets_60 (by decide) ?_
          refine r_iadd C dX12_laysSets_61 ?_
          obtain ⟨h14, eh14, hf⟩ := lt_of hf
          refine p_X12_389 C eh14 dX12_laysSets_62 ?_
          obtain ⟨x15, ex15, hf⟩ := lt_of hf
          refine r_iinc (j := 1) (v := x15) (lv' := [(0, .ref (gad (xG X) 208)), (1, .int x15)]) C dX12_laysSets_65 rfl (by rw [ex15]; rfl) (by decide) [1, 0] rfl ?_
          refine r_goto C 7 dX12_laysSets_68 (by decide) ?_
          exact r_lv [0, 1] rfl (ih _ _ hf)
        · rw [if_pos c11] at hf
          refine r_goto C 65 dX12_laysSets_42 (by decide) ?_
          obtain ⟨x16, ex16, hf⟩ := lt_of hf
          refine r_iinc (j := 1) (v := x16) (lv' := [(0, .ref (gad (xG X) 208)), (1, .int x16)]) C dX12_laysSets_65 rfl (by rw [ex16]; rfl) (by decide) [1, 0] rfl ?_
          refine r_goto C 7 dX12_laysSets_68 (by decide) ?_
          exact r_lv [0, 1] rfl (ih _ _ hf)
      have k4 : q2 = false → VW X 2 h 0 0 65 [(0, .ref (gad (xG X) 208)), (1, .int y1)] [] := fun qq => by
        rw [if_neg (by rw [qq]; decide)] at hf
        obtain ⟨x17, ex17, hf⟩ := lt_of hf
        refine r_iinc (j := 1) (v := x17) (lv' := [(0, .ref (gad (xG X) 208)), (1, .int x17)]) C dX12_laysSets_65 rfl (by rw [ex17]; rfl) (by decide) [1, 0] rfl ?_
        refine r_goto C 7 dX12_laysSets_68 (by decide) ?_
        exact r_lv [0, 1] rfl (ih _ _ hf)
      clear hf
      have hf := r5
      refine r_if_ne C 65 dX12_laysSets_23 (by decide) (fun c6 => ?_) (fun c6 => ?_)
      · rw [if_neg c6] at hf
        exact k4 (Option.some.inj hf).symm
      · rw [if_pos c6] at hf
        refine r_iload_n (i := 1) C dX12_laysSets_26 rfl 1 rfl ?_
        refine r_callSi (As := [.int y1]) (st := []) C (kJ_bitCount (xG X)) cw_X12_356 rfl rfl (Nat.le_of_ble_eq_true rfl) (zr2 hR rfl rfl) (zrcs hcs) dX12_laysSets_27 ?_
        refine r_iconst (v := 2) C dX12_laysSets_30 (by decide) ?_
        refine r_icmp_gt C 65 dX12_laysSets_31 (by decide) (fun c7 => ?_) (fun c7 => ?_)
        · rw [if_pos c7] at hf
          exact k4 (Option.some.inj hf).symm
        · rw [if_neg c7] at hf
          exact k3 (Option.some.inj hf).symm
set_option maxHeartbeats 4000000 in
set_option maxRecDepth 100000 in
theorem kX12_laysSets (G : Gx)  {h : Hp}  {hh : Hp} (hf : fX12_laysSets h = some hh) : MC G yX12_laysSets cX12_laysSets 2 none 11 704 h [.ref (gad G 208)] none hh := by
  refine MC.of RX12 (by decide) rfl (Nat.le_of_ble_eq_true rfl) rfl (fun X C hG hR hF => ?_)
  subst hG
  have hcs : True := trivial
  unfold fX12_laysSets at hf
  refine r_aload_n (i := 0) C dX12_laysSets_0 rfl 0 rfl ?_
  refine r_iconst (v := 0) C dX12_laysSets_1 (by decide) ?_
  obtain ⟨h18, eh18, hf⟩ := lt_of hf
  refine p_X12_389 C eh18 dX12_laysSets_2 ?_
  refine r_iconst (v := 0) C dX12_laysSets_5 (by decide) ?_
  refine r_istore_n (i := 1) (lv' := [(0, .ref (gad (xG X) 208)), (1, .int (0 : Int32))]) C dX12_laysSets_6 rfl (by decide) [1, 0] rfl ?_
  exact r_lv [0, 1] rfl ((wX12_laysSets  C hR hcs hF big) _ _ hf)
def BX12_seen_0  (rec : Hp → Int32 → Int32 → Int32 → Option (Int32 × Hp)) (h : Hp) (y1 : Int32) (y2 : Int32) (y3 : Int32) : Option (Int32 × Hp) := (if (h 208 22) ≤ y3 then (if y1 = (0 : Int32) then some ((h 208 22), h) else some (y2, h)) else gd (inb y3 273) (lt9 (y2 &&& (h 218 y3.toNatClampNeg)) (fun x4 => lt9 (y3 + (1 : Int32)) (fun x5 => rec h y1 x4 x5))))
def LX12_seen  : Nat → Hp → Int32 → Int32 → Int32 → Option (Int32 × Hp)
  | 0, _, _, _, _ => none
  | n + 1, h, y1, y2, y3 => BX12_seen_0  (LX12_seen  n) h y1 y2 y3
def fX12_seen (h : Hp) (a1 : Int32) : Option (Int32 × Hp) := cl9 (fX12_uses h) (fun h6 => cl9 (fX12_isTold h6) (fun x8 => cl9 ((if x8 = (0 : Int32) then some (1 : Int32) else some (0 : Int32)) : Option (Int32)) (fun v10 => cl2 (fX12_throwsIf h6 v10 (1 : Int32)) (fun x16 h14 => (if x16 = (0 : Int32) then cl9 (fX12_laysSets h14) (fun h18 => (if (h18 208 22) = (0 : Int32) then LX12_seen big h18 a1 (0 : Int32) (0 : Int32) else LX12_seen big h18 a1 (65535 : Int32) (0 : Int32))) else some ((0 : Int32), h14))))))
set_option maxHeartbeats 4000000 in
set_option maxRecDepth 100000 in
theorem wX12_seen {X : Cx}  {rr : Int32} {hh : Hp} (C : OK X cX12_seen 4 RX12 (some .int)) (hR : xR X = { frames := 12, cells := 0, slots := 0, locals := 768 }) (hcs : True) (hF : FinR X (some (.int rr)) hh) : ∀ n : Nat, (∀ (h : Hp) (y1 : Int32) (y2 : Int32) (y3 : Int32), LX12_seen  n h y1 y2 y3 = some (rr, hh) → VW X 4 h 0 0 46 [(0, .ref (gad (xG X) 208)), (1, .int y1), (2, .int y2), (3, .int y3)] []) := by
  intro n
  induction n with
  | zero => exact (fun _ _ _ _ hf => (by rw [LX12_seen] at hf; cases hf))
  | succ n ih =>
    intro h y1 y2 y3 hf
    rw [LX12_seen] at hf
    unfold BX12_seen_0 at hf
    refine r_iload_n (i := 3) C dX12_seen_46 rfl 3 rfl ?_
    refine r_aload_n (i := 0) C dX12_seen_47 rfl 0 rfl ?_
    refine g_X12_389 C dX12_seen_48 ?_
    refine r_icmp_ge C 69 dX12_seen_51 (by decide) (fun c1 => ?_) (fun c1 => ?_)
    · rw [if_pos c1] at hf
      refine r_iload_n (i := 1) C dX12_seen_69 rfl 1 rfl ?_
      refine r_if_eq C 77 dX12_seen_70 (by decide) (fun c2 => ?_) (fun c2 => ?_)
      · rw [if_pos c2] at hf
        refine r_aload_n (i := 0) C dX12_seen_77 rfl 0 rfl ?_
        refine g_X12_389 C dX12_seen_78 ?_
        cases hf
        exact r_iret C hF dX12_seen_81
      · rw [if_neg c2] at hf
        refine r_iload_n (i := 2) C dX12_seen_73 rfl 2 rfl ?_
        refine r_goto C 81 dX12_seen_74 (by decide) ?_
        cases hf
        exact r_iret C hF dX12_seen_81
    · rw [if_neg c1] at hf
      refine r_iload_n (i := 2) C dX12_seen_54 rfl 2 rfl ?_
      refine r_aload_n (i := 0) C dX12_seen_55 rfl 0 rfl ?_
      refine g_X12_45 C dX12_seen_56 ?_
      refine r_iload_n (i := 3) C dX12_seen_59 rfl 3 rfl ?_
      obtain ⟨g3, hf⟩ := gd_of hf
      refine r_iald C 218 rfl (by decide) g3 dX12_seen_60 ?_
      refine r_iand C dX12_seen_61 ?_
      obtain ⟨x4, ex4, hf⟩ := lt_of hf
      refine r_top ex4 ?_
      refine r_istore_n (i := 2) (lv' := [(0, .ref (gad (xG X) 208)), (1, .int y1), (2, .int x4), (3, .int y3)]) C dX12_seen_62 rfl (by decide) [1, 2, 0, 3] rfl ?_
      obtain ⟨x5, ex5, hf⟩ := lt_of hf
      refine r_iinc (j := 3) (v := x5) (lv' := [(0, .ref (gad (xG X) 208)), (1, .int y1), (2, .int x4), (3, .int x5)]) C dX12_seen_63 rfl (by rw [ex5]; rfl) (by decide) [1, 2, 3, 0] rfl ?_
      refine r_goto C 46 dX12_seen_66 (by decide) ?_
      exact r_lv [0, 1, 2, 3] rfl (ih _ _ _ _ hf)
set_option maxHeartbeats 4000000 in
set_option maxRecDepth 100000 in
theorem kX12_seen (G : Gx)  {h : Hp} {a1 : Int32} {rr : Int32} {hh : Hp} (hf : fX12_seen h a1 = some (rr, hh)) : MC G yX12_seen cX12_seen 4 (some .int) 12 768 h [.ref (gad G 208), .int a1] (some (.int rr)) hh := by
  refine MC.of RX12 (by decide) rfl (Nat.le_of_ble_eq_true rfl) rfl (fun X C hG hR hF => ?_)
  subst hG
  have hcs : True := trivial
  unfold fX12_seen at hf
  refine r_aload_n (i := 0) C dX12_seen_0 rfl 0 rfl ?_
  obtain ⟨h6, e7, hf⟩ := cl_of hf
  refine r_callVv (As := []) (st := []) C 208 rfl (by decide) rfl (kX12_uses (xG X) e7) cw_X12_236 rfl rfl (Nat.le_of_ble_eq_true rfl) (zr2 hR rfl rfl) (zrcs hcs) dX12_seen_1 ?_
  refine r_aload_n (i := 0) C dX12_seen_4 rfl 0 rfl ?_
  refine r_aload_n (i := 0) C dX12_seen_5 rfl 0 rfl ?_
  obtain ⟨x8, e9, hf⟩ := cl_of hf
  refine r_callVi (As := []) (st := [.ref (gad (xG X) 208)]) C 208 rfl (by decide) rfl (kX12_isTold (xG X) e9) cw_X12_395 rfl rfl (Nat.le_of_ble_eq_true rfl) (zr2 hR rfl rfl) (zrcs hcs) dX12_seen_6 ?_
  obtain ⟨v10, r12, hf⟩ := cl_of hf
  have k11 : VW X 4 h6 0 0 17 [(0, .ref (gad (xG X) 208)), (1, .int a1)] [.int v10, .ref (gad (xG X) 208)] := by
    refine r_iconst (v := 1) C dX12_seen_17 (by decide) ?_
    obtain ⟨x16, h14, e15, hf⟩ := cl2_of hf
    refine r_callVi (As := [.int v10, .int (1 : Int32)]) (st := []) C 208 rfl (by decide) rfl (kX12_throwsIf (xG X) e15) cw_X12_247 rfl rfl (Nat.le_of_ble_eq_true rfl) (zr2 hR rfl rfl) (zrcs hcs) dX12_seen_18 ?_
    refine r_if_eq C 26 dX12_seen_21 (by decide) (fun c17 => ?_) (fun c17 => ?_)
    · rw [if_pos c17] at hf
      refine r_aload_n (i := 0) C dX12_seen_26 rfl 0 rfl ?_
      obtain ⟨h18, e19, hf⟩ := cl_of hf
      refine r_callVv (As := []) (st := []) C 208 rfl (by decide) rfl (kX12_laysSets (xG X) e19) cw_X12_398 rfl rfl (Nat.le_of_ble_eq_true rfl) (zr2 hR rfl rfl) (zrcs hcs) dX12_seen_27 ?_
      refine r_aload_n (i := 0) C dX12_seen_30 rfl 0 rfl ?_
      refine g_X12_389 C dX12_seen_31 ?_
      refine r_if_ne C 41 dX12_seen_34 (by decide) (fun c20 => ?_) (fun c20 => ?_)
      · rw [if_neg c20] at hf
        refine r_ldc (v := 65535) C dX12_seen_41 gw_1835 ?_
        refine r_istore_n (i := 2) (lv' := [(0, .ref (gad (xG X) 208)), (1, .int a1), (2, .int (65535 : Int32))]) C dX12_seen_43 rfl (by decide) [1, 2, 0] rfl ?_
        refine r_iconst (v := 0) C dX12_seen_44 (by decide) ?_
        refine r_istore_n (i := 3) (lv' := [(0, .ref (gad (xG X) 208)), (1, .int a1), (2, .int (65535 : Int32)), (3, .int (0 : Int32))]) C dX12_seen_45 rfl (by decide) [1, 2, 3, 0] rfl ?_
        exact r_lv [0, 1, 2, 3] rfl ((wX12_seen  C hR hcs hF big) _ _ _ _ hf)
      · rw [if_pos c20] at hf
        refine r_iconst (v := 0) C dX12_seen_37 (by decide) ?_
        refine r_goto C 43 dX12_seen_38 (by decide) ?_
        refine r_istore_n (i := 2) (lv' := [(0, .ref (gad (xG X) 208)), (1, .int a1), (2, .int (0 : Int32))]) C dX12_seen_43 rfl (by decide) [1, 2, 0] rfl ?_
        refine r_iconst (v := 0) C dX12_seen_44 (by decide) ?_
        refine r_istore_n (i := 3) (lv' := [(0, .ref (gad (xG X) 208)), (1, .int a1), (2, .int (0 : Int32)), (3, .int (0 : Int32))]) C dX12_seen_45 rfl (by decide) [1, 2, 3, 0] rfl ?_
        exact r_lv [0, 1, 2, 3] rfl ((wX12_seen  C hR hcs hF big) _ _ _ _ hf)
    · rw [if_neg c17] at hf
      refine r_iconst (v := 0) C dX12_seen_24 (by decide) ?_
      cases hf
      exact r_iret C hF dX12_seen_25
  clear hf
  have hf := r12
  refine r_if_ne C 16 dX12_seen_9 (by decide) (fun c13 => ?_) (fun c13 => ?_)
  · rw [if_neg c13] at hf
    refine r_iconst (v := 0) C dX12_seen_16 (by decide) ?_
    cases hf
    exact k11
  · rw [if_pos c13] at hf
    refine r_iconst (v := 1) C dX12_seen_12 (by decide) ?_
    refine r_goto C 17 dX12_seen_13 (by decide) ?_
    cases hf
    exact k11
def BX12_climb_0  (rec : Hp → Int32 → Int32 → Int32 → Option (Int32 × Hp)) (h : Hp) (y1 : Int32) (y2 : Int32) (y3 : Int32) : Option (Int32 × Hp) := (if (16 : Int32) ≤ y3 then some (y1, h) else (if (h 208 22) ≤ (1 : Int32) then some (y1, h) else cl9 ((if (fX12_hasLadder h y3) = (0 : Int32) then some (1000000 : Int32) else cl9 (fX12_greatestPart h y3) (fun x7 => some x7)) : Option (Int32)) (fun v3 => cl9 ((if y2 ≤ v3 then some y1 else some y3) : Option (Int32)) (fun v9 => lt9 (jmin y2 v3) (fun x13 => lt9 (y3 + (1 : Int32)) (fun x14 => rec h v9 x13 x14))))))
def LX12_climb  : Nat → Hp → Int32 → Int32 → Int32 → Option (Int32 × Hp)
  | 0, _, _, _, _ => none
  | n + 1, h, y1, y2, y3 => BX12_climb_0  (LX12_climb  n) h y1 y2 y3
def fX12_climb (h : Hp) : Option (Int32 × Hp) := cl9 (fX12_uses h) (fun h15 => cl9 (fX12_isTold h15) (fun x17 => cl9 ((if x17 = (0 : Int32) then some (1 : Int32) else some (0 : Int32)) : Option (Int32)) (fun v19 => cl2 (fX12_throwsIf h15 v19 (1 : Int32)) (fun x25 h23 => (if x25 = (0 : Int32) then cl9 (fX12_laysSets h23) (fun h27 => LX12_climb big h27 (-1 : Int32) (1000000 : Int32) (0 : Int32)) else some ((0 : Int32), h23))))))
set_option maxHeartbeats 4000000 in
set_option maxRecDepth 100000 in
theorem wX12_climb {X : Cx}  {rr : Int32} {hh : Hp} (C : OK X cX12_climb 5 RX12 (some .int)) (hR : xR X = { frames := 13, cells := 0, slots := 0, locals := 832 }) (hcs : True) (hF : FinR X (some (.int rr)) hh) : ∀ n : Nat, (∀ (h : Hp) (y1 : Int32) (y2 : Int32) (y3 : Int32), LX12_climb  n h y1 y2 y3 = some (rr, hh) → VW X 5 h 0 0 38 [(0, .ref (gad (xG X) 208)), (1, .int y1), (2, .int y2), (3, .int y3)] []) := by
  intro n
  induction n with
  | zero => exact (fun _ _ _ _ hf => (by rw [LX12_climb] at hf; cases hf))
  | succ n ih =>
    intro h y1 y2 y3 hf
    rw [LX12_climb] at hf
    unfold BX12_climb_0 at hf
    refine r_iload_n (i := 3) C dX12_climb_38 rfl 3 rfl ?_
    refine r_bipush (v := 16) C dX12_climb_39 (by decide) ?_
    refine r_icmp_ge C 98 dX12_climb_41 (by decide) (fun c1 => ?_) (fun c1 => ?_)
    · rw [if_pos c1] at hf
      refine r_iload_n (i := 1) C dX12_climb_98 rfl 1 rfl ?_
      cases hf
      exact r_iret C hF dX12_climb_99
    · rw [if_neg c1] at hf
      refine r_aload_n (i := 0) C dX12_climb_44 rfl 0 rfl ?_
      refine g_X12_389 C dX12_climb_45 ?_
      refine r_iconst (v := 1) C dX12_climb_48 (by decide) ?_
      refine r_icmp_le C 98 dX12_climb_49 (by decide) (fun c2 => ?_) (fun c2 => ?_)
      · rw [if_pos c2] at hf
        refine r_iload_n (i := 1) C dX12_climb_98 rfl 1 rfl ?_
        cases hf
        exact r_iret C hF dX12_climb_99
      · rw [if_neg c2] at hf
        refine r_aload_n (i := 0) C dX12_climb_52 rfl 0 rfl ?_
        refine r_iload_n (i := 3) C dX12_climb_53 rfl 3 rfl ?_
        refine r_callVi (As := [.int y3]) (st := []) C 208 rfl (by decide) rfl (kX12_hasLadder (xG X)) cw_X12_268 rfl rfl (Nat.le_of_ble_eq_true rfl) (zr2 hR rfl rfl) (zrcs hcs) dX12_climb_54 ?_
        obtain ⟨v3, r5, hf⟩ := cl_of hf
        have k4 : VW X 5 h 0 0 71 [(0, .ref (gad (xG X) 208)), (1, .int y1), (2, .int y2), (3, .int y3)] [.int v3] := by
          refine r_istore (i := 4) (lv' := [(0, .ref (gad (xG X) 208)), (1, .int y1), (2, .int y2), (3, .int y3), (4, .int v3)]) C dX12_climb_71 (by decide) [1, 2, 3, 4, 0] rfl ?_
          refine r_iload (i := 4) C dX12_climb_73 4 rfl ?_
          refine r_iload_n (i := 2) C dX12_climb_75 rfl 2 rfl ?_
          obtain ⟨v9, r11, hf⟩ := cl_of hf
          have k10 : VW X 5 h 0 0 84 [(0, .ref (gad (xG X) 208)), (2, .int y2), (3, .int y3), (4, .int v3)] [.int v9] := by
            refine r_istore_n (i := 1) (lv' := [(0, .ref (gad (xG X) 208)), (1, .int v9), (2, .int y2), (3, .int y3), (4, .int v3)]) C dX12_climb_84 rfl (by decide) [1, 0, 2, 3, 4] rfl ?_
            refine r_iload_n (i := 2) C dX12_climb_85 rfl 2 rfl ?_
            refine r_iload (i := 4) C dX12_climb_86 4 rfl ?_
            refine r_mmin9 C gw_1797 gm_min_s gm_i gm_min_c (zr1 hR rfl) (zr0 hR (Nat.le_of_ble_eq_true rfl)) (zrcs hcs) dX12_climb_88 ?_
            obtain ⟨x13, ex13, hf⟩ := lt_of hf
            refine r_top ex13 ?_
            refine r_istore_n (i := 2) (lv' := [(0, .ref (gad (xG X) 208)), (1, .int v9), (2, .int x13), (3, .int y3), (4, .int v3)]) C dX12_climb_91 rfl (by decide) [1, 2, 0, 3, 4] rfl ?_
            obtain ⟨x14, ex14, hf⟩ := lt_of hf
            refine r_iinc (j := 3) (v := x14) (lv' := [(0, .ref (gad (xG X) 208)), (1, .int v9), (2, .int x13), (3, .int x14), (4, .int v3)]) C dX12_climb_92 rfl (by rw [ex14]; rfl) (by decide) [1, 2, 3, 0, 4] rfl ?_
            refine r_goto C 38 dX12_climb_95 (by decide) ?_
            exact r_lv [0, 1, 2, 3] rfl (ih _ _ _ _ hf)
          clear hf
          have hf := r11
          refine r_icmp_ge C 83 dX12_climb_76 (by decide) (fun c12 => ?_) (fun c12 => ?_)
          · rw [if_pos c12] at hf
            refine r_iload_n (i := 1) C dX12_climb_83 rfl 1 rfl ?_
            cases hf
            exact r_lv [0, 2, 3, 4] rfl k10
          · rw [if_neg c12] at hf
            refine r_iload_n (i := 3) C dX12_climb_79 rfl 3 rfl ?_
            refine r_goto C 84 dX12_climb_80 (by decide) ?_
            cases hf
            exact r_lv [0, 2, 3, 4] rfl k10
        clear hf
        have hf := r5
        refine r_if_eq C 68 dX12_climb_57 (by decide) (fun c6 => ?_) (fun c6 => ?_)
        · rw [if_pos c6] at hf
          refine r_ldcw (v := 1000000) C dX12_climb_68 gw_1984 ?_
          cases hf
          exact k4
        · rw [if_neg c6] at hf
          refine r_aload_n (i := 0) C dX12_climb_60 rfl 0 rfl ?_
          refine r_iload_n (i := 3) C dX12_climb_61 rfl 3 rfl ?_
          obtain ⟨x7, e8, hf⟩ := cl_of hf
          refine r_callVi (As := [.int y3]) (st := []) C 208 rfl (by decide) rfl (kX12_greatestPart (xG X) e8) cw_X12_401 rfl rfl (Nat.le_of_ble_eq_true rfl) (zr2 hR rfl rfl) (zrcs hcs) dX12_climb_62 ?_
          refine r_goto C 71 dX12_climb_65 (by decide) ?_
          cases hf
          exact k4
set_option maxHeartbeats 4000000 in
set_option maxRecDepth 100000 in
theorem kX12_climb (G : Gx)  {h : Hp}  {rr : Int32} {hh : Hp} (hf : fX12_climb h = some (rr, hh)) : MC G yX12_climb cX12_climb 5 (some .int) 13 832 h [.ref (gad G 208)] (some (.int rr)) hh := by
  refine MC.of RX12 (by decide) rfl (Nat.le_of_ble_eq_true rfl) rfl (fun X C hG hR hF => ?_)
  subst hG
  have hcs : True := trivial
  unfold fX12_climb at hf
  refine r_aload_n (i := 0) C dX12_climb_0 rfl 0 rfl ?_
  obtain ⟨h15, e16, hf⟩ := cl_of hf
  refine r_callVv (As := []) (st := []) C 208 rfl (by decide) rfl (kX12_uses (xG X) e16) cw_X12_236 rfl rfl (Nat.le_of_ble_eq_true rfl) (zr2 hR rfl rfl) (zrcs hcs) dX12_climb_1 ?_
  refine r_aload_n (i := 0) C dX12_climb_4 rfl 0 rfl ?_
  refine r_aload_n (i := 0) C dX12_climb_5 rfl 0 rfl ?_
  obtain ⟨x17, e18, hf⟩ := cl_of hf
  refine r_callVi (As := []) (st := [.ref (gad (xG X) 208)]) C 208 rfl (by decide) rfl (kX12_isTold (xG X) e18) cw_X12_395 rfl rfl (Nat.le_of_ble_eq_true rfl) (zr2 hR rfl rfl) (zrcs hcs) dX12_climb_6 ?_
  obtain ⟨v19, r21, hf⟩ := cl_of hf
  have k20 : VW X 5 h15 0 0 17 [(0, .ref (gad (xG X) 208))] [.int v19, .ref (gad (xG X) 208)] := by
    refine r_iconst (v := 1) C dX12_climb_17 (by decide) ?_
    obtain ⟨x25, h23, e24, hf⟩ := cl2_of hf
    refine r_callVi (As := [.int v19, .int (1 : Int32)]) (st := []) C 208 rfl (by decide) rfl (kX12_throwsIf (xG X) e24) cw_X12_247 rfl rfl (Nat.le_of_ble_eq_true rfl) (zr2 hR rfl rfl) (zrcs hcs) dX12_climb_18 ?_
    refine r_if_eq C 26 dX12_climb_21 (by decide) (fun c26 => ?_) (fun c26 => ?_)
    · rw [if_pos c26] at hf
      refine r_aload_n (i := 0) C dX12_climb_26 rfl 0 rfl ?_
      obtain ⟨h27, e28, hf⟩ := cl_of hf
      refine r_callVv (As := []) (st := []) C 208 rfl (by decide) rfl (kX12_laysSets (xG X) e28) cw_X12_398 rfl rfl (Nat.le_of_ble_eq_true rfl) (zr2 hR rfl rfl) (zrcs hcs) dX12_climb_27 ?_
      refine r_iconst (v := (-1)) C dX12_climb_30 (by decide) ?_
      refine r_istore_n (i := 1) (lv' := [(0, .ref (gad (xG X) 208)), (1, .int (-1 : Int32))]) C dX12_climb_31 rfl (by decide) [1, 0] rfl ?_
      refine r_ldcw (v := 1000000) C dX12_climb_32 gw_1984 ?_
      refine r_istore_n (i := 2) (lv' := [(0, .ref (gad (xG X) 208)), (1, .int (-1 : Int32)), (2, .int (1000000 : Int32))]) C dX12_climb_35 rfl (by decide) [1, 2, 0] rfl ?_
      refine r_iconst (v := 0) C dX12_climb_36 (by decide) ?_
      refine r_istore_n (i := 3) (lv' := [(0, .ref (gad (xG X) 208)), (1, .int (-1 : Int32)), (2, .int (1000000 : Int32)), (3, .int (0 : Int32))]) C dX12_climb_37 rfl (by decide) [1, 2, 3, 0] rfl ?_
      exact r_lv [0, 1, 2, 3] rfl ((wX12_climb  C hR hcs hF big) _ _ _ _ hf)
    · rw [if_neg c26] at hf
      refine r_iconst (v := 0) C dX12_climb_24 (by decide) ?_
      cases hf
      exact r_iret C hF dX12_climb_25
  clear hf
  have hf := r21
  refine r_if_ne C 16 dX12_climb_9 (by decide) (fun c22 => ?_) (fun c22 => ?_)
  · rw [if_neg c22] at hf
    refine r_iconst (v := 0) C dX12_climb_16 (by decide) ?_
    cases hf
    exact k20
  · rw [if_pos c22] at hf
    refine r_iconst (v := 1) C dX12_climb_12 (by decide) ?_
    refine r_goto C 17 dX12_climb_13 (by decide) ?_
    cases hf
    exact k20
def BX12_laysStands_0  (rec : Nat → Hp → Int32 → Int32 → Option (Hp)) (h : Hp) (y1 : Int32) (y2 : Int32) : Option (Hp) := (if (16 : Int32) < y1 then some h else rec 1 h y1 (0 : Int32))
def BX12_laysStands_1  (rec : Nat → Hp → Int32 → Int32 → Option (Hp)) (h : Hp) (y1 : Int32) (y2 : Int32) : Option (Hp) := (if (16 : Int32) < y2 then lt9 (y1 + (1 : Int32)) (fun x3 => rec 0 h x3 0) else cl9 ((if y1 = (16 : Int32) then some (fX12_pins h) else some ((fX12_pins h) &&& (((1 : Int32) <<< (y1 &&& 31)) ^^^ (-1 : Int32)))) : Option (Int32)) (fun v4 => (if (fX12_canDuke h y1) = (0 : Int32) then lt9 (y2 + (1 : Int32)) (fun x9 => rec 1 h y1 x9) else (if (fX12_canGuild h y2) = (0 : Int32) then lt9 (y2 + (1 : Int32)) (fun x11 => rec 1 h y1 x11) else cl9 ((if y2 = (16 : Int32) then some v4 else some (v4 ||| ((1 : Int32) <<< (y2 &&& 31)))) : Option (Int32)) (fun v12 => cl2 (fX12_standingWith h v12) (fun x18 h16 => gd (inb (((17 : Int32) * y1) + y2) 289) (lt9 (up2 h16 220 (((17 : Int32) * y1) + y2).toNatClampNeg (fJ_bitCount x18)) (fun h20 => lt9 (y2 + (1 : Int32)) (fun x21 => rec 1 h20 y1 x21)))))))))
def LX12_laysStands  : Nat → Nat → Hp → Int32 → Int32 → Option (Hp)
  | 0, _, _, _, _ => none
  | n + 1, lab, h, y1, y2 => if lab = 0 then BX12_laysStands_0  (LX12_laysStands  n) h y1 y2 else if lab = 1 then BX12_laysStands_1  (LX12_laysStands  n) h y1 y2 else none
def fX12_laysStands (h : Hp) : Option (Hp) := LX12_laysStands big 0 h (0 : Int32) 0
set_option maxHeartbeats 4000000 in
set_option maxRecDepth 100000 in
theorem wX12_laysStands {X : Cx}  {hh : Hp} (C : OK X cX12_laysStands 4 RX12 none) (hR : xR X = { frames := 11, cells := 0, slots := 0, locals := 704 }) (hcs : True) (hF : FinR X none hh) : ∀ n : Nat, (∀ (h : Hp) (y1 : Int32) (y2 : Int32), LX12_laysStands  n 0 h y1 y2 = some hh → VW X 4 h 0 0 2 [(0, .ref (gad (xG X) 208)), (1, .int y1)] []) ∧ (∀ (h : Hp) (y1 : Int32) (y2 : Int32), LX12_laysStands  n 1 h y1 y2 = some hh → VW X 4 h 0 0 10 [(0, .ref (gad (xG X) 208)), (1, .int y1), (2, .int y2)] []) := by
  intro n
  induction n with
  | zero => exact ⟨(fun _ _ _ hf => (by rw [LX12_laysStands] at hf; cases hf)), (fun _ _ _ hf => (by rw [LX12_laysStands] at hf; cases hf))⟩
  | succ n ih =>
    refine ⟨?_, ?_⟩
    · intro h y1 y2 hf
      rw [LX12_laysStands, if_pos rfl] at hf
      unfold BX12_laysStands_0 at hf
      refine r_iload_n (i := 1) C dX12_laysStands_2 rfl 1 rfl ?_
      refine r_bipush (v := 16) C dX12_laysStands_3 (by decide) ?_
      refine r_icmp_gt C 101 dX12_laysStands_5 (by decide) (fun c1 => ?_) (fun c1 => ?_)
      · rw [if_pos c1] at hf
        cases hf
        exact r_vret C hF dX12_laysStands_101
      · rw [if_neg c1] at hf
        refine r_iconst (v := 0) C dX12_laysStands_8 (by decide) ?_
        refine r_istore_n (i := 2) (lv' := [(0, .ref (gad (xG X) 208)), (1, .int y1), (2, .int (0 : Int32))]) C dX12_laysStands_9 rfl (by decide) [1, 2, 0] rfl ?_
        exact r_lv [0, 1, 2] rfl (ih.2 _ _ _ hf)
    · intro h y1 y2 hf
      rw [LX12_laysStands, if_neg (by decide), if_pos rfl] at hf
      unfold BX12_laysStands_1 at hf
      refine r_iload_n (i := 2) C dX12_laysStands_10 rfl 2 rfl ?_
      refine r_bipush (v := 16) C dX12_laysStands_11 (by decide) ?_
      refine r_icmp_gt C 95 dX12_laysStands_13 (by decide) (fun c2 => ?_) (fun c2 => ?_)
      · rw [if_pos c2] at hf
        obtain ⟨x3, ex3, hf⟩ := lt_of hf
        refine r_iinc (j := 1) (v := x3) (lv' := [(0, .ref (gad (xG X) 208)), (1, .int x3), (2, .int y2)]) C dX12_laysStands_95 rfl (by rw [ex3]; rfl) (by decide) [1, 0, 2] rfl ?_
        refine r_goto C 2 dX12_laysStands_98 (by decide) ?_
        exact r_lv [0, 1] rfl (ih.1 _ _ _ hf)
      · rw [if_neg c2] at hf
        refine r_iload_n (i := 1) C dX12_laysStands_16 rfl 1 rfl ?_
        refine r_bipush (v := 16) C dX12_laysStands_17 (by decide) ?_
        obtain ⟨v4, r6, hf⟩ := cl_of hf
        have k5 : VW X 4 h 0 0 39 [(0, .ref (gad (xG X) 208)), (1, .int y1), (2, .int y2)] [.int v4] := by
          refine r_istore_n (i := 3) (lv' := [(0, .ref (gad (xG X) 208)), (1, .int y1), (2, .int y2), (3, .int v4)]) C dX12_laysStands_39 rfl (by decide) [1, 2, 3, 0] rfl ?_
          refine r_aload_n (i := 0) C dX12_laysStands_40 rfl 0 rfl ?_
          refine r_iload_n (i := 1) C dX12_laysStands_41 rfl 1 rfl ?_
          refine r_callVi (As := [.int y1]) (st := []) C 208 rfl (by decide) rfl (kX12_canDuke (xG X)) cw_X12_404 rfl rfl (Nat.le_of_ble_eq_true rfl) (zr2 hR rfl rfl) (zrcs hcs) dX12_laysStands_42 ?_
          refine r_if_eq C 89 dX12_laysStands_45 (by decide) (fun c8 => ?_) (fun c8 => ?_)
          · rw [if_pos c8] at hf
            obtain ⟨x9, ex9, hf⟩ := lt_of hf
            refine r_iinc (j := 2) (v := x9) (lv' := [(0, .ref (gad (xG X) 208)), (1, .int y1), (2, .int x9), (3, .int v4)]) C dX12_laysStands_89 rfl (by rw [ex9]; rfl) (by decide) [1, 2, 0, 3] rfl ?_
            refine r_goto C 10 dX12_laysStands_92 (by decide) ?_
            exact r_lv [0, 1, 2] rfl (ih.2 _ _ _ hf)
          · rw [if_neg c8] at hf
            refine r_aload_n (i := 0) C dX12_laysStands_48 rfl 0 rfl ?_
            refine r_iload_n (i := 2) C dX12_laysStands_49 rfl 2 rfl ?_
            refine r_callVi (As := [.int y2]) (st := []) C 208 rfl (by decide) rfl (kX12_canGuild (xG X)) cw_X12_407 rfl rfl (Nat.le_of_ble_eq_true rfl) (zr2 hR rfl rfl) (zrcs hcs) dX12_laysStands_50 ?_
            refine r_if_eq C 89 dX12_laysStands_53 (by decide) (fun c10 => ?_) (fun c10 => ?_)
            · rw [if_pos c10] at hf
              obtain ⟨x11, ex11, hf⟩ := lt_of hf
              refine r_iinc (j := 2) (v := x11) (lv' := [(0, .ref (gad (xG X) 208)), (1, .int y1), (2, .int x11), (3, .int v4)]) C dX12_laysStands_89 rfl (by rw [ex11]; rfl) (by decide) [1, 2, 0, 3] rfl ?_
              refine r_goto C 10 dX12_laysStands_92 (by decide) ?_
              exact r_lv [0, 1, 2] rfl (ih.2 _ _ _ hf)
            · rw [if_neg c10] at hf
              refine r_aload_n (i := 0) C dX12_laysStands_56 rfl 0 rfl ?_
              refine g_X12_51 C dX12_laysStands_57 ?_
              refine r_bipush (v := 17) C dX12_laysStands_60 (by decide) ?_
              refine r_iload_n (i := 1) C dX12_laysStands_62 rfl 1 rfl ?_
              refine r_imul C dX12_laysStands_63 ?_
              refine r_iload_n (i := 2) C dX12_laysStands_64 rfl 2 rfl ?_
              refine r_iadd C dX12_laysStands_65 ?_
              refine r_aload_n (i := 0) C dX12_laysStands_66 rfl 0 rfl ?_
              refine r_iload_n (i := 2) C dX12_laysStands_67 rfl 2 rfl ?_
              refine r_bipush (v := 16) C dX12_laysStands_68 (by decide) ?_
              obtain ⟨v12, r14, hf⟩ := cl_of hf
              have k13 : VW X 4 h 0 0 82 [(0, .ref (gad (xG X) 208)), (1, .int y1), (2, .int y2)] [.int v12, .ref (gad (xG X) 208), .int (((17 : Int32) * y1) + y2), .ref (gad (xG X) 220)] := by
                obtain ⟨x18, h16, e17, hf⟩ := cl2_of hf
                refine r_callVi (As := [.int v12]) (st := [.int (((17 : Int32) * y1) + y2), .ref (gad (xG X) 220)]) C 208 rfl (by decide) rfl (kX12_standingWith (xG X) e17) cw_X12_302 rfl rfl (Nat.le_of_ble_eq_true rfl) (zr2 hR rfl rfl) (zrcs hcs) dX12_laysStands_82 ?_
                refine r_callSi (As := [.int x18]) (st := [.int (((17 : Int32) * y1) + y2), .ref (gad (xG X) 220)]) C (kJ_bitCount (xG X)) cw_X12_356 rfl rfl (Nat.le_of_ble_eq_true rfl) (zr2 hR rfl rfl) (zrcs hcs) dX12_laysStands_85 ?_
                obtain ⟨g19, hf⟩ := gd_of hf
                obtain ⟨h20, eh20, hf⟩ := lt_of hf
                refine r_iast C 220 eh20 rfl (by decide) g19 dX12_laysStands_88 ?_
                obtain ⟨x21, ex21, hf⟩ := lt_of hf
                refine r_iinc (j := 2) (v := x21) (lv' := [(0, .ref (gad (xG X) 208)), (1, .int y1), (2, .int x21)]) C dX12_laysStands_89 rfl (by rw [ex21]; rfl) (by decide) [1, 2, 0] rfl ?_
                refine r_goto C 10 dX12_laysStands_92 (by decide) ?_
                exact r_lv [0, 1, 2] rfl (ih.2 _ _ _ hf)
              clear hf
              have hf := r14
              refine r_icmp_ne C 77 dX12_laysStands_70 (by decide) (fun c15 => ?_) (fun c15 => ?_)
              · rw [if_neg c15] at hf
                refine r_iload_n (i := 3) C dX12_laysStands_77 rfl 3 rfl ?_
                refine r_iconst (v := 1) C dX12_laysStands_78 (by decide) ?_
                refine r_iload_n (i := 2) C dX12_laysStands_79 rfl 2 rfl ?_
                refine r_ishl C dX12_laysStands_80 ?_
                refine r_ior C dX12_laysStands_81 ?_
                cases hf
                exact r_lv [0, 1, 2] rfl k13
              · rw [if_pos c15] at hf
                refine r_iload_n (i := 3) C dX12_laysStands_73 rfl 3 rfl ?_
                refine r_goto C 82 dX12_laysStands_74 (by decide) ?_
                cases hf
                exact r_lv [0, 1, 2] rfl k13
        clear hf
        have hf := r6
        refine r_icmp_ne C 29 dX12_laysStands_19 (by decide) (fun c7 => ?_) (fun c7 => ?_)
        · rw [if_neg c7] at hf
          refine r_aload_n (i := 0) C dX12_laysStands_29 rfl 0 rfl ?_
          refine r_callVi (As := []) (st := []) C 208 rfl (by decide) rfl (kX12_pins (xG X)) cw_X12_65 rfl rfl (Nat.le_of_ble_eq_true rfl) (zr2 hR rfl rfl) (zrcs hcs) dX12_laysStands_30 ?_
          refine r_iconst (v := 1) C dX12_laysStands_33 (by decide) ?_
          refine r_iload_n (i := 1) C dX12_laysStands_34 rfl 1 rfl ?_
          refine r_ishl C dX12_laysStands_35 ?_
          refine r_iconst (v := (-1)) C dX12_laysStands_36 (by decide) ?_
          refine r_ixor C dX12_laysStands_37 ?_
          refine r_iand C dX12_laysStands_38 ?_
          cases hf
          exact k5
        · rw [if_pos c7] at hf
          refine r_aload_n (i := 0) C dX12_laysStands_22 rfl 0 rfl ?_
          refine r_callVi (As := []) (st := []) C 208 rfl (by decide) rfl (kX12_pins (xG X)) cw_X12_65 rfl rfl (Nat.le_of_ble_eq_true rfl) (zr2 hR rfl rfl) (zrcs hcs) dX12_laysStands_23 ?_
          refine r_goto C 39 dX12_laysStands_26 (by decide) ?_
          cases hf
          exact k5
set_option maxHeartbeats 4000000 in
set_option maxRecDepth 100000 in
theorem kX12_laysStands (G : Gx)  {h : Hp}  {hh : Hp} (hf : fX12_laysStands h = some hh) : MC G yX12_laysStands cX12_laysStands 4 none 11 704 h [.ref (gad G 208)] none hh := by
  refine MC.of RX12 (by decide) rfl (Nat.le_of_ble_eq_true rfl) rfl (fun X C hG hR hF => ?_)
  subst hG
  have hcs : True := trivial
  unfold fX12_laysStands at hf
  refine r_iconst (v := 0) C dX12_laysStands_0 (by decide) ?_
  refine r_istore_n (i := 1) (lv' := [(0, .ref (gad (xG X) 208)), (1, .int (0 : Int32))]) C dX12_laysStands_1 rfl (by decide) [1, 0] rfl ?_
  exact r_lv [0, 1] rfl ((wX12_laysStands  C hR hcs hF big).1 _ _ _ hf)

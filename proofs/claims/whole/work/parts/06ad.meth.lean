def fX12_readPart (h : Hp) : Option (Int32 × Hp) := cl9 (fX12_letters h) (fun h1 => cl2 ((if (h1 208 10) = (h1 208 12) then cl2 (fX12_number h1 (0 : Int32) (999 : Int32)) (fun x33 h31 => cl9 (fX12_emits h31 (8 : Int32) x33) (fun h34 => some (x33, h34))) else cl9 (fX12_isWord h1 sw48) (fun x8 => cl9 ((if x8 = (0 : Int32) then cl9 (fX12_isWord h1 sw32) (fun x14 => (if x14 = (0 : Int32) then cl9 (fX12_isWord h1 sw29) (fun x17 => (if x17 = (0 : Int32) then cl9 (fX12_isWord h1 sw30) (fun x20 => (if x20 = (0 : Int32) then cl9 (fX12_isWord h1 sw49) (fun x23 => (if x23 = (0 : Int32) then cl9 (fX12_isWord h1 sw50) (fun x26 => (if x26 = (0 : Int32) then some (-1 : Int32) else some (5 : Int32))) else some (4 : Int32))) else some (3 : Int32))) else some (2 : Int32))) else some (1 : Int32))) else some (0 : Int32)) : Option (Int32)) (fun v10 => cl9 (fX12_emits h1 v10 (0 : Int32)) (fun h29 => some (v10, h29))))) : Option (Int32 × Hp)) (fun x3 h4 => (if x3 < (0 : Int32) then some ((0 : Int32), h4) else some ((1 : Int32), h4))))
set_option maxHeartbeats 4000000 in
set_option maxRecDepth 100000 in
theorem kX12_readPart (G : Gx)  {h : Hp}  {rr : Int32} {hh : Hp} (hf : fX12_readPart h = some (rr, hh)) : MC G yX12_readPart cX12_readPart 2 (some .boolean) 6 384 h [.ref (gad G 208)] (some (.int rr)) hh := by
  refine MC.of RX12 (by decide) rfl (Nat.le_of_ble_eq_true rfl) rfl (fun X C hG hR hF => ?_)
  subst hG
  have hcs : True := trivial
  unfold fX12_readPart at hf
  refine r_aload_n (i := 0) C dX12_readPart_0 rfl 0 rfl ?_
  obtain ⟨h1, e2, hf⟩ := cl_of hf
  refine r_callVv (As := []) (st := []) C 208 rfl (by decide) rfl (kX12_letters (xG X) e2) cw_X12_109 rfl rfl (Nat.le_of_ble_eq_true rfl) (zr2 hR rfl rfl) (zrcs hcs) dX12_readPart_1 ?_
  refine r_aload_n (i := 0) C dX12_readPart_4 rfl 0 rfl ?_
  refine g_X12_85 C dX12_readPart_5 ?_
  refine r_aload_n (i := 0) C dX12_readPart_8 rfl 0 rfl ?_
  refine g_X12_94 C dX12_readPart_9 ?_
  obtain ⟨x3, h4, r6, hf⟩ := cl2_of hf
  have k5 : VW X 2 h4 0 0 120 [(0, .ref (gad (xG X) 208)), (1, .int x3)] [] := by
    refine r_iload_n (i := 1) C dX12_readPart_120 rfl 1 rfl ?_
    refine r_if_lt C 128 dX12_readPart_121 (by decide) (fun c36 => ?_) (fun c36 => ?_)
    · rw [if_pos c36] at hf
      refine r_iconst (v := 0) C dX12_readPart_128 (by decide) ?_
      have zz : (0 : Int32) = 0 ∨ (0 : Int32) = 1 := (Or.inl rfl)
      cases hf
      exact r_zret C zz hF dX12_readPart_129
    · rw [if_neg c36] at hf
      refine r_iconst (v := 1) C dX12_readPart_124 (by decide) ?_
      refine r_goto C 129 dX12_readPart_125 (by decide) ?_
      have zz : (1 : Int32) = 0 ∨ (1 : Int32) = 1 := (Or.inr rfl)
      cases hf
      exact r_zret C zz hF dX12_readPart_129
  clear hf
  have hf := r6
  refine r_icmp_ne C 34 dX12_readPart_12 (by decide) (fun c7 => ?_) (fun c7 => ?_)
  · rw [if_neg c7] at hf
    refine r_aload_n (i := 0) C dX12_readPart_34 rfl 0 rfl ?_
    refine r_ldcS (e := 48) C st48 dX12_readPart_35 ?_
    obtain ⟨x8, e9, hf⟩ := cl_of hf
    refine r_callVi (As := [.ref (gsK (xG X) 48)]) (st := []) C 208 rfl (by decide) rfl (kX12_isWord (xG X) st48 e9) cw_X12_112 rfl rfl (Nat.le_of_ble_eq_true rfl) (zr2 hR rfl rfl) (zrcs hcs) dX12_readPart_37 ?_
    obtain ⟨v10, r12, hf⟩ := cl_of hf
    have k11 : VW X 2 h1 0 0 113 [(0, .ref (gad (xG X) 208))] [.int v10] := by
      refine r_istore_n (i := 1) (lv' := [(0, .ref (gad (xG X) 208)), (1, .int v10)]) C dX12_readPart_113 rfl (by decide) [1, 0] rfl ?_
      refine r_aload_n (i := 0) C dX12_readPart_114 rfl 0 rfl ?_
      refine r_iload_n (i := 1) C dX12_readPart_115 rfl 1 rfl ?_
      refine r_iconst (v := 0) C dX12_readPart_116 (by decide) ?_
      obtain ⟨h29, e30, hf⟩ := cl_of hf
      refine r_callVv (As := [.int v10, .int (0 : Int32)]) (st := []) C 208 rfl (by decide) rfl (kX12_emits (xG X) e30) cw_X12_180 rfl rfl (Nat.le_of_ble_eq_true rfl) (zr2 hR rfl rfl) (zrcs hcs) dX12_readPart_117 ?_
      cases hf
      exact k5
    clear hf
    have hf := r12
    refine r_if_eq C 47 dX12_readPart_40 (by decide) (fun c13 => ?_) (fun c13 => ?_)
    · rw [if_pos c13] at hf
      refine r_aload_n (i := 0) C dX12_readPart_47 rfl 0 rfl ?_
      refine r_ldcS (e := 32) C st32 dX12_readPart_48 ?_
      obtain ⟨x14, e15, hf⟩ := cl_of hf
      refine r_callVi (As := [.ref (gsK (xG X) 32)]) (st := []) C 208 rfl (by decide) rfl (kX12_isWord (xG X) st32 e15) cw_X12_112 rfl rfl (Nat.le_of_ble_eq_true rfl) (zr2 hR rfl rfl) (zrcs hcs) dX12_readPart_50 ?_
      refine r_if_eq C 60 dX12_readPart_53 (by decide) (fun c16 => ?_) (fun c16 => ?_)
      · rw [if_pos c16] at hf
        refine r_aload_n (i := 0) C dX12_readPart_60 rfl 0 rfl ?_
        refine r_ldcS (e := 29) C st29 dX12_readPart_61 ?_
        obtain ⟨x17, e18, hf⟩ := cl_of hf
        refine r_callVi (As := [.ref (gsK (xG X) 29)]) (st := []) C 208 rfl (by decide) rfl (kX12_isWord (xG X) st29 e18) cw_X12_112 rfl rfl (Nat.le_of_ble_eq_true rfl) (zr2 hR rfl rfl) (zrcs hcs) dX12_readPart_63 ?_
        refine r_if_eq C 73 dX12_readPart_66 (by decide) (fun c19 => ?_) (fun c19 => ?_)
        · rw [if_pos c19] at hf
          refine r_aload_n (i := 0) C dX12_readPart_73 rfl 0 rfl ?_
          refine r_ldcS (e := 30) C st30 dX12_readPart_74 ?_
          obtain ⟨x20, e21, hf⟩ := cl_of hf
          refine r_callVi (As := [.ref (gsK (xG X) 30)]) (st := []) C 208 rfl (by decide) rfl (kX12_isWord (xG X) st30 e21) cw_X12_112 rfl rfl (Nat.le_of_ble_eq_true rfl) (zr2 hR rfl rfl) (zrcs hcs) dX12_readPart_76 ?_
          refine r_if_eq C 86 dX12_readPart_79 (by decide) (fun c22 => ?_) (fun c22 => ?_)
          · rw [if_pos c22] at hf
            refine r_aload_n (i := 0) C dX12_readPart_86 rfl 0 rfl ?_
            refine r_ldcS (e := 49) C st49 dX12_readPart_87 ?_
            obtain ⟨x23, e24, hf⟩ := cl_of hf
            refine r_callVi (As := [.ref (gsK (xG X) 49)]) (st := []) C 208 rfl (by decide) rfl (kX12_isWord (xG X) st49 e24) cw_X12_112 rfl rfl (Nat.le_of_ble_eq_true rfl) (zr2 hR rfl rfl) (zrcs hcs) dX12_readPart_89 ?_
            refine r_if_eq C 99 dX12_readPart_92 (by decide) (fun c25 => ?_) (fun c25 => ?_)
            · rw [if_pos c25] at hf
              refine r_aload_n (i := 0) C dX12_readPart_99 rfl 0 rfl ?_
              refine r_ldcS (e := 50) C st50 dX12_readPart_100 ?_
              obtain ⟨x26, e27, hf⟩ := cl_of hf
              refine r_callVi (As := [.ref (gsK (xG X) 50)]) (st := []) C 208 rfl (by decide) rfl (kX12_isWord (xG X) st50 e27) cw_X12_112 rfl rfl (Nat.le_of_ble_eq_true rfl) (zr2 hR rfl rfl) (zrcs hcs) dX12_readPart_102 ?_
              refine r_if_eq C 112 dX12_readPart_105 (by decide) (fun c28 => ?_) (fun c28 => ?_)
              · rw [if_pos c28] at hf
                refine r_iconst (v := (-1)) C dX12_readPart_112 (by decide) ?_
                cases hf
                exact k11
              · rw [if_neg c28] at hf
                refine r_iconst (v := 5) C dX12_readPart_108 (by decide) ?_
                refine r_goto C 113 dX12_readPart_109 (by decide) ?_
                cases hf
                exact k11
            · rw [if_neg c25] at hf
              refine r_iconst (v := 4) C dX12_readPart_95 (by decide) ?_
              refine r_goto C 113 dX12_readPart_96 (by decide) ?_
              cases hf
              exact k11
          · rw [if_neg c22] at hf
            refine r_iconst (v := 3) C dX12_readPart_82 (by decide) ?_
            refine r_goto C 113 dX12_readPart_83 (by decide) ?_
            cases hf
            exact k11
        · rw [if_neg c19] at hf
          refine r_iconst (v := 2) C dX12_readPart_69 (by decide) ?_
          refine r_goto C 113 dX12_readPart_70 (by decide) ?_
          cases hf
          exact k11
      · rw [if_neg c16] at hf
        refine r_iconst (v := 1) C dX12_readPart_56 (by decide) ?_
        refine r_goto C 113 dX12_readPart_57 (by decide) ?_
        cases hf
        exact k11
    · rw [if_neg c13] at hf
      refine r_iconst (v := 0) C dX12_readPart_43 (by decide) ?_
      refine r_goto C 113 dX12_readPart_44 (by decide) ?_
      cases hf
      exact k11
  · rw [if_pos c7] at hf
    refine r_aload_n (i := 0) C dX12_readPart_15 rfl 0 rfl ?_
    refine r_iconst (v := 0) C dX12_readPart_16 (by decide) ?_
    refine r_sipush (v := 999) C dX12_readPart_17 (by decide) ?_
    obtain ⟨x33, h31, e32, hf⟩ := cl2_of hf
    refine r_callVi (As := [.int (0 : Int32), .int (999 : Int32)]) (st := []) C 208 rfl (by decide) rfl (kX12_number (xG X) e32) cw_X12_116 rfl rfl (Nat.le_of_ble_eq_true rfl) (zr2 hR rfl rfl) (zrcs hcs) dX12_readPart_20 ?_
    refine r_istore_n (i := 1) (lv' := [(0, .ref (gad (xG X) 208)), (1, .int x33)]) C dX12_readPart_23 rfl (by decide) [1, 0] rfl ?_
    refine r_aload_n (i := 0) C dX12_readPart_24 rfl 0 rfl ?_
    refine r_bipush (v := 8) C dX12_readPart_25 (by decide) ?_
    refine r_iload_n (i := 1) C dX12_readPart_27 rfl 1 rfl ?_
    obtain ⟨h34, e35, hf⟩ := cl_of hf
    refine r_callVv (As := [.int (8 : Int32), .int x33]) (st := []) C 208 rfl (by decide) rfl (kX12_emits (xG X) e35) cw_X12_180 rfl rfl (Nat.le_of_ble_eq_true rfl) (zr2 hR rfl rfl) (zrcs hcs) dX12_readPart_28 ?_
    refine r_goto C 120 dX12_readPart_31 (by decide) ?_
    cases hf
    exact k5
def BX12_readSum_0  (rec : Hp → Option (Int32 × Hp)) (h : Hp) : Option (Int32 × Hp) := cl2 (fX12_sign h (43 : Int32)) (fun x3 h1 => (if x3 = (0 : Int32) then some ((1 : Int32), h1) else cl2 (fX12_readPart h1) (fun x7 h5 => (if x7 = (0 : Int32) then some ((0 : Int32), h5) else cl9 (fX12_emits h5 (9 : Int32) (0 : Int32)) (fun h9 => rec h9)))))
def LX12_readSum  : Nat → Hp → Option (Int32 × Hp)
  | 0, _ => none
  | n + 1, h => BX12_readSum_0  (LX12_readSum  n) h
def fX12_readSum (h : Hp) : Option (Int32 × Hp) := cl2 (fX12_readPart h) (fun x13 h11 => (if x13 = (0 : Int32) then some ((0 : Int32), h11) else LX12_readSum big h11))
set_option maxHeartbeats 4000000 in
set_option maxRecDepth 100000 in
theorem wX12_readSum {X : Cx}  {rr : Int32} {hh : Hp} (C : OK X cX12_readSum 1 RX12 (some .boolean)) (hR : xR X = { frames := 7, cells := 0, slots := 0, locals := 448 }) (hcs : True) (hF : FinR X (some (.int rr)) hh) : ∀ n : Nat, (∀ (h : Hp), LX12_readSum  n h = some (rr, hh) → VW X 1 h 0 0 9 [(0, .ref (gad (xG X) 208))] []) := by
  intro n
  induction n with
  | zero => exact (fun _ hf => (by rw [LX12_readSum] at hf; cases hf))
  | succ n ih =>
    intro h hf
    rw [LX12_readSum] at hf
    unfold BX12_readSum_0 at hf
    refine r_aload_n (i := 0) C dX12_readSum_9 rfl 0 rfl ?_
    refine r_bipush (v := 43) C dX12_readSum_10 (by decide) ?_
    obtain ⟨x3, h1, e2, hf⟩ := cl2_of hf
    refine r_callVi (As := [.int (43 : Int32)]) (st := []) C 208 rfl (by decide) rfl (kX12_sign (xG X) e2) cw_X12_193 rfl rfl (Nat.le_of_ble_eq_true rfl) (zr2 hR rfl rfl) (zrcs hcs) dX12_readSum_12 ?_
    refine r_if_eq C 37 dX12_readSum_15 (by decide) (fun c4 => ?_) (fun c4 => ?_)
    · rw [if_pos c4] at hf
      refine r_iconst (v := 1) C dX12_readSum_37 (by decide) ?_
      have zz : (1 : Int32) = 0 ∨ (1 : Int32) = 1 := (Or.inr rfl)
      cases hf
      exact r_zret C zz hF dX12_readSum_38
    · rw [if_neg c4] at hf
      refine r_aload_n (i := 0) C dX12_readSum_18 rfl 0 rfl ?_
      obtain ⟨x7, h5, e6, hf⟩ := cl2_of hf
      refine r_callVi (As := []) (st := []) C 208 rfl (by decide) rfl (kX12_readPart (xG X) e6) cw_X12_190 rfl rfl (Nat.le_of_ble_eq_true rfl) (zr2 hR rfl rfl) (zrcs hcs) dX12_readSum_19 ?_
      refine r_if_ne C 27 dX12_readSum_22 (by decide) (fun c8 => ?_) (fun c8 => ?_)
      · rw [if_neg c8] at hf
        refine r_aload_n (i := 0) C dX12_readSum_27 rfl 0 rfl ?_
        refine r_bipush (v := 9) C dX12_readSum_28 (by decide) ?_
        refine r_iconst (v := 0) C dX12_readSum_30 (by decide) ?_
        obtain ⟨h9, e10, hf⟩ := cl_of hf
        refine r_callVv (As := [.int (9 : Int32), .int (0 : Int32)]) (st := []) C 208 rfl (by decide) rfl (kX12_emits (xG X) e10) cw_X12_180 rfl rfl (Nat.le_of_ble_eq_true rfl) (zr2 hR rfl rfl) (zrcs hcs) dX12_readSum_31 ?_
        refine r_goto C 9 dX12_readSum_34 (by decide) ?_
        exact r_lv [0] rfl (ih _ hf)
      · rw [if_pos c8] at hf
        refine r_iconst (v := 0) C dX12_readSum_25 (by decide) ?_
        have zz : (0 : Int32) = 0 ∨ (0 : Int32) = 1 := (Or.inl rfl)
        cases hf
        exact r_zret C zz hF dX12_readSum_26
set_option maxHeartbeats 4000000 in
set_option maxRecDepth 100000 in
theorem kX12_readSum (G : Gx)  {h : Hp}  {rr : Int32} {hh : Hp} (hf : fX12_readSum h = some (rr, hh)) : MC G yX12_readSum cX12_readSum 1 (some .boolean) 7 448 h [.ref (gad G 208)] (some (.int rr)) hh := by
  refine MC.of RX12 (by decide) rfl (Nat.le_of_ble_eq_true rfl) rfl (fun X C hG hR hF => ?_)
  subst hG
  have hcs : True := trivial
  unfold fX12_readSum at hf
  refine r_aload_n (i := 0) C dX12_readSum_0 rfl 0 rfl ?_
  obtain ⟨x13, h11, e12, hf⟩ := cl2_of hf
  refine r_callVi (As := []) (st := []) C 208 rfl (by decide) rfl (kX12_readPart (xG X) e12) cw_X12_190 rfl rfl (Nat.le_of_ble_eq_true rfl) (zr2 hR rfl rfl) (zrcs hcs) dX12_readSum_1 ?_
  refine r_if_ne C 9 dX12_readSum_4 (by decide) (fun c14 => ?_) (fun c14 => ?_)
  · rw [if_neg c14] at hf
    exact r_lv [0] rfl ((wX12_readSum  C hR hcs hF big) _ hf)
  · rw [if_pos c14] at hf
    refine r_iconst (v := 0) C dX12_readSum_7 (by decide) ?_
    have zz : (0 : Int32) = 0 ∨ (0 : Int32) = 1 := (Or.inl rfl)
    cases hf
    exact r_zret C zz hF dX12_readSum_8
def fX12_readTag (h : Hp) : Option (Int32 × Hp) := cl9 (fX12_letters h) (fun h1 => cl9 (fX12_isWord h1 sw46) (fun x3 => cl9 ((if x3 = (0 : Int32) then cl9 (fX12_isWord h1 sw47) (fun x9 => (if x9 = (0 : Int32) then some (-1 : Int32) else some (7 : Int32))) else some (6 : Int32)) : Option (Int32)) (fun v5 => cl9 ((if v5 < (0 : Int32) then lt9 (up2 h1 208 10 (h1 208 12)) (fun h16 => some h16) else cl9 (fX12_emits h1 v5 (0 : Int32)) (fun h17 => some h17)) : Option (Hp)) (fun h12 => (if v5 < (0 : Int32) then some ((0 : Int32), h12) else some ((1 : Int32), h12))))))
set_option maxHeartbeats 4000000 in
set_option maxRecDepth 100000 in
theorem kX12_readTag (G : Gx)  {h : Hp}  {rr : Int32} {hh : Hp} (hf : fX12_readTag h = some (rr, hh)) : MC G yX12_readTag cX12_readTag 2 (some .boolean) 6 384 h [.ref (gad G 208)] (some (.int rr)) hh := by
  refine MC.of RX12 (by decide) rfl (Nat.le_of_ble_eq_true rfl) rfl (fun X C hG hR hF => ?_)
  subst hG
  have hcs : True := trivial
  unfold fX12_readTag at hf
  refine r_aload_n (i := 0) C dX12_readTag_0 rfl 0 rfl ?_
  obtain ⟨h1, e2, hf⟩ := cl_of hf
  refine r_callVv (As := []) (st := []) C 208 rfl (by decide) rfl (kX12_letters (xG X) e2) cw_X12_109 rfl rfl (Nat.le_of_ble_eq_true rfl) (zr2 hR rfl rfl) (zrcs hcs) dX12_readTag_1 ?_
  refine r_aload_n (i := 0) C dX12_readTag_4 rfl 0 rfl ?_
  refine r_ldcS (e := 46) C st46 dX12_readTag_5 ?_
  obtain ⟨x3, e4, hf⟩ := cl_of hf
  refine r_callVi (As := [.ref (gsK (xG X) 46)]) (st := []) C 208 rfl (by decide) rfl (kX12_isWord (xG X) st46 e4) cw_X12_112 rfl rfl (Nat.le_of_ble_eq_true rfl) (zr2 hR rfl rfl) (zrcs hcs) dX12_readTag_7 ?_
  obtain ⟨v5, r7, hf⟩ := cl_of hf
  have k6 : VW X 2 h1 0 0 33 [(0, .ref (gad (xG X) 208))] [.int v5] := by
    refine r_istore_n (i := 1) (lv' := [(0, .ref (gad (xG X) 208)), (1, .int v5)]) C dX12_readTag_33 rfl (by decide) [1, 0] rfl ?_
    refine r_iload_n (i := 1) C dX12_readTag_34 rfl 1 rfl ?_
    obtain ⟨h12, r14, hf⟩ := cl_of hf
    have k13 : VW X 2 h12 0 0 55 [(0, .ref (gad (xG X) 208)), (1, .int v5)] [] := by
      refine r_iload_n (i := 1) C dX12_readTag_55 rfl 1 rfl ?_
      refine r_if_lt C 63 dX12_readTag_56 (by decide) (fun c19 => ?_) (fun c19 => ?_)
      · rw [if_pos c19] at hf
        refine r_iconst (v := 0) C dX12_readTag_63 (by decide) ?_
        have zz : (0 : Int32) = 0 ∨ (0 : Int32) = 1 := (Or.inl rfl)
        cases hf
        exact r_zret C zz hF dX12_readTag_64
      · rw [if_neg c19] at hf
        refine r_iconst (v := 1) C dX12_readTag_59 (by decide) ?_
        refine r_goto C 64 dX12_readTag_60 (by decide) ?_
        have zz : (1 : Int32) = 0 ∨ (1 : Int32) = 1 := (Or.inr rfl)
        cases hf
        exact r_zret C zz hF dX12_readTag_64
    clear hf
    have hf := r14
    refine r_if_lt C 47 dX12_readTag_35 (by decide) (fun c15 => ?_) (fun c15 => ?_)
    · rw [if_pos c15] at hf
      refine r_aload_n (i := 0) C dX12_readTag_47 rfl 0 rfl ?_
      refine r_aload_n (i := 0) C dX12_readTag_48 rfl 0 rfl ?_
      refine g_X12_94 C dX12_readTag_49 ?_
      obtain ⟨h16, eh16, hf⟩ := lt_of hf
      refine p_X12_85 C eh16 dX12_readTag_52 ?_
      cases hf
      exact k13
    · rw [if_neg c15] at hf
      refine r_aload_n (i := 0) C dX12_readTag_38 rfl 0 rfl ?_
      refine r_iload_n (i := 1) C dX12_readTag_39 rfl 1 rfl ?_
      refine r_iconst (v := 0) C dX12_readTag_40 (by decide) ?_
      obtain ⟨h17, e18, hf⟩ := cl_of hf
      refine r_callVv (As := [.int v5, .int (0 : Int32)]) (st := []) C 208 rfl (by decide) rfl (kX12_emits (xG X) e18) cw_X12_180 rfl rfl (Nat.le_of_ble_eq_true rfl) (zr2 hR rfl rfl) (zrcs hcs) dX12_readTag_41 ?_
      refine r_goto C 55 dX12_readTag_44 (by decide) ?_
      cases hf
      exact k13
  clear hf
  have hf := r7
  refine r_if_eq C 18 dX12_readTag_10 (by decide) (fun c8 => ?_) (fun c8 => ?_)
  · rw [if_pos c8] at hf
    refine r_aload_n (i := 0) C dX12_readTag_18 rfl 0 rfl ?_
    refine r_ldcS (e := 47) C st47 dX12_readTag_19 ?_
    obtain ⟨x9, e10, hf⟩ := cl_of hf
    refine r_callVi (As := [.ref (gsK (xG X) 47)]) (st := []) C 208 rfl (by decide) rfl (kX12_isWord (xG X) st47 e10) cw_X12_112 rfl rfl (Nat.le_of_ble_eq_true rfl) (zr2 hR rfl rfl) (zrcs hcs) dX12_readTag_21 ?_
    refine r_if_eq C 32 dX12_readTag_24 (by decide) (fun c11 => ?_) (fun c11 => ?_)
    · rw [if_pos c11] at hf
      refine r_iconst (v := (-1)) C dX12_readTag_32 (by decide) ?_
      cases hf
      exact k6
    · rw [if_neg c11] at hf
      refine r_bipush (v := 7) C dX12_readTag_27 (by decide) ?_
      refine r_goto C 33 dX12_readTag_29 (by decide) ?_
      cases hf
      exact k6
  · rw [if_neg c8] at hf
    refine r_bipush (v := 6) C dX12_readTag_13 (by decide) ?_
    refine r_goto C 33 dX12_readTag_15 (by decide) ?_
    cases hf
    exact k6
def BX12_gapOf_0 (h : Hp) (rec : Int32 → Int32 → Int32 → Option (Int32)) (y1 : Int32) (y2 : Int32) (y3 : Int32) : Option (Int32) := (if (16 : Int32) ≤ y3 then some y2 else cl9 ((if y3 = y1 then some false else (if (fX12_has (h 208 18) y3) = (0 : Int32) then some false else some true)) : Option Bool) (fun q2 => if q2 = true then lt9 (jmin y2 (jabs (y1 - y3))) (fun x8 => lt9 (y3 + (1 : Int32)) (fun x9 => rec y1 x8 x9)) else lt9 (y3 + (1 : Int32)) (fun x10 => rec y1 y2 x10)))
def LX12_gapOf (h : Hp) : Nat → Int32 → Int32 → Int32 → Option (Int32)
  | 0, _, _, _ => none
  | n + 1, y1, y2, y3 => BX12_gapOf_0 h (LX12_gapOf h n) y1 y2 y3
def fX12_gapOf (h : Hp) (a1 : Int32) : Option (Int32) := LX12_gapOf h big a1 (16 : Int32) (0 : Int32)
set_option maxHeartbeats 4000000 in
set_option maxRecDepth 100000 in
theorem wX12_gapOf {X : Cx} {h : Hp}  {rr : Int32} (C : OK X cX12_gapOf 4 RX12 (some .int)) (hR : xR X = { frames := 3, cells := 0, slots := 0, locals := 192 }) (hcs : True) (hF : FinR X (some (.int rr)) h) : ∀ n : Nat, (∀ (y1 : Int32) (y2 : Int32) (y3 : Int32), LX12_gapOf h n y1 y2 y3 = some rr → VW X 4 h 0 0 5 [(0, .ref (gad (xG X) 208)), (1, .int y1), (2, .int y2), (3, .int y3)] []) := by
  intro n
  induction n with
  | zero => exact (fun _ _ _ hf => (by rw [LX12_gapOf] at hf; cases hf))
  | succ n ih =>
    intro y1 y2 y3 hf
    rw [LX12_gapOf] at hf
    unfold BX12_gapOf_0 at hf
    refine r_iload_n (i := 3) C dX12_gapOf_5 rfl 3 rfl ?_
    refine r_bipush (v := 16) C dX12_gapOf_6 (by decide) ?_
    refine r_icmp_ge C 48 dX12_gapOf_8 (by decide) (fun c1 => ?_) (fun c1 => ?_)
    · rw [if_pos c1] at hf
      refine r_iload_n (i := 2) C dX12_gapOf_48 rfl 2 rfl ?_
      cases hf
      exact r_iret C hF dX12_gapOf_49
    · rw [if_neg c1] at hf
      refine r_iload_n (i := 3) C dX12_gapOf_11 rfl 3 rfl ?_
      refine r_iload_n (i := 1) C dX12_gapOf_12 rfl 1 rfl ?_
      obtain ⟨q2, r5, hf⟩ := cl_of hf
      have k3 : q2 = true → VW X 4 h 0 0 27 [(0, .ref (gad (xG X) 208)), (1, .int y1), (2, .int y2), (3, .int y3)] [] := fun qq => by
        rw [if_pos qq] at hf
        refine r_iload_n (i := 2) C dX12_gapOf_27 rfl 2 rfl ?_
        refine r_iload_n (i := 1) C dX12_gapOf_28 rfl 1 rfl ?_
        refine r_iload_n (i := 3) C dX12_gapOf_29 rfl 3 rfl ?_
        refine r_isub C dX12_gapOf_30 ?_
        refine r_mabs9 C gw_1796 gm_abs_s gm_i gm_abs_c (zr1 hR rfl) (zr0 hR (Nat.le_of_ble_eq_true rfl)) (zrcs hcs) dX12_gapOf_31 ?_
        refine r_mmin9 C gw_1797 gm_min_s gm_i gm_min_c (zr1 hR rfl) (zr0 hR (Nat.le_of_ble_eq_true rfl)) (zrcs hcs) dX12_gapOf_34 ?_
        refine r_goto C 41 dX12_gapOf_37 (by decide) ?_
        obtain ⟨x8, ex8, hf⟩ := lt_of hf
        refine r_top ex8 ?_
        refine r_istore_n (i := 2) (lv' := [(0, .ref (gad (xG X) 208)), (1, .int y1), (2, .int x8), (3, .int y3)]) C dX12_gapOf_41 rfl (by decide) [1, 2, 0, 3] rfl ?_
        obtain ⟨x9, ex9, hf⟩ := lt_of hf
        refine r_iinc (j := 3) (v := x9) (lv' := [(0, .ref (gad (xG X) 208)), (1, .int y1), (2, .int x8), (3, .int x9)]) C dX12_gapOf_42 rfl (by rw [ex9]; rfl) (by decide) [1, 2, 3, 0] rfl ?_
        refine r_goto C 5 dX12_gapOf_45 (by decide) ?_
        exact r_lv [0, 1, 2, 3] rfl (ih _ _ _ hf)
      have k4 : q2 = false → VW X 4 h 0 0 40 [(0, .ref (gad (xG X) 208)), (1, .int y1), (2, .int y2), (3, .int y3)] [] := fun qq => by
        rw [if_neg (by rw [qq]; decide)] at hf
        refine r_iload_n (i := 2) C dX12_gapOf_40 rfl 2 rfl ?_
        refine r_istore_n (i := 2) (lv' := [(0, .ref (gad (xG X) 208)), (1, .int y1), (2, .int y2), (3, .int y3)]) C dX12_gapOf_41 rfl (by decide) [1, 2, 0, 3] rfl ?_
        obtain ⟨x10, ex10, hf⟩ := lt_of hf
        refine r_iinc (j := 3) (v := x10) (lv' := [(0, .ref (gad (xG X) 208)), (1, .int y1), (2, .int y2), (3, .int x10)]) C dX12_gapOf_42 rfl (by rw [ex10]; rfl) (by decide) [1, 2, 3, 0] rfl ?_
        refine r_goto C 5 dX12_gapOf_45 (by decide) ?_
        exact r_lv [0, 1, 2, 3] rfl (ih _ _ _ hf)
      clear hf
      have hf := r5
      refine r_icmp_eq C 40 dX12_gapOf_13 (by decide) (fun c6 => ?_) (fun c6 => ?_)
      · rw [if_pos c6] at hf
        exact k4 (Option.some.inj hf).symm
      · rw [if_neg c6] at hf
        refine r_aload_n (i := 0) C dX12_gapOf_16 rfl 0 rfl ?_
        refine g_X12_250 C dX12_gapOf_17 ?_
        refine r_iload_n (i := 3) C dX12_gapOf_20 rfl 3 rfl ?_
        refine r_callSi (As := [.int (h 208 18), .int y3]) (st := []) C (kX12_has (xG X)) cw_X12_69 rfl rfl (Nat.le_of_ble_eq_true rfl) (zr2 hR rfl rfl) (zrcs hcs) dX12_gapOf_21 ?_
        refine r_if_eq C 40 dX12_gapOf_24 (by decide) (fun c7 => ?_) (fun c7 => ?_)
        · rw [if_pos c7] at hf
          exact k4 (Option.some.inj hf).symm
        · rw [if_neg c7] at hf
          exact k3 (Option.some.inj hf).symm
set_option maxHeartbeats 4000000 in
set_option maxRecDepth 100000 in
theorem kX12_gapOf (G : Gx)  {h : Hp} {a1 : Int32} {rr : Int32} (hf : fX12_gapOf h a1 = some rr) : MC G yX12_gapOf cX12_gapOf 4 (some .int) 3 192 h [.ref (gad G 208), .int a1] (some (.int rr)) h := by
  refine MC.of RX12 (by decide) rfl (Nat.le_of_ble_eq_true rfl) rfl (fun X C hG hR hF => ?_)
  subst hG
  have hcs : True := trivial
  unfold fX12_gapOf at hf
  refine r_bipush (v := 16) C dX12_gapOf_0 (by decide) ?_
  refine r_istore_n (i := 2) (lv' := [(0, .ref (gad (xG X) 208)), (1, .int a1), (2, .int (16 : Int32))]) C dX12_gapOf_2 rfl (by decide) [1, 2, 0] rfl ?_
  refine r_iconst (v := 0) C dX12_gapOf_3 (by decide) ?_
  refine r_istore_n (i := 3) (lv' := [(0, .ref (gad (xG X) 208)), (1, .int a1), (2, .int (16 : Int32)), (3, .int (0 : Int32))]) C dX12_gapOf_4 rfl (by decide) [1, 2, 3, 0] rfl ?_
  exact r_lv [0, 1, 2, 3] rfl ((wX12_gapOf  C hR hcs hF big) _ _ _ hf)
def fX12_rustOf (h : Hp) (a1 : Int32) : Option (Int32) := cl9 ((if (fX12_hasPin h a1) = (0 : Int32) then some false else (if (fX12_has (h 208 18) a1) = (0 : Int32) then some false else some true)) : Option Bool) (fun q1 => if q1 = true then gd (inb ((62 : Int32) + a1) 2031) (some (h 209 ((62 : Int32) + a1).toNatClampNeg)) else some (0 : Int32))
set_option maxHeartbeats 4000000 in
set_option maxRecDepth 100000 in
theorem kX12_rustOf (G : Gx)  {h : Hp} {a1 : Int32} {rr : Int32} (hf : fX12_rustOf h a1 = some rr) : MC G yX12_rustOf cX12_rustOf 2 (some .int) 3 192 h [.ref (gad G 208), .int a1] (some (.int rr)) h := by
  refine MC.of RX12 (by decide) rfl (Nat.le_of_ble_eq_true rfl) rfl (fun X C hG hR hF => ?_)
  subst hG
  have hcs : True := trivial
  unfold fX12_rustOf at hf
  refine r_aload_n (i := 0) C dX12_rustOf_0 rfl 0 rfl ?_
  refine r_iload_n (i := 1) C dX12_rustOf_1 rfl 1 rfl ?_
  refine r_callVi (As := [.int a1]) (st := []) C 208 rfl (by decide) rfl (kX12_hasPin (xG X)) cw_X12_122 rfl rfl (Nat.le_of_ble_eq_true rfl) (zr2 hR rfl rfl) (zrcs hcs) dX12_rustOf_2 ?_
  obtain ⟨q1, r4, hf⟩ := cl_of hf
  have k2 : q1 = true → VW X 2 h 0 0 19 [(0, .ref (gad (xG X) 208)), (1, .int a1)] [] := fun qq => by
    rw [if_pos qq] at hf
    refine r_aload_n (i := 0) C dX12_rustOf_19 rfl 0 rfl ?_
    refine g_X12_13 C dX12_rustOf_20 ?_
    refine r_bipush (v := 62) C dX12_rustOf_23 (by decide) ?_
    refine r_iload_n (i := 1) C dX12_rustOf_25 rfl 1 rfl ?_
    refine r_iadd C dX12_rustOf_26 ?_
    obtain ⟨g7, hf⟩ := gd_of hf
    refine r_iald C 209 rfl (by decide) g7 dX12_rustOf_27 ?_
    refine r_goto C 32 dX12_rustOf_28 (by decide) ?_
    cases hf
    exact r_iret C hF dX12_rustOf_32
  have k3 : q1 = false → VW X 2 h 0 0 31 [(0, .ref (gad (xG X) 208)), (1, .int a1)] [] := fun qq => by
    rw [if_neg (by rw [qq]; decide)] at hf
    refine r_iconst (v := 0) C dX12_rustOf_31 (by decide) ?_
    cases hf
    exact r_iret C hF dX12_rustOf_32
  clear hf
  have hf := r4
  refine r_if_eq C 31 dX12_rustOf_5 (by decide) (fun c5 => ?_) (fun c5 => ?_)
  · rw [if_pos c5] at hf
    exact k3 (Option.some.inj hf).symm
  · rw [if_neg c5] at hf
    refine r_aload_n (i := 0) C dX12_rustOf_8 rfl 0 rfl ?_
    refine g_X12_250 C dX12_rustOf_9 ?_
    refine r_iload_n (i := 1) C dX12_rustOf_12 rfl 1 rfl ?_
    refine r_callSi (As := [.int (h 208 18), .int a1]) (st := []) C (kX12_has (xG X)) cw_X12_69 rfl rfl (Nat.le_of_ble_eq_true rfl) (zr2 hR rfl rfl) (zrcs hcs) dX12_rustOf_13 ?_
    refine r_if_eq C 31 dX12_rustOf_16 (by decide) (fun c6 => ?_) (fun c6 => ?_)
    · rw [if_pos c6] at hf
      exact k3 (Option.some.inj hf).symm
    · rw [if_neg c6] at hf
      exact k2 (Option.some.inj hf).symm
def fX12_factOf (h : Hp) (a1 : Int32) (a2 : Int32) (a3 : Int32) : Option (Int32) := (if a1 = (0 : Int32) then some a3 else (if a1 = (1 : Int32) then gd (inb ((46 : Int32) + a3) 2031) (some (h 209 ((46 : Int32) + a3).toNatClampNeg)) else (if a1 = (2 : Int32) then cl9 (fX12_rustOf h a3) (fun x5 => some x5) else (if a1 = (3 : Int32) then gd (inb ((14 : Int32) + a3) 2031) (some (h 209 ((14 : Int32) + a3).toNatClampNeg)) else (if a1 = (4 : Int32) then cl9 (fX12_gapOf h a3) (fun x10 => some x10) else (if a1 = (5 : Int32) then some (h 209 3) else (if a1 = (6 : Int32) then (if (fX12_has (h 208 18) a3) = (0 : Int32) then some (0 : Int32) else some (1 : Int32)) else (if a1 = (7 : Int32) then (if (fX12_hasLadder h a3) = (0 : Int32) then some (0 : Int32) else some (1 : Int32)) else some a2))))))))
set_option maxHeartbeats 4000000 in
set_option maxRecDepth 100000 in
theorem kX12_factOf (G : Gx)  {h : Hp} {a1 : Int32} {a2 : Int32} {a3 : Int32} {rr : Int32} (hf : fX12_factOf h a1 a2 a3 = some rr) : MC G yX12_factOf cX12_factOf 4 (some .int) 4 256 h [.ref (gad G 208), .int a1, .int a2, .int a3] (some (.int rr)) h := by
  refine MC.of RX12 (by decide) rfl (Nat.le_of_ble_eq_true rfl) rfl (fun X C hG hR hF => ?_)
  subst hG
  have hcs : True := trivial
  unfold fX12_factOf at hf
  refine r_iload_n (i := 1) C dX12_factOf_0 rfl 1 rfl ?_
  by_cases c1 : a1 = (0 : Int32)
  · rw [if_pos c1] at hf
    refine r_tableIn C 48 dX12_factOf_1 (by rw [c1] <;> decide) (by rw [c1] <;> decide) (by rw [c1] <;> rfl) (by decide) ?_
    refine r_iload_n (i := 3) C dX12_factOf_48 rfl 3 rfl ?_
    cases hf
    exact r_iret C hF dX12_factOf_49
  · rw [if_neg c1] at hf
    by_cases c2 : a1 = (1 : Int32)
    · rw [if_pos c2] at hf
      refine r_tableIn C 50 dX12_factOf_1 (by rw [c2] <;> decide) (by rw [c2] <;> decide) (by rw [c2] <;> rfl) (by decide) ?_
      refine r_aload_n (i := 0) C dX12_factOf_50 rfl 0 rfl ?_
      refine g_X12_13 C dX12_factOf_51 ?_
      refine r_bipush (v := 46) C dX12_factOf_54 (by decide) ?_
      refine r_iload_n (i := 3) C dX12_factOf_56 rfl 3 rfl ?_
      refine r_iadd C dX12_factOf_57 ?_
      obtain ⟨g3, hf⟩ := gd_of hf
      refine r_iald C 209 rfl (by decide) g3 dX12_factOf_58 ?_
      cases hf
      exact r_iret C hF dX12_factOf_59
    · rw [if_neg c2] at hf
      by_cases c4 : a1 = (2 : Int32)
      · rw [if_pos c4] at hf
        refine r_tableIn C 60 dX12_factOf_1 (by rw [c4] <;> decide) (by rw [c4] <;> decide) (by rw [c4] <;> rfl) (by decide) ?_
        refine r_aload_n (i := 0) C dX12_factOf_60 rfl 0 rfl ?_
        refine r_iload_n (i := 3) C dX12_factOf_61 rfl 3 rfl ?_
        obtain ⟨x5, e6, hf⟩ := cl_of hf
        refine r_callVi (As := [.int a3]) (st := []) C 208 rfl (by decide) rfl (kX12_rustOf (xG X) e6) cw_X12_262 rfl rfl (Nat.le_of_ble_eq_true rfl) (zr2 hR rfl rfl) (zrcs hcs) dX12_factOf_62 ?_
        cases hf
        exact r_iret C hF dX12_factOf_65
      · rw [if_neg c4] at hf
        by_cases c7 : a1 = (3 : Int32)
        · rw [if_pos c7] at hf
          refine r_tableIn C 66 dX12_factOf_1 (by rw [c7] <;> decide) (by rw [c7] <;> decide) (by rw [c7] <;> rfl) (by decide) ?_
          refine r_aload_n (i := 0) C dX12_factOf_66 rfl 0 rfl ?_
          refine g_X12_13 C dX12_factOf_67 ?_
          refine r_bipush (v := 14) C dX12_factOf_70 (by decide) ?_
          refine r_iload_n (i := 3) C dX12_factOf_72 rfl 3 rfl ?_
          refine r_iadd C dX12_factOf_73 ?_
          obtain ⟨g8, hf⟩ := gd_of hf
          refine r_iald C 209 rfl (by decide) g8 dX12_factOf_74 ?_
          cases hf
          exact r_iret C hF dX12_factOf_75
        · rw [if_neg c7] at hf
          by_cases c9 : a1 = (4 : Int32)
          · rw [if_pos c9] at hf
            refine r_tableIn C 76 dX12_factOf_1 (by rw [c9] <;> decide) (by rw [c9] <;> decide) (by rw [c9] <;> rfl) (by decide) ?_
            refine r_aload_n (i := 0) C dX12_factOf_76 rfl 0 rfl ?_
            refine r_iload_n (i := 3) C dX12_factOf_77 rfl 3 rfl ?_
            obtain ⟨x10, e11, hf⟩ := cl_of hf
            refine r_callVi (As := [.int a3]) (st := []) C 208 rfl (by decide) rfl (kX12_gapOf (xG X) e11) cw_X12_265 rfl rfl (Nat.le_of_ble_eq_true rfl) (zr2 hR rfl rfl) (zrcs hcs) dX12_factOf_78 ?_
            cases hf
            exact r_iret C hF dX12_factOf_81
          · rw [if_neg c9] at hf
            by_cases c12 : a1 = (5 : Int32)
            · rw [if_pos c12] at hf
              refine r_tableIn C 82 dX12_factOf_1 (by rw [c12] <;> decide) (by rw [c12] <;> decide) (by rw [c12] <;> rfl) (by decide) ?_
              refine r_aload_n (i := 0) C dX12_factOf_82 rfl 0 rfl ?_
              refine g_X12_13 C dX12_factOf_83 ?_
              refine r_iconst (v := 3) C dX12_factOf_86 (by decide) ?_
              refine r_ialdc C 209 (m := 3) rfl (by decide) (by decide) (show inb 3 2031 by decide) dX12_factOf_87 ?_
              cases hf
              exact r_iret C hF dX12_factOf_88
            · rw [if_neg c12] at hf
              by_cases c13 : a1 = (6 : Int32)
              · rw [if_pos c13] at hf
                refine r_tableIn C 89 dX12_factOf_1 (by rw [c13] <;> decide) (by rw [c13] <;> decide) (by rw [c13] <;> rfl) (by decide) ?_
                refine r_aload_n (i := 0) C dX12_factOf_89 rfl 0 rfl ?_
                refine g_X12_250 C dX12_factOf_90 ?_
                refine r_iload_n (i := 3) C dX12_factOf_93 rfl 3 rfl ?_
                refine r_callSi (As := [.int (h 208 18), .int a3]) (st := []) C (kX12_has (xG X)) cw_X12_69 rfl rfl (Nat.le_of_ble_eq_true rfl) (zr2 hR rfl rfl) (zrcs hcs) dX12_factOf_94 ?_
                refine r_if_eq C 104 dX12_factOf_97 (by decide) (fun c14 => ?_) (fun c14 => ?_)
                · rw [if_pos c14] at hf
                  refine r_iconst (v := 0) C dX12_factOf_104 (by decide) ?_
                  cases hf
                  exact r_iret C hF dX12_factOf_105
                · rw [if_neg c14] at hf
                  refine r_iconst (v := 1) C dX12_factOf_100 (by decide) ?_
                  refine r_goto C 105 dX12_factOf_101 (by decide) ?_
                  cases hf
                  exact r_iret C hF dX12_factOf_105
              · rw [if_neg c13] at hf
                by_cases c15 : a1 = (7 : Int32)
                · rw [if_pos c15] at hf
                  refine r_tableIn C 106 dX12_factOf_1 (by rw [c15] <;> decide) (by rw [c15] <;> decide) (by rw [c15] <;> rfl) (by decide) ?_
                  refine r_aload_n (i := 0) C dX12_factOf_106 rfl 0 rfl ?_
                  refine r_iload_n (i := 3) C dX12_factOf_107 rfl 3 rfl ?_
                  refine r_callVi (As := [.int a3]) (st := []) C 208 rfl (by decide) rfl (kX12_hasLadder (xG X)) cw_X12_268 rfl rfl (Nat.le_of_ble_eq_true rfl) (zr2 hR rfl rfl) (zrcs hcs) dX12_factOf_108 ?_
                  refine r_if_eq C 118 dX12_factOf_111 (by decide) (fun c16 => ?_) (fun c16 => ?_)
                  · rw [if_pos c16] at hf
                    refine r_iconst (v := 0) C dX12_factOf_118 (by decide) ?_
                    cases hf
                    exact r_iret C hF dX12_factOf_119
                  · rw [if_neg c16] at hf
                    refine r_iconst (v := 1) C dX12_factOf_114 (by decide) ?_
                    refine r_goto C 119 dX12_factOf_115 (by decide) ?_
                    cases hf
                    exact r_iret C hF dX12_factOf_119
                · rw [if_neg c15] at hf
                  refine r_tableOut C 120 dX12_factOf_1 (sw_out2 (0) (7) 8 (by decide) ?_ (by decide) (by decide)) (by decide) ?_
                  · intro k9 h9
                    match k9, h9 with
                    | 0, _ => exact fun e9 => c1 (e9.trans (by decide))
                    | 1, _ => exact fun e9 => c2 (e9.trans (by decide))
                    | 2, _ => exact fun e9 => c4 (e9.trans (by decide))
                    | 3, _ => exact fun e9 => c7 (e9.trans (by decide))
                    | 4, _ => exact fun e9 => c9 (e9.trans (by decide))
                    | 5, _ => exact fun e9 => c12 (e9.trans (by decide))
                    | 6, _ => exact fun e9 => c13 (e9.trans (by decide))
                    | 7, _ => exact fun e9 => c15 (e9.trans (by decide))
                    | k9 + 8, h9 => exact absurd h9 (by omega)
                  refine r_iload_n (i := 2) C dX12_factOf_120 rfl 2 rfl ?_
                  cases hf
                  exact r_iret C hF dX12_factOf_121
def BX12_holdsLine_0  (rec : Hp → Int32 → Int32 → Int32 → Int32 → Option (Int32 × Hp)) (h : Hp) (y2 : Int32) (y3 : Int32) (y4 : Int32) (y5 : Int32) : Option (Int32 × Hp) := gd (inb (y4 + (3 : Int32)) 2031) ((if (h 209 (y4 + (3 : Int32)).toNatClampNeg) ≤ y5 then (if y3 = (0 : Int32) then some ((1 : Int32), h) else (if (h 216 0) = (1 : Int32) then some ((1 : Int32), h) else some ((0 : Int32), h))) else gd (inb ((382 : Int32) + ((2 : Int32) * y5)) 2031) ((if (8 : Int32) < (h 209 ((382 : Int32) + ((2 : Int32) * y5)).toNatClampNeg) then (if (h 209 ((382 : Int32) + ((2 : Int32) * y5)).toNatClampNeg) = (12 : Int32) then gd (inb (y3 - (1 : Int32)) 400) (gd (inb (y3 - (1 : Int32)) 400) (lt9 (up2 h 216 (y3 - (1 : Int32)).toNatClampNeg ((1 : Int32) - (h 216 (y3 - (1 : Int32)).toNatClampNeg))) (fun h34 => lt9 (y5 + (1 : Int32)) (fun x35 => rec h34 y2 y3 y4 x35)))) else lt9 (y3 + (-1 : Int32)) (fun x8 => gd (inb (x8 - (1 : Int32)) 400) (gd (inb x8 400) (cl9 ((if (h 209 ((382 : Int32) + ((2 : Int32) * y5)).toNatClampNeg) = (10 : Int32) then (if (h 216 x8.toNatClampNeg) ≤ (h 216 (x8 - (1 : Int32)).toNatClampNeg) then some (0 : Int32) else some (1 : Int32)) else (if (h 209 ((382 : Int32) + ((2 : Int32) * y5)).toNatClampNeg) = (11 : Int32) then (if (h 216 (x8 - (1 : Int32)).toNatClampNeg) ≤ (h 216 x8.toNatClampNeg) then some (0 : Int32) else some (1 : Int32)) else (if (h 209 ((382 : Int32) + ((2 : Int32) * y5)).toNatClampNeg) = (13 : Int32) then (if ((h 216 (x8 - (1 : Int32)).toNatClampNeg) + (h 216 x8.toNatClampNeg)) = (2 : Int32) then some (1 : Int32) else some (0 : Int32)) else (if ((h 216 (x8 - (1 : Int32)).toNatClampNeg) + (h 216 x8.toNatClampNeg)) ≤ (0 : Int32) then some (0 : Int32) else some (1 : Int32))))) : Option (Int32)) (fun v11 => (if (h 209 ((382 : Int32) + ((2 : Int32) * y5)).toNatClampNeg) = (9 : Int32) then gd (inb (x8 - (1 : Int32)) 400) (lt9 (up2 h 216 (x8 - (1 : Int32)).toNatClampNeg ((h 216 (x8 - (1 : Int32)).toNatClampNeg) + (h 216 x8.toNatClampNeg))) (fun h30 => lt9 (y5 + (1 : Int32)) (fun x31 => rec h30 y2 x8 y4 x31))) else (if v11 = (0 : Int32) then gd (inb (x8 - (1 : Int32)) 400) (lt9 (up2 h 216 (x8 - (1 : Int32)).toNatClampNeg (0 : Int32)) (fun h24 => lt9 (y5 + (1 : Int32)) (fun x25 => rec h24 y2 x8 y4 x25))) else gd (inb (x8 - (1 : Int32)) 400) (lt9 (up2 h 216 (x8 - (1 : Int32)).toNatClampNeg (1 : Int32)) (fun h27 => lt9 (y5 + (1 : Int32)) (fun x28 => rec h27 y2 x8 y4 x28)))))))))) else gd (inb (((382 : Int32) + ((2 : Int32) * y5)) + (1 : Int32)) 2031) (cl9 (fX12_factOf h (h 209 ((382 : Int32) + ((2 : Int32) * y5)).toNatClampNeg) (h 209 (((382 : Int32) + ((2 : Int32) * y5)) + (1 : Int32)).toNatClampNeg) y2) (fun x37 => gd (inb y3 400) (lt9 (up2 h 216 y3.toNatClampNeg x37) (fun h40 => lt9 (y3 + (1 : Int32)) (fun x41 => lt9 (y5 + (1 : Int32)) (fun x42 => rec h40 y2 x41 y4 x42))))))))))
def LX12_holdsLine  : Nat → Hp → Int32 → Int32 → Int32 → Int32 → Option (Int32 × Hp)
  | 0, _, _, _, _, _ => none
  | n + 1, h, y2, y3, y4, y5 => BX12_holdsLine_0  (LX12_holdsLine  n) h y2 y3 y4 y5
def fX12_holdsLine (h : Hp) (a1 : Int32) (a2 : Int32) : Option (Int32 × Hp) := lt9 ((334 : Int32) + ((4 : Int32) * a1)) (fun x43 => gd (inb (x43 + (2 : Int32)) 2031) (LX12_holdsLine big h a2 (0 : Int32) x43 (h 209 (x43 + (2 : Int32)).toNatClampNeg)))
set_option maxHeartbeats 4000000 in
set_option maxRecDepth 100000 in
theorem wX12_holdsLine {X : Cx}  {rr : Int32} {hh : Hp} (C : OK X cX12_holdsLine 10 RX12 (some .boolean)) (hR : xR X = { frames := 5, cells := 0, slots := 0, locals := 320 }) (hcs : True) (hF : FinR X (some (.int rr)) hh) : ∀ n : Nat, (∀ (h : Hp) (y2 : Int32) (y3 : Int32) (y4 : Int32) (y5 : Int32), LX12_holdsLine  n h y2 y3 y4 y5 = some (rr, hh) → VW X 10 h 0 0 22 [(0, .ref (gad (xG X) 208)), (2, .int y2), (3, .int y3), (4, .int y4), (5, .int y5)] []) := by
  intro n
  induction n with
  | zero => exact (fun _ _ _ _ _ hf => (by rw [LX12_holdsLine] at hf; cases hf))
  | succ n ih =>
    intro h y2 y3 y4 y5 hf
    rw [LX12_holdsLine] at hf
    unfold BX12_holdsLine_0 at hf
    refine r_iload (i := 5) C dX12_holdsLine_22 4 rfl ?_
    refine r_aload_n (i := 0) C dX12_holdsLine_24 rfl 0 rfl ?_
    refine g_X12_13 C dX12_holdsLine_25 ?_
    refine r_iload (i := 4) C dX12_holdsLine_28 3 rfl ?_
    refine r_iconst (v := 3) C dX12_holdsLine_30 (by decide) ?_
    refine r_iadd C dX12_holdsLine_31 ?_
    obtain ⟨g1, hf⟩ := gd_of hf
    refine r_iald C 209 rfl (by decide) g1 dX12_holdsLine_32 ?_
    refine r_icmp_ge C 263 dX12_holdsLine_33 (by decide) (fun c2 => ?_) (fun c2 => ?_)
    · rw [if_pos c2] at hf
      refine r_iload_n (i := 3) C dX12_holdsLine_263 rfl 2 rfl ?_
      refine r_if_eq C 277 dX12_holdsLine_264 (by decide) (fun c3 => ?_) (fun c3 => ?_)
      · rw [if_pos c3] at hf
        refine r_iconst (v := 1) C dX12_holdsLine_277 (by decide) ?_
        refine r_goto C 282 dX12_holdsLine_278 (by decide) ?_
        have zz : (1 : Int32) = 0 ∨ (1 : Int32) = 1 := (Or.inr rfl)
        cases hf
        exact r_zret C zz hF dX12_holdsLine_282
      · rw [if_neg c3] at hf
        refine r_aload_n (i := 0) C dX12_holdsLine_267 rfl 0 rfl ?_
        refine g_X12_39 C dX12_holdsLine_268 ?_
        refine r_iconst (v := 0) C dX12_holdsLine_271 (by decide) ?_
        refine r_ialdc C 216 (m := 0) rfl (by decide) (by decide) (show inb 0 400 by decide) dX12_holdsLine_272 ?_
        refine r_iconst (v := 1) C dX12_holdsLine_273 (by decide) ?_
        refine r_icmp_ne C 281 dX12_holdsLine_274 (by decide) (fun c4 => ?_) (fun c4 => ?_)
        · rw [if_neg c4] at hf
          refine r_iconst (v := 0) C dX12_holdsLine_281 (by decide) ?_
          have zz : (0 : Int32) = 0 ∨ (0 : Int32) = 1 := (Or.inl rfl)
          cases hf
          exact r_zret C zz hF dX12_holdsLine_282
        · rw [if_pos c4] at hf
          refine r_iconst (v := 1) C dX12_holdsLine_277 (by decide) ?_
          refine r_goto C 282 dX12_holdsLine_278 (by decide) ?_
          have zz : (1 : Int32) = 0 ∨ (1 : Int32) = 1 := (Or.inr rfl)
          cases hf
          exact r_zret C zz hF dX12_holdsLine_282
    · rw [if_neg c2] at hf
      refine r_aload_n (i := 0) C dX12_holdsLine_36 rfl 0 rfl ?_
      refine g_X12_13 C dX12_holdsLine_37 ?_
      refine r_sipush (v := 382) C dX12_holdsLine_40 (by decide) ?_
      refine r_iconst (v := 2) C dX12_holdsLine_43 (by decide) ?_
      refine r_iload (i := 5) C dX12_holdsLine_44 4 rfl ?_
      refine r_imul C dX12_holdsLine_46 ?_
      refine r_iadd C dX12_holdsLine_47 ?_
      obtain ⟨g5, hf⟩ := gd_of hf
      refine r_iald C 209 rfl (by decide) g5 dX12_holdsLine_48 ?_
      refine r_istore (i := 6) (lv' := [(0, .ref (gad (xG X) 208)), (2, .int y2), (3, .int y3), (4, .int y4), (5, .int y5), (6, .int (h 209 ((382 : Int32) + ((2 : Int32) * y5)).toNatClampNeg))]) C dX12_holdsLine_49 (by decide) [1, 2, 3, 4, 5, 0] rfl ?_
      refine r_iload (i := 6) C dX12_holdsLine_51 5 rfl ?_
      refine r_bipush (v := 8) C dX12_holdsLine_53 (by decide) ?_
      refine r_icmp_gt C 92 dX12_holdsLine_55 (by decide) (fun c6 => ?_) (fun c6 => ?_)
      · rw [if_pos c6] at hf
        refine r_iload (i := 6) C dX12_holdsLine_92 5 rfl ?_
        refine r_bipush (v := 12) C dX12_holdsLine_94 (by decide) ?_
        refine r_icmp_ne C 120 dX12_holdsLine_96 (by decide) (fun c7 => ?_) (fun c7 => ?_)
        · rw [if_neg c7] at hf
          obtain ⟨x8, ex8, hf⟩ := lt_of hf
          refine r_iinc (j := 2) (v := x8) (lv' := [(0, .ref (gad (xG X) 208)), (2, .int y2), (3, .int x8), (4, .int y4), (5, .int y5), (6, .int (h 209 ((382 : Int32) + ((2 : Int32) * y5)).toNatClampNeg))]) C dX12_holdsLine_120 rfl (by rw [ex8]; rfl) (by decide) [1, 2, 0, 3, 4, 5] rfl ?_
          refine r_aload_n (i := 0) C dX12_holdsLine_123 rfl 0 rfl ?_
          refine g_X12_39 C dX12_holdsLine_124 ?_
          refine r_iload_n (i := 3) C dX12_holdsLine_127 rfl 2 rfl ?_
          refine r_iconst (v := 1) C dX12_holdsLine_128 (by decide) ?_
          refine r_isub C dX12_holdsLine_129 ?_
          obtain ⟨g9, hf⟩ := gd_of hf
          refine r_iald C 216 rfl (by decide) g9 dX12_holdsLine_130 ?_
          refine r_istore (i := 7) (lv' := [(0, .ref (gad (xG X) 208)), (2, .int y2), (3, .int x8), (4, .int y4), (5, .int y5), (6, .int (h 209 ((382 : Int32) + ((2 : Int32) * y5)).toNatClampNeg)), (7, .int (h 216 (x8 - (1 : Int32)).toNatClampNeg))]) C dX12_holdsLine_131 (by decide) [1, 2, 3, 4, 5, 6, 0] rfl ?_
          refine r_aload_n (i := 0) C dX12_holdsLine_133 rfl 0 rfl ?_
          refine g_X12_39 C dX12_holdsLine_134 ?_
          refine r_iload_n (i := 3) C dX12_holdsLine_137 rfl 2 rfl ?_
          obtain ⟨g10, hf⟩ := gd_of hf
          refine r_iald C 216 rfl (by decide) g10 dX12_holdsLine_138 ?_
          refine r_istore (i := 8) (lv' := [(0, .ref (gad (xG X) 208)), (2, .int y2), (3, .int x8), (4, .int y4), (5, .int y5), (6, .int (h 209 ((382 : Int32) + ((2 : Int32) * y5)).toNatClampNeg)), (7, .int (h 216 (x8 - (1 : Int32)).toNatClampNeg)), (8, .int (h 216 x8.toNatClampNeg))]) C dX12_holdsLine_139 (by decide) [1, 2, 3, 4, 5, 6, 7, 0] rfl ?_
          refine r_iload (i := 6) C dX12_holdsLine_141 5 rfl ?_
          refine r_bipush (v := 10) C dX12_holdsLine_143 (by decide) ?_
          obtain ⟨v11, r13, hf⟩ := cl_of hf
          have k12 : VW X 10 h 0 0 222 [(0, .ref (gad (xG X) 208)), (2, .int y2), (3, .int x8), (4, .int y4), (5, .int y5), (6, .int (h 209 ((382 : Int32) + ((2 : Int32) * y5)).toNatClampNeg)), (7, .int (h 216 (x8 - (1 : Int32)).toNatClampNeg)), (8, .int (h 216 x8.toNatClampNeg))] [.int v11] := by
            refine r_istore (i := 9) (lv' := [(0, .ref (gad (xG X) 208)), (2, .int y2), (3, .int x8), (4, .int y4), (5, .int y5), (6, .int (h 209 ((382 : Int32) + ((2 : Int32) * y5)).toNatClampNeg)), (7, .int (h 216 (x8 - (1 : Int32)).toNatClampNeg)), (8, .int (h 216 x8.toNatClampNeg)), (9, .int v11)]) C dX12_holdsLine_222 (by decide) [1, 2, 3, 4, 5, 6, 7, 8, 0] rfl ?_
            refine r_aload_n (i := 0) C dX12_holdsLine_224 rfl 0 rfl ?_
            refine g_X12_39 C dX12_holdsLine_225 ?_
            refine r_iload_n (i := 3) C dX12_holdsLine_228 rfl 2 rfl ?_
            refine r_iconst (v := 1) C dX12_holdsLine_229 (by decide) ?_
            refine r_isub C dX12_holdsLine_230 ?_
            refine r_iload (i := 6) C dX12_holdsLine_231 5 rfl ?_
            refine r_bipush (v := 9) C dX12_holdsLine_233 (by decide) ?_
            refine r_icmp_ne C 246 dX12_holdsLine_235 (by decide) (fun c21 => ?_) (fun c21 => ?_)
            · rw [if_neg c21] at hf
              refine r_iload (i := 9) C dX12_holdsLine_246 8 rfl ?_
              refine r_if_eq C 255 dX12_holdsLine_248 (by decide) (fun c22 => ?_) (fun c22 => ?_)
              · rw [if_pos c22] at hf
                refine r_iconst (v := 0) C dX12_holdsLine_255 (by decide) ?_
                obtain ⟨g23, hf⟩ := gd_of hf
                obtain ⟨h24, eh24, hf⟩ := lt_of hf
                refine r_iast C 216 eh24 rfl (by decide) g23 dX12_holdsLine_256 ?_
                obtain ⟨x25, ex25, hf⟩ := lt_of hf
                refine r_iinc (j := 4) (v := x25) (lv' := [(0, .ref (gad (xG X) 208)), (2, .int y2), (3, .int x8), (4, .int y4), (5, .int x25), (6, .int (h 209 ((382 : Int32) + ((2 : Int32) * y5)).toNatClampNeg)), (7, .int (h 216 (x8 - (1 : Int32)).toNatClampNeg)), (8, .int (h 216 x8.toNatClampNeg)), (9, .int v11)]) C dX12_holdsLine_257 rfl (by rw [ex25]; rfl) (by decide) [1, 2, 3, 4, 0, 5, 6, 7, 8] rfl ?_
                refine r_goto C 22 dX12_holdsLine_260 (by decide) ?_
                exact r_lv [0, 1, 2, 3, 4] rfl (ih _ _ _ _ _ hf)
              · rw [if_neg c22] at hf
                refine r_iconst (v := 1) C dX12_holdsLine_251 (by decide) ?_
                refine r_goto C 256 dX12_holdsLine_252 (by decide) ?_
                obtain ⟨g26, hf⟩ := gd_of hf
                obtain ⟨h27, eh27, hf⟩ := lt_of hf
                refine r_iast C 216 eh27 rfl (by decide) g26 dX12_holdsLine_256 ?_
                obtain ⟨x28, ex28, hf⟩ := lt_of hf
                refine r_iinc (j := 4) (v := x28) (lv' := [(0, .ref (gad (xG X) 208)), (2, .int y2), (3, .int x8), (4, .int y4), (5, .int x28), (6, .int (h 209 ((382 : Int32) + ((2 : Int32) * y5)).toNatClampNeg)), (7, .int (h 216 (x8 - (1 : Int32)).toNatClampNeg)), (8, .int (h 216 x8.toNatClampNeg)), (9, .int v11)]) C dX12_holdsLine_257 rfl (by rw [ex28]; rfl) (by decide) [1, 2, 3, 4, 0, 5, 6, 7, 8] rfl ?_
                refine r_goto C 22 dX12_holdsLine_260 (by decide) ?_
                exact r_lv [0, 1, 2, 3, 4] rfl (ih _ _ _ _ _ hf)
            · rw [if_pos c21] at hf
              refine r_iload (i := 7) C dX12_holdsLine_238 6 rfl ?_
              refine r_iload (i := 8) C dX12_holdsLine_240 7 rfl ?_
              refine r_iadd C dX12_holdsLine_242 ?_
              refine r_goto C 256 dX12_holdsLine_243 (by decide) ?_
              obtain ⟨g29, hf⟩ := gd_of hf
              obtain ⟨h30, eh30, hf⟩ := lt_of hf
              refine r_iast C 216 eh30 rfl (by decide) g29 dX12_holdsLine_256 ?_
              obtain ⟨x31, ex31, hf⟩ := lt_of hf
              refine r_iinc (j := 4) (v := x31) (lv' := [(0, .ref (gad (xG X) 208)), (2, .int y2), (3, .int x8), (4, .int y4), (5, .int x31), (6, .int (h 209 ((382 : Int32) + ((2 : Int32) * y5)).toNatClampNeg)), (7, .int (h 216 (x8 - (1 : Int32)).toNatClampNeg)), (8, .int (h 216 x8.toNatClampNeg)), (9, .int v11)]) C dX12_holdsLine_257 rfl (by rw [ex31]; rfl) (by decide) [1, 2, 3, 4, 0, 5, 6, 7, 8] rfl ?_
              refine r_goto C 22 dX12_holdsLine_260 (by decide) ?_
              exact r_lv [0, 1, 2, 3, 4] rfl (ih _ _ _ _ _ hf)
          clear hf
          have hf := r13
          refine r_icmp_ne C 163 dX12_holdsLine_145 (by decide) (fun c14 => ?_) (fun c14 => ?_)
          · rw [if_neg c14] at hf
            refine r_iload (i := 6) C dX12_holdsLine_163 5 rfl ?_
            refine r_bipush (v := 11) C dX12_holdsLine_165 (by decide) ?_
            refine r_icmp_ne C 185 dX12_holdsLine_167 (by decide) (fun c15 => ?_) (fun c15 => ?_)
            · rw [if_neg c15] at hf
              refine r_iload (i := 6) C dX12_holdsLine_185 5 rfl ?_
              refine r_bipush (v := 13) C dX12_holdsLine_187 (by decide) ?_
              refine r_icmp_ne C 209 dX12_holdsLine_189 (by decide) (fun c16 => ?_) (fun c16 => ?_)
              · rw [if_neg c16] at hf
                refine r_iload (i := 7) C dX12_holdsLine_209 6 rfl ?_
                refine r_iload (i := 8) C dX12_holdsLine_211 7 rfl ?_
                refine r_iadd C dX12_holdsLine_213 ?_
                refine r_if_le C 221 dX12_holdsLine_214 (by decide) (fun c17 => ?_) (fun c17 => ?_)
                · rw [if_pos c17] at hf
                  refine r_iconst (v := 0) C dX12_holdsLine_221 (by decide) ?_
                  cases hf
                  exact k12
                · rw [if_neg c17] at hf
                  refine r_iconst (v := 1) C dX12_holdsLine_217 (by decide) ?_
                  refine r_goto C 222 dX12_holdsLine_218 (by decide) ?_
                  cases hf
                  exact k12
              · rw [if_pos c16] at hf
                refine r_iload (i := 7) C dX12_holdsLine_192 6 rfl ?_
                refine r_iload (i := 8) C dX12_holdsLine_194 7 rfl ?_
                refine r_iadd C dX12_holdsLine_196 ?_
                refine r_iconst (v := 2) C dX12_holdsLine_197 (by decide) ?_
                refine r_icmp_ne C 205 dX12_holdsLine_198 (by decide) (fun c18 => ?_) (fun c18 => ?_)
                · rw [if_neg c18] at hf
                  refine r_iconst (v := 0) C dX12_holdsLine_205 (by decide) ?_
                  refine r_goto C 222 dX12_holdsLine_206 (by decide) ?_
                  cases hf
                  exact k12
                · rw [if_pos c18] at hf
                  refine r_iconst (v := 1) C dX12_holdsLine_201 (by decide) ?_
                  refine r_goto C 222 dX12_holdsLine_202 (by decide) ?_
                  cases hf
                  exact k12
            · rw [if_pos c15] at hf
              refine r_iload (i := 7) C dX12_holdsLine_170 6 rfl ?_
              refine r_iload (i := 8) C dX12_holdsLine_172 7 rfl ?_
              refine r_icmp_le C 181 dX12_holdsLine_174 (by decide) (fun c19 => ?_) (fun c19 => ?_)
              · rw [if_pos c19] at hf
                refine r_iconst (v := 0) C dX12_holdsLine_181 (by decide) ?_
                refine r_goto C 222 dX12_holdsLine_182 (by decide) ?_
                cases hf
                exact k12
              · rw [if_neg c19] at hf
                refine r_iconst (v := 1) C dX12_holdsLine_177 (by decide) ?_
                refine r_goto C 222 dX12_holdsLine_178 (by decide) ?_
                cases hf
                exact k12
          · rw [if_pos c14] at hf
            refine r_iload (i := 7) C dX12_holdsLine_148 6 rfl ?_
            refine r_iload (i := 8) C dX12_holdsLine_150 7 rfl ?_
            refine r_icmp_ge C 159 dX12_holdsLine_152 (by decide) (fun c20 => ?_) (fun c20 => ?_)
            · rw [if_pos c20] at hf
              refine r_iconst (v := 0) C dX12_holdsLine_159 (by decide) ?_
              refine r_goto C 222 dX12_holdsLine_160 (by decide) ?_
              cases hf
              exact k12
            · rw [if_neg c20] at hf
              refine r_iconst (v := 1) C dX12_holdsLine_155 (by decide) ?_
              refine r_goto C 222 dX12_holdsLine_156 (by decide) ?_
              cases hf
              exact k12
        · rw [if_pos c7] at hf
          refine r_aload_n (i := 0) C dX12_holdsLine_99 rfl 0 rfl ?_
          refine g_X12_39 C dX12_holdsLine_100 ?_
          refine r_iload_n (i := 3) C dX12_holdsLine_103 rfl 2 rfl ?_
          refine r_iconst (v := 1) C dX12_holdsLine_104 (by decide) ?_
          refine r_isub C dX12_holdsLine_105 ?_
          refine r_iconst (v := 1) C dX12_holdsLine_106 (by decide) ?_
          refine r_aload_n (i := 0) C dX12_holdsLine_107 rfl 0 rfl ?_
          refine g_X12_39 C dX12_holdsLine_108 ?_
          refine r_iload_n (i := 3) C dX12_holdsLine_111 rfl 2 rfl ?_
          refine r_iconst (v := 1) C dX12_holdsLine_112 (by decide) ?_
          refine r_isub C dX12_holdsLine_113 ?_
          obtain ⟨g32, hf⟩ := gd_of hf
          refine r_iald C 216 rfl (by decide) g32 dX12_holdsLine_114 ?_
          refine r_isub C dX12_holdsLine_115 ?_
          obtain ⟨g33, hf⟩ := gd_of hf
          obtain ⟨h34, eh34, hf⟩ := lt_of hf
          refine r_iast C 216 eh34 rfl (by decide) g33 dX12_holdsLine_116 ?_
          refine r_goto C 257 dX12_holdsLine_117 (by decide) ?_
          obtain ⟨x35, ex35, hf⟩ := lt_of hf
          refine r_iinc (j := 4) (v := x35) (lv' := [(0, .ref (gad (xG X) 208)), (2, .int y2), (3, .int y3), (4, .int y4), (5, .int x35), (6, .int (h 209 ((382 : Int32) + ((2 : Int32) * y5)).toNatClampNeg))]) C dX12_holdsLine_257 rfl (by rw [ex35]; rfl) (by decide) [1, 2, 3, 4, 0, 5] rfl ?_
          refine r_goto C 22 dX12_holdsLine_260 (by decide) ?_
          exact r_lv [0, 1, 2, 3, 4] rfl (ih _ _ _ _ _ hf)
      · rw [if_neg c6] at hf
        refine r_aload_n (i := 0) C dX12_holdsLine_58 rfl 0 rfl ?_
        refine g_X12_39 C dX12_holdsLine_59 ?_
        refine r_iload_n (i := 3) C dX12_holdsLine_62 rfl 2 rfl ?_
        refine r_aload_n (i := 0) C dX12_holdsLine_63 rfl 0 rfl ?_
        refine r_iload (i := 6) C dX12_holdsLine_64 5 rfl ?_
        refine r_aload_n (i := 0) C dX12_holdsLine_66 rfl 0 rfl ?_
        refine g_X12_13 C dX12_holdsLine_67 ?_
        refine r_sipush (v := 382) C dX12_holdsLine_70 (by decide) ?_
        refine r_iconst (v := 2) C dX12_holdsLine_73 (by decide) ?_
        refine r_iload (i := 5) C dX12_holdsLine_74 4 rfl ?_
        refine r_imul C dX12_holdsLine_76 ?_
        refine r_iadd C dX12_holdsLine_77 ?_
        refine r_iconst (v := 1) C dX12_holdsLine_78 (by decide) ?_
        refine r_iadd C dX12_holdsLine_79 ?_
        obtain ⟨g36, hf⟩ := gd_of hf
        refine r_iald C 209 rfl (by decide) g36 dX12_holdsLine_80 ?_
        refine r_iload_n (i := 2) C dX12_holdsLine_81 rfl 1 rfl ?_
        obtain ⟨x37, e38, hf⟩ := cl_of hf
        refine r_callVi (As := [.int (h 209 ((382 : Int32) + ((2 : Int32) * y5)).toNatClampNeg), .int (h 209 (((382 : Int32) + ((2 : Int32) * y5)) + (1 : Int32)).toNatClampNeg), .int y2]) (st := [.int y3, .ref (gad (xG X) 216)]) C 208 rfl (by decide) rfl (kX12_factOf (xG X) e38) cw_X12_271 rfl rfl (Nat.le_of_ble_eq_true rfl) (zr2 hR rfl rfl) (zrcs hcs) dX12_holdsLine_82 ?_
        obtain ⟨g39, hf⟩ := gd_of hf
        obtain ⟨h40, eh40, hf⟩ := lt_of hf
        refine r_iast C 216 eh40 rfl (by decide) g39 dX12_holdsLine_85 ?_
        obtain ⟨x41, ex41, hf⟩ := lt_of hf
        refine r_iinc (j := 2) (v := x41) (lv' := [(0, .ref (gad (xG X) 208)), (2, .int y2), (3, .int x41), (4, .int y4), (5, .int y5), (6, .int (h 209 ((382 : Int32) + ((2 : Int32) * y5)).toNatClampNeg))]) C dX12_holdsLine_86 rfl (by rw [ex41]; rfl) (by decide) [1, 2, 0, 3, 4, 5] rfl ?_
        refine r_goto C 257 dX12_holdsLine_89 (by decide) ?_
        obtain ⟨x42, ex42, hf⟩ := lt_of hf
        refine r_iinc (j := 4) (v := x42) (lv' := [(0, .ref (gad (xG X) 208)), (2, .int y2), (3, .int x41), (4, .int y4), (5, .int x42), (6, .int (h 209 ((382 : Int32) + ((2 : Int32) * y5)).toNatClampNeg))]) C dX12_holdsLine_257 rfl (by rw [ex42]; rfl) (by decide) [1, 2, 3, 4, 0, 5] rfl ?_
        refine r_goto C 22 dX12_holdsLine_260 (by decide) ?_
        exact r_lv [0, 1, 2, 3, 4] rfl (ih _ _ _ _ _ hf)
set_option maxHeartbeats 4000000 in
set_option maxRecDepth 100000 in
theorem kX12_holdsLine (G : Gx)  {h : Hp} {a1 : Int32} {a2 : Int32} {rr : Int32} {hh : Hp} (hf : fX12_holdsLine h a1 a2 = some (rr, hh)) : MC G yX12_holdsLine cX12_holdsLine 10 (some .boolean) 5 320 h [.ref (gad G 208), .int a1, .int a2] (some (.int rr)) hh := by
  refine MC.of RX12 (by decide) rfl (Nat.le_of_ble_eq_true rfl) rfl (fun X C hG hR hF => ?_)
  subst hG
  have hcs : True := trivial
  unfold fX12_holdsLine at hf
  refine r_iconst (v := 0) C dX12_holdsLine_0 (by decide) ?_
  refine r_istore_n (i := 3) (lv' := [(0, .ref (gad (xG X) 208)), (1, .int a1), (2, .int a2), (3, .int (0 : Int32))]) C dX12_holdsLine_1 rfl (by decide) [1, 2, 3, 0] rfl ?_
  refine r_sipush (v := 334) C dX12_holdsLine_2 (by decide) ?_
  refine r_iconst (v := 4) C dX12_holdsLine_5 (by decide) ?_
  refine r_iload_n (i := 1) C dX12_holdsLine_6 rfl 1 rfl ?_
  refine r_imul C dX12_holdsLine_7 ?_
  refine r_iadd C dX12_holdsLine_8 ?_
  obtain ⟨x43, ex43, hf⟩ := lt_of hf
  refine r_top ex43 ?_
  refine r_istore (i := 4) (lv' := [(0, .ref (gad (xG X) 208)), (1, .int a1), (2, .int a2), (3, .int (0 : Int32)), (4, .int x43)]) C dX12_holdsLine_9 (by decide) [1, 2, 3, 4, 0] rfl ?_
  refine r_aload_n (i := 0) C dX12_holdsLine_11 rfl 0 rfl ?_
  refine g_X12_13 C dX12_holdsLine_12 ?_
  refine r_iload (i := 4) C dX12_holdsLine_15 4 rfl ?_
  refine r_iconst (v := 2) C dX12_holdsLine_17 (by decide) ?_
  refine r_iadd C dX12_holdsLine_18 ?_
  obtain ⟨g44, hf⟩ := gd_of hf
  refine r_iald C 209 rfl (by decide) g44 dX12_holdsLine_19 ?_
  refine r_istore (i := 5) (lv' := [(0, .ref (gad (xG X) 208)), (1, .int a1), (2, .int a2), (3, .int (0 : Int32)), (4, .int x43), (5, .int (h 209 (x43 + (2 : Int32)).toNatClampNeg))]) C dX12_holdsLine_20 (by decide) [1, 2, 3, 4, 5, 0] rfl ?_
  exact r_lv [0, 2, 3, 4, 5] rfl ((wX12_holdsLine  C hR hcs hF big) _ _ _ _ _ hf)
def fX12_hasLaw (h : Hp) : Int32 := (if (h 209 2) = (1 : Int32) then (1 : Int32) else (0 : Int32))
set_option maxHeartbeats 4000000 in
set_option maxRecDepth 100000 in
theorem kX12_hasLaw (G : Gx)  {h : Hp}  : MC G yX12_hasLaw cX12_hasLaw 1 (some .boolean) 1 64 h [.ref (gad G 208)] (some (.int (fX12_hasLaw h))) h := by
  refine MC.of RX12 (by decide) rfl (Nat.le_of_ble_eq_true rfl) rfl (fun X C hG hR hF => ?_)
  subst hG
  have hcs : True := trivial
  obtain ⟨rr, hf⟩ : ∃ rr, fX12_hasLaw h = rr := ⟨_, rfl⟩
  rw [hf] at hF
  unfold fX12_hasLaw at hf
  refine r_aload_n (i := 0) C dX12_hasLaw_0 rfl 0 rfl ?_
  refine g_X12_13 C dX12_hasLaw_1 ?_
  refine r_iconst (v := 2) C dX12_hasLaw_4 (by decide) ?_
  refine r_ialdc C 209 (m := 2) rfl (by decide) (by decide) (show inb 2 2031 by decide) dX12_hasLaw_5 ?_
  refine r_iconst (v := 1) C dX12_hasLaw_6 (by decide) ?_
  refine r_icmp_ne C 14 dX12_hasLaw_7 (by decide) (fun c1 => ?_) (fun c1 => ?_)
  · rw [if_neg c1] at hf
    refine r_iconst (v := 0) C dX12_hasLaw_14 (by decide) ?_
    subst hf
    exact r_zret C (Or.inl rfl) hF dX12_hasLaw_15
  · rw [if_pos c1] at hf
    refine r_iconst (v := 1) C dX12_hasLaw_10 (by decide) ?_
    refine r_goto C 15 dX12_hasLaw_11 (by decide) ?_
    subst hf
    exact r_zret C (Or.inr rfl) hF dX12_hasLaw_15
theorem zX12_hasLaw {h : Hp}   : fX12_hasLaw h = 0 ∨ fX12_hasLaw h = 1 := by
  unfold fX12_hasLaw
  exact by repeat' (first | exact Or.inl rfl | exact Or.inr rfl | (apply b_ite) | (unfold lt9) | assumption | exact zqq)
def BX12_sumOf_0  (rec : Hp → Int32 → Int32 → Int32 → Int32 → Option (Int32 × Hp)) (h : Hp) (y1 : Int32) (y2 : Int32) (y3 : Int32) (y4 : Int32) : Option (Int32 × Hp) := (if (fX12_hasLaw h) = (0 : Int32) then some (y3, h) else (if (h 209 333) ≤ y4 then some (y3, h) else gd (inb ((334 : Int32) + ((4 : Int32) * y4)) 2031) ((if (h 209 ((334 : Int32) + ((4 : Int32) * y4)).toNatClampNeg) = y1 then cl2 (fX12_holdsLine h y4 y2) (fun x8 h6 => (if x8 = (0 : Int32) then lt9 (y4 + (1 : Int32)) (fun x10 => rec h6 y1 y2 y3 x10) else gd (inb (((334 : Int32) + ((4 : Int32) * y4)) + (1 : Int32)) 2031) (lt9 (y3 + (h6 209 (((334 : Int32) + ((4 : Int32) * y4)) + (1 : Int32)).toNatClampNeg)) (fun x12 => lt9 (y4 + (1 : Int32)) (fun x13 => rec h6 y1 y2 x12 x13))))) else lt9 (y4 + (1 : Int32)) (fun x5 => rec h y1 y2 y3 x5)))))
def LX12_sumOf  : Nat → Hp → Int32 → Int32 → Int32 → Int32 → Option (Int32 × Hp)
  | 0, _, _, _, _, _ => none
  | n + 1, h, y1, y2, y3, y4 => BX12_sumOf_0  (LX12_sumOf  n) h y1 y2 y3 y4
def fX12_sumOf (h : Hp) (a1 : Int32) (a2 : Int32) : Option (Int32 × Hp) := LX12_sumOf big h a1 a2 (0 : Int32) (0 : Int32)
set_option maxHeartbeats 4000000 in
set_option maxRecDepth 100000 in
theorem wX12_sumOf {X : Cx}  {rr : Int32} {hh : Hp} (C : OK X cX12_sumOf 5 RX12 (some .int)) (hR : xR X = { frames := 6, cells := 0, slots := 0, locals := 384 }) (hcs : True) (hF : FinR X (some (.int rr)) hh) : ∀ n : Nat, (∀ (h : Hp) (y1 : Int32) (y2 : Int32) (y3 : Int32) (y4 : Int32), LX12_sumOf  n h y1 y2 y3 y4 = some (rr, hh) → VW X 5 h 0 0 5 [(0, .ref (gad (xG X) 208)), (1, .int y1), (2, .int y2), (3, .int y3), (4, .int y4)] []) := by
  intro n
  induction n with
  | zero => exact (fun _ _ _ _ _ hf => (by rw [LX12_sumOf] at hf; cases hf))
  | succ n ih =>
    intro h y1 y2 y3 y4 hf
    rw [LX12_sumOf] at hf
    unfold BX12_sumOf_0 at hf
    refine r_aload_n (i := 0) C dX12_sumOf_5 rfl 0 rfl ?_
    refine r_callVi (As := []) (st := []) C 208 rfl (by decide) rfl (kX12_hasLaw (xG X)) cw_X12_275 rfl rfl (Nat.le_of_ble_eq_true rfl) (zr2 hR rfl rfl) (zrcs hcs) dX12_sumOf_6 ?_
    refine r_if_eq C 76 dX12_sumOf_9 (by decide) (fun c1 => ?_) (fun c1 => ?_)
    · rw [if_pos c1] at hf
      refine r_iload_n (i := 3) C dX12_sumOf_76 rfl 3 rfl ?_
      cases hf
      exact r_iret C hF dX12_sumOf_77
    · rw [if_neg c1] at hf
      refine r_iload (i := 4) C dX12_sumOf_12 4 rfl ?_
      refine r_aload_n (i := 0) C dX12_sumOf_14 rfl 0 rfl ?_
      refine g_X12_13 C dX12_sumOf_15 ?_
      refine r_sipush (v := 333) C dX12_sumOf_18 (by decide) ?_
      refine r_ialdc C 209 (m := 333) rfl (by decide) (by decide) (show inb 333 2031 by decide) dX12_sumOf_21 ?_
      refine r_icmp_ge C 76 dX12_sumOf_22 (by decide) (fun c2 => ?_) (fun c2 => ?_)
      · rw [if_pos c2] at hf
        refine r_iload_n (i := 3) C dX12_sumOf_76 rfl 3 rfl ?_
        cases hf
        exact r_iret C hF dX12_sumOf_77
      · rw [if_neg c2] at hf
        refine r_aload_n (i := 0) C dX12_sumOf_25 rfl 0 rfl ?_
        refine g_X12_13 C dX12_sumOf_26 ?_
        refine r_sipush (v := 334) C dX12_sumOf_29 (by decide) ?_
        refine r_iconst (v := 4) C dX12_sumOf_32 (by decide) ?_
        refine r_iload (i := 4) C dX12_sumOf_33 4 rfl ?_
        refine r_imul C dX12_sumOf_35 ?_
        refine r_iadd C dX12_sumOf_36 ?_
        obtain ⟨g3, hf⟩ := gd_of hf
        refine r_iald C 209 rfl (by decide) g3 dX12_sumOf_37 ?_
        refine r_iload_n (i := 1) C dX12_sumOf_38 rfl 1 rfl ?_
        refine r_icmp_ne C 70 dX12_sumOf_39 (by decide) (fun c4 => ?_) (fun c4 => ?_)
        · rw [if_neg c4] at hf
          obtain ⟨x5, ex5, hf⟩ := lt_of hf
          refine r_iinc (j := 4) (v := x5) (lv' := [(0, .ref (gad (xG X) 208)), (1, .int y1), (2, .int y2), (3, .int y3), (4, .int x5)]) C dX12_sumOf_70 rfl (by rw [ex5]; rfl) (by decide) [1, 2, 3, 4, 0] rfl ?_
          refine r_goto C 5 dX12_sumOf_73 (by decide) ?_
          exact r_lv [0, 1, 2, 3, 4] rfl (ih _ _ _ _ _ hf)
        · rw [if_pos c4] at hf
          refine r_aload_n (i := 0) C dX12_sumOf_42 rfl 0 rfl ?_
          refine r_iload (i := 4) C dX12_sumOf_43 4 rfl ?_
          refine r_iload_n (i := 2) C dX12_sumOf_45 rfl 2 rfl ?_
          obtain ⟨x8, h6, e7, hf⟩ := cl2_of hf
          refine r_callVi (As := [.int y4, .int y2]) (st := []) C 208 rfl (by decide) rfl (kX12_holdsLine (xG X) e7) cw_X12_278 rfl rfl (Nat.le_of_ble_eq_true rfl) (zr2 hR rfl rfl) (zrcs hcs) dX12_sumOf_46 ?_
          refine r_if_eq C 70 dX12_sumOf_49 (by decide) (fun c9 => ?_) (fun c9 => ?_)
          · rw [if_pos c9] at hf
            obtain ⟨x10, ex10, hf⟩ := lt_of hf
            refine r_iinc (j := 4) (v := x10) (lv' := [(0, .ref (gad (xG X) 208)), (1, .int y1), (2, .int y2), (3, .int y3), (4, .int x10)]) C dX12_sumOf_70 rfl (by rw [ex10]; rfl) (by decide) [1, 2, 3, 4, 0] rfl ?_
            refine r_goto C 5 dX12_sumOf_73 (by decide) ?_
            exact r_lv [0, 1, 2, 3, 4] rfl (ih _ _ _ _ _ hf)
          · rw [if_neg c9] at hf
            refine r_iload_n (i := 3) C dX12_sumOf_52 rfl 3 rfl ?_
            refine r_aload_n (i := 0) C dX12_sumOf_53 rfl 0 rfl ?_
            refine g_X12_13 C dX12_sumOf_54 ?_
            refine r_sipush (v := 334) C dX12_sumOf_57 (by decide) ?_
            refine r_iconst (v := 4) C dX12_sumOf_60 (by decide) ?_
            refine r_iload (i := 4) C dX12_sumOf_61 4 rfl ?_
            refine r_imul C dX12_sumOf_63 ?_
            refine r_iadd C dX12_sumOf_64 ?_
            refine r_iconst (v := 1) C dX12_sumOf_65 (by decide) ?_
            refine r_iadd C dX12_sumOf_66 ?_
            obtain ⟨g11, hf⟩ := gd_of hf
            refine r_iald C 209 rfl (by decide) g11 dX12_sumOf_67 ?_
            refine r_iadd C dX12_sumOf_68 ?_
            obtain ⟨x12, ex12, hf⟩ := lt_of hf
            refine r_top ex12 ?_
            refine r_istore_n (i := 3) (lv' := [(0, .ref (gad (xG X) 208)), (1, .int y1), (2, .int y2), (3, .int x12), (4, .int y4)]) C dX12_sumOf_69 rfl (by decide) [1, 2, 3, 0, 4] rfl ?_
            obtain ⟨x13, ex13, hf⟩ := lt_of hf
            refine r_iinc (j := 4) (v := x13) (lv' := [(0, .ref (gad (xG X) 208)), (1, .int y1), (2, .int y2), (3, .int x12), (4, .int x13)]) C dX12_sumOf_70 rfl (by rw [ex13]; rfl) (by decide) [1, 2, 3, 4, 0] rfl ?_
            refine r_goto C 5 dX12_sumOf_73 (by decide) ?_
            exact r_lv [0, 1, 2, 3, 4] rfl (ih _ _ _ _ _ hf)
set_option maxHeartbeats 4000000 in
set_option maxRecDepth 100000 in
theorem kX12_sumOf (G : Gx)  {h : Hp} {a1 : Int32} {a2 : Int32} {rr : Int32} {hh : Hp} (hf : fX12_sumOf h a1 a2 = some (rr, hh)) : MC G yX12_sumOf cX12_sumOf 5 (some .int) 6 384 h [.ref (gad G 208), .int a1, .int a2] (some (.int rr)) hh := by
  refine MC.of RX12 (by decide) rfl (Nat.le_of_ble_eq_true rfl) rfl (fun X C hG hR hF => ?_)
  subst hG
  have hcs : True := trivial
  unfold fX12_sumOf at hf
  refine r_iconst (v := 0) C dX12_sumOf_0 (by decide) ?_
  refine r_istore_n (i := 3) (lv' := [(0, .ref (gad (xG X) 208)), (1, .int a1), (2, .int a2), (3, .int (0 : Int32))]) C dX12_sumOf_1 rfl (by decide) [1, 2, 3, 0] rfl ?_
  refine r_iconst (v := 0) C dX12_sumOf_2 (by decide) ?_
  refine r_istore (i := 4) (lv' := [(0, .ref (gad (xG X) 208)), (1, .int a1), (2, .int a2), (3, .int (0 : Int32)), (4, .int (0 : Int32))]) C dX12_sumOf_3 (by decide) [1, 2, 3, 4, 0] rfl ?_
  exact r_lv [0, 1, 2, 3, 4] rfl ((wX12_sumOf  C hR hcs hF big) _ _ _ _ _ hf)
def fX12_strainOf (h : Hp) (a1 : Int32) : Option (Int32 × Hp) := gd (inb ((46 : Int32) + a1) 2031) (cl2 (fX12_sumOf h (0 : Int32) a1) (fun x4 h2 => some (((h 209 ((46 : Int32) + a1).toNatClampNeg) + x4), h2)))
set_option maxHeartbeats 4000000 in
set_option maxRecDepth 100000 in
theorem kX12_strainOf (G : Gx)  {h : Hp} {a1 : Int32} {rr : Int32} {hh : Hp} (hf : fX12_strainOf h a1 = some (rr, hh)) : MC G yX12_strainOf cX12_strainOf 2 (some .int) 7 448 h [.ref (gad G 208), .int a1] (some (.int rr)) hh := by
  refine MC.of RX12 (by decide) rfl (Nat.le_of_ble_eq_true rfl) rfl (fun X C hG hR hF => ?_)
  subst hG
  have hcs : True := trivial
  unfold fX12_strainOf at hf
  refine r_aload_n (i := 0) C dX12_strainOf_0 rfl 0 rfl ?_
  refine g_X12_13 C dX12_strainOf_1 ?_
  refine r_bipush (v := 46) C dX12_strainOf_4 (by decide) ?_
  refine r_iload_n (i := 1) C dX12_strainOf_6 rfl 1 rfl ?_
  refine r_iadd C dX12_strainOf_7 ?_
  obtain ⟨g1, hf⟩ := gd_of hf
  refine r_iald C 209 rfl (by decide) g1 dX12_strainOf_8 ?_
  refine r_aload_n (i := 0) C dX12_strainOf_9 rfl 0 rfl ?_
  refine r_iconst (v := 0) C dX12_strainOf_10 (by decide) ?_
  refine r_iload_n (i := 1) C dX12_strainOf_11 rfl 1 rfl ?_
  obtain ⟨x4, h2, e3, hf⟩ := cl2_of hf
  refine r_callVi (As := [.int (0 : Int32), .int a1]) (st := [.int (h 209 ((46 : Int32) + a1).toNatClampNeg)]) C 208 rfl (by decide) rfl (kX12_sumOf (xG X) e3) cw_X12_281 rfl rfl (Nat.le_of_ble_eq_true rfl) (zr2 hR rfl rfl) (zrcs hcs) dX12_strainOf_12 ?_
  refine r_iadd C dX12_strainOf_15 ?_
  cases hf
  exact r_iret C hF dX12_strainOf_16
def fX12_rustsBy (h : Hp) (a1 : Int32) : Option (Int32 × Hp) := (if (fX12_hasLaw h) = (0 : Int32) then some ((1 : Int32), h) else cl2 (fX12_sumOf h (1 : Int32) a1) (fun x4 h2 => some (x4, h2)))
set_option maxHeartbeats 4000000 in
set_option maxRecDepth 100000 in
theorem kX12_rustsBy (G : Gx)  {h : Hp} {a1 : Int32} {rr : Int32} {hh : Hp} (hf : fX12_rustsBy h a1 = some (rr, hh)) : MC G yX12_rustsBy cX12_rustsBy 2 (some .int) 7 448 h [.ref (gad G 208), .int a1] (some (.int rr)) hh := by
  refine MC.of RX12 (by decide) rfl (Nat.le_of_ble_eq_true rfl) rfl (fun X C hG hR hF => ?_)
  subst hG
  have hcs : True := trivial
  unfold fX12_rustsBy at hf
  refine r_aload_n (i := 0) C dX12_rustsBy_0 rfl 0 rfl ?_
  refine r_callVi (As := []) (st := []) C 208 rfl (by decide) rfl (kX12_hasLaw (xG X)) cw_X12_275 rfl rfl (Nat.le_of_ble_eq_true rfl) (zr2 hR rfl rfl) (zrcs hcs) dX12_rustsBy_1 ?_
  refine r_if_eq C 16 dX12_rustsBy_4 (by decide) (fun c1 => ?_) (fun c1 => ?_)
  · rw [if_pos c1] at hf
    refine r_iconst (v := 1) C dX12_rustsBy_16 (by decide) ?_
    cases hf
    exact r_iret C hF dX12_rustsBy_17
  · rw [if_neg c1] at hf
    refine r_aload_n (i := 0) C dX12_rustsBy_7 rfl 0 rfl ?_
    refine r_iconst (v := 1) C dX12_rustsBy_8 (by decide) ?_
    refine r_iload_n (i := 1) C dX12_rustsBy_9 rfl 1 rfl ?_
    obtain ⟨x4, h2, e3, hf⟩ := cl2_of hf
    refine r_callVi (As := [.int (1 : Int32), .int a1]) (st := []) C 208 rfl (by decide) rfl (kX12_sumOf (xG X) e3) cw_X12_281 rfl rfl (Nat.le_of_ble_eq_true rfl) (zr2 hR rfl rfl) (zrcs hcs) dX12_rustsBy_10 ?_
    refine r_goto C 17 dX12_rustsBy_13 (by decide) ?_
    cases hf
    exact r_iret C hF dX12_rustsBy_17
def fX12_doesHold (h : Hp) (a1 : Int32) : Option (Int32 × Hp) := cl9 (fX12_rustOf h a1) (fun x1 => cl2 (fX12_strainOf h a1) (fun x5 h3 => (if (x1 + x5) < (60 : Int32) then some ((1 : Int32), h3) else cl2 (fX12_sumOf h3 (2 : Int32) a1) (fun x9 h7 => (if x9 ≤ (0 : Int32) then some ((0 : Int32), h7) else some ((1 : Int32), h7))))))
set_option maxHeartbeats 4000000 in
set_option maxRecDepth 100000 in
theorem kX12_doesHold (G : Gx)  {h : Hp} {a1 : Int32} {rr : Int32} {hh : Hp} (hf : fX12_doesHold h a1 = some (rr, hh)) : MC G yX12_doesHold cX12_doesHold 2 (some .boolean) 8 512 h [.ref (gad G 208), .int a1] (some (.int rr)) hh := by
  refine MC.of RX12 (by decide) rfl (Nat.le_of_ble_eq_true rfl) rfl (fun X C hG hR hF => ?_)
  subst hG
  have hcs : True := trivial
  unfold fX12_doesHold at hf
  refine r_aload_n (i := 0) C dX12_doesHold_0 rfl 0 rfl ?_
  refine r_iload_n (i := 1) C dX12_doesHold_1 rfl 1 rfl ?_
  obtain ⟨x1, e2, hf⟩ := cl_of hf
  refine r_callVi (As := [.int a1]) (st := []) C 208 rfl (by decide) rfl (kX12_rustOf (xG X) e2) cw_X12_262 rfl rfl (Nat.le_of_ble_eq_true rfl) (zr2 hR rfl rfl) (zrcs hcs) dX12_doesHold_2 ?_
  refine r_aload_n (i := 0) C dX12_doesHold_5 rfl 0 rfl ?_
  refine r_iload_n (i := 1) C dX12_doesHold_6 rfl 1 rfl ?_
  obtain ⟨x5, h3, e4, hf⟩ := cl2_of hf
  refine r_callVi (As := [.int a1]) (st := [.int x1]) C 208 rfl (by decide) rfl (kX12_strainOf (xG X) e4) cw_X12_284 rfl rfl (Nat.le_of_ble_eq_true rfl) (zr2 hR rfl rfl) (zrcs hcs) dX12_doesHold_7 ?_
  refine r_iadd C dX12_doesHold_10 ?_
  refine r_bipush (v := 60) C dX12_doesHold_11 (by decide) ?_
  refine r_icmp_lt C 25 dX12_doesHold_13 (by decide) (fun c6 => ?_) (fun c6 => ?_)
  · rw [if_pos c6] at hf
    refine r_iconst (v := 1) C dX12_doesHold_25 (by decide) ?_
    refine r_goto C 30 dX12_doesHold_26 (by decide) ?_
    have zz : (1 : Int32) = 0 ∨ (1 : Int32) = 1 := (Or.inr rfl)
    cases hf
    exact r_zret C zz hF dX12_doesHold_30
  · rw [if_neg c6] at hf
    refine r_aload_n (i := 0) C dX12_doesHold_16 rfl 0 rfl ?_
    refine r_iconst (v := 2) C dX12_doesHold_17 (by decide) ?_
    refine r_iload_n (i := 1) C dX12_doesHold_18 rfl 1 rfl ?_
    obtain ⟨x9, h7, e8, hf⟩ := cl2_of hf
    refine r_callVi (As := [.int (2 : Int32), .int a1]) (st := []) C 208 rfl (by decide) rfl (kX12_sumOf (xG X) e8) cw_X12_281 rfl rfl (Nat.le_of_ble_eq_true rfl) (zr2 hR rfl rfl) (zrcs hcs) dX12_doesHold_19 ?_
    refine r_if_le C 29 dX12_doesHold_22 (by decide) (fun c10 => ?_) (fun c10 => ?_)
    · rw [if_pos c10] at hf
      refine r_iconst (v := 0) C dX12_doesHold_29 (by decide) ?_
      have zz : (0 : Int32) = 0 ∨ (0 : Int32) = 1 := (Or.inl rfl)
      cases hf
      exact r_zret C zz hF dX12_doesHold_30
    · rw [if_neg c10] at hf
      refine r_iconst (v := 1) C dX12_doesHold_25 (by decide) ?_
      refine r_goto C 30 dX12_doesHold_26 (by decide) ?_
      have zz : (1 : Int32) = 0 ∨ (1 : Int32) = 1 := (Or.inr rfl)
      cases hf
      exact r_zret C zz hF dX12_doesHold_30
def BX12_holdingOf_0  (rec : Hp → Int32 → Int32 → Int32 → Option (Int32 × Hp)) (h : Hp) (y1 : Int32) (y2 : Int32) (y3 : Int32) : Option (Int32 × Hp) := (if (16 : Int32) ≤ y3 then some (y2, h) else (if (fX12_has y1 y3) = (0 : Int32) then lt9 (y2 ||| (0 : Int32)) (fun x3 => lt9 (y3 + (1 : Int32)) (fun x4 => rec h y1 x3 x4)) else cl2 (fX12_doesHold h y3) (fun x7 h5 => (if x7 = (0 : Int32) then lt9 (y2 ||| (0 : Int32)) (fun x9 => lt9 (y3 + (1 : Int32)) (fun x10 => rec h5 y1 x9 x10)) else lt9 (y2 ||| ((1 : Int32) <<< (y3 &&& 31))) (fun x11 => lt9 (y3 + (1 : Int32)) (fun x12 => rec h5 y1 x11 x12))))))
def LX12_holdingOf  : Nat → Hp → Int32 → Int32 → Int32 → Option (Int32 × Hp)
  | 0, _, _, _, _ => none
  | n + 1, h, y1, y2, y3 => BX12_holdingOf_0  (LX12_holdingOf  n) h y1 y2 y3
def fX12_holdingOf (h : Hp) (a1 : Int32) : Option (Int32 × Hp) := lt9 (up2 h 208 18 a1) (fun h13 => LX12_holdingOf big h13 a1 (0 : Int32) (0 : Int32))
set_option maxHeartbeats 4000000 in
set_option maxRecDepth 100000 in
theorem wX12_holdingOf {X : Cx}  {rr : Int32} {hh : Hp} (C : OK X cX12_holdingOf 4 RX12 (some .int)) (hR : xR X = { frames := 9, cells := 0, slots := 0, locals := 576 }) (hcs : True) (hF : FinR X (some (.int rr)) hh) : ∀ n : Nat, (∀ (h : Hp) (y1 : Int32) (y2 : Int32) (y3 : Int32), LX12_holdingOf  n h y1 y2 y3 = some (rr, hh) → VW X 4 h 0 0 9 [(0, .ref (gad (xG X) 208)), (1, .int y1), (2, .int y2), (3, .int y3)] []) := by
  intro n
  induction n with
  | zero => exact (fun _ _ _ _ hf => (by rw [LX12_holdingOf] at hf; cases hf))
  | succ n ih =>
    intro h y1 y2 y3 hf
    rw [LX12_holdingOf] at hf
    unfold BX12_holdingOf_0 at hf
    refine r_iload_n (i := 3) C dX12_holdingOf_9 rfl 3 rfl ?_
    refine r_bipush (v := 16) C dX12_holdingOf_10 (by decide) ?_
    refine r_icmp_ge C 47 dX12_holdingOf_12 (by decide) (fun c1 => ?_) (fun c1 => ?_)
    · rw [if_pos c1] at hf
      refine r_iload_n (i := 2) C dX12_holdingOf_47 rfl 2 rfl ?_
      cases hf
      exact r_iret C hF dX12_holdingOf_48
    · rw [if_neg c1] at hf
      refine r_iload_n (i := 2) C dX12_holdingOf_15 rfl 2 rfl ?_
      refine r_iload_n (i := 1) C dX12_holdingOf_16 rfl 1 rfl ?_
      refine r_iload_n (i := 3) C dX12_holdingOf_17 rfl 3 rfl ?_
      refine r_callSi (As := [.int y1, .int y3]) (st := [.int y2]) C (kX12_has (xG X)) cw_X12_69 rfl rfl (Nat.le_of_ble_eq_true rfl) (zr2 hR rfl rfl) (zrcs hcs) dX12_holdingOf_18 ?_
      refine r_if_eq C 38 dX12_holdingOf_21 (by decide) (fun c2 => ?_) (fun c2 => ?_)
      · rw [if_pos c2] at hf
        refine r_iconst (v := 0) C dX12_holdingOf_38 (by decide) ?_
        refine r_ior C dX12_holdingOf_39 ?_
        obtain ⟨x3, ex3, hf⟩ := lt_of hf
        refine r_top ex3 ?_
        refine r_istore_n (i := 2) (lv' := [(0, .ref (gad (xG X) 208)), (1, .int y1), (2, .int x3), (3, .int y3)]) C dX12_holdingOf_40 rfl (by decide) [1, 2, 0, 3] rfl ?_
        obtain ⟨x4, ex4, hf⟩ := lt_of hf
        refine r_iinc (j := 3) (v := x4) (lv' := [(0, .ref (gad (xG X) 208)), (1, .int y1), (2, .int x3), (3, .int x4)]) C dX12_holdingOf_41 rfl (by rw [ex4]; rfl) (by decide) [1, 2, 3, 0] rfl ?_
        refine r_goto C 9 dX12_holdingOf_44 (by decide) ?_
        exact r_lv [0, 1, 2, 3] rfl (ih _ _ _ _ hf)
      · rw [if_neg c2] at hf
        refine r_aload_n (i := 0) C dX12_holdingOf_24 rfl 0 rfl ?_
        refine r_iload_n (i := 3) C dX12_holdingOf_25 rfl 3 rfl ?_
        obtain ⟨x7, h5, e6, hf⟩ := cl2_of hf
        refine r_callVi (As := [.int y3]) (st := [.int y2]) C 208 rfl (by decide) rfl (kX12_doesHold (xG X) e6) cw_X12_287 rfl rfl (Nat.le_of_ble_eq_true rfl) (zr2 hR rfl rfl) (zrcs hcs) dX12_holdingOf_26 ?_
        refine r_if_eq C 38 dX12_holdingOf_29 (by decide) (fun c8 => ?_) (fun c8 => ?_)
        · rw [if_pos c8] at hf
          refine r_iconst (v := 0) C dX12_holdingOf_38 (by decide) ?_
          refine r_ior C dX12_holdingOf_39 ?_
          obtain ⟨x9, ex9, hf⟩ := lt_of hf
          refine r_top ex9 ?_
          refine r_istore_n (i := 2) (lv' := [(0, .ref (gad (xG X) 208)), (1, .int y1), (2, .int x9), (3, .int y3)]) C dX12_holdingOf_40 rfl (by decide) [1, 2, 0, 3] rfl ?_
          obtain ⟨x10, ex10, hf⟩ := lt_of hf
          refine r_iinc (j := 3) (v := x10) (lv' := [(0, .ref (gad (xG X) 208)), (1, .int y1), (2, .int x9), (3, .int x10)]) C dX12_holdingOf_41 rfl (by rw [ex10]; rfl) (by decide) [1, 2, 3, 0] rfl ?_
          refine r_goto C 9 dX12_holdingOf_44 (by decide) ?_
          exact r_lv [0, 1, 2, 3] rfl (ih _ _ _ _ hf)
        · rw [if_neg c8] at hf
          refine r_iconst (v := 1) C dX12_holdingOf_32 (by decide) ?_
          refine r_iload_n (i := 3) C dX12_holdingOf_33 rfl 3 rfl ?_
          refine r_ishl C dX12_holdingOf_34 ?_
          refine r_goto C 39 dX12_holdingOf_35 (by decide) ?_
          refine r_ior C dX12_holdingOf_39 ?_
          obtain ⟨x11, ex11, hf⟩ := lt_of hf
          refine r_top ex11 ?_
          refine r_istore_n (i := 2) (lv' := [(0, .ref (gad (xG X) 208)), (1, .int y1), (2, .int x11), (3, .int y3)]) C dX12_holdingOf_40 rfl (by decide) [1, 2, 0, 3] rfl ?_
          obtain ⟨x12, ex12, hf⟩ := lt_of hf
          refine r_iinc (j := 3) (v := x12) (lv' := [(0, .ref (gad (xG X) 208)), (1, .int y1), (2, .int x11), (3, .int x12)]) C dX12_holdingOf_41 rfl (by rw [ex12]; rfl) (by decide) [1, 2, 3, 0] rfl ?_
          refine r_goto C 9 dX12_holdingOf_44 (by decide) ?_
          exact r_lv [0, 1, 2, 3] rfl (ih _ _ _ _ hf)
set_option maxHeartbeats 4000000 in
set_option maxRecDepth 100000 in
theorem kX12_holdingOf (G : Gx)  {h : Hp} {a1 : Int32} {rr : Int32} {hh : Hp} (hf : fX12_holdingOf h a1 = some (rr, hh)) : MC G yX12_holdingOf cX12_holdingOf 4 (some .int) 9 576 h [.ref (gad G 208), .int a1] (some (.int rr)) hh := by
  refine MC.of RX12 (by decide) rfl (Nat.le_of_ble_eq_true rfl) rfl (fun X C hG hR hF => ?_)
  subst hG
  have hcs : True := trivial
  unfold fX12_holdingOf at hf
  refine r_aload_n (i := 0) C dX12_holdingOf_0 rfl 0 rfl ?_
  refine r_iload_n (i := 1) C dX12_holdingOf_1 rfl 1 rfl ?_
  obtain ⟨h13, eh13, hf⟩ := lt_of hf
  refine p_X12_250 C eh13 dX12_holdingOf_2 ?_
  refine r_iconst (v := 0) C dX12_holdingOf_5 (by decide) ?_
  refine r_istore_n (i := 2) (lv' := [(0, .ref (gad (xG X) 208)), (1, .int a1), (2, .int (0 : Int32))]) C dX12_holdingOf_6 rfl (by decide) [1, 2, 0] rfl ?_
  refine r_iconst (v := 0) C dX12_holdingOf_7 (by decide) ?_
  refine r_istore_n (i := 3) (lv' := [(0, .ref (gad (xG X) 208)), (1, .int a1), (2, .int (0 : Int32)), (3, .int (0 : Int32))]) C dX12_holdingOf_8 rfl (by decide) [1, 2, 3, 0] rfl ?_
  exact r_lv [0, 1, 2, 3] rfl ((wX12_holdingOf  C hR hcs hF big) _ _ _ _ hf)
def fX12_holdingNow (h : Hp) : Option (Int32 × Hp) := cl2 (fX12_holdingOf h (fX12_pins h)) (fun x3 h1 => some (x3, h1))
set_option maxHeartbeats 4000000 in
set_option maxRecDepth 100000 in
theorem kX12_holdingNow (G : Gx)  {h : Hp}  {rr : Int32} {hh : Hp} (hf : fX12_holdingNow h = some (rr, hh)) : MC G yX12_holdingNow cX12_holdingNow 1 (some .int) 10 640 h [.ref (gad G 208)] (some (.int rr)) hh := by
  refine MC.of RX12 (by decide) rfl (Nat.le_of_ble_eq_true rfl) rfl (fun X C hG hR hF => ?_)
  subst hG
  have hcs : True := trivial
  unfold fX12_holdingNow at hf
  refine r_aload_n (i := 0) C dX12_holdingNow_0 rfl 0 rfl ?_
  refine r_aload_n (i := 0) C dX12_holdingNow_1 rfl 0 rfl ?_
  refine r_callVi (As := []) (st := [.ref (gad (xG X) 208)]) C 208 rfl (by decide) rfl (kX12_pins (xG X)) cw_X12_65 rfl rfl (Nat.le_of_ble_eq_true rfl) (zr2 hR rfl rfl) (zrcs hcs) dX12_holdingNow_2 ?_
  obtain ⟨x3, h1, e2, hf⟩ := cl2_of hf
  refine r_callVi (As := [.int (fX12_pins h)]) (st := []) C 208 rfl (by decide) rfl (kX12_holdingOf (xG X) e2) cw_X12_290 rfl rfl (Nat.le_of_ble_eq_true rfl) (zr2 hR rfl rfl) (zrcs hcs) dX12_holdingNow_5 ?_
  cases hf
  exact r_iret C hF dX12_holdingNow_8
def BX12_skyBy_0 (h : Hp) (rec : Int32 → Int32 → Int32 → Int32 → Option (Int32)) (y1 : Int32) (y2 : Int32) (y3 : Int32) (y4 : Int32) : Option (Int32) := (if (16 : Int32) ≤ y4 then gd (inb ((46 : Int32) + y2) 2031) (some (jmax (0 : Int32) (y3 - ((2 : Int32) * (h 209 ((46 : Int32) + y2).toNatClampNeg))))) else (if (fX12_has y1 y4) = (0 : Int32) then lt9 (y4 + (1 : Int32)) (fun x4 => rec y1 y2 y3 x4) else lt9 (jmax y3 ((h 209 4) - ((h 209 5) * (jabs (y2 - y4))))) (fun x5 => lt9 (y4 + (1 : Int32)) (fun x6 => rec y1 y2 x5 x6))))
def LX12_skyBy (h : Hp) : Nat → Int32 → Int32 → Int32 → Int32 → Option (Int32)
  | 0, _, _, _, _ => none
  | n + 1, y1, y2, y3, y4 => BX12_skyBy_0 h (LX12_skyBy h n) y1 y2 y3 y4
def fX12_skyBy (h : Hp) (a1 : Int32) (a2 : Int32) : Option (Int32) := LX12_skyBy h big a1 a2 (0 : Int32) (0 : Int32)
set_option maxHeartbeats 4000000 in
set_option maxRecDepth 100000 in
theorem wX12_skyBy {X : Cx} {h : Hp}  {rr : Int32} (C : OK X cX12_skyBy 5 RX12 (some .int)) (hR : xR X = { frames := 3, cells := 0, slots := 0, locals := 192 }) (hcs : True) (hF : FinR X (some (.int rr)) h) : ∀ n : Nat, (∀ (y1 : Int32) (y2 : Int32) (y3 : Int32) (y4 : Int32), LX12_skyBy h n y1 y2 y3 y4 = some rr → VW X 5 h 0 0 5 [(0, .ref (gad (xG X) 208)), (1, .int y1), (2, .int y2), (3, .int y3), (4, .int y4)] []) := by
  intro n
  induction n with
  | zero => exact (fun _ _ _ _ hf => (by rw [LX12_skyBy] at hf; cases hf))
  | succ n ih =>
    intro y1 y2 y3 y4 hf
    rw [LX12_skyBy] at hf
    unfold BX12_skyBy_0 at hf
    refine r_iload (i := 4) C dX12_skyBy_5 4 rfl ?_
    refine r_bipush (v := 16) C dX12_skyBy_7 (by decide) ?_
    refine r_icmp_ge C 57 dX12_skyBy_9 (by decide) (fun c1 => ?_) (fun c1 => ?_)
    · rw [if_pos c1] at hf
      refine r_iconst (v := 0) C dX12_skyBy_57 (by decide) ?_
      refine r_iload_n (i := 3) C dX12_skyBy_58 rfl 3 rfl ?_
      refine r_iconst (v := 2) C dX12_skyBy_59 (by decide) ?_
      refine r_aload_n (i := 0) C dX12_skyBy_60 rfl 0 rfl ?_
      refine g_X12_13 C dX12_skyBy_61 ?_
      refine r_bipush (v := 46) C dX12_skyBy_64 (by decide) ?_
      refine r_iload_n (i := 2) C dX12_skyBy_66 rfl 2 rfl ?_
      refine r_iadd C dX12_skyBy_67 ?_
      obtain ⟨g2, hf⟩ := gd_of hf
      refine r_iald C 209 rfl (by decide) g2 dX12_skyBy_68 ?_
      refine r_imul C dX12_skyBy_69 ?_
      refine r_isub C dX12_skyBy_70 ?_
      refine r_mmax9 C gw_1806 gm_max_s gm_i gm_max_c (zr1 hR rfl) (zr0 hR (Nat.le_of_ble_eq_true rfl)) (zrcs hcs) dX12_skyBy_71 ?_
      cases hf
      exact r_iret C hF dX12_skyBy_74
    · rw [if_neg c1] at hf
      refine r_iload_n (i := 1) C dX12_skyBy_12 rfl 1 rfl ?_
      refine r_iload (i := 4) C dX12_skyBy_13 4 rfl ?_
      refine r_callSi (As := [.int y1, .int y4]) (st := []) C (kX12_has (xG X)) cw_X12_69 rfl rfl (Nat.le_of_ble_eq_true rfl) (zr2 hR rfl rfl) (zrcs hcs) dX12_skyBy_15 ?_
      refine r_if_eq C 49 dX12_skyBy_18 (by decide) (fun c3 => ?_) (fun c3 => ?_)
      · rw [if_pos c3] at hf
        refine r_iload_n (i := 3) C dX12_skyBy_49 rfl 3 rfl ?_
        refine r_istore_n (i := 3) (lv' := [(0, .ref (gad (xG X) 208)), (1, .int y1), (2, .int y2), (3, .int y3), (4, .int y4)]) C dX12_skyBy_50 rfl (by decide) [1, 2, 3, 0, 4] rfl ?_
        obtain ⟨x4, ex4, hf⟩ := lt_of hf
        refine r_iinc (j := 4) (v := x4) (lv' := [(0, .ref (gad (xG X) 208)), (1, .int y1), (2, .int y2), (3, .int y3), (4, .int x4)]) C dX12_skyBy_51 rfl (by rw [ex4]; rfl) (by decide) [1, 2, 3, 4, 0] rfl ?_
        refine r_goto C 5 dX12_skyBy_54 (by decide) ?_
        exact r_lv [0, 1, 2, 3, 4] rfl (ih _ _ _ _ hf)
      · rw [if_neg c3] at hf
        refine r_iload_n (i := 3) C dX12_skyBy_21 rfl 3 rfl ?_
        refine r_aload_n (i := 0) C dX12_skyBy_22 rfl 0 rfl ?_
        refine g_X12_13 C dX12_skyBy_23 ?_
        refine r_iconst (v := 4) C dX12_skyBy_26 (by decide) ?_
        refine r_ialdc C 209 (m := 4) rfl (by decide) (by decide) (show inb 4 2031 by decide) dX12_skyBy_27 ?_
        refine r_aload_n (i := 0) C dX12_skyBy_28 rfl 0 rfl ?_
        refine g_X12_13 C dX12_skyBy_29 ?_
        refine r_iconst (v := 5) C dX12_skyBy_32 (by decide) ?_
        refine r_ialdc C 209 (m := 5) rfl (by decide) (by decide) (show inb 5 2031 by decide) dX12_skyBy_33 ?_
        refine r_iload_n (i := 2) C dX12_skyBy_34 rfl 2 rfl ?_
        refine r_iload (i := 4) C dX12_skyBy_35 4 rfl ?_
        refine r_isub C dX12_skyBy_37 ?_
        refine r_mabs9 C gw_1796 gm_abs_s gm_i gm_abs_c (zr1 hR rfl) (zr0 hR (Nat.le_of_ble_eq_true rfl)) (zrcs hcs) dX12_skyBy_38 ?_
        refine r_imul C dX12_skyBy_41 ?_
        refine r_isub C dX12_skyBy_42 ?_
        refine r_mmax9 C gw_1806 gm_max_s gm_i gm_max_c (zr1 hR rfl) (zr0 hR (Nat.le_of_ble_eq_true rfl)) (zrcs hcs) dX12_skyBy_43 ?_
        refine r_goto C 50 dX12_skyBy_46 (by decide) ?_
        obtain ⟨x5, ex5, hf⟩ := lt_of hf
        refine r_top ex5 ?_
        refine r_istore_n (i := 3) (lv' := [(0, .ref (gad (xG X) 208)), (1, .int y1), (2, .int y2), (3, .int x5), (4, .int y4)]) C dX12_skyBy_50 rfl (by decide) [1, 2, 3, 0, 4] rfl ?_
        obtain ⟨x6, ex6, hf⟩ := lt_of hf
        refine r_iinc (j := 4) (v := x6) (lv' := [(0, .ref (gad (xG X) 208)), (1, .int y1), (2, .int y2), (3, .int x5), (4, .int x6)]) C dX12_skyBy_51 rfl (by rw [ex6]; rfl) (by decide) [1, 2, 3, 4, 0] rfl ?_
        refine r_goto C 5 dX12_skyBy_54 (by decide) ?_
        exact r_lv [0, 1, 2, 3, 4] rfl (ih _ _ _ _ hf)
set_option maxHeartbeats 4000000 in
set_option maxRecDepth 100000 in
theorem kX12_skyBy (G : Gx)  {h : Hp} {a1 : Int32} {a2 : Int32} {rr : Int32} (hf : fX12_skyBy h a1 a2 = some rr) : MC G yX12_skyBy cX12_skyBy 5 (some .int) 3 192 h [.ref (gad G 208), .int a1, .int a2] (some (.int rr)) h := by
  refine MC.of RX12 (by decide) rfl (Nat.le_of_ble_eq_true rfl) rfl (fun X C hG hR hF => ?_)
  subst hG
  have hcs : True := trivial
  unfold fX12_skyBy at hf
  refine r_iconst (v := 0) C dX12_skyBy_0 (by decide) ?_
  refine r_istore_n (i := 3) (lv' := [(0, .ref (gad (xG X) 208)), (1, .int a1), (2, .int a2), (3, .int (0 : Int32))]) C dX12_skyBy_1 rfl (by decide) [1, 2, 3, 0] rfl ?_
  refine r_iconst (v := 0) C dX12_skyBy_2 (by decide) ?_
  refine r_istore (i := 4) (lv' := [(0, .ref (gad (xG X) 208)), (1, .int a1), (2, .int a2), (3, .int (0 : Int32)), (4, .int (0 : Int32))]) C dX12_skyBy_3 (by decide) [1, 2, 3, 4, 0] rfl ?_
  exact r_lv [0, 1, 2, 3, 4] rfl ((wX12_skyBy  C hR hcs hF big) _ _ _ _ hf)

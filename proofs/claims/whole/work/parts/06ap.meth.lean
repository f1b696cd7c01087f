def fX11_place (h : Hp) (a1 : Int32) (a2 : Int32) : Option (Int32 × Nat × Hp) := (if (fX11_checkPlace a1) = 0 then (if a2 = (0 : Int32) then gd (inb a1 16) (some ((h (32 + 1) a1.toNatClampNeg), 0, h)) else (if a2 = (1 : Int32) then gd (inb a1 16) (some ((h (32 + 2) a1.toNatClampNeg), 0, h)) else (if a2 = (2 : Int32) then gd (inb a1 16) (some ((h (32 + 3) a1.toNatClampNeg), 0, h)) else (if a2 = (3 : Int32) then (if (fX7_hasLadder h 32 a1) = (0 : Int32) then some ((0 : Int32), 0, h) else some ((1 : Int32), 0, h)) else (if a2 = (4 : Int32) then (if (fX7_hasPin h 32 a1) = (0 : Int32) then some ((0 : Int32), 0, h) else some ((1 : Int32), 0, h)) else (if a2 = (5 : Int32) then gd (inb a1 16) (some ((h (32 + 4) a1.toNatClampNeg), 0, h)) else (if a2 = (6 : Int32) then cl9 (fX1_strainAt h 32 a1) (fun x15 => some (x15, 0, h)) else (if a2 = (7 : Int32) then cl2 (fX1_holding h 32) (fun x20 h18 => (if (fX11_has x20 a1) = (0 : Int32) then some ((0 : Int32), 0, h18) else some ((1 : Int32), 0, h18))) else (if a2 = (8 : Int32) then cl2 (fX1_holding h 32) (fun x25 h23 => cl9 (fX7_skyAt h23 32 a1 x25 (h23 32 8) (h23 32 9)) (fun x26 => some (x26, 0, h23))) else (if a2 = (9 : Int32) then cl2 (fX1_standing h 32) (fun x31 h29 => (if (fX11_has x31 a1) = (0 : Int32) then some ((0 : Int32), 0, h29) else some ((1 : Int32), 0, h29))) else some ((0 : Int32), 2, h))))))))))) else some ((0 : Int32), (fX11_checkPlace a1), h))
set_option maxHeartbeats 4000000 in
set_option maxRecDepth 100000 in
theorem kX11_place (G : Gx)  {h : Hp} {a1 : Int32} {a2 : Int32} {rr : Int32} {kk : Nat} {hh : Hp} (hf : fX11_place h a1 a2 = some (rr, kk, hh)) : MX G yX11_place cX11_place 3 (some .int) 8 512 h [.ref (gad G 0), .int a1, .int a2] (some (.int rr)) kk hh := by
  refine MX.of RX11 (by decide) rfl (Nat.le_of_ble_eq_true rfl) rfl (fun X C hG hR hE => ?_)
  subst hG
  have hcs : True := trivial
  unfold fX11_place at hf
  refine r_iload_n (i := 1) C dX11_place_0 rfl 1 rfl ?_
  by_cases c1 : (fX11_checkPlace a1) = 0
  · rw [if_pos c1] at hf
    refine r_callXSv (As := [.int a1]) (st := []) C (kX11_checkPlace (xG X)) cw_X11_136 rfl rfl (Nat.le_of_ble_eq_true rfl) (zq2 hR rfl rfl) (zqc hR (Or.inl c1)) dX11_place_1 (fun q0 => absurd c1 q0) (fun _ => ?_)
    refine r_iload_n (i := 2) C dX11_place_4 rfl 2 rfl ?_
    by_cases c2 : a2 = (0 : Int32)
    · rw [if_pos c2] at hf
      refine r_tableIn C 60 dX11_place_5 (by rw [c2] <;> decide) (by rw [c2] <;> decide) (by rw [c2] <;> rfl) (by decide) ?_
      refine r_aload_n (i := 0) C dX11_place_60 rfl 0 rfl ?_
      refine g_X11_54 C dX11_place_61 ?_
      refine g_X11_139 sk32 C dX11_place_64 ?_
      refine r_iload_n (i := 1) C dX11_place_67 rfl 1 rfl ?_
      obtain ⟨g3, hf⟩ := gd_of hf
      refine r_iald C (32 + 1) (sky_dsc sk32 1 (by decide)) (sky_lt sk32 1 (by decide)) g3 dX11_place_68 ?_
      cases hf
      exact r_iret C (hE.1 rfl) dX11_place_69
    · rw [if_neg c2] at hf
      by_cases c4 : a2 = (1 : Int32)
      · rw [if_pos c4] at hf
        refine r_tableIn C 70 dX11_place_5 (by rw [c4] <;> decide) (by rw [c4] <;> decide) (by rw [c4] <;> rfl) (by decide) ?_
        refine r_aload_n (i := 0) C dX11_place_70 rfl 0 rfl ?_
        refine g_X11_54 C dX11_place_71 ?_
        refine g_X11_142 sk32 C dX11_place_74 ?_
        refine r_iload_n (i := 1) C dX11_place_77 rfl 1 rfl ?_
        obtain ⟨g5, hf⟩ := gd_of hf
        refine r_iald C (32 + 2) (sky_dsc sk32 2 (by decide)) (sky_lt sk32 2 (by decide)) g5 dX11_place_78 ?_
        cases hf
        exact r_iret C (hE.1 rfl) dX11_place_79
      · rw [if_neg c4] at hf
        by_cases c6 : a2 = (2 : Int32)
        · rw [if_pos c6] at hf
          refine r_tableIn C 80 dX11_place_5 (by rw [c6] <;> decide) (by rw [c6] <;> decide) (by rw [c6] <;> rfl) (by decide) ?_
          refine r_aload_n (i := 0) C dX11_place_80 rfl 0 rfl ?_
          refine g_X11_54 C dX11_place_81 ?_
          refine g_X11_145 sk32 C dX11_place_84 ?_
          refine r_iload_n (i := 1) C dX11_place_87 rfl 1 rfl ?_
          obtain ⟨g7, hf⟩ := gd_of hf
          refine r_iald C (32 + 3) (sky_dsc sk32 3 (by decide)) (sky_lt sk32 3 (by decide)) g7 dX11_place_88 ?_
          cases hf
          exact r_iret C (hE.1 rfl) dX11_place_89
        · rw [if_neg c6] at hf
          by_cases c8 : a2 = (3 : Int32)
          · rw [if_pos c8] at hf
            refine r_tableIn C 90 dX11_place_5 (by rw [c8] <;> decide) (by rw [c8] <;> decide) (by rw [c8] <;> rfl) (by decide) ?_
            refine r_aload_n (i := 0) C dX11_place_90 rfl 0 rfl ?_
            refine g_X11_54 C dX11_place_91 ?_
            refine r_iload_n (i := 1) C dX11_place_94 rfl 1 rfl ?_
            refine r_callNVi (As := [.int a1]) (st := []) C 32 (sky_d0 sk32) (sky_l0 sk32) rfl (kX7_hasLadder (xG X) sk32) cw_X11_148 rfl rfl (Nat.le_of_ble_eq_true rfl) (zq2 hR rfl rfl) (zrcs hcs) dX11_place_95 ?_
            refine r_if_eq C 105 dX11_place_98 (by decide) (fun c9 => ?_) (fun c9 => ?_)
            · rw [if_pos c9] at hf
              refine r_iconst (v := 0) C dX11_place_105 (by decide) ?_
              cases hf
              exact r_iret C (hE.1 rfl) dX11_place_106
            · rw [if_neg c9] at hf
              refine r_iconst (v := 1) C dX11_place_101 (by decide) ?_
              refine r_goto C 106 dX11_place_102 (by decide) ?_
              cases hf
              exact r_iret C (hE.1 rfl) dX11_place_106
          · rw [if_neg c8] at hf
            by_cases c10 : a2 = (4 : Int32)
            · rw [if_pos c10] at hf
              refine r_tableIn C 107 dX11_place_5 (by rw [c10] <;> decide) (by rw [c10] <;> decide) (by rw [c10] <;> rfl) (by decide) ?_
              refine r_aload_n (i := 0) C dX11_place_107 rfl 0 rfl ?_
              refine g_X11_54 C dX11_place_108 ?_
              refine r_iload_n (i := 1) C dX11_place_111 rfl 1 rfl ?_
              refine r_callNVi (As := [.int a1]) (st := []) C 32 (sky_d0 sk32) (sky_l0 sk32) rfl (kX7_hasPin (xG X) sk32) cw_X11_151 rfl rfl (Nat.le_of_ble_eq_true rfl) (zq2 hR rfl rfl) (zrcs hcs) dX11_place_112 ?_
              refine r_if_eq C 122 dX11_place_115 (by decide) (fun c11 => ?_) (fun c11 => ?_)
              · rw [if_pos c11] at hf
                refine r_iconst (v := 0) C dX11_place_122 (by decide) ?_
                cases hf
                exact r_iret C (hE.1 rfl) dX11_place_123
              · rw [if_neg c11] at hf
                refine r_iconst (v := 1) C dX11_place_118 (by decide) ?_
                refine r_goto C 123 dX11_place_119 (by decide) ?_
                cases hf
                exact r_iret C (hE.1 rfl) dX11_place_123
            · rw [if_neg c10] at hf
              by_cases c12 : a2 = (5 : Int32)
              · rw [if_pos c12] at hf
                refine r_tableIn C 124 dX11_place_5 (by rw [c12] <;> decide) (by rw [c12] <;> decide) (by rw [c12] <;> rfl) (by decide) ?_
                refine r_aload_n (i := 0) C dX11_place_124 rfl 0 rfl ?_
                refine g_X11_54 C dX11_place_125 ?_
                refine g_X11_154 sk32 C dX11_place_128 ?_
                refine r_iload_n (i := 1) C dX11_place_131 rfl 1 rfl ?_
                obtain ⟨g13, hf⟩ := gd_of hf
                refine r_iald C (32 + 4) (sky_dsc sk32 4 (by decide)) (sky_lt sk32 4 (by decide)) g13 dX11_place_132 ?_
                cases hf
                exact r_iret C (hE.1 rfl) dX11_place_133
              · rw [if_neg c12] at hf
                by_cases c14 : a2 = (6 : Int32)
                · rw [if_pos c14] at hf
                  refine r_tableIn C 134 dX11_place_5 (by rw [c14] <;> decide) (by rw [c14] <;> decide) (by rw [c14] <;> rfl) (by decide) ?_
                  refine r_aload_n (i := 0) C dX11_place_134 rfl 0 rfl ?_
                  refine g_X11_19 C dX11_place_135 ?_
                  refine r_aload_n (i := 0) C dX11_place_138 rfl 0 rfl ?_
                  refine g_X11_54 C dX11_place_139 ?_
                  refine r_iload_n (i := 1) C dX11_place_142 rfl 1 rfl ?_
                  obtain ⟨x15, e16, hf⟩ := cl_of hf
                  refine r_callNVi (As := [.ref (gad (xG X) 32), .int a1]) (st := []) C 3 rfl (by decide) rfl (kX1_strainAt (xG X) sk32 e16) cw_X11_157 rfl rfl (Nat.le_of_ble_eq_true rfl) (zq2 hR rfl rfl) (zrcs hcs) dX11_place_143 ?_
                  cases hf
                  exact r_iret C (hE.1 rfl) dX11_place_146
                · rw [if_neg c14] at hf
                  by_cases c17 : a2 = (7 : Int32)
                  · rw [if_pos c17] at hf
                    refine r_tableIn C 147 dX11_place_5 (by rw [c17] <;> decide) (by rw [c17] <;> decide) (by rw [c17] <;> rfl) (by decide) ?_
                    refine r_aload_n (i := 0) C dX11_place_147 rfl 0 rfl ?_
                    refine g_X11_19 C dX11_place_148 ?_
                    refine r_aload_n (i := 0) C dX11_place_151 rfl 0 rfl ?_
                    refine g_X11_54 C dX11_place_152 ?_
                    obtain ⟨x20, h18, e19, hf⟩ := cl2_of hf
                    refine r_callNVi (As := [.ref (gad (xG X) 32)]) (st := []) C 3 rfl (by decide) rfl (kX1_holding (xG X) sk32 e19) cw_X11_161 rfl rfl (Nat.le_of_ble_eq_true rfl) (zq2 hR rfl rfl) (zrcs hcs) dX11_place_155 ?_
                    refine r_iload_n (i := 1) C dX11_place_158 rfl 1 rfl ?_
                    refine r_callSi (As := [.int x20, .int a1]) (st := []) C (kX11_has (xG X)) cw_X11_165 rfl rfl (Nat.le_of_ble_eq_true rfl) (zq2 hR rfl rfl) (zrcs hcs) dX11_place_159 ?_
                    refine r_if_eq C 169 dX11_place_162 (by decide) (fun c21 => ?_) (fun c21 => ?_)
                    · rw [if_pos c21] at hf
                      refine r_iconst (v := 0) C dX11_place_169 (by decide) ?_
                      cases hf
                      exact r_iret C (hE.1 rfl) dX11_place_170
                    · rw [if_neg c21] at hf
                      refine r_iconst (v := 1) C dX11_place_165 (by decide) ?_
                      refine r_goto C 170 dX11_place_166 (by decide) ?_
                      cases hf
                      exact r_iret C (hE.1 rfl) dX11_place_170
                  · rw [if_neg c17] at hf
                    by_cases c22 : a2 = (8 : Int32)
                    · rw [if_pos c22] at hf
                      refine r_tableIn C 171 dX11_place_5 (by rw [c22] <;> decide) (by rw [c22] <;> decide) (by rw [c22] <;> rfl) (by decide) ?_
                      refine r_aload_n (i := 0) C dX11_place_171 rfl 0 rfl ?_
                      refine g_X11_54 C dX11_place_172 ?_
                      refine r_iload_n (i := 1) C dX11_place_175 rfl 1 rfl ?_
                      refine r_aload_n (i := 0) C dX11_place_176 rfl 0 rfl ?_
                      refine g_X11_19 C dX11_place_177 ?_
                      refine r_aload_n (i := 0) C dX11_place_180 rfl 0 rfl ?_
                      refine g_X11_54 C dX11_place_181 ?_
                      obtain ⟨x25, h23, e24, hf⟩ := cl2_of hf
                      refine r_callNVi (As := [.ref (gad (xG X) 32)]) (st := [.int a1, .ref (gad (xG X) 32)]) C 3 rfl (by decide) rfl (kX1_holding (xG X) sk32 e24) cw_X11_161 rfl rfl (Nat.le_of_ble_eq_true rfl) (zq2 hR rfl rfl) (zrcs hcs) dX11_place_184 ?_
                      refine r_aload_n (i := 0) C dX11_place_187 rfl 0 rfl ?_
                      refine g_X11_54 C dX11_place_188 ?_
                      refine g_X11_169 sk32 C dX11_place_191 ?_
                      refine r_aload_n (i := 0) C dX11_place_194 rfl 0 rfl ?_
                      refine g_X11_54 C dX11_place_195 ?_
                      refine g_X11_172 sk32 C dX11_place_198 ?_
                      obtain ⟨x26, e27, hf⟩ := cl_of hf
                      refine r_callNVi (As := [.int a1, .int x25, .int (h23 32 8), .int (h23 32 9)]) (st := []) C 32 (sky_d0 sk32) (sky_l0 sk32) rfl (kX7_skyAt (xG X) sk32 e27) cw_X11_175 rfl rfl (Nat.le_of_ble_eq_true rfl) (zq2 hR rfl rfl) (zrcs hcs) dX11_place_201 ?_
                      cases hf
                      exact r_iret C (hE.1 rfl) dX11_place_204
                    · rw [if_neg c22] at hf
                      by_cases c28 : a2 = (9 : Int32)
                      · rw [if_pos c28] at hf
                        refine r_tableIn C 205 dX11_place_5 (by rw [c28] <;> decide) (by rw [c28] <;> decide) (by rw [c28] <;> rfl) (by decide) ?_
                        refine r_aload_n (i := 0) C dX11_place_205 rfl 0 rfl ?_
                        refine g_X11_19 C dX11_place_206 ?_
                        refine r_aload_n (i := 0) C dX11_place_209 rfl 0 rfl ?_
                        refine g_X11_54 C dX11_place_210 ?_
                        obtain ⟨x31, h29, e30, hf⟩ := cl2_of hf
                        refine r_callNVi (As := [.ref (gad (xG X) 32)]) (st := []) C 3 rfl (by decide) rfl (kX1_standing (xG X) sk32 e30) cw_X11_179 rfl rfl (Nat.le_of_ble_eq_true rfl) (zq2 hR rfl rfl) (zrcs hcs) dX11_place_213 ?_
                        refine r_iload_n (i := 1) C dX11_place_216 rfl 1 rfl ?_
                        refine r_callSi (As := [.int x31, .int a1]) (st := []) C (kX11_has (xG X)) cw_X11_165 rfl rfl (Nat.le_of_ble_eq_true rfl) (zq2 hR rfl rfl) (zrcs hcs) dX11_place_217 ?_
                        refine r_if_eq C 227 dX11_place_220 (by decide) (fun c32 => ?_) (fun c32 => ?_)
                        · rw [if_pos c32] at hf
                          refine r_iconst (v := 0) C dX11_place_227 (by decide) ?_
                          cases hf
                          exact r_iret C (hE.1 rfl) dX11_place_228
                        · rw [if_neg c32] at hf
                          refine r_iconst (v := 1) C dX11_place_223 (by decide) ?_
                          refine r_goto C 228 dX11_place_224 (by decide) ?_
                          cases hf
                          exact r_iret C (hE.1 rfl) dX11_place_228
                      · rw [if_neg c28] at hf
                        refine r_tableOut C 229 dX11_place_5 (sw_out2 (0) (9) 10 (by decide) ?_ (by decide) (by decide)) (by decide) ?_
                        · intro k9 h9
                          match k9, h9 with
                          | 0, _ => exact fun e9 => c2 (e9.trans (by decide))
                          | 1, _ => exact fun e9 => c4 (e9.trans (by decide))
                          | 2, _ => exact fun e9 => c6 (e9.trans (by decide))
                          | 3, _ => exact fun e9 => c8 (e9.trans (by decide))
                          | 4, _ => exact fun e9 => c10 (e9.trans (by decide))
                          | 5, _ => exact fun e9 => c12 (e9.trans (by decide))
                          | 6, _ => exact fun e9 => c14 (e9.trans (by decide))
                          | 7, _ => exact fun e9 => c17 (e9.trans (by decide))
                          | 8, _ => exact fun e9 => c22 (e9.trans (by decide))
                          | 9, _ => exact fun e9 => c28 (e9.trans (by decide))
                          | k9 + 10, h9 => exact absurd h9 (by omega)
                        cases hf
                        exact r_throw C (by decide) (hE.2 (by decide)) (zqt (by decide) hR rfl rfl) tw_2 (Nat.le_of_ble_eq_true rfl) dX11_place_229 dX11_place_232 dX11_place_233 dX11_place_236
  · rw [if_neg c1] at hf
    cases hf
    exact r_callXSv (As := [.int a1]) (st := []) C (kX11_checkPlace (xG X)) cw_X11_136 rfl rfl (Nat.le_of_ble_eq_true rfl) (zq2 hR rfl rfl) (zqc hR (Or.inr rfl)) dX11_place_1 (fun q0 => hE.2 q0) (fun q0 => absurd q0 c1)
def fX11_days (h : Hp) (a1 : Int32) : Option (Int32 × Nat × Hp) := (if (fX11_checkNumber a1 (1 : Int32) (60 : Int32)) = 0 then cl9 (fX5_remember h 32) (fun h2 => cl2 (fX1_daysMore h2 32 a1 (1 : Int32)) (fun x6 h4 => some (x6, 0, h4))) else some ((0 : Int32), (fX11_checkNumber a1 (1 : Int32) (60 : Int32)), h))
set_option maxHeartbeats 4000000 in
set_option maxRecDepth 100000 in
theorem kX11_days (G : Gx)  {h : Hp} {a1 : Int32} {rr : Int32} {kk : Nat} {hh : Hp} (hf : fX11_days h a1 = some (rr, kk, hh)) : MX G yX11_days cX11_days 2 (some .int) 8 512 h [.ref (gad G 0), .int a1] (some (.int rr)) kk hh := by
  refine MX.of RX11 (by decide) rfl (Nat.le_of_ble_eq_true rfl) rfl (fun X C hG hR hE => ?_)
  subst hG
  have hcs : True := trivial
  unfold fX11_days at hf
  refine r_iload_n (i := 1) C dX11_days_0 rfl 1 rfl ?_
  refine r_iconst (v := 1) C dX11_days_1 (by decide) ?_
  refine r_bipush (v := 60) C dX11_days_2 (by decide) ?_
  by_cases c1 : (fX11_checkNumber a1 (1 : Int32) (60 : Int32)) = 0
  · rw [if_pos c1] at hf
    refine r_callXSv (As := [.int a1, .int (1 : Int32), .int (60 : Int32)]) (st := []) C (kX11_checkNumber (xG X)) cw_X11_244 rfl rfl (Nat.le_of_ble_eq_true rfl) (zq2 hR rfl rfl) (zqc hR (Or.inl c1)) dX11_days_4 (fun q0 => absurd c1 q0) (fun _ => ?_)
    refine r_aload_n (i := 0) C dX11_days_7 rfl 0 rfl ?_
    refine g_X11_40 C dX11_days_8 ?_
    refine r_aload_n (i := 0) C dX11_days_11 rfl 0 rfl ?_
    refine g_X11_54 C dX11_days_12 ?_
    obtain ⟨h2, e3, hf⟩ := cl_of hf
    refine r_callNVv (As := [.ref (gad (xG X) 32)]) (st := []) C 18 rfl (by decide) rfl (kX5_remember (xG X) sk32 e3) cw_X11_209 rfl rfl (Nat.le_of_ble_eq_true rfl) (zq2 hR rfl rfl) (zrcs hcs) dX11_days_15 ?_
    refine r_aload_n (i := 0) C dX11_days_18 rfl 0 rfl ?_
    refine g_X11_19 C dX11_days_19 ?_
    refine r_aload_n (i := 0) C dX11_days_22 rfl 0 rfl ?_
    refine g_X11_54 C dX11_days_23 ?_
    refine r_iload_n (i := 1) C dX11_days_26 rfl 1 rfl ?_
    refine r_iconst (v := 1) C dX11_days_27 (by decide) ?_
    obtain ⟨x6, h4, e5, hf⟩ := cl2_of hf
    refine r_callNVi (As := [.ref (gad (xG X) 32), .int a1, .int (1 : Int32)]) (st := []) C 3 rfl (by decide) rfl (kX1_daysMore (xG X) sk32 e5) cw_X11_248 rfl rfl (Nat.le_of_ble_eq_true rfl) (zq2 hR rfl rfl) (zrcs hcs) dX11_days_28 ?_
    cases hf
    exact r_iret C (hE.1 rfl) dX11_days_31
  · rw [if_neg c1] at hf
    cases hf
    exact r_callXSv (As := [.int a1, .int (1 : Int32), .int (60 : Int32)]) (st := []) C (kX11_checkNumber (xG X)) cw_X11_244 rfl rfl (Nat.le_of_ble_eq_true rfl) (zq2 hR rfl rfl) (zqc hR (Or.inr rfl)) dX11_days_4 (fun q0 => hE.2 q0) (fun q0 => absurd q0 c1)
def fX11_low (h : Hp) : Option (Int32 × Hp) := cl2 (fX1_standing h 32) (fun x3 h1 => some (((65535 : Int32) &&& (x3 ^^^ (-1 : Int32))), h1))
set_option maxHeartbeats 4000000 in
set_option maxRecDepth 100000 in
theorem kX11_low (G : Gx)  {h : Hp}  {rr : Int32} {hh : Hp} (hf : fX11_low h = some (rr, hh)) : MC G yX11_low cX11_low 1 (some .int) 8 512 h [.ref (gad G 0)] (some (.int rr)) hh := by
  refine MC.of RX11 (by decide) rfl (Nat.le_of_ble_eq_true rfl) rfl (fun X C hG hR hF => ?_)
  subst hG
  have hcs : True := trivial
  unfold fX11_low at hf
  refine r_ldc (v := 65535) C dX11_low_0 gw_555 ?_
  refine r_aload_n (i := 0) C dX11_low_2 rfl 0 rfl ?_
  refine g_X11_19 C dX11_low_3 ?_
  refine r_aload_n (i := 0) C dX11_low_6 rfl 0 rfl ?_
  refine g_X11_54 C dX11_low_7 ?_
  obtain ⟨x3, h1, e2, hf⟩ := cl2_of hf
  refine r_callNVi (As := [.ref (gad (xG X) 32)]) (st := [.int (65535 : Int32)]) C 3 rfl (by decide) rfl (kX1_standing (xG X) sk32 e2) cw_X11_179 rfl rfl (Nat.le_of_ble_eq_true rfl) (zr2 hR rfl rfl) (zrcs hcs) dX11_low_10 ?_
  refine r_iconst (v := (-1)) C dX11_low_13 (by decide) ?_
  refine r_ixor C dX11_low_14 ?_
  refine r_iand C dX11_low_15 ?_
  cases hf
  exact r_iret C hF dX11_low_16
def fX11_held (h : Hp) : Option (Int32 × Hp) := cl2 (fX1_holding h 32) (fun x3 h1 => some (x3, h1))
set_option maxHeartbeats 4000000 in
set_option maxRecDepth 100000 in
theorem kX11_held (G : Gx)  {h : Hp}  {rr : Int32} {hh : Hp} (hf : fX11_held h = some (rr, hh)) : MC G yX11_held cX11_held 1 (some .int) 7 448 h [.ref (gad G 0)] (some (.int rr)) hh := by
  refine MC.of RX11 (by decide) rfl (Nat.le_of_ble_eq_true rfl) rfl (fun X C hG hR hF => ?_)
  subst hG
  have hcs : True := trivial
  unfold fX11_held at hf
  refine r_aload_n (i := 0) C dX11_held_0 rfl 0 rfl ?_
  refine g_X11_19 C dX11_held_1 ?_
  refine r_aload_n (i := 0) C dX11_held_4 rfl 0 rfl ?_
  refine g_X11_54 C dX11_held_5 ?_
  obtain ⟨x3, h1, e2, hf⟩ := cl2_of hf
  refine r_callNVi (As := [.ref (gad (xG X) 32)]) (st := []) C 3 rfl (by decide) rfl (kX1_holding (xG X) sk32 e2) cw_X11_161 rfl rfl (Nat.le_of_ble_eq_true rfl) (zr2 hR rfl rfl) (zrcs hcs) dX11_held_8 ?_
  cases hf
  exact r_iret C hF dX11_held_11
def BX11_key_0  (rec : Hp → Int32 → Int32 → Int32 → Option (Int32 × Hp)) (h : Hp) (y1 : Int32) (y2 : Int32) (y3 : Int32) : Option (Int32 × Hp) := (if (16 : Int32) ≤ y3 then some (y2, h) else (if (fX7_hasPin h 32 y3) = (0 : Int32) then lt9 (y3 + (1 : Int32)) (fun x3 => rec h y1 y2 x3) else cl2 (fX11_standingWithout h y3) (fun x6 h4 => (if y1 ≤ (fJ_bitCount x6) then lt9 (y3 + (1 : Int32)) (fun x8 => rec h4 y1 y2 x8) else lt9 (y2 ||| ((1 : Int32) <<< (y3 &&& 31))) (fun x9 => lt9 (y3 + (1 : Int32)) (fun x10 => rec h4 y1 x9 x10))))))
def LX11_key  : Nat → Hp → Int32 → Int32 → Int32 → Option (Int32 × Hp)
  | 0, _, _, _, _ => none
  | n + 1, h, y1, y2, y3 => BX11_key_0  (LX11_key  n) h y1 y2 y3
def fX11_key (h : Hp) : Option (Int32 × Hp) := cl2 (fX1_standing h 32) (fun x13 h11 => lt9 (fJ_bitCount x13) (fun x14 => LX11_key big h11 x14 (0 : Int32) (0 : Int32)))
set_option maxHeartbeats 4000000 in
set_option maxRecDepth 100000 in
theorem wX11_key {X : Cx}  {rr : Int32} {hh : Hp} (C : OK X cX11_key 4 RX11 (some .int)) (hR : xR X = { frames := 8, cells := 0, slots := 0, locals := 512 }) (hcs : True) (hF : FinR X (some (.int rr)) hh) : ∀ n : Nat, (∀ (h : Hp) (y1 : Int32) (y2 : Int32) (y3 : Int32), LX11_key  n h y1 y2 y3 = some (rr, hh) → VW X 4 h 0 0 19 [(0, .ref (gad (xG X) 0)), (1, .int y1), (2, .int y2), (3, .int y3)] []) := by
  intro n
  induction n with
  | zero => exact (fun _ _ _ _ hf => (by rw [LX11_key] at hf; cases hf))
  | succ n ih =>
    intro h y1 y2 y3 hf
    rw [LX11_key] at hf
    unfold BX11_key_0 at hf
    refine r_iload_n (i := 3) C dX11_key_19 rfl 3 rfl ?_
    refine r_bipush (v := 16) C dX11_key_20 (by decide) ?_
    refine r_icmp_ge C 60 dX11_key_22 (by decide) (fun c1 => ?_) (fun c1 => ?_)
    · rw [if_pos c1] at hf
      refine r_iload_n (i := 2) C dX11_key_60 rfl 2 rfl ?_
      cases hf
      exact r_iret C hF dX11_key_61
    · rw [if_neg c1] at hf
      refine r_aload_n (i := 0) C dX11_key_25 rfl 0 rfl ?_
      refine g_X11_54 C dX11_key_26 ?_
      refine r_iload_n (i := 3) C dX11_key_29 rfl 3 rfl ?_
      refine r_callNVi (As := [.int y3]) (st := []) C 32 (sky_d0 sk32) (sky_l0 sk32) rfl (kX7_hasPin (xG X) sk32) cw_X11_151 rfl rfl (Nat.le_of_ble_eq_true rfl) (zr2 hR rfl rfl) (zrcs hcs) dX11_key_30 ?_
      refine r_if_eq C 54 dX11_key_33 (by decide) (fun c2 => ?_) (fun c2 => ?_)
      · rw [if_pos c2] at hf
        obtain ⟨x3, ex3, hf⟩ := lt_of hf
        refine r_iinc (j := 3) (v := x3) (lv' := [(0, .ref (gad (xG X) 0)), (1, .int y1), (2, .int y2), (3, .int x3)]) C dX11_key_54 rfl (by rw [ex3]; rfl) (by decide) [1, 2, 3, 0] rfl ?_
        refine r_goto C 19 dX11_key_57 (by decide) ?_
        exact r_lv [0, 1, 2, 3] rfl (ih _ _ _ _ hf)
      · rw [if_neg c2] at hf
        refine r_aload_n (i := 0) C dX11_key_36 rfl 0 rfl ?_
        refine r_iload_n (i := 3) C dX11_key_37 rfl 3 rfl ?_
        obtain ⟨x6, h4, e5, hf⟩ := cl2_of hf
        refine r_callVi (As := [.int y3]) (st := []) C 0 rfl (by decide) rfl (kX11_standingWithout (xG X) e5) cw_X11_262 rfl rfl (Nat.le_of_ble_eq_true rfl) (zr2 hR rfl rfl) (zrcs hcs) dX11_key_38 ?_
        refine r_callSi (As := [.int x6]) (st := []) C (kJ_bitCount (xG X)) cw_X11_257 rfl rfl (Nat.le_of_ble_eq_true rfl) (zr2 hR rfl rfl) (zrcs hcs) dX11_key_41 ?_
        refine r_iload_n (i := 1) C dX11_key_44 rfl 1 rfl ?_
        refine r_icmp_ge C 54 dX11_key_45 (by decide) (fun c7 => ?_) (fun c7 => ?_)
        · rw [if_pos c7] at hf
          obtain ⟨x8, ex8, hf⟩ := lt_of hf
          refine r_iinc (j := 3) (v := x8) (lv' := [(0, .ref (gad (xG X) 0)), (1, .int y1), (2, .int y2), (3, .int x8)]) C dX11_key_54 rfl (by rw [ex8]; rfl) (by decide) [1, 2, 3, 0] rfl ?_
          refine r_goto C 19 dX11_key_57 (by decide) ?_
          exact r_lv [0, 1, 2, 3] rfl (ih _ _ _ _ hf)
        · rw [if_neg c7] at hf
          refine r_iload_n (i := 2) C dX11_key_48 rfl 2 rfl ?_
          refine r_iconst (v := 1) C dX11_key_49 (by decide) ?_
          refine r_iload_n (i := 3) C dX11_key_50 rfl 3 rfl ?_
          refine r_ishl C dX11_key_51 ?_
          refine r_ior C dX11_key_52 ?_
          obtain ⟨x9, ex9, hf⟩ := lt_of hf
          refine r_top ex9 ?_
          refine r_istore_n (i := 2) (lv' := [(0, .ref (gad (xG X) 0)), (1, .int y1), (2, .int x9), (3, .int y3)]) C dX11_key_53 rfl (by decide) [1, 2, 0, 3] rfl ?_
          obtain ⟨x10, ex10, hf⟩ := lt_of hf
          refine r_iinc (j := 3) (v := x10) (lv' := [(0, .ref (gad (xG X) 0)), (1, .int y1), (2, .int x9), (3, .int x10)]) C dX11_key_54 rfl (by rw [ex10]; rfl) (by decide) [1, 2, 3, 0] rfl ?_
          refine r_goto C 19 dX11_key_57 (by decide) ?_
          exact r_lv [0, 1, 2, 3] rfl (ih _ _ _ _ hf)
set_option maxHeartbeats 4000000 in
set_option maxRecDepth 100000 in
theorem kX11_key (G : Gx)  {h : Hp}  {rr : Int32} {hh : Hp} (hf : fX11_key h = some (rr, hh)) : MC G yX11_key cX11_key 4 (some .int) 8 512 h [.ref (gad G 0)] (some (.int rr)) hh := by
  refine MC.of RX11 (by decide) rfl (Nat.le_of_ble_eq_true rfl) rfl (fun X C hG hR hF => ?_)
  subst hG
  have hcs : True := trivial
  unfold fX11_key at hf
  refine r_aload_n (i := 0) C dX11_key_0 rfl 0 rfl ?_
  refine g_X11_19 C dX11_key_1 ?_
  refine r_aload_n (i := 0) C dX11_key_4 rfl 0 rfl ?_
  refine g_X11_54 C dX11_key_5 ?_
  obtain ⟨x13, h11, e12, hf⟩ := cl2_of hf
  refine r_callNVi (As := [.ref (gad (xG X) 32)]) (st := []) C 3 rfl (by decide) rfl (kX1_standing (xG X) sk32 e12) cw_X11_179 rfl rfl (Nat.le_of_ble_eq_true rfl) (zr2 hR rfl rfl) (zrcs hcs) dX11_key_8 ?_
  refine r_callSi (As := [.int x13]) (st := []) C (kJ_bitCount (xG X)) cw_X11_257 rfl rfl (Nat.le_of_ble_eq_true rfl) (zr2 hR rfl rfl) (zrcs hcs) dX11_key_11 ?_
  obtain ⟨x14, ex14, hf⟩ := lt_of hf
  refine r_top ex14 ?_
  refine r_istore_n (i := 1) (lv' := [(0, .ref (gad (xG X) 0)), (1, .int x14)]) C dX11_key_14 rfl (by decide) [1, 0] rfl ?_
  refine r_iconst (v := 0) C dX11_key_15 (by decide) ?_
  refine r_istore_n (i := 2) (lv' := [(0, .ref (gad (xG X) 0)), (1, .int x14), (2, .int (0 : Int32))]) C dX11_key_16 rfl (by decide) [1, 2, 0] rfl ?_
  refine r_iconst (v := 0) C dX11_key_17 (by decide) ?_
  refine r_istore_n (i := 3) (lv' := [(0, .ref (gad (xG X) 0)), (1, .int x14), (2, .int (0 : Int32)), (3, .int (0 : Int32))]) C dX11_key_18 rfl (by decide) [1, 2, 3, 0] rfl ?_
  exact r_lv [0, 1, 2, 3] rfl ((wX11_key  C hR hcs hF big) _ _ _ _ hf)
def BX11_fewest_0  (rec : Hp → Int32 → Int32 → Int32 → Option (Int32 × Hp)) (h : Hp) (y2 : Int32) (y3 : Int32) (y4 : Int32) : Option (Int32 × Hp) := (if (4 : Int32) < y4 then some ((-1 : Int32), h) else cl2 (fX11_leastPins h y4 y3 y2) (fun x4 h2 => (if x4 = (-1 : Int32) then lt9 (y4 + (1 : Int32)) (fun x6 => rec h2 y2 y3 x6) else some (x4, h2))))
def LX11_fewest  : Nat → Hp → Int32 → Int32 → Int32 → Option (Int32 × Hp)
  | 0, _, _, _, _ => none
  | n + 1, h, y2, y3, y4 => BX11_fewest_0  (LX11_fewest  n) h y2 y3 y4
def fX11_fewest (h : Hp) (a1 : Int32) : Option (Int32 × Hp) := lt9 (a1 &&& (65535 : Int32)) (fun x7 => cl2 (fX1_standing h 32) (fun x10 h8 => (if (x7 &&& (x10 ^^^ (-1 : Int32))) = (0 : Int32) then some ((0 : Int32), h8) else lt9 (fX7_free h8 32) (fun x12 => LX11_fewest big h8 x7 x12 (1 : Int32)))))
set_option maxHeartbeats 4000000 in
set_option maxRecDepth 100000 in
theorem wX11_fewest {X : Cx}  {rr : Int32} {hh : Hp} (C : OK X cX11_fewest 6 RX11 (some .int)) (hR : xR X = { frames := 8, cells := 0, slots := 0, locals := 512 }) (hcs : True) (hF : FinR X (some (.int rr)) hh) : ∀ n : Nat, (∀ (h : Hp) (y2 : Int32) (y3 : Int32) (y4 : Int32), LX11_fewest  n h y2 y3 y4 = some (rr, hh) → VW X 6 h 0 0 36 [(0, .ref (gad (xG X) 0)), (2, .int y2), (3, .int y3), (4, .int y4)] []) := by
  intro n
  induction n with
  | zero => exact (fun _ _ _ _ hf => (by rw [LX11_fewest] at hf; cases hf))
  | succ n ih =>
    intro h y2 y3 y4 hf
    rw [LX11_fewest] at hf
    unfold BX11_fewest_0 at hf
    refine r_iload (i := 4) C dX11_fewest_36 3 rfl ?_
    refine r_iconst (v := 4) C dX11_fewest_38 (by decide) ?_
    refine r_icmp_gt C 67 dX11_fewest_39 (by decide) (fun c1 => ?_) (fun c1 => ?_)
    · rw [if_pos c1] at hf
      refine r_iconst (v := (-1)) C dX11_fewest_67 (by decide) ?_
      cases hf
      exact r_iret C hF dX11_fewest_68
    · rw [if_neg c1] at hf
      refine r_aload_n (i := 0) C dX11_fewest_42 rfl 0 rfl ?_
      refine r_iload (i := 4) C dX11_fewest_43 3 rfl ?_
      refine r_iload_n (i := 3) C dX11_fewest_45 rfl 2 rfl ?_
      refine r_iload_n (i := 2) C dX11_fewest_46 rfl 1 rfl ?_
      obtain ⟨x4, h2, e3, hf⟩ := cl2_of hf
      refine r_callVi (As := [.int y4, .int y3, .int y2]) (st := []) C 0 rfl (by decide) rfl (kX11_leastPins (xG X) e3) cw_X11_269 rfl rfl (Nat.le_of_ble_eq_true rfl) (zr2 hR rfl rfl) (zrcs hcs) dX11_fewest_47 ?_
      refine r_istore (i := 5) (lv' := [(0, .ref (gad (xG X) 0)), (2, .int y2), (3, .int y3), (4, .int y4), (5, .int x4)]) C dX11_fewest_50 (by decide) [1, 2, 3, 4, 0] rfl ?_
      refine r_iload (i := 5) C dX11_fewest_52 4 rfl ?_
      refine r_iconst (v := (-1)) C dX11_fewest_54 (by decide) ?_
      refine r_icmp_eq C 61 dX11_fewest_55 (by decide) (fun c5 => ?_) (fun c5 => ?_)
      · rw [if_pos c5] at hf
        obtain ⟨x6, ex6, hf⟩ := lt_of hf
        refine r_iinc (j := 3) (v := x6) (lv' := [(0, .ref (gad (xG X) 0)), (2, .int y2), (3, .int y3), (4, .int x6), (5, .int x4)]) C dX11_fewest_61 rfl (by rw [ex6]; rfl) (by decide) [1, 2, 3, 0, 4] rfl ?_
        refine r_goto C 36 dX11_fewest_64 (by decide) ?_
        exact r_lv [0, 1, 2, 3] rfl (ih _ _ _ _ hf)
      · rw [if_neg c5] at hf
        refine r_iload (i := 5) C dX11_fewest_58 4 rfl ?_
        cases hf
        exact r_iret C hF dX11_fewest_60
set_option maxHeartbeats 4000000 in
set_option maxRecDepth 100000 in
theorem kX11_fewest (G : Gx)  {h : Hp} {a1 : Int32} {rr : Int32} {hh : Hp} (hf : fX11_fewest h a1 = some (rr, hh)) : MC G yX11_fewest cX11_fewest 6 (some .int) 8 512 h [.ref (gad G 0), .int a1] (some (.int rr)) hh := by
  refine MC.of RX11 (by decide) rfl (Nat.le_of_ble_eq_true rfl) rfl (fun X C hG hR hF => ?_)
  subst hG
  have hcs : True := trivial
  unfold fX11_fewest at hf
  refine r_iload_n (i := 1) C dX11_fewest_0 rfl 1 rfl ?_
  refine r_ldc (v := 65535) C dX11_fewest_1 gw_555 ?_
  refine r_iand C dX11_fewest_3 ?_
  obtain ⟨x7, ex7, hf⟩ := lt_of hf
  refine r_top ex7 ?_
  refine r_istore_n (i := 2) (lv' := [(0, .ref (gad (xG X) 0)), (1, .int a1), (2, .int x7)]) C dX11_fewest_4 rfl (by decide) [1, 2, 0] rfl ?_
  refine r_iload_n (i := 2) C dX11_fewest_5 rfl 2 rfl ?_
  refine r_aload_n (i := 0) C dX11_fewest_6 rfl 0 rfl ?_
  refine g_X11_19 C dX11_fewest_7 ?_
  refine r_aload_n (i := 0) C dX11_fewest_10 rfl 0 rfl ?_
  refine g_X11_54 C dX11_fewest_11 ?_
  obtain ⟨x10, h8, e9, hf⟩ := cl2_of hf
  refine r_callNVi (As := [.ref (gad (xG X) 32)]) (st := [.int x7]) C 3 rfl (by decide) rfl (kX1_standing (xG X) sk32 e9) cw_X11_179 rfl rfl (Nat.le_of_ble_eq_true rfl) (zr2 hR rfl rfl) (zrcs hcs) dX11_fewest_14 ?_
  refine r_iconst (v := (-1)) C dX11_fewest_17 (by decide) ?_
  refine r_ixor C dX11_fewest_18 ?_
  refine r_iand C dX11_fewest_19 ?_
  refine r_if_ne C 25 dX11_fewest_20 (by decide) (fun c11 => ?_) (fun c11 => ?_)
  · rw [if_neg c11] at hf
    refine r_aload_n (i := 0) C dX11_fewest_25 rfl 0 rfl ?_
    refine g_X11_54 C dX11_fewest_26 ?_
    refine r_callNVi (As := []) (st := []) C 32 (sky_d0 sk32) (sky_l0 sk32) rfl (kX7_free (xG X) sk32) cw_X11_265 rfl rfl (Nat.le_of_ble_eq_true rfl) (zr2 hR rfl rfl) (zrcs hcs) dX11_fewest_29 ?_
    obtain ⟨x12, ex12, hf⟩ := lt_of hf
    refine r_top ex12 ?_
    refine r_istore_n (i := 3) (lv' := [(0, .ref (gad (xG X) 0)), (1, .int a1), (2, .int x7), (3, .int x12)]) C dX11_fewest_32 rfl (by decide) [1, 2, 3, 0] rfl ?_
    refine r_iconst (v := 1) C dX11_fewest_33 (by decide) ?_
    refine r_istore (i := 4) (lv' := [(0, .ref (gad (xG X) 0)), (1, .int a1), (2, .int x7), (3, .int x12), (4, .int (1 : Int32))]) C dX11_fewest_34 (by decide) [1, 2, 3, 4, 0] rfl ?_
    exact r_lv [0, 2, 3, 4] rfl ((wX11_fewest  C hR hcs hF big) _ _ _ _ hf)
  · rw [if_pos c11] at hf
    refine r_iconst (v := 0) C dX11_fewest_23 (by decide) ?_
    cases hf
    exact r_iret C hF dX11_fewest_24
def BX11_spare_0  (rec : Hp → Int32 → Int32 → Int32 → Option (Int32 × Hp)) (h : Hp) (y1 : Int32) (y2 : Int32) (y3 : Int32) : Option (Int32 × Hp) := (if (16 : Int32) ≤ y3 then some (y2, h) else (if (fX7_hasPin h 32 y3) = (0 : Int32) then lt9 (y3 + (1 : Int32)) (fun x3 => rec h y1 y2 x3) else cl2 (fX11_standingWithout h y3) (fun x6 h4 => (if (y1 &&& (x6 ^^^ (-1 : Int32))) = (0 : Int32) then lt9 (y2 ||| ((1 : Int32) <<< (y3 &&& 31))) (fun x9 => lt9 (y3 + (1 : Int32)) (fun x10 => rec h4 y1 x9 x10)) else lt9 (y3 + (1 : Int32)) (fun x8 => rec h4 y1 y2 x8)))))
def LX11_spare  : Nat → Hp → Int32 → Int32 → Int32 → Option (Int32 × Hp)
  | 0, _, _, _, _ => none
  | n + 1, h, y1, y2, y3 => BX11_spare_0  (LX11_spare  n) h y1 y2 y3
def fX11_spare (h : Hp) : Option (Int32 × Hp) := cl2 (fX1_standing h 32) (fun x13 h11 => LX11_spare big h11 x13 (0 : Int32) (0 : Int32))
set_option maxHeartbeats 4000000 in
set_option maxRecDepth 100000 in
theorem wX11_spare {X : Cx}  {rr : Int32} {hh : Hp} (C : OK X cX11_spare 4 RX11 (some .int)) (hR : xR X = { frames := 8, cells := 0, slots := 0, locals := 512 }) (hcs : True) (hF : FinR X (some (.int rr)) hh) : ∀ n : Nat, (∀ (h : Hp) (y1 : Int32) (y2 : Int32) (y3 : Int32), LX11_spare  n h y1 y2 y3 = some (rr, hh) → VW X 4 h 0 0 16 [(0, .ref (gad (xG X) 0)), (1, .int y1), (2, .int y2), (3, .int y3)] []) := by
  intro n
  induction n with
  | zero => exact (fun _ _ _ _ hf => (by rw [LX11_spare] at hf; cases hf))
  | succ n ih =>
    intro h y1 y2 y3 hf
    rw [LX11_spare] at hf
    unfold BX11_spare_0 at hf
    refine r_iload_n (i := 3) C dX11_spare_16 rfl 3 rfl ?_
    refine r_bipush (v := 16) C dX11_spare_17 (by decide) ?_
    refine r_icmp_ge C 57 dX11_spare_19 (by decide) (fun c1 => ?_) (fun c1 => ?_)
    · rw [if_pos c1] at hf
      refine r_iload_n (i := 2) C dX11_spare_57 rfl 2 rfl ?_
      cases hf
      exact r_iret C hF dX11_spare_58
    · rw [if_neg c1] at hf
      refine r_aload_n (i := 0) C dX11_spare_22 rfl 0 rfl ?_
      refine g_X11_54 C dX11_spare_23 ?_
      refine r_iload_n (i := 3) C dX11_spare_26 rfl 3 rfl ?_
      refine r_callNVi (As := [.int y3]) (st := []) C 32 (sky_d0 sk32) (sky_l0 sk32) rfl (kX7_hasPin (xG X) sk32) cw_X11_151 rfl rfl (Nat.le_of_ble_eq_true rfl) (zr2 hR rfl rfl) (zrcs hcs) dX11_spare_27 ?_
      refine r_if_eq C 51 dX11_spare_30 (by decide) (fun c2 => ?_) (fun c2 => ?_)
      · rw [if_pos c2] at hf
        obtain ⟨x3, ex3, hf⟩ := lt_of hf
        refine r_iinc (j := 3) (v := x3) (lv' := [(0, .ref (gad (xG X) 0)), (1, .int y1), (2, .int y2), (3, .int x3)]) C dX11_spare_51 rfl (by rw [ex3]; rfl) (by decide) [1, 2, 3, 0] rfl ?_
        refine r_goto C 16 dX11_spare_54 (by decide) ?_
        exact r_lv [0, 1, 2, 3] rfl (ih _ _ _ _ hf)
      · rw [if_neg c2] at hf
        refine r_iload_n (i := 1) C dX11_spare_33 rfl 1 rfl ?_
        refine r_aload_n (i := 0) C dX11_spare_34 rfl 0 rfl ?_
        refine r_iload_n (i := 3) C dX11_spare_35 rfl 3 rfl ?_
        obtain ⟨x6, h4, e5, hf⟩ := cl2_of hf
        refine r_callVi (As := [.int y3]) (st := [.int y1]) C 0 rfl (by decide) rfl (kX11_standingWithout (xG X) e5) cw_X11_262 rfl rfl (Nat.le_of_ble_eq_true rfl) (zr2 hR rfl rfl) (zrcs hcs) dX11_spare_36 ?_
        refine r_iconst (v := (-1)) C dX11_spare_39 (by decide) ?_
        refine r_ixor C dX11_spare_40 ?_
        refine r_iand C dX11_spare_41 ?_
        refine r_if_ne C 51 dX11_spare_42 (by decide) (fun c7 => ?_) (fun c7 => ?_)
        · rw [if_neg c7] at hf
          obtain ⟨x8, ex8, hf⟩ := lt_of hf
          refine r_iinc (j := 3) (v := x8) (lv' := [(0, .ref (gad (xG X) 0)), (1, .int y1), (2, .int y2), (3, .int x8)]) C dX11_spare_51 rfl (by rw [ex8]; rfl) (by decide) [1, 2, 3, 0] rfl ?_
          refine r_goto C 16 dX11_spare_54 (by decide) ?_
          exact r_lv [0, 1, 2, 3] rfl (ih _ _ _ _ hf)
        · rw [if_pos c7] at hf
          refine r_iload_n (i := 2) C dX11_spare_45 rfl 2 rfl ?_
          refine r_iconst (v := 1) C dX11_spare_46 (by decide) ?_
          refine r_iload_n (i := 3) C dX11_spare_47 rfl 3 rfl ?_
          refine r_ishl C dX11_spare_48 ?_
          refine r_ior C dX11_spare_49 ?_
          obtain ⟨x9, ex9, hf⟩ := lt_of hf
          refine r_top ex9 ?_
          refine r_istore_n (i := 2) (lv' := [(0, .ref (gad (xG X) 0)), (1, .int y1), (2, .int x9), (3, .int y3)]) C dX11_spare_50 rfl (by decide) [1, 2, 0, 3] rfl ?_
          obtain ⟨x10, ex10, hf⟩ := lt_of hf
          refine r_iinc (j := 3) (v := x10) (lv' := [(0, .ref (gad (xG X) 0)), (1, .int y1), (2, .int x9), (3, .int x10)]) C dX11_spare_51 rfl (by rw [ex10]; rfl) (by decide) [1, 2, 3, 0] rfl ?_
          refine r_goto C 16 dX11_spare_54 (by decide) ?_
          exact r_lv [0, 1, 2, 3] rfl (ih _ _ _ _ hf)
set_option maxHeartbeats 4000000 in
set_option maxRecDepth 100000 in
theorem kX11_spare (G : Gx)  {h : Hp}  {rr : Int32} {hh : Hp} (hf : fX11_spare h = some (rr, hh)) : MC G yX11_spare cX11_spare 4 (some .int) 8 512 h [.ref (gad G 0)] (some (.int rr)) hh := by
  refine MC.of RX11 (by decide) rfl (Nat.le_of_ble_eq_true rfl) rfl (fun X C hG hR hF => ?_)
  subst hG
  have hcs : True := trivial
  unfold fX11_spare at hf
  refine r_aload_n (i := 0) C dX11_spare_0 rfl 0 rfl ?_
  refine g_X11_19 C dX11_spare_1 ?_
  refine r_aload_n (i := 0) C dX11_spare_4 rfl 0 rfl ?_
  refine g_X11_54 C dX11_spare_5 ?_
  obtain ⟨x13, h11, e12, hf⟩ := cl2_of hf
  refine r_callNVi (As := [.ref (gad (xG X) 32)]) (st := []) C 3 rfl (by decide) rfl (kX1_standing (xG X) sk32 e12) cw_X11_179 rfl rfl (Nat.le_of_ble_eq_true rfl) (zr2 hR rfl rfl) (zrcs hcs) dX11_spare_8 ?_
  refine r_istore_n (i := 1) (lv' := [(0, .ref (gad (xG X) 0)), (1, .int x13)]) C dX11_spare_11 rfl (by decide) [1, 0] rfl ?_
  refine r_iconst (v := 0) C dX11_spare_12 (by decide) ?_
  refine r_istore_n (i := 2) (lv' := [(0, .ref (gad (xG X) 0)), (1, .int x13), (2, .int (0 : Int32))]) C dX11_spare_13 rfl (by decide) [1, 2, 0] rfl ?_
  refine r_iconst (v := 0) C dX11_spare_14 (by decide) ?_
  refine r_istore_n (i := 3) (lv' := [(0, .ref (gad (xG X) 0)), (1, .int x13), (2, .int (0 : Int32)), (3, .int (0 : Int32))]) C dX11_spare_15 rfl (by decide) [1, 2, 3, 0] rfl ?_
  exact r_lv [0, 1, 2, 3] rfl ((wX11_spare  C hR hcs hF big) _ _ _ _ hf)
def BX11_duke_0  (rec : Nat → Hp → Int32 → Int32 → Int32 → Int32 → Option (Int32 × Hp)) (h : Hp) (y1 : Int32) (y2 : Int32) (y3 : Int32) (y4 : Int32) : Option (Int32 × Hp) := (if (16 : Int32) ≤ y3 then some (y2, h) else rec 1 h y1 y2 y3 (-1 : Int32))
def BX11_duke_1  (rec : Nat → Hp → Int32 → Int32 → Int32 → Int32 → Option (Int32 × Hp)) (h : Hp) (y1 : Int32) (y2 : Int32) (y3 : Int32) (y4 : Int32) : Option (Int32 × Hp) := (if (16 : Int32) ≤ y4 then lt9 (y3 + (1 : Int32)) (fun x3 => rec 0 h y1 y2 x3 0) else (if (fX11_canChoose (h 32 5) y3) = (0 : Int32) then lt9 (y4 + (1 : Int32)) (fun x5 => rec 1 h y1 y2 y3 x5) else (if (fX11_canChoose y1 y4) = (0 : Int32) then lt9 (y4 + (1 : Int32)) (fun x7 => rec 1 h y1 y2 y3 x7) else cl9 (fX11_dukeRests h y3 y4) (fun x8 => (if x8 = (0 : Int32) then lt9 (y4 + (1 : Int32)) (fun x11 => rec 1 h y1 y2 y3 x11) else cl9 (fX11_guildRests h y3 y4 y1) (fun x12 => (if x12 = (0 : Int32) then lt9 (y4 + (1 : Int32)) (fun x15 => rec 1 h y1 y2 y3 x15) else lt9 (y2 + (1 : Int32)) (fun x16 => lt9 (y4 + (1 : Int32)) (fun x17 => rec 1 h y1 x16 y3 x17)))))))))
def LX11_duke  : Nat → Nat → Hp → Int32 → Int32 → Int32 → Int32 → Option (Int32 × Hp)
  | 0, _, _, _, _, _, _ => none
  | n + 1, lab, h, y1, y2, y3, y4 => if lab = 0 then BX11_duke_0  (LX11_duke  n) h y1 y2 y3 y4 else if lab = 1 then BX11_duke_1  (LX11_duke  n) h y1 y2 y3 y4 else none
def fX11_duke (h : Hp) : Option (Int32 × Hp) := lt9 (fX7_free h 32) (fun x18 => cl9 (fX11_playGame h x18) (fun h19 => LX11_duke big 0 h19 x18 (0 : Int32) (-1 : Int32) 0))
set_option maxHeartbeats 4000000 in
set_option maxRecDepth 100000 in
theorem wX11_duke {X : Cx}  {rr : Int32} {hh : Hp} (C : OK X cX11_duke 5 RX11 (some .int)) (hR : xR X = { frames := 8, cells := 0, slots := 0, locals := 512 }) (hcs : True) (hF : FinR X (some (.int rr)) hh) : ∀ n : Nat, (∀ (h : Hp) (y1 : Int32) (y2 : Int32) (y3 : Int32) (y4 : Int32), LX11_duke  n 0 h y1 y2 y3 y4 = some (rr, hh) → VW X 5 h 0 0 17 [(0, .ref (gad (xG X) 0)), (1, .int y1), (2, .int y2), (3, .int y3)] []) ∧ (∀ (h : Hp) (y1 : Int32) (y2 : Int32) (y3 : Int32) (y4 : Int32), LX11_duke  n 1 h y1 y2 y3 y4 = some (rr, hh) → VW X 5 h 0 0 26 [(0, .ref (gad (xG X) 0)), (1, .int y1), (2, .int y2), (3, .int y3), (4, .int y4)] []) := by
  intro n
  induction n with
  | zero => exact ⟨(fun _ _ _ _ _ hf => (by rw [LX11_duke] at hf; cases hf)), (fun _ _ _ _ _ hf => (by rw [LX11_duke] at hf; cases hf))⟩
  | succ n ih =>
    refine ⟨?_, ?_⟩
    · intro h y1 y2 y3 y4 hf
      rw [LX11_duke, if_pos rfl] at hf
      unfold BX11_duke_0 at hf
      refine r_iload_n (i := 3) C dX11_duke_17 rfl 3 rfl ?_
      refine r_bipush (v := 16) C dX11_duke_18 (by decide) ?_
      refine r_icmp_ge C 92 dX11_duke_20 (by decide) (fun c1 => ?_) (fun c1 => ?_)
      · rw [if_pos c1] at hf
        refine r_iload_n (i := 2) C dX11_duke_92 rfl 2 rfl ?_
        cases hf
        exact r_iret C hF dX11_duke_93
      · rw [if_neg c1] at hf
        refine r_iconst (v := (-1)) C dX11_duke_23 (by decide) ?_
        refine r_istore (i := 4) (lv' := [(0, .ref (gad (xG X) 0)), (1, .int y1), (2, .int y2), (3, .int y3), (4, .int (-1 : Int32))]) C dX11_duke_24 (by decide) [1, 2, 3, 4, 0] rfl ?_
        exact r_lv [0, 1, 2, 3, 4] rfl (ih.2 _ _ _ _ _ hf)
    · intro h y1 y2 y3 y4 hf
      rw [LX11_duke, if_neg (by decide), if_pos rfl] at hf
      unfold BX11_duke_1 at hf
      refine r_iload (i := 4) C dX11_duke_26 4 rfl ?_
      refine r_bipush (v := 16) C dX11_duke_28 (by decide) ?_
      refine r_icmp_ge C 86 dX11_duke_30 (by decide) (fun c2 => ?_) (fun c2 => ?_)
      · rw [if_pos c2] at hf
        obtain ⟨x3, ex3, hf⟩ := lt_of hf
        refine r_iinc (j := 3) (v := x3) (lv' := [(0, .ref (gad (xG X) 0)), (1, .int y1), (2, .int y2), (3, .int x3), (4, .int y4)]) C dX11_duke_86 rfl (by rw [ex3]; rfl) (by decide) [1, 2, 3, 0, 4] rfl ?_
        refine r_goto C 17 dX11_duke_89 (by decide) ?_
        exact r_lv [0, 1, 2, 3] rfl (ih.1 _ _ _ _ _ hf)
      · rw [if_neg c2] at hf
        refine r_aload_n (i := 0) C dX11_duke_33 rfl 0 rfl ?_
        refine g_X11_54 C dX11_duke_34 ?_
        refine g_X11_276 sk32 C dX11_duke_37 ?_
        refine r_iload_n (i := 3) C dX11_duke_40 rfl 3 rfl ?_
        refine r_callSi (As := [.int (h 32 5), .int y3]) (st := []) C (kX11_canChoose (xG X)) cw_X11_318 rfl rfl (Nat.le_of_ble_eq_true rfl) (zr2 hR rfl rfl) (zrcs hcs) dX11_duke_41 ?_
        refine r_if_eq C 80 dX11_duke_44 (by decide) (fun c4 => ?_) (fun c4 => ?_)
        · rw [if_pos c4] at hf
          obtain ⟨x5, ex5, hf⟩ := lt_of hf
          refine r_iinc (j := 4) (v := x5) (lv' := [(0, .ref (gad (xG X) 0)), (1, .int y1), (2, .int y2), (3, .int y3), (4, .int x5)]) C dX11_duke_80 rfl (by rw [ex5]; rfl) (by decide) [1, 2, 3, 4, 0] rfl ?_
          refine r_goto C 26 dX11_duke_83 (by decide) ?_
          exact r_lv [0, 1, 2, 3, 4] rfl (ih.2 _ _ _ _ _ hf)
        · rw [if_neg c4] at hf
          refine r_iload_n (i := 1) C dX11_duke_47 rfl 1 rfl ?_
          refine r_iload (i := 4) C dX11_duke_48 4 rfl ?_
          refine r_callSi (As := [.int y1, .int y4]) (st := []) C (kX11_canChoose (xG X)) cw_X11_318 rfl rfl (Nat.le_of_ble_eq_true rfl) (zr2 hR rfl rfl) (zrcs hcs) dX11_duke_50 ?_
          refine r_if_eq C 80 dX11_duke_53 (by decide) (fun c6 => ?_) (fun c6 => ?_)
          · rw [if_pos c6] at hf
            obtain ⟨x7, ex7, hf⟩ := lt_of hf
            refine r_iinc (j := 4) (v := x7) (lv' := [(0, .ref (gad (xG X) 0)), (1, .int y1), (2, .int y2), (3, .int y3), (4, .int x7)]) C dX11_duke_80 rfl (by rw [ex7]; rfl) (by decide) [1, 2, 3, 4, 0] rfl ?_
            refine r_goto C 26 dX11_duke_83 (by decide) ?_
            exact r_lv [0, 1, 2, 3, 4] rfl (ih.2 _ _ _ _ _ hf)
          · rw [if_neg c6] at hf
            refine r_aload_n (i := 0) C dX11_duke_56 rfl 0 rfl ?_
            refine r_iload_n (i := 3) C dX11_duke_57 rfl 3 rfl ?_
            refine r_iload (i := 4) C dX11_duke_58 4 rfl ?_
            obtain ⟨x8, e9, hf⟩ := cl_of hf
            refine r_callVi (As := [.int y3, .int y4]) (st := []) C 0 rfl (by decide) rfl (kX11_dukeRests (xG X) e9) cw_X11_321 rfl rfl (Nat.le_of_ble_eq_true rfl) (zr2 hR rfl rfl) (zrcs hcs) dX11_duke_60 ?_
            refine r_if_eq C 80 dX11_duke_63 (by decide) (fun c10 => ?_) (fun c10 => ?_)
            · rw [if_pos c10] at hf
              obtain ⟨x11, ex11, hf⟩ := lt_of hf
              refine r_iinc (j := 4) (v := x11) (lv' := [(0, .ref (gad (xG X) 0)), (1, .int y1), (2, .int y2), (3, .int y3), (4, .int x11)]) C dX11_duke_80 rfl (by rw [ex11]; rfl) (by decide) [1, 2, 3, 4, 0] rfl ?_
              refine r_goto C 26 dX11_duke_83 (by decide) ?_
              exact r_lv [0, 1, 2, 3, 4] rfl (ih.2 _ _ _ _ _ hf)
            · rw [if_neg c10] at hf
              refine r_aload_n (i := 0) C dX11_duke_66 rfl 0 rfl ?_
              refine r_iload_n (i := 3) C dX11_duke_67 rfl 3 rfl ?_
              refine r_iload (i := 4) C dX11_duke_68 4 rfl ?_
              refine r_iload_n (i := 1) C dX11_duke_70 rfl 1 rfl ?_
              obtain ⟨x12, e13, hf⟩ := cl_of hf
              refine r_callVi (As := [.int y3, .int y4, .int y1]) (st := []) C 0 rfl (by decide) rfl (kX11_guildRests (xG X) e13) cw_X11_324 rfl rfl (Nat.le_of_ble_eq_true rfl) (zr2 hR rfl rfl) (zrcs hcs) dX11_duke_71 ?_
              refine r_if_eq C 80 dX11_duke_74 (by decide) (fun c14 => ?_) (fun c14 => ?_)
              · rw [if_pos c14] at hf
                obtain ⟨x15, ex15, hf⟩ := lt_of hf
                refine r_iinc (j := 4) (v := x15) (lv' := [(0, .ref (gad (xG X) 0)), (1, .int y1), (2, .int y2), (3, .int y3), (4, .int x15)]) C dX11_duke_80 rfl (by rw [ex15]; rfl) (by decide) [1, 2, 3, 4, 0] rfl ?_
                refine r_goto C 26 dX11_duke_83 (by decide) ?_
                exact r_lv [0, 1, 2, 3, 4] rfl (ih.2 _ _ _ _ _ hf)
              · rw [if_neg c14] at hf
                obtain ⟨x16, ex16, hf⟩ := lt_of hf
                refine r_iinc (j := 2) (v := x16) (lv' := [(0, .ref (gad (xG X) 0)), (1, .int y1), (2, .int x16), (3, .int y3), (4, .int y4)]) C dX11_duke_77 rfl (by rw [ex16]; rfl) (by decide) [1, 2, 0, 3, 4] rfl ?_
                obtain ⟨x17, ex17, hf⟩ := lt_of hf
                refine r_iinc (j := 4) (v := x17) (lv' := [(0, .ref (gad (xG X) 0)), (1, .int y1), (2, .int x16), (3, .int y3), (4, .int x17)]) C dX11_duke_80 rfl (by rw [ex17]; rfl) (by decide) [1, 2, 3, 4, 0] rfl ?_
                refine r_goto C 26 dX11_duke_83 (by decide) ?_
                exact r_lv [0, 1, 2, 3, 4] rfl (ih.2 _ _ _ _ _ hf)
set_option maxHeartbeats 4000000 in
set_option maxRecDepth 100000 in
theorem kX11_duke (G : Gx)  {h : Hp}  {rr : Int32} {hh : Hp} (hf : fX11_duke h = some (rr, hh)) : MC G yX11_duke cX11_duke 5 (some .int) 8 512 h [.ref (gad G 0)] (some (.int rr)) hh := by
  refine MC.of RX11 (by decide) rfl (Nat.le_of_ble_eq_true rfl) rfl (fun X C hG hR hF => ?_)
  subst hG
  have hcs : True := trivial
  unfold fX11_duke at hf
  refine r_aload_n (i := 0) C dX11_duke_0 rfl 0 rfl ?_
  refine g_X11_54 C dX11_duke_1 ?_
  refine r_callNVi (As := []) (st := []) C 32 (sky_d0 sk32) (sky_l0 sk32) rfl (kX7_free (xG X) sk32) cw_X11_265 rfl rfl (Nat.le_of_ble_eq_true rfl) (zr2 hR rfl rfl) (zrcs hcs) dX11_duke_4 ?_
  obtain ⟨x18, ex18, hf⟩ := lt_of hf
  refine r_top ex18 ?_
  refine r_istore_n (i := 1) (lv' := [(0, .ref (gad (xG X) 0)), (1, .int x18)]) C dX11_duke_7 rfl (by decide) [1, 0] rfl ?_
  refine r_aload_n (i := 0) C dX11_duke_8 rfl 0 rfl ?_
  refine r_iload_n (i := 1) C dX11_duke_9 rfl 1 rfl ?_
  obtain ⟨h19, e20, hf⟩ := cl_of hf
  refine r_callVv (As := [.int x18]) (st := []) C 0 rfl (by decide) rfl (kX11_playGame (xG X) e20) cw_X11_315 rfl rfl (Nat.le_of_ble_eq_true rfl) (zr2 hR rfl rfl) (zrcs hcs) dX11_duke_10 ?_
  refine r_iconst (v := 0) C dX11_duke_13 (by decide) ?_
  refine r_istore_n (i := 2) (lv' := [(0, .ref (gad (xG X) 0)), (1, .int x18), (2, .int (0 : Int32))]) C dX11_duke_14 rfl (by decide) [1, 2, 0] rfl ?_
  refine r_iconst (v := (-1)) C dX11_duke_15 (by decide) ?_
  refine r_istore_n (i := 3) (lv' := [(0, .ref (gad (xG X) 0)), (1, .int x18), (2, .int (0 : Int32)), (3, .int (-1 : Int32))]) C dX11_duke_16 rfl (by decide) [1, 2, 3, 0] rfl ?_
  exact r_lv [0, 1, 2, 3] rfl ((wX11_duke  C hR hcs hF big).1 _ _ _ _ _ hf)
def fX11_pay (h : Hp) (a1 : Int32) : Option (Int32 × Nat × Hp) := (if (fX11_checkNumber a1 (0 : Int32) ((h 32 8) - (1 : Int32))) = 0 then cl2 (fX1_holding h 32) (fun x4 h2 => cl9 (fX7_standing h2 32 x4 (h2 32 8) (h2 32 9)) (fun x5 => cl9 (fX7_standing h2 32 x4 ((h2 32 8) - a1) (h2 32 9)) (fun x7 => some ((fJ_bitCount (x5 &&& (x7 ^^^ (-1 : Int32)))), 0, h2)))) else some ((0 : Int32), (fX11_checkNumber a1 (0 : Int32) ((h 32 8) - (1 : Int32))), h))
set_option maxHeartbeats 4000000 in
set_option maxRecDepth 100000 in
theorem kX11_pay (G : Gx)  {h : Hp} {a1 : Int32} {rr : Int32} {kk : Nat} {hh : Hp} (hf : fX11_pay h a1 = some (rr, kk, hh)) : MX G yX11_pay cX11_pay 4 (some .int) 7 448 h [.ref (gad G 0), .int a1] (some (.int rr)) kk hh := by
  refine MX.of RX11 (by decide) rfl (Nat.le_of_ble_eq_true rfl) rfl (fun X C hG hR hE => ?_)
  subst hG
  have hcs : True := trivial
  unfold fX11_pay at hf
  refine r_iload_n (i := 1) C dX11_pay_0 rfl 1 rfl ?_
  refine r_iconst (v := 0) C dX11_pay_1 (by decide) ?_
  refine r_aload_n (i := 0) C dX11_pay_2 rfl 0 rfl ?_
  refine g_X11_54 C dX11_pay_3 ?_
  refine g_X11_169 sk32 C dX11_pay_6 ?_
  refine r_iconst (v := 1) C dX11_pay_9 (by decide) ?_
  refine r_isub C dX11_pay_10 ?_
  by_cases c1 : (fX11_checkNumber a1 (0 : Int32) ((h 32 8) - (1 : Int32))) = 0
  · rw [if_pos c1] at hf
    refine r_callXSv (As := [.int a1, .int (0 : Int32), .int ((h 32 8) - (1 : Int32))]) (st := []) C (kX11_checkNumber (xG X)) cw_X11_244 rfl rfl (Nat.le_of_ble_eq_true rfl) (zq2 hR rfl rfl) (zqc hR (Or.inl c1)) dX11_pay_11 (fun q0 => absurd c1 q0) (fun _ => ?_)
    refine r_aload_n (i := 0) C dX11_pay_14 rfl 0 rfl ?_
    refine g_X11_19 C dX11_pay_15 ?_
    refine r_aload_n (i := 0) C dX11_pay_18 rfl 0 rfl ?_
    refine g_X11_54 C dX11_pay_19 ?_
    obtain ⟨x4, h2, e3, hf⟩ := cl2_of hf
    refine r_callNVi (As := [.ref (gad (xG X) 32)]) (st := []) C 3 rfl (by decide) rfl (kX1_holding (xG X) sk32 e3) cw_X11_161 rfl rfl (Nat.le_of_ble_eq_true rfl) (zq2 hR rfl rfl) (zrcs hcs) dX11_pay_22 ?_
    refine r_istore_n (i := 2) (lv' := [(0, .ref (gad (xG X) 0)), (1, .int a1), (2, .int x4)]) C dX11_pay_25 rfl (by decide) [1, 2, 0] rfl ?_
    refine r_aload_n (i := 0) C dX11_pay_26 rfl 0 rfl ?_
    refine g_X11_54 C dX11_pay_27 ?_
    refine r_iload_n (i := 2) C dX11_pay_30 rfl 2 rfl ?_
    refine r_aload_n (i := 0) C dX11_pay_31 rfl 0 rfl ?_
    refine g_X11_54 C dX11_pay_32 ?_
    refine g_X11_169 sk32 C dX11_pay_35 ?_
    refine r_aload_n (i := 0) C dX11_pay_38 rfl 0 rfl ?_
    refine g_X11_54 C dX11_pay_39 ?_
    refine g_X11_172 sk32 C dX11_pay_42 ?_
    obtain ⟨x5, e6, hf⟩ := cl_of hf
    refine r_callNVi (As := [.int x4, .int (h2 32 8), .int (h2 32 9)]) (st := []) C 32 (sky_d0 sk32) (sky_l0 sk32) rfl (kX7_standing (xG X) sk32 e6) cw_X11_328 rfl rfl (Nat.le_of_ble_eq_true rfl) (zq2 hR rfl rfl) (zrcs hcs) dX11_pay_45 ?_
    refine r_istore_n (i := 3) (lv' := [(0, .ref (gad (xG X) 0)), (1, .int a1), (2, .int x4), (3, .int x5)]) C dX11_pay_48 rfl (by decide) [1, 2, 3, 0] rfl ?_
    refine r_iload_n (i := 3) C dX11_pay_49 rfl 3 rfl ?_
    refine r_aload_n (i := 0) C dX11_pay_50 rfl 0 rfl ?_
    refine g_X11_54 C dX11_pay_51 ?_
    refine r_iload_n (i := 2) C dX11_pay_54 rfl 2 rfl ?_
    refine r_aload_n (i := 0) C dX11_pay_55 rfl 0 rfl ?_
    refine g_X11_54 C dX11_pay_56 ?_
    refine g_X11_169 sk32 C dX11_pay_59 ?_
    refine r_iload_n (i := 1) C dX11_pay_62 rfl 1 rfl ?_
    refine r_isub C dX11_pay_63 ?_
    refine r_aload_n (i := 0) C dX11_pay_64 rfl 0 rfl ?_
    refine g_X11_54 C dX11_pay_65 ?_
    refine g_X11_172 sk32 C dX11_pay_68 ?_
    obtain ⟨x7, e8, hf⟩ := cl_of hf
    refine r_callNVi (As := [.int x4, .int ((h2 32 8) - a1), .int (h2 32 9)]) (st := [.int x5]) C 32 (sky_d0 sk32) (sky_l0 sk32) rfl (kX7_standing (xG X) sk32 e8) cw_X11_328 rfl rfl (Nat.le_of_ble_eq_true rfl) (zq2 hR rfl rfl) (zrcs hcs) dX11_pay_71 ?_
    refine r_iconst (v := (-1)) C dX11_pay_74 (by decide) ?_
    refine r_ixor C dX11_pay_75 ?_
    refine r_iand C dX11_pay_76 ?_
    refine r_callSi (As := [.int (x5 &&& (x7 ^^^ (-1 : Int32)))]) (st := []) C (kJ_bitCount (xG X)) cw_X11_257 rfl rfl (Nat.le_of_ble_eq_true rfl) (zq2 hR rfl rfl) (zrcs hcs) dX11_pay_77 ?_
    cases hf
    exact r_iret C (hE.1 rfl) dX11_pay_80
  · rw [if_neg c1] at hf
    cases hf
    exact r_callXSv (As := [.int a1, .int (0 : Int32), .int ((h 32 8) - (1 : Int32))]) (st := []) C (kX11_checkNumber (xG X)) cw_X11_244 rfl rfl (Nat.le_of_ble_eq_true rfl) (zq2 hR rfl rfl) (zqc hR (Or.inr rfl)) dX11_pay_11 (fun q0 => hE.2 q0) (fun q0 => absurd q0 c1)
def BX11_season_0  (rec : Hp → Int32 → Int32 → Int32 → Int32 → Option (Int32 × Hp)) (h : Hp) (y1 : Int32) (y2 : Int32) (y3 : Int32) (y4 : Int32) : Option (Int32 × Hp) := (if (9 : Int32) < y4 then some (y2, h) else cl9 (fX7_standing h 32 y1 (h 32 8) y4) (fun x2 => lt9 (fJ_bitCount x2) (fun x4 => (if x4 ≤ y3 then lt9 (y4 + (1 : Int32)) (fun x6 => rec h y1 y2 y3 x6) else lt9 (y4 + (1 : Int32)) (fun x7 => rec h y1 y4 x4 x7)))))
def LX11_season  : Nat → Hp → Int32 → Int32 → Int32 → Int32 → Option (Int32 × Hp)
  | 0, _, _, _, _, _ => none
  | n + 1, h, y1, y2, y3, y4 => BX11_season_0  (LX11_season  n) h y1 y2 y3 y4
def fX11_season (h : Hp) : Option (Int32 × Hp) := cl2 (fX1_holding h 32) (fun x10 h8 => LX11_season big h8 x10 (0 : Int32) (-1 : Int32) (0 : Int32))
set_option maxHeartbeats 4000000 in
set_option maxRecDepth 100000 in
theorem wX11_season {X : Cx}  {rr : Int32} {hh : Hp} (C : OK X cX11_season 6 RX11 (some .int)) (hR : xR X = { frames := 7, cells := 0, slots := 0, locals := 448 }) (hcs : True) (hF : FinR X (some (.int rr)) hh) : ∀ n : Nat, (∀ (h : Hp) (y1 : Int32) (y2 : Int32) (y3 : Int32) (y4 : Int32), LX11_season  n h y1 y2 y3 y4 = some (rr, hh) → VW X 6 h 0 0 19 [(0, .ref (gad (xG X) 0)), (1, .int y1), (2, .int y2), (3, .int y3), (4, .int y4)] []) := by
  intro n
  induction n with
  | zero => exact (fun _ _ _ _ _ hf => (by rw [LX11_season] at hf; cases hf))
  | succ n ih =>
    intro h y1 y2 y3 y4 hf
    rw [LX11_season] at hf
    unfold BX11_season_0 at hf
    refine r_iload (i := 4) C dX11_season_19 4 rfl ?_
    refine r_bipush (v := 9) C dX11_season_21 (by decide) ?_
    refine r_icmp_gt C 66 dX11_season_23 (by decide) (fun c1 => ?_) (fun c1 => ?_)
    · rw [if_pos c1] at hf
      refine r_iload_n (i := 2) C dX11_season_66 rfl 2 rfl ?_
      cases hf
      exact r_iret C hF dX11_season_67
    · rw [if_neg c1] at hf
      refine r_aload_n (i := 0) C dX11_season_26 rfl 0 rfl ?_
      refine g_X11_54 C dX11_season_27 ?_
      refine r_iload_n (i := 1) C dX11_season_30 rfl 1 rfl ?_
      refine r_aload_n (i := 0) C dX11_season_31 rfl 0 rfl ?_
      refine g_X11_54 C dX11_season_32 ?_
      refine g_X11_169 sk32 C dX11_season_35 ?_
      refine r_iload (i := 4) C dX11_season_38 4 rfl ?_
      obtain ⟨x2, e3, hf⟩ := cl_of hf
      refine r_callNVi (As := [.int y1, .int (h 32 8), .int y4]) (st := []) C 32 (sky_d0 sk32) (sky_l0 sk32) rfl (kX7_standing (xG X) sk32 e3) cw_X11_328 rfl rfl (Nat.le_of_ble_eq_true rfl) (zr2 hR rfl rfl) (zrcs hcs) dX11_season_40 ?_
      refine r_callSi (As := [.int x2]) (st := []) C (kJ_bitCount (xG X)) cw_X11_257 rfl rfl (Nat.le_of_ble_eq_true rfl) (zr2 hR rfl rfl) (zrcs hcs) dX11_season_43 ?_
      obtain ⟨x4, ex4, hf⟩ := lt_of hf
      refine r_top ex4 ?_
      refine r_istore (i := 5) (lv' := [(0, .ref (gad (xG X) 0)), (1, .int y1), (2, .int y2), (3, .int y3), (4, .int y4), (5, .int x4)]) C dX11_season_46 (by decide) [1, 2, 3, 4, 5, 0] rfl ?_
      refine r_iload (i := 5) C dX11_season_48 5 rfl ?_
      refine r_iload_n (i := 3) C dX11_season_50 rfl 3 rfl ?_
      refine r_icmp_le C 60 dX11_season_51 (by decide) (fun c5 => ?_) (fun c5 => ?_)
      · rw [if_pos c5] at hf
        obtain ⟨x6, ex6, hf⟩ := lt_of hf
        refine r_iinc (j := 4) (v := x6) (lv' := [(0, .ref (gad (xG X) 0)), (1, .int y1), (2, .int y2), (3, .int y3), (4, .int x6), (5, .int x4)]) C dX11_season_60 rfl (by rw [ex6]; rfl) (by decide) [1, 2, 3, 4, 0, 5] rfl ?_
        refine r_goto C 19 dX11_season_63 (by decide) ?_
        exact r_lv [0, 1, 2, 3, 4] rfl (ih _ _ _ _ _ hf)
      · rw [if_neg c5] at hf
        refine r_iload (i := 5) C dX11_season_54 5 rfl ?_
        refine r_istore_n (i := 3) (lv' := [(0, .ref (gad (xG X) 0)), (1, .int y1), (2, .int y2), (3, .int x4), (4, .int y4), (5, .int x4)]) C dX11_season_56 rfl (by decide) [1, 2, 3, 0, 4, 5] rfl ?_
        refine r_iload (i := 4) C dX11_season_57 4 rfl ?_
        refine r_istore_n (i := 2) (lv' := [(0, .ref (gad (xG X) 0)), (1, .int y1), (2, .int y4), (3, .int x4), (4, .int y4), (5, .int x4)]) C dX11_season_59 rfl (by decide) [1, 2, 0, 3, 4, 5] rfl ?_
        obtain ⟨x7, ex7, hf⟩ := lt_of hf
        refine r_iinc (j := 4) (v := x7) (lv' := [(0, .ref (gad (xG X) 0)), (1, .int y1), (2, .int y4), (3, .int x4), (4, .int x7), (5, .int x4)]) C dX11_season_60 rfl (by rw [ex7]; rfl) (by decide) [1, 2, 3, 4, 0, 5] rfl ?_
        refine r_goto C 19 dX11_season_63 (by decide) ?_
        exact r_lv [0, 1, 2, 3, 4] rfl (ih _ _ _ _ _ hf)
set_option maxHeartbeats 4000000 in
set_option maxRecDepth 100000 in
theorem kX11_season (G : Gx)  {h : Hp}  {rr : Int32} {hh : Hp} (hf : fX11_season h = some (rr, hh)) : MC G yX11_season cX11_season 6 (some .int) 7 448 h [.ref (gad G 0)] (some (.int rr)) hh := by
  refine MC.of RX11 (by decide) rfl (Nat.le_of_ble_eq_true rfl) rfl (fun X C hG hR hF => ?_)
  subst hG
  have hcs : True := trivial
  unfold fX11_season at hf
  refine r_aload_n (i := 0) C dX11_season_0 rfl 0 rfl ?_
  refine g_X11_19 C dX11_season_1 ?_
  refine r_aload_n (i := 0) C dX11_season_4 rfl 0 rfl ?_
  refine g_X11_54 C dX11_season_5 ?_
  obtain ⟨x10, h8, e9, hf⟩ := cl2_of hf
  refine r_callNVi (As := [.ref (gad (xG X) 32)]) (st := []) C 3 rfl (by decide) rfl (kX1_holding (xG X) sk32 e9) cw_X11_161 rfl rfl (Nat.le_of_ble_eq_true rfl) (zr2 hR rfl rfl) (zrcs hcs) dX11_season_8 ?_
  refine r_istore_n (i := 1) (lv' := [(0, .ref (gad (xG X) 0)), (1, .int x10)]) C dX11_season_11 rfl (by decide) [1, 0] rfl ?_
  refine r_iconst (v := 0) C dX11_season_12 (by decide) ?_
  refine r_istore_n (i := 2) (lv' := [(0, .ref (gad (xG X) 0)), (1, .int x10), (2, .int (0 : Int32))]) C dX11_season_13 rfl (by decide) [1, 2, 0] rfl ?_
  refine r_iconst (v := (-1)) C dX11_season_14 (by decide) ?_
  refine r_istore_n (i := 3) (lv' := [(0, .ref (gad (xG X) 0)), (1, .int x10), (2, .int (0 : Int32)), (3, .int (-1 : Int32))]) C dX11_season_15 rfl (by decide) [1, 2, 3, 0] rfl ?_
  refine r_iconst (v := 0) C dX11_season_16 (by decide) ?_
  refine r_istore (i := 4) (lv' := [(0, .ref (gad (xG X) 0)), (1, .int x10), (2, .int (0 : Int32)), (3, .int (-1 : Int32)), (4, .int (0 : Int32))]) C dX11_season_17 (by decide) [1, 2, 3, 4, 0] rfl ?_
  exact r_lv [0, 1, 2, 3, 4] rfl ((wX11_season  C hR hcs hF big) _ _ _ _ _ hf)
def BX11_best_0  (rec : Hp → Int32 → Int32 → Int32 → Option (Int32 × Hp)) (h : Hp) (y1 : Int32) (y2 : Int32) (y3 : Int32) : Option (Int32 × Hp) := (if (40 : Int32) ≤ y3 then some ((40 : Int32), h) else cl9 (fX7_standing h 32 y1 y3 (h 32 9)) (fun x2 => (if (y2 &&& (x2 ^^^ (-1 : Int32))) = (0 : Int32) then some (y3, h) else lt9 (y3 + (1 : Int32)) (fun x5 => rec h y1 y2 x5))))
def LX11_best  : Nat → Hp → Int32 → Int32 → Int32 → Option (Int32 × Hp)
  | 0, _, _, _, _ => none
  | n + 1, h, y1, y2, y3 => BX11_best_0  (LX11_best  n) h y1 y2 y3
def fX11_best (h : Hp) : Option (Int32 × Hp) := cl2 (fX1_holding h 32) (fun x8 h6 => cl9 (fX7_standing h6 32 x8 (40 : Int32) (h6 32 9)) (fun x9 => LX11_best big h6 x8 x9 (1 : Int32)))
set_option maxHeartbeats 4000000 in
set_option maxRecDepth 100000 in
theorem wX11_best {X : Cx}  {rr : Int32} {hh : Hp} (C : OK X cX11_best 4 RX11 (some .int)) (hR : xR X = { frames := 7, cells := 0, slots := 0, locals := 448 }) (hcs : True) (hF : FinR X (some (.int rr)) hh) : ∀ n : Nat, (∀ (h : Hp) (y1 : Int32) (y2 : Int32) (y3 : Int32), LX11_best  n h y1 y2 y3 = some (rr, hh) → VW X 4 h 0 0 32 [(0, .ref (gad (xG X) 0)), (1, .int y1), (2, .int y2), (3, .int y3)] []) := by
  intro n
  induction n with
  | zero => exact (fun _ _ _ _ hf => (by rw [LX11_best] at hf; cases hf))
  | succ n ih =>
    intro h y1 y2 y3 hf
    rw [LX11_best] at hf
    unfold BX11_best_0 at hf
    refine r_iload_n (i := 3) C dX11_best_32 rfl 3 rfl ?_
    refine r_bipush (v := 40) C dX11_best_33 (by decide) ?_
    refine r_icmp_ge C 69 dX11_best_35 (by decide) (fun c1 => ?_) (fun c1 => ?_)
    · rw [if_pos c1] at hf
      refine r_bipush (v := 40) C dX11_best_69 (by decide) ?_
      cases hf
      exact r_iret C hF dX11_best_71
    · rw [if_neg c1] at hf
      refine r_iload_n (i := 2) C dX11_best_38 rfl 2 rfl ?_
      refine r_aload_n (i := 0) C dX11_best_39 rfl 0 rfl ?_
      refine g_X11_54 C dX11_best_40 ?_
      refine r_iload_n (i := 1) C dX11_best_43 rfl 1 rfl ?_
      refine r_iload_n (i := 3) C dX11_best_44 rfl 3 rfl ?_
      refine r_aload_n (i := 0) C dX11_best_45 rfl 0 rfl ?_
      refine g_X11_54 C dX11_best_46 ?_
      refine g_X11_172 sk32 C dX11_best_49 ?_
      obtain ⟨x2, e3, hf⟩ := cl_of hf
      refine r_callNVi (As := [.int y1, .int y3, .int (h 32 9)]) (st := [.int y2]) C 32 (sky_d0 sk32) (sky_l0 sk32) rfl (kX7_standing (xG X) sk32 e3) cw_X11_328 rfl rfl (Nat.le_of_ble_eq_true rfl) (zr2 hR rfl rfl) (zrcs hcs) dX11_best_52 ?_
      refine r_iconst (v := (-1)) C dX11_best_55 (by decide) ?_
      refine r_ixor C dX11_best_56 ?_
      refine r_iand C dX11_best_57 ?_
      refine r_if_ne C 63 dX11_best_58 (by decide) (fun c4 => ?_) (fun c4 => ?_)
      · rw [if_neg c4] at hf
        obtain ⟨x5, ex5, hf⟩ := lt_of hf
        refine r_iinc (j := 3) (v := x5) (lv' := [(0, .ref (gad (xG X) 0)), (1, .int y1), (2, .int y2), (3, .int x5)]) C dX11_best_63 rfl (by rw [ex5]; rfl) (by decide) [1, 2, 3, 0] rfl ?_
        refine r_goto C 32 dX11_best_66 (by decide) ?_
        exact r_lv [0, 1, 2, 3] rfl (ih _ _ _ _ hf)
      · rw [if_pos c4] at hf
        refine r_iload_n (i := 3) C dX11_best_61 rfl 3 rfl ?_
        cases hf
        exact r_iret C hF dX11_best_62
set_option maxHeartbeats 4000000 in
set_option maxRecDepth 100000 in
theorem kX11_best (G : Gx)  {h : Hp}  {rr : Int32} {hh : Hp} (hf : fX11_best h = some (rr, hh)) : MC G yX11_best cX11_best 4 (some .int) 7 448 h [.ref (gad G 0)] (some (.int rr)) hh := by
  refine MC.of RX11 (by decide) rfl (Nat.le_of_ble_eq_true rfl) rfl (fun X C hG hR hF => ?_)
  subst hG
  have hcs : True := trivial
  unfold fX11_best at hf
  refine r_aload_n (i := 0) C dX11_best_0 rfl 0 rfl ?_
  refine g_X11_19 C dX11_best_1 ?_
  refine r_aload_n (i := 0) C dX11_best_4 rfl 0 rfl ?_
  refine g_X11_54 C dX11_best_5 ?_
  obtain ⟨x8, h6, e7, hf⟩ := cl2_of hf
  refine r_callNVi (As := [.ref (gad (xG X) 32)]) (st := []) C 3 rfl (by decide) rfl (kX1_holding (xG X) sk32 e7) cw_X11_161 rfl rfl (Nat.le_of_ble_eq_true rfl) (zr2 hR rfl rfl) (zrcs hcs) dX11_best_8 ?_
  refine r_istore_n (i := 1) (lv' := [(0, .ref (gad (xG X) 0)), (1, .int x8)]) C dX11_best_11 rfl (by decide) [1, 0] rfl ?_
  refine r_aload_n (i := 0) C dX11_best_12 rfl 0 rfl ?_
  refine g_X11_54 C dX11_best_13 ?_
  refine r_iload_n (i := 1) C dX11_best_16 rfl 1 rfl ?_
  refine r_bipush (v := 40) C dX11_best_17 (by decide) ?_
  refine r_aload_n (i := 0) C dX11_best_19 rfl 0 rfl ?_
  refine g_X11_54 C dX11_best_20 ?_
  refine g_X11_172 sk32 C dX11_best_23 ?_
  obtain ⟨x9, e10, hf⟩ := cl_of hf
  refine r_callNVi (As := [.int x8, .int (40 : Int32), .int (h6 32 9)]) (st := []) C 32 (sky_d0 sk32) (sky_l0 sk32) rfl (kX7_standing (xG X) sk32 e10) cw_X11_328 rfl rfl (Nat.le_of_ble_eq_true rfl) (zr2 hR rfl rfl) (zrcs hcs) dX11_best_26 ?_
  refine r_istore_n (i := 2) (lv' := [(0, .ref (gad (xG X) 0)), (1, .int x8), (2, .int x9)]) C dX11_best_29 rfl (by decide) [1, 2, 0] rfl ?_
  refine r_iconst (v := 1) C dX11_best_30 (by decide) ?_
  refine r_istore_n (i := 3) (lv' := [(0, .ref (gad (xG X) 0)), (1, .int x8), (2, .int x9), (3, .int (1 : Int32))]) C dX11_best_31 rfl (by decide) [1, 2, 3, 0] rfl ?_
  exact r_lv [0, 1, 2, 3] rfl ((wX11_best  C hR hcs hF big) _ _ _ _ hf)
def BX11_lasts_0  (rec : Hp → Int32 → Int32 → Option (Int32 × Hp)) (h : Hp) (y1 : Int32) (y2 : Int32) : Option (Int32 × Hp) := (if (60 : Int32) < y2 then some ((-1 : Int32), h) else cl2 (fX1_dayMore h 43 (0 : Int32)) (fun x4 h2 => cl2 (fX1_standing h2 43) (fun x7 h5 => (if (y1 &&& (x7 ^^^ (-1 : Int32))) = (0 : Int32) then lt9 (y2 + (1 : Int32)) (fun x9 => rec h5 y1 x9) else some (y2, h5)))))
def LX11_lasts  : Nat → Hp → Int32 → Int32 → Option (Int32 × Hp)
  | 0, _, _, _ => none
  | n + 1, h, y1, y2 => BX11_lasts_0  (LX11_lasts  n) h y1 y2
def fX11_lasts (h : Hp) : Option (Int32 × Hp) := cl2 (fX1_standing h 32) (fun x12 h10 => cl9 (fX7_become h10 43 32) (fun h13 => LX11_lasts big h13 x12 (1 : Int32)))
set_option maxHeartbeats 4000000 in
set_option maxRecDepth 100000 in
theorem wX11_lasts {X : Cx}  {rr : Int32} {hh : Hp} (C : OK X cX11_lasts 3 RX11 (some .int)) (hR : xR X = { frames := 8, cells := 0, slots := 0, locals := 512 }) (hcs : True) (hF : FinR X (some (.int rr)) hh) : ∀ n : Nat, (∀ (h : Hp) (y1 : Int32) (y2 : Int32), LX11_lasts  n h y1 y2 = some (rr, hh) → VW X 3 h 0 0 25 [(0, .ref (gad (xG X) 0)), (1, .int y1), (2, .int y2)] []) := by
  intro n
  induction n with
  | zero => exact (fun _ _ _ hf => (by rw [LX11_lasts] at hf; cases hf))
  | succ n ih =>
    intro h y1 y2 hf
    rw [LX11_lasts] at hf
    unfold BX11_lasts_0 at hf
    refine r_iload_n (i := 2) C dX11_lasts_25 rfl 2 rfl ?_
    refine r_bipush (v := 60) C dX11_lasts_26 (by decide) ?_
    refine r_icmp_gt C 70 dX11_lasts_28 (by decide) (fun c1 => ?_) (fun c1 => ?_)
    · rw [if_pos c1] at hf
      refine r_iconst (v := (-1)) C dX11_lasts_70 (by decide) ?_
      cases hf
      exact r_iret C hF dX11_lasts_71
    · rw [if_neg c1] at hf
      refine r_aload_n (i := 0) C dX11_lasts_31 rfl 0 rfl ?_
      refine g_X11_19 C dX11_lasts_32 ?_
      refine r_aload_n (i := 0) C dX11_lasts_35 rfl 0 rfl ?_
      refine g_X11_58 C dX11_lasts_36 ?_
      refine r_iconst (v := 0) C dX11_lasts_39 (by decide) ?_
      obtain ⟨x4, h2, e3, hf⟩ := cl2_of hf
      refine r_callNVi (As := [.ref (gad (xG X) 43), .int (0 : Int32)]) (st := []) C 3 rfl (by decide) rfl (kX1_dayMore (xG X) sk43 e3) cw_X11_253 rfl rfl (Nat.le_of_ble_eq_true rfl) (zr2 hR rfl rfl) (zrcs hcs) dX11_lasts_40 ?_
      refine r_pop C dX11_lasts_43 rfl ?_
      refine r_iload_n (i := 1) C dX11_lasts_44 rfl 1 rfl ?_
      refine r_aload_n (i := 0) C dX11_lasts_45 rfl 0 rfl ?_
      refine g_X11_19 C dX11_lasts_46 ?_
      refine r_aload_n (i := 0) C dX11_lasts_49 rfl 0 rfl ?_
      refine g_X11_58 C dX11_lasts_50 ?_
      obtain ⟨x7, h5, e6, hf⟩ := cl2_of hf
      refine r_callNVi (As := [.ref (gad (xG X) 43)]) (st := [.int y1]) C 3 rfl (by decide) rfl (kX1_standing (xG X) sk43 e6) cw_X11_179 rfl rfl (Nat.le_of_ble_eq_true rfl) (zr2 hR rfl rfl) (zrcs hcs) dX11_lasts_53 ?_
      refine r_iconst (v := (-1)) C dX11_lasts_56 (by decide) ?_
      refine r_ixor C dX11_lasts_57 ?_
      refine r_iand C dX11_lasts_58 ?_
      refine r_if_eq C 64 dX11_lasts_59 (by decide) (fun c8 => ?_) (fun c8 => ?_)
      · rw [if_pos c8] at hf
        obtain ⟨x9, ex9, hf⟩ := lt_of hf
        refine r_iinc (j := 2) (v := x9) (lv' := [(0, .ref (gad (xG X) 0)), (1, .int y1), (2, .int x9)]) C dX11_lasts_64 rfl (by rw [ex9]; rfl) (by decide) [1, 2, 0] rfl ?_
        refine r_goto C 25 dX11_lasts_67 (by decide) ?_
        exact r_lv [0, 1, 2] rfl (ih _ _ _ hf)
      · rw [if_neg c8] at hf
        refine r_iload_n (i := 2) C dX11_lasts_62 rfl 2 rfl ?_
        cases hf
        exact r_iret C hF dX11_lasts_63
set_option maxHeartbeats 4000000 in
set_option maxRecDepth 100000 in
theorem kX11_lasts (G : Gx)  {h : Hp}  {rr : Int32} {hh : Hp} (hf : fX11_lasts h = some (rr, hh)) : MC G yX11_lasts cX11_lasts 3 (some .int) 8 512 h [.ref (gad G 0)] (some (.int rr)) hh := by
  refine MC.of RX11 (by decide) rfl (Nat.le_of_ble_eq_true rfl) rfl (fun X C hG hR hF => ?_)
  subst hG
  have hcs : True := trivial
  unfold fX11_lasts at hf
  refine r_aload_n (i := 0) C dX11_lasts_0 rfl 0 rfl ?_
  refine g_X11_19 C dX11_lasts_1 ?_
  refine r_aload_n (i := 0) C dX11_lasts_4 rfl 0 rfl ?_
  refine g_X11_54 C dX11_lasts_5 ?_
  obtain ⟨x12, h10, e11, hf⟩ := cl2_of hf
  refine r_callNVi (As := [.ref (gad (xG X) 32)]) (st := []) C 3 rfl (by decide) rfl (kX1_standing (xG X) sk32 e11) cw_X11_179 rfl rfl (Nat.le_of_ble_eq_true rfl) (zr2 hR rfl rfl) (zrcs hcs) dX11_lasts_8 ?_
  refine r_istore_n (i := 1) (lv' := [(0, .ref (gad (xG X) 0)), (1, .int x12)]) C dX11_lasts_11 rfl (by decide) [1, 0] rfl ?_
  refine r_aload_n (i := 0) C dX11_lasts_12 rfl 0 rfl ?_
  refine g_X11_58 C dX11_lasts_13 ?_
  refine r_aload_n (i := 0) C dX11_lasts_16 rfl 0 rfl ?_
  refine g_X11_54 C dX11_lasts_17 ?_
  obtain ⟨h13, e14, hf⟩ := cl_of hf
  refine r_callNVv (As := [.ref (gad (xG X) 32)]) (st := []) C 43 (sky_d0 sk43) (sky_l0 sk43) rfl (kX7_become (xG X) sk43 sk32 e14) cw_X11_101 rfl rfl (Nat.le_of_ble_eq_true rfl) (zr2 hR rfl rfl) (zrcs hcs) dX11_lasts_20 ?_
  refine r_iconst (v := 1) C dX11_lasts_23 (by decide) ?_
  refine r_istore_n (i := 2) (lv' := [(0, .ref (gad (xG X) 0)), (1, .int x12), (2, .int (1 : Int32))]) C dX11_lasts_24 rfl (by decide) [1, 2, 0] rfl ?_
  exact r_lv [0, 1, 2] rfl ((wX11_lasts  C hR hcs hF big) _ _ _ hf)
def fX11_stars (h : Hp) (a1 : Int32) (a2 : Int32) : Option (Int32 × Nat × Hp) := (if (fX11_checkPlace a1) = 0 then (if (fX11_checkPlace a2) = 0 then (if a1 ≤ a2 then lt9 (((2 : Int32) <<< (a2 &&& 31)) - (1 : Int32)) (fun x4 => lt9 (((1 : Int32) <<< (a1 &&& 31)) - (1 : Int32)) (fun x5 => cl2 (fX1_holding h 32) (fun x8 h6 => some ((fJ_bitCount ((x8 &&& x4) &&& (x5 ^^^ (-1 : Int32)))), 0, h6)))) else some ((0 : Int32), 3, h)) else some ((0 : Int32), (fX11_checkPlace a2), h)) else some ((0 : Int32), (fX11_checkPlace a1), h))
set_option maxHeartbeats 4000000 in
set_option maxRecDepth 100000 in
theorem kX11_stars (G : Gx)  {h : Hp} {a1 : Int32} {a2 : Int32} {rr : Int32} {kk : Nat} {hh : Hp} (hf : fX11_stars h a1 a2 = some (rr, kk, hh)) : MX G yX11_stars cX11_stars 5 (some .int) 7 448 h [.ref (gad G 0), .int a1, .int a2] (some (.int rr)) kk hh := by
  refine MX.of RX11 (by decide) rfl (Nat.le_of_ble_eq_true rfl) rfl (fun X C hG hR hE => ?_)
  subst hG
  have hcs : True := trivial
  unfold fX11_stars at hf
  refine r_iload_n (i := 1) C dX11_stars_0 rfl 1 rfl ?_
  by_cases c1 : (fX11_checkPlace a1) = 0
  · rw [if_pos c1] at hf
    refine r_callXSv (As := [.int a1]) (st := []) C (kX11_checkPlace (xG X)) cw_X11_136 rfl rfl (Nat.le_of_ble_eq_true rfl) (zq2 hR rfl rfl) (zqc hR (Or.inl c1)) dX11_stars_1 (fun q0 => absurd c1 q0) (fun _ => ?_)
    refine r_iload_n (i := 2) C dX11_stars_4 rfl 2 rfl ?_
    by_cases c2 : (fX11_checkPlace a2) = 0
    · rw [if_pos c2] at hf
      refine r_callXSv (As := [.int a2]) (st := []) C (kX11_checkPlace (xG X)) cw_X11_136 rfl rfl (Nat.le_of_ble_eq_true rfl) (zq2 hR rfl rfl) (zqc hR (Or.inl c2)) dX11_stars_5 (fun q0 => absurd c2 q0) (fun _ => ?_)
      refine r_iload_n (i := 1) C dX11_stars_8 rfl 1 rfl ?_
      refine r_iload_n (i := 2) C dX11_stars_9 rfl 2 rfl ?_
      refine r_icmp_le C 21 dX11_stars_10 (by decide) (fun c3 => ?_) (fun c3 => ?_)
      · rw [if_pos c3] at hf
        refine r_iconst (v := 2) C dX11_stars_21 (by decide) ?_
        refine r_iload_n (i := 2) C dX11_stars_22 rfl 2 rfl ?_
        refine r_ishl C dX11_stars_23 ?_
        refine r_iconst (v := 1) C dX11_stars_24 (by decide) ?_
        refine r_isub C dX11_stars_25 ?_
        obtain ⟨x4, ex4, hf⟩ := lt_of hf
        refine r_top ex4 ?_
        refine r_istore_n (i := 3) (lv' := [(0, .ref (gad (xG X) 0)), (1, .int a1), (2, .int a2), (3, .int x4)]) C dX11_stars_26 rfl (by decide) [1, 2, 3, 0] rfl ?_
        refine r_iconst (v := 1) C dX11_stars_27 (by decide) ?_
        refine r_iload_n (i := 1) C dX11_stars_28 rfl 1 rfl ?_
        refine r_ishl C dX11_stars_29 ?_
        refine r_iconst (v := 1) C dX11_stars_30 (by decide) ?_
        refine r_isub C dX11_stars_31 ?_
        obtain ⟨x5, ex5, hf⟩ := lt_of hf
        refine r_top ex5 ?_
        refine r_istore (i := 4) (lv' := [(0, .ref (gad (xG X) 0)), (1, .int a1), (2, .int a2), (3, .int x4), (4, .int x5)]) C dX11_stars_32 (by decide) [1, 2, 3, 4, 0] rfl ?_
        refine r_aload_n (i := 0) C dX11_stars_34 rfl 0 rfl ?_
        refine g_X11_19 C dX11_stars_35 ?_
        refine r_aload_n (i := 0) C dX11_stars_38 rfl 0 rfl ?_
        refine g_X11_54 C dX11_stars_39 ?_
        obtain ⟨x8, h6, e7, hf⟩ := cl2_of hf
        refine r_callNVi (As := [.ref (gad (xG X) 32)]) (st := []) C 3 rfl (by decide) rfl (kX1_holding (xG X) sk32 e7) cw_X11_161 rfl rfl (Nat.le_of_ble_eq_true rfl) (zq2 hR rfl rfl) (zrcs hcs) dX11_stars_42 ?_
        refine r_iload_n (i := 3) C dX11_stars_45 rfl 3 rfl ?_
        refine r_iand C dX11_stars_46 ?_
        refine r_iload (i := 4) C dX11_stars_47 4 rfl ?_
        refine r_iconst (v := (-1)) C dX11_stars_49 (by decide) ?_
        refine r_ixor C dX11_stars_50 ?_
        refine r_iand C dX11_stars_51 ?_
        refine r_callSi (As := [.int ((x8 &&& x4) &&& (x5 ^^^ (-1 : Int32)))]) (st := []) C (kJ_bitCount (xG X)) cw_X11_257 rfl rfl (Nat.le_of_ble_eq_true rfl) (zq2 hR rfl rfl) (zrcs hcs) dX11_stars_52 ?_
        cases hf
        exact r_iret C (hE.1 rfl) dX11_stars_55
      · rw [if_neg c3] at hf
        cases hf
        exact r_throw C (by decide) (hE.2 (by decide)) (zqt (by decide) hR rfl rfl) tw_3 (Nat.le_of_ble_eq_true rfl) dX11_stars_13 dX11_stars_16 dX11_stars_17 dX11_stars_20
    · rw [if_neg c2] at hf
      cases hf
      exact r_callXSv (As := [.int a2]) (st := []) C (kX11_checkPlace (xG X)) cw_X11_136 rfl rfl (Nat.le_of_ble_eq_true rfl) (zq2 hR rfl rfl) (zqc hR (Or.inr rfl)) dX11_stars_5 (fun q0 => hE.2 q0) (fun q0 => absurd q0 c2)
  · rw [if_neg c1] at hf
    cases hf
    exact r_callXSv (As := [.int a1]) (st := []) C (kX11_checkPlace (xG X)) cw_X11_136 rfl rfl (Nat.le_of_ble_eq_true rfl) (zq2 hR rfl rfl) (zqc hR (Or.inr rfl)) dX11_stars_1 (fun q0 => hE.2 q0) (fun q0 => absurd q0 c1)
def BX11_longest_0  (rec : Hp → Int32 → Int32 → Int32 → Int32 → Option (Int32 × Hp)) (h : Hp) (y1 : Int32) (y2 : Int32) (y3 : Int32) (y4 : Int32) : Option (Int32 × Hp) := (if (16 : Int32) ≤ y4 then some (y2, h) else cl9 ((if (fX11_has y1 y4) = (0 : Int32) then some (y3 + (1 : Int32)) else some (0 : Int32)) : Option (Int32)) (fun v2 => lt9 (jmax y2 v2) (fun x6 => lt9 (y4 + (1 : Int32)) (fun x7 => rec h y1 x6 v2 x7))))
def LX11_longest  : Nat → Hp → Int32 → Int32 → Int32 → Int32 → Option (Int32 × Hp)
  | 0, _, _, _, _, _ => none
  | n + 1, h, y1, y2, y3, y4 => BX11_longest_0  (LX11_longest  n) h y1 y2 y3 y4
def fX11_longest (h : Hp) : Option (Int32 × Hp) := cl2 (fX1_holding h 32) (fun x10 h8 => LX11_longest big h8 x10 (0 : Int32) (0 : Int32) (0 : Int32))
set_option maxHeartbeats 4000000 in
set_option maxRecDepth 100000 in
theorem wX11_longest {X : Cx}  {rr : Int32} {hh : Hp} (C : OK X cX11_longest 5 RX11 (some .int)) (hR : xR X = { frames := 8, cells := 0, slots := 0, locals := 512 }) (hcs : True) (hF : FinR X (some (.int rr)) hh) : ∀ n : Nat, (∀ (h : Hp) (y1 : Int32) (y2 : Int32) (y3 : Int32) (y4 : Int32), LX11_longest  n h y1 y2 y3 y4 = some (rr, hh) → VW X 5 h 0 0 19 [(0, .ref (gad (xG X) 0)), (1, .int y1), (2, .int y2), (3, .int y3), (4, .int y4)] []) := by
  intro n
  induction n with
  | zero => exact (fun _ _ _ _ _ hf => (by rw [LX11_longest] at hf; cases hf))
  | succ n ih =>
    intro h y1 y2 y3 y4 hf
    rw [LX11_longest] at hf
    unfold BX11_longest_0 at hf
    refine r_iload (i := 4) C dX11_longest_19 4 rfl ?_
    refine r_bipush (v := 16) C dX11_longest_21 (by decide) ?_
    refine r_icmp_ge C 55 dX11_longest_23 (by decide) (fun c1 => ?_) (fun c1 => ?_)
    · rw [if_pos c1] at hf
      refine r_iload_n (i := 2) C dX11_longest_55 rfl 2 rfl ?_
      cases hf
      exact r_iret C hF dX11_longest_56
    · rw [if_neg c1] at hf
      refine r_iload_n (i := 1) C dX11_longest_26 rfl 1 rfl ?_
      refine r_iload (i := 4) C dX11_longest_27 4 rfl ?_
      refine r_callSi (As := [.int y1, .int y4]) (st := []) C (kX11_has (xG X)) cw_X11_165 rfl rfl (Nat.le_of_ble_eq_true rfl) (zr2 hR rfl rfl) (zrcs hcs) dX11_longest_29 ?_
      obtain ⟨v2, r4, hf⟩ := cl_of hf
      have k3 : VW X 5 h 0 0 42 [(0, .ref (gad (xG X) 0)), (1, .int y1), (2, .int y2), (4, .int y4)] [.int v2] := by
        refine r_istore_n (i := 3) (lv' := [(0, .ref (gad (xG X) 0)), (1, .int y1), (2, .int y2), (3, .int v2), (4, .int y4)]) C dX11_longest_42 rfl (by decide) [1, 2, 3, 0, 4] rfl ?_
        refine r_iload_n (i := 2) C dX11_longest_43 rfl 2 rfl ?_
        refine r_iload_n (i := 3) C dX11_longest_44 rfl 3 rfl ?_
        refine r_mmax9 C gw_791 gm_max_s gm_i gm_max_c (zr1 hR rfl) (zr0 hR (Nat.le_of_ble_eq_true rfl)) (zrcs hcs) dX11_longest_45 ?_
        obtain ⟨x6, ex6, hf⟩ := lt_of hf
        refine r_top ex6 ?_
        refine r_istore_n (i := 2) (lv' := [(0, .ref (gad (xG X) 0)), (1, .int y1), (2, .int x6), (3, .int v2), (4, .int y4)]) C dX11_longest_48 rfl (by decide) [1, 2, 0, 3, 4] rfl ?_
        obtain ⟨x7, ex7, hf⟩ := lt_of hf
        refine r_iinc (j := 4) (v := x7) (lv' := [(0, .ref (gad (xG X) 0)), (1, .int y1), (2, .int x6), (3, .int v2), (4, .int x7)]) C dX11_longest_49 rfl (by rw [ex7]; rfl) (by decide) [1, 2, 3, 4, 0] rfl ?_
        refine r_goto C 19 dX11_longest_52 (by decide) ?_
        exact r_lv [0, 1, 2, 3, 4] rfl (ih _ _ _ _ _ hf)
      clear hf
      have hf := r4
      refine r_if_eq C 39 dX11_longest_32 (by decide) (fun c5 => ?_) (fun c5 => ?_)
      · rw [if_pos c5] at hf
        refine r_iload_n (i := 3) C dX11_longest_39 rfl 3 rfl ?_
        refine r_iconst (v := 1) C dX11_longest_40 (by decide) ?_
        refine r_iadd C dX11_longest_41 ?_
        cases hf
        exact r_lv [0, 1, 2, 4] rfl k3
      · rw [if_neg c5] at hf
        refine r_iconst (v := 0) C dX11_longest_35 (by decide) ?_
        refine r_goto C 42 dX11_longest_36 (by decide) ?_
        cases hf
        exact r_lv [0, 1, 2, 4] rfl k3
set_option maxHeartbeats 4000000 in
set_option maxRecDepth 100000 in
theorem kX11_longest (G : Gx)  {h : Hp}  {rr : Int32} {hh : Hp} (hf : fX11_longest h = some (rr, hh)) : MC G yX11_longest cX11_longest 5 (some .int) 8 512 h [.ref (gad G 0)] (some (.int rr)) hh := by
  refine MC.of RX11 (by decide) rfl (Nat.le_of_ble_eq_true rfl) rfl (fun X C hG hR hF => ?_)
  subst hG
  have hcs : True := trivial
  unfold fX11_longest at hf
  refine r_aload_n (i := 0) C dX11_longest_0 rfl 0 rfl ?_
  refine g_X11_19 C dX11_longest_1 ?_
  refine r_aload_n (i := 0) C dX11_longest_4 rfl 0 rfl ?_
  refine g_X11_54 C dX11_longest_5 ?_
  obtain ⟨x10, h8, e9, hf⟩ := cl2_of hf
  refine r_callNVi (As := [.ref (gad (xG X) 32)]) (st := []) C 3 rfl (by decide) rfl (kX1_holding (xG X) sk32 e9) cw_X11_161 rfl rfl (Nat.le_of_ble_eq_true rfl) (zr2 hR rfl rfl) (zrcs hcs) dX11_longest_8 ?_
  refine r_istore_n (i := 1) (lv' := [(0, .ref (gad (xG X) 0)), (1, .int x10)]) C dX11_longest_11 rfl (by decide) [1, 0] rfl ?_
  refine r_iconst (v := 0) C dX11_longest_12 (by decide) ?_
  refine r_istore_n (i := 2) (lv' := [(0, .ref (gad (xG X) 0)), (1, .int x10), (2, .int (0 : Int32))]) C dX11_longest_13 rfl (by decide) [1, 2, 0] rfl ?_
  refine r_iconst (v := 0) C dX11_longest_14 (by decide) ?_
  refine r_istore_n (i := 3) (lv' := [(0, .ref (gad (xG X) 0)), (1, .int x10), (2, .int (0 : Int32)), (3, .int (0 : Int32))]) C dX11_longest_15 rfl (by decide) [1, 2, 3, 0] rfl ?_
  refine r_iconst (v := 0) C dX11_longest_16 (by decide) ?_
  refine r_istore (i := 4) (lv' := [(0, .ref (gad (xG X) 0)), (1, .int x10), (2, .int (0 : Int32)), (3, .int (0 : Int32)), (4, .int (0 : Int32))]) C dX11_longest_17 (by decide) [1, 2, 3, 4, 0] rfl ?_
  exact r_lv [0, 1, 2, 3, 4] rfl ((wX11_longest  C hR hcs hF big) _ _ _ _ _ hf)
def fX11_ahead (h : Hp) (a1 : Int32) (a2 : Int32) (a3 : Int32) : Option (Int32 × Nat × Hp) := (if (fX11_checkPlace a1) = 0 then (if (fX11_checkNumber a2 (0 : Int32) (60 : Int32)) = 0 then cl9 (fX7_become h 43 32) (fun h3 => cl2 (fX1_daysMore h3 43 a2 (0 : Int32)) (fun x7 h5 => (if a3 = (0 : Int32) then cl2 (fX1_holding h5 43) (fun x11 h9 => cl9 (fX7_skyAt h9 43 a1 x11 (h9 43 8) (h9 43 9)) (fun x12 => some (x12, 0, h9))) else gd (inb a1 16) (some ((h5 (43 + 4) a1.toNatClampNeg), 0, h5))))) else some ((0 : Int32), (fX11_checkNumber a2 (0 : Int32) (60 : Int32)), h)) else some ((0 : Int32), (fX11_checkPlace a1), h))
set_option maxHeartbeats 4000000 in
set_option maxRecDepth 100000 in
theorem kX11_ahead (G : Gx)  {h : Hp} {a1 : Int32} {a2 : Int32} {a3 : Int32} {rr : Int32} {kk : Nat} {hh : Hp} (hf : fX11_ahead h a1 a2 a3 = some (rr, kk, hh)) : MX G yX11_ahead cX11_ahead 4 (some .int) 8 512 h [.ref (gad G 0), .int a1, .int a2, .int a3] (some (.int rr)) kk hh := by
  refine MX.of RX11 (by decide) rfl (Nat.le_of_ble_eq_true rfl) rfl (fun X C hG hR hE => ?_)
  subst hG
  have hcs : True := trivial
  unfold fX11_ahead at hf
  refine r_iload_n (i := 1) C dX11_ahead_0 rfl 1 rfl ?_
  by_cases c1 : (fX11_checkPlace a1) = 0
  · rw [if_pos c1] at hf
    refine r_callXSv (As := [.int a1]) (st := []) C (kX11_checkPlace (xG X)) cw_X11_136 rfl rfl (Nat.le_of_ble_eq_true rfl) (zq2 hR rfl rfl) (zqc hR (Or.inl c1)) dX11_ahead_1 (fun q0 => absurd c1 q0) (fun _ => ?_)
    refine r_iload_n (i := 2) C dX11_ahead_4 rfl 2 rfl ?_
    refine r_iconst (v := 0) C dX11_ahead_5 (by decide) ?_
    refine r_bipush (v := 60) C dX11_ahead_6 (by decide) ?_
    by_cases c2 : (fX11_checkNumber a2 (0 : Int32) (60 : Int32)) = 0
    · rw [if_pos c2] at hf
      refine r_callXSv (As := [.int a2, .int (0 : Int32), .int (60 : Int32)]) (st := []) C (kX11_checkNumber (xG X)) cw_X11_244 rfl rfl (Nat.le_of_ble_eq_true rfl) (zq2 hR rfl rfl) (zqc hR (Or.inl c2)) dX11_ahead_8 (fun q0 => absurd c2 q0) (fun _ => ?_)
      refine r_aload_n (i := 0) C dX11_ahead_11 rfl 0 rfl ?_
      refine g_X11_58 C dX11_ahead_12 ?_
      refine r_aload_n (i := 0) C dX11_ahead_15 rfl 0 rfl ?_
      refine g_X11_54 C dX11_ahead_16 ?_
      obtain ⟨h3, e4, hf⟩ := cl_of hf
      refine r_callNVv (As := [.ref (gad (xG X) 32)]) (st := []) C 43 (sky_d0 sk43) (sky_l0 sk43) rfl (kX7_become (xG X) sk43 sk32 e4) cw_X11_101 rfl rfl (Nat.le_of_ble_eq_true rfl) (zq2 hR rfl rfl) (zrcs hcs) dX11_ahead_19 ?_
      refine r_aload_n (i := 0) C dX11_ahead_22 rfl 0 rfl ?_
      refine g_X11_19 C dX11_ahead_23 ?_
      refine r_aload_n (i := 0) C dX11_ahead_26 rfl 0 rfl ?_
      refine g_X11_58 C dX11_ahead_27 ?_
      refine r_iload_n (i := 2) C dX11_ahead_30 rfl 2 rfl ?_
      refine r_iconst (v := 0) C dX11_ahead_31 (by decide) ?_
      obtain ⟨x7, h5, e6, hf⟩ := cl2_of hf
      refine r_callNVi (As := [.ref (gad (xG X) 43), .int a2, .int (0 : Int32)]) (st := []) C 3 rfl (by decide) rfl (kX1_daysMore (xG X) sk43 e6) cw_X11_248 rfl rfl (Nat.le_of_ble_eq_true rfl) (zq2 hR rfl rfl) (zrcs hcs) dX11_ahead_32 ?_
      refine r_pop C dX11_ahead_35 rfl ?_
      refine r_iload_n (i := 3) C dX11_ahead_36 rfl 3 rfl ?_
      refine r_if_eq C 50 dX11_ahead_37 (by decide) (fun c8 => ?_) (fun c8 => ?_)
      · rw [if_pos c8] at hf
        refine r_aload_n (i := 0) C dX11_ahead_50 rfl 0 rfl ?_
        refine g_X11_58 C dX11_ahead_51 ?_
        refine r_iload_n (i := 1) C dX11_ahead_54 rfl 1 rfl ?_
        refine r_aload_n (i := 0) C dX11_ahead_55 rfl 0 rfl ?_
        refine g_X11_19 C dX11_ahead_56 ?_
        refine r_aload_n (i := 0) C dX11_ahead_59 rfl 0 rfl ?_
        refine g_X11_58 C dX11_ahead_60 ?_
        obtain ⟨x11, h9, e10, hf⟩ := cl2_of hf
        refine r_callNVi (As := [.ref (gad (xG X) 43)]) (st := [.int a1, .ref (gad (xG X) 43)]) C 3 rfl (by decide) rfl (kX1_holding (xG X) sk43 e10) cw_X11_161 rfl rfl (Nat.le_of_ble_eq_true rfl) (zq2 hR rfl rfl) (zrcs hcs) dX11_ahead_63 ?_
        refine r_aload_n (i := 0) C dX11_ahead_66 rfl 0 rfl ?_
        refine g_X11_58 C dX11_ahead_67 ?_
        refine g_X11_169 sk43 C dX11_ahead_70 ?_
        refine r_aload_n (i := 0) C dX11_ahead_73 rfl 0 rfl ?_
        refine g_X11_58 C dX11_ahead_74 ?_
        refine g_X11_172 sk43 C dX11_ahead_77 ?_
        obtain ⟨x12, e13, hf⟩ := cl_of hf
        refine r_callNVi (As := [.int a1, .int x11, .int (h9 43 8), .int (h9 43 9)]) (st := []) C 43 (sky_d0 sk43) (sky_l0 sk43) rfl (kX7_skyAt (xG X) sk43 e13) cw_X11_175 rfl rfl (Nat.le_of_ble_eq_true rfl) (zq2 hR rfl rfl) (zrcs hcs) dX11_ahead_80 ?_
        cases hf
        exact r_iret C (hE.1 rfl) dX11_ahead_83
      · rw [if_neg c8] at hf
        refine r_aload_n (i := 0) C dX11_ahead_40 rfl 0 rfl ?_
        refine g_X11_58 C dX11_ahead_41 ?_
        refine g_X11_154 sk43 C dX11_ahead_44 ?_
        refine r_iload_n (i := 1) C dX11_ahead_47 rfl 1 rfl ?_
        obtain ⟨g14, hf⟩ := gd_of hf
        refine r_iald C (43 + 4) (sky_dsc sk43 4 (by decide)) (sky_lt sk43 4 (by decide)) g14 dX11_ahead_48 ?_
        cases hf
        exact r_iret C (hE.1 rfl) dX11_ahead_49
    · rw [if_neg c2] at hf
      cases hf
      exact r_callXSv (As := [.int a2, .int (0 : Int32), .int (60 : Int32)]) (st := []) C (kX11_checkNumber (xG X)) cw_X11_244 rfl rfl (Nat.le_of_ble_eq_true rfl) (zq2 hR rfl rfl) (zqc hR (Or.inr rfl)) dX11_ahead_8 (fun q0 => hE.2 q0) (fun q0 => absurd q0 c2)
  · rw [if_neg c1] at hf
    cases hf
    exact r_callXSv (As := [.int a1]) (st := []) C (kX11_checkPlace (xG X)) cw_X11_136 rfl rfl (Nat.le_of_ble_eq_true rfl) (zq2 hR rfl rfl) (zqc hR (Or.inr rfl)) dX11_ahead_1 (fun q0 => hE.2 q0) (fun q0 => absurd q0 c1)
def fX11_needs (h : Hp) (a1 : Int32) : Option (Int32 × Nat × Hp) := (if (fX11_checkNumber a1 (0 : Int32) (60 : Int32)) = 0 then cl9 (fX7_become h 43 32) (fun h2 => cl2 (fX1_daysMore h2 43 a1 (0 : Int32)) (fun x6 h4 => some (x6, 0, h4))) else some ((0 : Int32), (fX11_checkNumber a1 (0 : Int32) (60 : Int32)), h))
set_option maxHeartbeats 4000000 in
set_option maxRecDepth 100000 in
theorem kX11_needs (G : Gx)  {h : Hp} {a1 : Int32} {rr : Int32} {kk : Nat} {hh : Hp} (hf : fX11_needs h a1 = some (rr, kk, hh)) : MX G yX11_needs cX11_needs 2 (some .int) 8 512 h [.ref (gad G 0), .int a1] (some (.int rr)) kk hh := by
  refine MX.of RX11 (by decide) rfl (Nat.le_of_ble_eq_true rfl) rfl (fun X C hG hR hE => ?_)
  subst hG
  have hcs : True := trivial
  unfold fX11_needs at hf
  refine r_iload_n (i := 1) C dX11_needs_0 rfl 1 rfl ?_
  refine r_iconst (v := 0) C dX11_needs_1 (by decide) ?_
  refine r_bipush (v := 60) C dX11_needs_2 (by decide) ?_
  by_cases c1 : (fX11_checkNumber a1 (0 : Int32) (60 : Int32)) = 0
  · rw [if_pos c1] at hf
    refine r_callXSv (As := [.int a1, .int (0 : Int32), .int (60 : Int32)]) (st := []) C (kX11_checkNumber (xG X)) cw_X11_244 rfl rfl (Nat.le_of_ble_eq_true rfl) (zq2 hR rfl rfl) (zqc hR (Or.inl c1)) dX11_needs_4 (fun q0 => absurd c1 q0) (fun _ => ?_)
    refine r_aload_n (i := 0) C dX11_needs_7 rfl 0 rfl ?_
    refine g_X11_58 C dX11_needs_8 ?_
    refine r_aload_n (i := 0) C dX11_needs_11 rfl 0 rfl ?_
    refine g_X11_54 C dX11_needs_12 ?_
    obtain ⟨h2, e3, hf⟩ := cl_of hf
    refine r_callNVv (As := [.ref (gad (xG X) 32)]) (st := []) C 43 (sky_d0 sk43) (sky_l0 sk43) rfl (kX7_become (xG X) sk43 sk32 e3) cw_X11_101 rfl rfl (Nat.le_of_ble_eq_true rfl) (zq2 hR rfl rfl) (zrcs hcs) dX11_needs_15 ?_
    refine r_aload_n (i := 0) C dX11_needs_18 rfl 0 rfl ?_
    refine g_X11_19 C dX11_needs_19 ?_
    refine r_aload_n (i := 0) C dX11_needs_22 rfl 0 rfl ?_
    refine g_X11_58 C dX11_needs_23 ?_
    refine r_iload_n (i := 1) C dX11_needs_26 rfl 1 rfl ?_
    refine r_iconst (v := 0) C dX11_needs_27 (by decide) ?_
    obtain ⟨x6, h4, e5, hf⟩ := cl2_of hf
    refine r_callNVi (As := [.ref (gad (xG X) 43), .int a1, .int (0 : Int32)]) (st := []) C 3 rfl (by decide) rfl (kX1_daysMore (xG X) sk43 e5) cw_X11_248 rfl rfl (Nat.le_of_ble_eq_true rfl) (zq2 hR rfl rfl) (zrcs hcs) dX11_needs_28 ?_
    cases hf
    exact r_iret C (hE.1 rfl) dX11_needs_31
  · rw [if_neg c1] at hf
    cases hf
    exact r_callXSv (As := [.int a1, .int (0 : Int32), .int (60 : Int32)]) (st := []) C (kX11_checkNumber (xG X)) cw_X11_244 rfl rfl (Nat.le_of_ble_eq_true rfl) (zq2 hR rfl rfl) (zqc hR (Or.inr rfl)) dX11_needs_4 (fun q0 => hE.2 q0) (fun q0 => absurd q0 c1)

def BX12_holdsLine_0  (rec : Hp → Int32 → Int32 → Int32 → Int32 → Option (Int32 × Hp)) (h : Hp) (y2 : Int32) (y3 : Int32) (y4 : Int32) (y5 : Int32) : Option (Int32 × Hp) := gd (inb (y4 + (3 : Int32)) 2031) ((if (h 209 (y4 + (3 : Int32)).toNatClampNeg) ≤ y5 then (if y3 = (0 : Int32) then some ((1 : Int32), h) else (if (h 216 0) = (1 : Int32) then some ((1 : Int32), h) else some ((0 : Int32), h))) else gd (inb ((382 : Int32) + ((2 : Int32) * y5)) 2031) ((if (8 : Int32) < (h 209 ((382 : Int32) + ((2 : Int32) * y5)).toNatClampNeg) then (if (h 209 ((382 : Int32) + ((2 : Int32) * y5)).toNatClampNeg) = (12 : Int32) then gd (inb (y3 - (1 : Int32)) 400) (gd (inb (y3 - (1 : Int32)) 400) (lt9 (up2 h 216 (y3 - (1 : Int32)).toNatClampNeg ((1 : Int32) - (h 216 (y3 - (1 : Int32)).toNatClampNeg))) (fun h34 => lt9 (y5 + (1 : Int32)) (fun x35 => rec h34 y2 y3 y4 x35)))) else lt9 (y3 + (-1 : Int32)) (fun x8 => gd (inb (x8 - (1 : Int32)) 400) (gd (inb x8 400) (cl9 ((if (h 209 ((382 : Int32) + ((2 : Int32) * y5)).toNatClampNeg) = (10 : Int32) then (if (h 216 x8.toNatClampNeg) ≤ (h 216 (x8 - (1 : Int32)).toNatClampNeg) then some (0 : Int32) else some (1 : Int32)) else (if (h 209 ((382 : Int32) + ((2 : Int32) * y5)).toNatClampNeg) = (11 : Int32) then (if (h 216 (x8 - (1 : Int32)).toNatClampNeg) ≤ (h 216 x8.toNatClampNeg) then some (0 : Int32) else some (1 : Int32)) else (if (h 209 ((382 : Int32) + ((2 : Int32) * y5)).toNatClampNeg) = (13 : Int32) then (if ((h 216 (x8 - (1 : Int32)).toNatClampNeg) + (h 216 x8.toNatClampNeg)) = (2 : Int32) then some (1 : Int32) else some (0 : Int32)) else (if ((h 216 (x8 - (1 : Int32)).toNatClampNeg) + (h 216 x8.toNatClampNeg)) ≤ (0 : Int32) then some (0 : Int32) else some (1 : Int32))))) : Option (Int32)) (fun v11 => (if (h 209 ((382 : Int32) + ((2 : Int32) * y5)).toNatClampNeg) = (9 : Int32) then gd (inb (x8 - (1 : Int32)) 400) (lt9 (up2 h 216 (x8 - (1 : Int32)).toNatClampNeg ((h 216 (x8 - (1 : Int32)).toNatClampNeg) + (h 216 x8.toNatClampNeg))) (fun h30 => lt9 (y5 + (1 : Int32)) (fun x31 => rec h30 y2 x8 y4 x31))) else (if v11 = (0 : Int32) then gd (inb (x8 - (1 : Int32)) 400) (lt9 (up2 h 216 (x8 - (1 : Int32)).toNatClampNeg (0 : Int32)) (fun h24 => lt9 (y5 + (1 : Int32)) (fun x25 => rec h24 y2 x8 y4 x25))) else gd (inb (x8 - (1 : Int32)) 400) (lt9 (up2 h 216 (x8 - (1 : Int32)).toNatClampNeg (1 : Int32)) (fun h27 => lt9 (y5 + (1 : Int32)) (fun x28 => rec h27 y2 x8 y4 x28)))))))))) else gd (inb (((382 : Int32) + ((2 : Int32) * y5)) + (1 : Int32)) 2031) (cl9 (fX12_factOf h (h 209 ((382 : Int32) + ((2 : Int32) * y5)).toNatClampNeg) (h 209 (((382 : Int32) + ((2 : Int32) * y5)) + (1 : Int32)).toNatClampNeg) y2) (fun x37 => gd (inb y3 400) (lt9 (up2 h 216 y3.toNatClampNeg x37) (fun h40 => lt9 (y3 + (1 : Int32)) (fun x41 => lt9 (y5 + (1 : Int32)) (fun x42 => rec h40 y2 x41 y4 x42))))))))))
def LX12_holdsLine  : Nat → Hp → Int32 → Int32 → Int32 → Int32 → Option (Int32 × Hp)
  | 0, _, _, _, _, _ => none
  | n + 1, h, y2, y3, y4, y5 => BX12_holdsLine_0  (LX12_holdsLine  n) h y2 y3 y4 y5
def fX12_holdsLine (h : Hp) (a1 : Int32) (a2 : Int32) : Option (Int32 × Hp) := lt9 ((334 : Int32) + ((4 : Int32) * a1)) (fun x43 => gd (inb (x43 + (2 : Int32)) 2031) (LX12_holdsLine big h a2 (0 : Int32) x43 (h 209 (x43 + (2 : Int32)).toNatClampNeg)))
set_option maxHeartbeats 4000000 in
set_option maxRecDepth 100000 in
theorem wX12_holdsLine {X : Cx}  (C : OK X cX12_holdsLine 10 RX12 (some .boolean)) (hR : xR X = { frames := 5, cells := 0, slots := 0, locals := 320 }) (hcs : True) {rr : Int32} {hh : Hp} (hF : FinR X (some (.int rr)) hh) : ∀ n : Nat, (∀ (h : Hp) (y2 : Int32) (y3 : Int32) (y4 : Int32) (y5 : Int32), LX12_holdsLine  n h y2 y3 y4 y5 = some (rr, hh) → VW X 10 h 0 0 22 [(0, .ref (gad (xG X) 208)), (2, .int y2), (3, .int y3), (4, .int y4), (5, .int y5)] []) := by
  intro n
  induction n with
  | zero => exact (fun _ _ _ _ _ hf => (by rw [LX12_holdsLine] at hf; cases hf))
  | succ n ih =>
    intro h y2 y3 y4 y5 hf
    rw [LX12_holdsLine] at hf
    unfold BX12_holdsLine_0 at hf
    refine r_iload (i := 5) C dX12_holdsLine_22 4 rfl ?_
    refine r_aload_n (i := 0) C dX12_holdsLine_24 rfl 0 rfl ?_
    refine g_X12_13 C dX12_holdsLine_25 ?_
    refine r_iload (i := 4) C dX12_holdsLine_28 3 rfl ?_
    refine r_iconst (v := 3) C dX12_holdsLine_30 (by decide) ?_
    refine r_iadd C dX12_holdsLine_31 ?_
    obtain ⟨g1, hf⟩ := gd_of hf
    refine r_iald C 209 rfl (by decide) g1 dX12_holdsLine_32 ?_
    refine r_icmp_ge C 263 dX12_holdsLine_33 (by decide) (fun c2 => ?_) (fun c2 => ?_)
    · rw [if_pos c2] at hf
      refine r_iload_n (i := 3) C dX12_holdsLine_263 rfl 2 rfl ?_
      refine r_if_eq C 277 dX12_holdsLine_264 (by decide) (fun c3 => ?_) (fun c3 => ?_)
      · rw [if_pos c3] at hf
        refine r_iconst (v := 1) C dX12_holdsLine_277 (by decide) ?_
        refine r_goto C 282 dX12_holdsLine_278 (by decide) ?_
        have zz : (1 : Int32) = 0 ∨ (1 : Int32) = 1 := (Or.inr rfl)
        cases hf
        exact r_zret C zz hF dX12_holdsLine_282
      · rw [if_neg c3] at hf
        refine r_aload_n (i := 0) C dX12_holdsLine_267 rfl 0 rfl ?_
        refine g_X12_39 C dX12_holdsLine_268 ?_
        refine r_iconst (v := 0) C dX12_holdsLine_271 (by decide) ?_
        refine r_ialdc C 216 (m := 0) rfl (by decide) (by decide) (show inb 0 400 by decide) dX12_holdsLine_272 ?_
        refine r_iconst (v := 1) C dX12_holdsLine_273 (by decide) ?_
        refine r_icmp_ne C 281 dX12_holdsLine_274 (by decide) (fun c4 => ?_) (fun c4 => ?_)
        · rw [if_neg c4] at hf
          refine r_iconst (v := 0) C dX12_holdsLine_281 (by decide) ?_
          have zz : (0 : Int32) = 0 ∨ (0 : Int32) = 1 := (Or.inl rfl)
          cases hf
          exact r_zret C zz hF dX12_holdsLine_282
        · rw [if_pos c4] at hf
          refine r_iconst (v := 1) C dX12_holdsLine_277 (by decide) ?_
          refine r_goto C 282 dX12_holdsLine_278 (by decide) ?_
          have zz : (1 : Int32) = 0 ∨ (1 : Int32) = 1 := (Or.inr rfl)
          cases hf
          exact r_zret C zz hF dX12_holdsLine_282
    · rw [if_neg c2] at hf
      refine r_aload_n (i := 0) C dX12_holdsLine_36 rfl 0 rfl ?_
      refine g_X12_13 C dX12_holdsLine_37 ?_
      refine r_sipush (v := 382) C dX12_holdsLine_40 (by decide) ?_
      refine r_iconst (v := 2) C dX12_holdsLine_43 (by decide) ?_
      refine r_iload (i := 5) C dX12_holdsLine_44 4 rfl ?_
      refine r_imul C dX12_holdsLine_46 ?_
      refine r_iadd C dX12_holdsLine_47 ?_
      obtain ⟨g5, hf⟩ := gd_of hf
      refine r_iald C 209 rfl (by decide) g5 dX12_holdsLine_48 ?_
      refine r_istore (i := 6) (lv' := [(0, .ref (gad (xG X) 208)), (2, .int y2), (3, .int y3), (4, .int y4), (5, .int y5), (6, .int (h 209 ((382 : Int32) + ((2 : Int32) * y5)).toNatClampNeg))]) C dX12_holdsLine_49 (by decide) [1, 2, 3, 4, 5, 0] rfl ?_
      refine r_iload (i := 6) C dX12_holdsLine_51 5 rfl ?_
      refine r_bipush (v := 8) C dX12_holdsLine_53 (by decide) ?_
      refine r_icmp_gt C 92 dX12_holdsLine_55 (by decide) (fun c6 => ?_) (fun c6 => ?_)
      · rw [if_pos c6] at hf
        refine r_iload (i := 6) C dX12_holdsLine_92 5 rfl ?_
        refine r_bipush (v := 12) C dX12_holdsLine_94 (by decide) ?_
        refine r_icmp_ne C 120 dX12_holdsLine_96 (by decide) (fun c7 => ?_) (fun c7 => ?_)
        · rw [if_neg c7] at hf
          obtain ⟨x8, ex8, hf⟩ := lt_of hf
          refine r_iinc (j := 2) (v := x8) (lv' := [(0, .ref (gad (xG X) 208)), (2, .int y2), (3, .int x8), (4, .int y4), (5, .int y5), (6, .int (h 209 ((382 : Int32) + ((2 : Int32) * y5)).toNatClampNeg))]) C dX12_holdsLine_120 rfl (by rw [ex8]; rfl) (by decide) [1, 2, 0, 3, 4, 5] rfl ?_
          refine r_aload_n (i := 0) C dX12_holdsLine_123 rfl 0 rfl ?_
          refine g_X12_39 C dX12_holdsLine_124 ?_
          refine r_iload_n (i := 3) C dX12_holdsLine_127 rfl 2 rfl ?_
          refine r_iconst (v := 1) C dX12_holdsLine_128 (by decide) ?_
          refine r_isub C dX12_holdsLine_129 ?_
          obtain ⟨g9, hf⟩ := gd_of hf
          refine r_iald C 216 rfl (by decide) g9 dX12_holdsLine_130 ?_
          refine r_istore (i := 7) (lv' := [(0, .ref (gad (xG X) 208)), (2, .int y2), (3, .int x8), (4, .int y4), (5, .int y5), (6, .int (h 209 ((382 : Int32) + ((2 : Int32) * y5)).toNatClampNeg)), (7, .int (h 216 (x8 - (1 : Int32)).toNatClampNeg))]) C dX12_holdsLine_131 (by decide) [1, 2, 3, 4, 5, 6, 0] rfl ?_
          refine r_aload_n (i := 0) C dX12_holdsLine_133 rfl 0 rfl ?_
          refine g_X12_39 C dX12_holdsLine_134 ?_
          refine r_iload_n (i := 3) C dX12_holdsLine_137 rfl 2 rfl ?_
          obtain ⟨g10, hf⟩ := gd_of hf
          refine r_iald C 216 rfl (by decide) g10 dX12_holdsLine_138 ?_
          refine r_istore (i := 8) (lv' := [(0, .ref (gad (xG X) 208)), (2, .int y2), (3, .int x8), (4, .int y4), (5, .int y5), (6, .int (h 209 ((382 : Int32) + ((2 : Int32) * y5)).toNatClampNeg)), (7, .int (h 216 (x8 - (1 : Int32)).toNatClampNeg)), (8, .int (h 216 x8.toNatClampNeg))]) C dX12_holdsLine_139 (by decide) [1, 2, 3, 4, 5, 6, 7, 0] rfl ?_
          refine r_iload (i := 6) C dX12_holdsLine_141 5 rfl ?_
          refine r_bipush (v := 10) C dX12_holdsLine_143 (by decide) ?_
          obtain ⟨v11, r13, hf⟩ := cl_of hf
          have k12 : VW X 10 h 0 0 222 [(0, .ref (gad (xG X) 208)), (2, .int y2), (3, .int x8), (4, .int y4), (5, .int y5), (6, .int (h 209 ((382 : Int32) + ((2 : Int32) * y5)).toNatClampNeg)), (7, .int (h 216 (x8 - (1 : Int32)).toNatClampNeg)), (8, .int (h 216 x8.toNatClampNeg))] [.int v11] := by
            refine r_istore (i := 9) (lv' := [(0, .ref (gad (xG X) 208)), (2, .int y2), (3, .int x8), (4, .int y4), (5, .int y5), (6, .int (h 209 ((382 : Int32) + ((2 : Int32) * y5)).toNatClampNeg)), (7, .int (h 216 (x8 - (1 : Int32)).toNatClampNeg)), (8, .int (h 216 x8.toNatClampNeg)), (9, .int v11)]) C dX12_holdsLine_222 (by decide) [1, 2, 3, 4, 5, 6, 7, 8, 0] rfl ?_
            refine r_aload_n (i := 0) C dX12_holdsLine_224 rfl 0 rfl ?_
            refine g_X12_39 C dX12_holdsLine_225 ?_
            refine r_iload_n (i := 3) C dX12_holdsLine_228 rfl 2 rfl ?_
            refine r_iconst (v := 1) C dX12_holdsLine_229 (by decide) ?_
            refine r_isub C dX12_holdsLine_230 ?_
            refine r_iload (i := 6) C dX12_holdsLine_231 5 rfl ?_
            refine r_bipush (v := 9) C dX12_holdsLine_233 (by decide) ?_
            refine r_icmp_ne C 246 dX12_holdsLine_235 (by decide) (fun c21 => ?_) (fun c21 => ?_)
            · rw [if_neg c21] at hf
              refine r_iload (i := 9) C dX12_holdsLine_246 8 rfl ?_
              refine r_if_eq C 255 dX12_holdsLine_248 (by decide) (fun c22 => ?_) (fun c22 => ?_)
              · rw [if_pos c22] at hf
                refine r_iconst (v := 0) C dX12_holdsLine_255 (by decide) ?_
                obtain ⟨g23, hf⟩ := gd_of hf
                obtain ⟨h24, eh24, hf⟩ := lt_of hf
                refine r_iast C 216 eh24 rfl (by decide) g23 dX12_holdsLine_256 ?_
                obtain ⟨x25, ex25, hf⟩ := lt_of hf
                refine r_iinc (j := 4) (v := x25) (lv' := [(0, .ref (gad (xG X) 208)), (2, .int y2), (3, .int x8), (4, .int y4), (5, .int x25), (6, .int (h 209 ((382 : Int32) + ((2 : Int32) * y5)).toNatClampNeg)), (7, .int (h 216 (x8 - (1 : Int32)).toNatClampNeg)), (8, .int (h 216 x8.toNatClampNeg)), (9, .int v11)]) C dX12_holdsLine_257 rfl (by rw [ex25]; rfl) (by decide) [1, 2, 3, 4, 0, 5, 6, 7, 8] rfl ?_
                refine r_goto C 22 dX12_holdsLine_260 (by decide) ?_
                exact r_lv [0, 1, 2, 3, 4] rfl (ih _ _ _ _ _ hf)
              · rw [if_neg c22] at hf
                refine r_iconst (v := 1) C dX12_holdsLine_251 (by decide) ?_
                refine r_goto C 256 dX12_holdsLine_252 (by decide) ?_
                obtain ⟨g26, hf⟩ := gd_of hf
                obtain ⟨h27, eh27, hf⟩ := lt_of hf
                refine r_iast C 216 eh27 rfl (by decide) g26 dX12_holdsLine_256 ?_
                obtain ⟨x28, ex28, hf⟩ := lt_of hf
                refine r_iinc (j := 4) (v := x28) (lv' := [(0, .ref (gad (xG X) 208)), (2, .int y2), (3, .int x8), (4, .int y4), (5, .int x28), (6, .int (h 209 ((382 : Int32) + ((2 : Int32) * y5)).toNatClampNeg)), (7, .int (h 216 (x8 - (1 : Int32)).toNatClampNeg)), (8, .int (h 216 x8.toNatClampNeg)), (9, .int v11)]) C dX12_holdsLine_257 rfl (by rw [ex28]; rfl) (by decide) [1, 2, 3, 4, 0, 5, 6, 7, 8] rfl ?_
                refine r_goto C 22 dX12_holdsLine_260 (by decide) ?_
                exact r_lv [0, 1, 2, 3, 4] rfl (ih _ _ _ _ _ hf)
            · rw [if_pos c21] at hf
              refine r_iload (i := 7) C dX12_holdsLine_238 6 rfl ?_
              refine r_iload (i := 8) C dX12_holdsLine_240 7 rfl ?_
              refine r_iadd C dX12_holdsLine_242 ?_
              refine r_goto C 256 dX12_holdsLine_243 (by decide) ?_
              obtain ⟨g29, hf⟩ := gd_of hf
              obtain ⟨h30, eh30, hf⟩ := lt_of hf
              refine r_iast C 216 eh30 rfl (by decide) g29 dX12_holdsLine_256 ?_
              obtain ⟨x31, ex31, hf⟩ := lt_of hf
              refine r_iinc (j := 4) (v := x31) (lv' := [(0, .ref (gad (xG X) 208)), (2, .int y2), (3, .int x8), (4, .int y4), (5, .int x31), (6, .int (h 209 ((382 : Int32) + ((2 : Int32) * y5)).toNatClampNeg)), (7, .int (h 216 (x8 - (1 : Int32)).toNatClampNeg)), (8, .int (h 216 x8.toNatClampNeg)), (9, .int v11)]) C dX12_holdsLine_257 rfl (by rw [ex31]; rfl) (by decide) [1, 2, 3, 4, 0, 5, 6, 7, 8] rfl ?_
              refine r_goto C 22 dX12_holdsLine_260 (by decide) ?_
              exact r_lv [0, 1, 2, 3, 4] rfl (ih _ _ _ _ _ hf)
          clear hf
          have hf := r13
          refine r_icmp_ne C 163 dX12_holdsLine_145 (by decide) (fun c14 => ?_) (fun c14 => ?_)
          · rw [if_neg c14] at hf
            refine r_iload (i := 6) C dX12_holdsLine_163 5 rfl ?_
            refine r_bipush (v := 11) C dX12_holdsLine_165 (by decide) ?_
            refine r_icmp_ne C 185 dX12_holdsLine_167 (by decide) (fun c15 => ?_) (fun c15 => ?_)
            · rw [if_neg c15] at hf
              refine r_iload (i := 6) C dX12_holdsLine_185 5 rfl ?_
              refine r_bipush (v := 13) C dX12_holdsLine_187 (by decide) ?_
              refine r_icmp_ne C 209 dX12_holdsLine_189 (by decide) (fun c16 => ?_) (fun c16 => ?_)
              · rw [if_neg c16] at hf
                refine r_iload (i := 7) C dX12_holdsLine_209 6 rfl ?_
                refine r_iload (i := 8) C dX12_holdsLine_211 7 rfl ?_
                refine r_iadd C dX12_holdsLine_213 ?_
                refine r_if_le C 221 dX12_holdsLine_214 (by decide) (fun c17 => ?_) (fun c17 => ?_)
                · rw [if_pos c17] at hf
                  refine r_iconst (v := 0) C dX12_holdsLine_221 (by decide) ?_
                  cases hf
                  exact k12
                · rw [if_neg c17] at hf
                  refine r_iconst (v := 1) C dX12_holdsLine_217 (by decide) ?_
                  refine r_goto C 222 dX12_holdsLine_218 (by decide) ?_
                  cases hf
                  exact k12
              · rw [if_pos c16] at hf
                refine r_iload (i := 7) C dX12_holdsLine_192 6 rfl ?_
                refine r_iload (i := 8) C dX12_holdsLine_194 7 rfl ?_
                refine r_iadd C dX12_holdsLine_196 ?_
                refine r_iconst (v := 2) C dX12_holdsLine_197 (by decide) ?_
                refine r_icmp_ne C 205 dX12_holdsLine_198 (by decide) (fun c18 => ?_) (fun c18 => ?_)
                · rw [if_neg c18] at hf
                  refine r_iconst (v := 0) C dX12_holdsLine_205 (by decide) ?_
                  refine r_goto C 222 dX12_holdsLine_206 (by decide) ?_
                  cases hf
                  exact k12
                · rw [if_pos c18] at hf
                  refine r_iconst (v := 1) C dX12_holdsLine_201 (by decide) ?_
                  refine r_goto C 222 dX12_holdsLine_202 (by decide) ?_
                  cases hf
                  exact k12
            · rw [if_pos c15] at hf
              refine r_iload (i := 7) C dX12_holdsLine_170 6 rfl ?_
              refine r_iload (i := 8) C dX12_holdsLine_172 7 rfl ?_
              refine r_icmp_le C 181 dX12_holdsLine_174 (by decide) (fun c19 => ?_) (fun c19 => ?_)
              · rw [if_pos c19] at hf
                refine r_iconst (v := 0) C dX12_holdsLine_181 (by decide) ?_
                refine r_goto C 222 dX12_holdsLine_182 (by decide) ?_
                cases hf
                exact k12
              · rw [if_neg c19] at hf
                refine r_iconst (v := 1) C dX12_holdsLine_177 (by decide) ?_
                refine r_goto C 222 dX12_holdsLine_178 (by decide) ?_
                cases hf
                exact k12
          · rw [if_pos c14] at hf
            refine r_iload (i := 7) C dX12_holdsLine_148 6 rfl ?_
            refine r_iload (i := 8) C dX12_holdsLine_150 7 rfl ?_
            refine r_icmp_ge C 159 dX12_holdsLine_152 (by decide) (fun c20 => ?_) (fun c20 => ?_)
            · rw [if_pos c20] at hf
              refine r_iconst (v := 0) C dX12_holdsLine_159 (by decide) ?_
              refine r_goto C 222 dX12_holdsLine_160 (by decide) ?_
              cases hf
              exact k12
            · rw [if_neg c20] at hf
              refine r_iconst (v := 1) C dX12_holdsLine_155 (by decide) ?_
              refine r_goto C 222 dX12_holdsLine_156 (by decide) ?_
              cases hf
              exact k12
        · rw [if_pos c7] at hf
          refine r_aload_n (i := 0) C dX12_holdsLine_99 rfl 0 rfl ?_
          refine g_X12_39 C dX12_holdsLine_100 ?_
          refine r_iload_n (i := 3) C dX12_holdsLine_103 rfl 2 rfl ?_
          refine r_iconst (v := 1) C dX12_holdsLine_104 (by decide) ?_
          refine r_isub C dX12_holdsLine_105 ?_
          refine r_iconst (v := 1) C dX12_holdsLine_106 (by decide) ?_
          refine r_aload_n (i := 0) C dX12_holdsLine_107 rfl 0 rfl ?_
          refine g_X12_39 C dX12_holdsLine_108 ?_
          refine r_iload_n (i := 3) C dX12_holdsLine_111 rfl 2 rfl ?_
          refine r_iconst (v := 1) C dX12_holdsLine_112 (by decide) ?_
          refine r_isub C dX12_holdsLine_113 ?_
          obtain ⟨g32, hf⟩ := gd_of hf
          refine r_iald C 216 rfl (by decide) g32 dX12_holdsLine_114 ?_
          refine r_isub C dX12_holdsLine_115 ?_
          obtain ⟨g33, hf⟩ := gd_of hf
          obtain ⟨h34, eh34, hf⟩ := lt_of hf
          refine r_iast C 216 eh34 rfl (by decide) g33 dX12_holdsLine_116 ?_
          refine r_goto C 257 dX12_holdsLine_117 (by decide) ?_
          obtain ⟨x35, ex35, hf⟩ := lt_of hf
          refine r_iinc (j := 4) (v := x35) (lv' := [(0, .ref (gad (xG X) 208)), (2, .int y2), (3, .int y3), (4, .int y4), (5, .int x35), (6, .int (h 209 ((382 : Int32) + ((2 : Int32) * y5)).toNatClampNeg))]) C dX12_holdsLine_257 rfl (by rw [ex35]; rfl) (by decide) [1, 2, 3, 4, 0, 5] rfl ?_
          refine r_goto C 22 dX12_holdsLine_260 (by decide) ?_
          exact r_lv [0, 1, 2, 3, 4] rfl (ih _ _ _ _ _ hf)
      · rw [if_neg c6] at hf
        refine r_aload_n (i := 0) C dX12_holdsLine_58 rfl 0 rfl ?_
        refine g_X12_39 C dX12_holdsLine_59 ?_
        refine r_iload_n (i := 3) C dX12_holdsLine_62 rfl 2 rfl ?_
        refine r_aload_n (i := 0) C dX12_holdsLine_63 rfl 0 rfl ?_
        refine r_iload (i := 6) C dX12_holdsLine_64 5 rfl ?_
        refine r_aload_n (i := 0) C dX12_holdsLine_66 rfl 0 rfl ?_
        refine g_X12_13 C dX12_holdsLine_67 ?_
        refine r_sipush (v := 382) C dX12_holdsLine_70 (by decide) ?_
        refine r_iconst (v := 2) C dX12_holdsLine_73 (by decide) ?_
        refine r_iload (i := 5) C dX12_holdsLine_74 4 rfl ?_
        refine r_imul C dX12_holdsLine_76 ?_
        refine r_iadd C dX12_holdsLine_77 ?_
        refine r_iconst (v := 1) C dX12_holdsLine_78 (by decide) ?_
        refine r_iadd C dX12_holdsLine_79 ?_
        obtain ⟨g36, hf⟩ := gd_of hf
        refine r_iald C 209 rfl (by decide) g36 dX12_holdsLine_80 ?_
        refine r_iload_n (i := 2) C dX12_holdsLine_81 rfl 1 rfl ?_
        obtain ⟨x37, e38, hf⟩ := cl_of hf
        refine r_callVi (As := [.int (h 209 ((382 : Int32) + ((2 : Int32) * y5)).toNatClampNeg), .int (h 209 (((382 : Int32) + ((2 : Int32) * y5)) + (1 : Int32)).toNatClampNeg), .int y2]) (st := [.int y3, .ref (gad (xG X) 216)]) C 208 rfl (by decide) rfl (kX12_factOf (xG X) e38) cw_X12_271 rfl rfl (Nat.le_of_ble_eq_true rfl) (zr2 hR rfl rfl) (zrcs hcs) dX12_holdsLine_82 ?_
        obtain ⟨g39, hf⟩ := gd_of hf
        obtain ⟨h40, eh40, hf⟩ := lt_of hf
        refine r_iast C 216 eh40 rfl (by decide) g39 dX12_holdsLine_85 ?_
        obtain ⟨x41, ex41, hf⟩ := lt_of hf
        refine r_iinc (j := 2) (v := x41) (lv' := [(0, .ref (gad (xG X) 208)), (2, .int y2), (3, .int x41), (4, .int y4), (5, .int y5), (6, .int (h 209 ((382 : Int32) + ((2 : Int32) * y5)).toNatClampNeg))]) C dX12_holdsLine_86 rfl (by rw [ex41]; rfl) (by decide) [1, 2, 0, 3, 4, 5] rfl ?_
        refine r_goto C 257 dX12_holdsLine_89 (by decide) ?_
        obtain ⟨x42, ex42, hf⟩ := lt_of hf
        refine r_iinc (j := 4) (v := x42) (lv' := [(0, .ref (gad (xG X) 208)), (2, .int y2), (3, .int x41), (4, .int y4), (5, .int x42), (6, .int (h 209 ((382 : Int32) + ((2 : Int32) * y5)).toNatClampNeg))]) C dX12_holdsLine_257 rfl (by rw [ex42]; rfl) (by decide) [1, 2, 3, 4, 0, 5] rfl ?_
        refine r_goto C 22 dX12_holdsLine_260 (by decide) ?_
        exact r_lv [0, 1, 2, 3, 4] rfl (ih _ _ _ _ _ hf)
set_option maxHeartbeats 4000000 in
set_option maxRecDepth 100000 in
theorem kX12_holdsLine (G : Gx)  {h : Hp} {a1 : Int32} {a2 : Int32} {rr : Int32} {hh : Hp} (hf : fX12_holdsLine h a1 a2 = some (rr, hh)) : MC G yX12_holdsLine cX12_holdsLine 10 (some .boolean) 5 320 h [.ref (gad G 208), .int a1, .int a2] (some (.int rr)) hh := by
  refine MC.of RX12 (by decide) rfl (Nat.le_of_ble_eq_true rfl) rfl (fun X C hG hR hF => ?_)
  subst hG
  have hcs : True := trivial
  unfold fX12_holdsLine at hf
  refine r_iconst (v := 0) C dX12_holdsLine_0 (by decide) ?_
  refine r_istore_n (i := 3) (lv' := [(0, .ref (gad (xG X) 208)), (1, .int a1), (2, .int a2), (3, .int (0 : Int32))]) C dX12_holdsLine_1 rfl (by decide) [1, 2, 3, 0] rfl ?_
  refine r_sipush (v := 334) C dX12_holdsLine_2 (by decide) ?_
  refine r_iconst (v := 4) C dX12_holdsLine_5 (by decide) ?_
  refine r_iload_n (i := 1) C dX12_holdsLine_6 rfl 1 rfl ?_
  refine r_imul C dX12_holdsLine_7 ?_
  refine r_iadd C dX12_holdsLine_8 ?_
  obtain ⟨x43, ex43, hf⟩ := lt_of hf
  refine r_top ex43 ?_
  refine r_istore (i := 4) (lv' := [(0, .ref (gad (xG X) 208)), (1, .int a1), (2, .int a2), (3, .int (0 : Int32)), (4, .int x43)]) C dX12_holdsLine_9 (by decide) [1, 2, 3, 4, 0] rfl ?_
  refine r_aload_n (i := 0) C dX12_holdsLine_11 rfl 0 rfl ?_
  refine g_X12_13 C dX12_holdsLine_12 ?_
  refine r_iload (i := 4) C dX12_holdsLine_15 4 rfl ?_
  refine r_iconst (v := 2) C dX12_holdsLine_17 (by decide) ?_
  refine r_iadd C dX12_holdsLine_18 ?_
  obtain ⟨g44, hf⟩ := gd_of hf
  refine r_iald C 209 rfl (by decide) g44 dX12_holdsLine_19 ?_
  refine r_istore (i := 5) (lv' := [(0, .ref (gad (xG X) 208)), (1, .int a1), (2, .int a2), (3, .int (0 : Int32)), (4, .int x43), (5, .int (h 209 (x43 + (2 : Int32)).toNatClampNeg))]) C dX12_holdsLine_20 (by decide) [1, 2, 3, 4, 5, 0] rfl ?_
  exact r_lv [0, 2, 3, 4, 5] rfl ((wX12_holdsLine  C hR hcs hF big) _ _ _ _ _ hf)
def fX12_hasLaw (h : Hp) : Int32 := (if (h 209 2) = (1 : Int32) then (1 : Int32) else (0 : Int32))
set_option maxHeartbeats 4000000 in
set_option maxRecDepth 100000 in
theorem kX12_hasLaw (G : Gx)  {h : Hp}  : MC G yX12_hasLaw cX12_hasLaw 1 (some .boolean) 1 64 h [.ref (gad G 208)] (some (.int (fX12_hasLaw h))) h := by
  refine MC.of RX12 (by decide) rfl (Nat.le_of_ble_eq_true rfl) rfl (fun X C hG hR hF => ?_)
  subst hG
  have hcs : True := trivial
  obtain ⟨rr, hf⟩ : ∃ rr, fX12_hasLaw h = rr := ⟨_, rfl⟩
  rw [hf] at hF
  unfold fX12_hasLaw at hf
  refine r_aload_n (i := 0) C dX12_hasLaw_0 rfl 0 rfl ?_
  refine g_X12_13 C dX12_hasLaw_1 ?_
  refine r_iconst (v := 2) C dX12_hasLaw_4 (by decide) ?_
  refine r_ialdc C 209 (m := 2) rfl (by decide) (by decide) (show inb 2 2031 by decide) dX12_hasLaw_5 ?_
  refine r_iconst (v := 1) C dX12_hasLaw_6 (by decide) ?_
  refine r_icmp_ne C 14 dX12_hasLaw_7 (by decide) (fun c1 => ?_) (fun c1 => ?_)
  · rw [if_neg c1] at hf
    refine r_iconst (v := 0) C dX12_hasLaw_14 (by decide) ?_
    subst hf
    exact r_zret C (Or.inl rfl) hF dX12_hasLaw_15
  · rw [if_pos c1] at hf
    refine r_iconst (v := 1) C dX12_hasLaw_10 (by decide) ?_
    refine r_goto C 15 dX12_hasLaw_11 (by decide) ?_
    subst hf
    exact r_zret C (Or.inr rfl) hF dX12_hasLaw_15
theorem zX12_hasLaw {h : Hp}   : fX12_hasLaw h = 0 ∨ fX12_hasLaw h = 1 := by
  unfold fX12_hasLaw
  exact by repeat' (first | exact Or.inl rfl | exact Or.inr rfl | (apply b_ite) | (unfold lt9) | assumption | exact zqq)
def BX12_sumOf_0  (rec : Hp → Int32 → Int32 → Int32 → Int32 → Option (Int32 × Hp)) (h : Hp) (y1 : Int32) (y2 : Int32) (y3 : Int32) (y4 : Int32) : Option (Int32 × Hp) := (if (fX12_hasLaw h) = (0 : Int32) then some (y3, h) else (if (h 209 333) ≤ y4 then some (y3, h) else gd (inb ((334 : Int32) + ((4 : Int32) * y4)) 2031) ((if (h 209 ((334 : Int32) + ((4 : Int32) * y4)).toNatClampNeg) = y1 then cl2 (fX12_holdsLine h y4 y2) (fun x8 h6 => (if x8 = (0 : Int32) then lt9 (y4 + (1 : Int32)) (fun x10 => rec h6 y1 y2 y3 x10) else gd (inb (((334 : Int32) + ((4 : Int32) * y4)) + (1 : Int32)) 2031) (lt9 (y3 + (h6 209 (((334 : Int32) + ((4 : Int32) * y4)) + (1 : Int32)).toNatClampNeg)) (fun x12 => lt9 (y4 + (1 : Int32)) (fun x13 => rec h6 y1 y2 x12 x13))))) else lt9 (y4 + (1 : Int32)) (fun x5 => rec h y1 y2 y3 x5)))))
def LX12_sumOf  : Nat → Hp → Int32 → Int32 → Int32 → Int32 → Option (Int32 × Hp)
  | 0, _, _, _, _, _ => none
  | n + 1, h, y1, y2, y3, y4 => BX12_sumOf_0  (LX12_sumOf  n) h y1 y2 y3 y4
def fX12_sumOf (h : Hp) (a1 : Int32) (a2 : Int32) : Option (Int32 × Hp) := LX12_sumOf big h a1 a2 (0 : Int32) (0 : Int32)
set_option maxHeartbeats 4000000 in
set_option maxRecDepth 100000 in
theorem wX12_sumOf {X : Cx}  (C : OK X cX12_sumOf 5 RX12 (some .int)) (hR : xR X = { frames := 6, cells := 0, slots := 0, locals := 384 }) (hcs : True) {rr : Int32} {hh : Hp} (hF : FinR X (some (.int rr)) hh) : ∀ n : Nat, (∀ (h : Hp) (y1 : Int32) (y2 : Int32) (y3 : Int32) (y4 : Int32), LX12_sumOf  n h y1 y2 y3 y4 = some (rr, hh) → VW X 5 h 0 0 5 [(0, .ref (gad (xG X) 208)), (1, .int y1), (2, .int y2), (3, .int y3), (4, .int y4)] []) := by
  intro n
  induction n with
  | zero => exact (fun _ _ _ _ _ hf => (by rw [LX12_sumOf] at hf; cases hf))
  | succ n ih =>
    intro h y1 y2 y3 y4 hf
    rw [LX12_sumOf] at hf
    unfold BX12_sumOf_0 at hf
    refine r_aload_n (i := 0) C dX12_sumOf_5 rfl 0 rfl ?_
    refine r_callVi (As := []) (st := []) C 208 rfl (by decide) rfl (kX12_hasLaw (xG X)) cw_X12_275 rfl rfl (Nat.le_of_ble_eq_true rfl) (zr2 hR rfl rfl) (zrcs hcs) dX12_sumOf_6 ?_
    refine r_if_eq C 76 dX12_sumOf_9 (by decide) (fun c1 => ?_) (fun c1 => ?_)
    · rw [if_pos c1] at hf
      refine r_iload_n (i := 3) C dX12_sumOf_76 rfl 3 rfl ?_
      cases hf
      exact r_iret C hF dX12_sumOf_77
    · rw [if_neg c1] at hf
      refine r_iload (i := 4) C dX12_sumOf_12 4 rfl ?_
      refine r_aload_n (i := 0) C dX12_sumOf_14 rfl 0 rfl ?_
      refine g_X12_13 C dX12_sumOf_15 ?_
      refine r_sipush (v := 333) C dX12_sumOf_18 (by decide) ?_
      refine r_ialdc C 209 (m := 333) rfl (by decide) (by decide) (show inb 333 2031 by decide) dX12_sumOf_21 ?_
      refine r_icmp_ge C 76 dX12_sumOf_22 (by decide) (fun c2 => ?_) (fun c2 => ?_)
      · rw [if_pos c2] at hf
        refine r_iload_n (i := 3) C dX12_sumOf_76 rfl 3 rfl ?_
        cases hf
        exact r_iret C hF dX12_sumOf_77
      · rw [if_neg c2] at hf
        refine r_aload_n (i := 0) C dX12_sumOf_25 rfl 0 rfl ?_
        refine g_X12_13 C dX12_sumOf_26 ?_
        refine r_sipush (v := 334) C dX12_sumOf_29 (by decide) ?_
        refine r_iconst (v := 4) C dX12_sumOf_32 (by decide) ?_
        refine r_iload (i := 4) C dX12_sumOf_33 4 rfl ?_
        refine r_imul C dX12_sumOf_35 ?_
        refine r_iadd C dX12_sumOf_36 ?_
        obtain ⟨g3, hf⟩ := gd_of hf
        refine r_iald C 209 rfl (by decide) g3 dX12_sumOf_37 ?_
        refine r_iload_n (i := 1) C dX12_sumOf_38 rfl 1 rfl ?_
        refine r_icmp_ne C 70 dX12_sumOf_39 (by decide) (fun c4 => ?_) (fun c4 => ?_)
        · rw [if_neg c4] at hf
          obtain ⟨x5, ex5, hf⟩ := lt_of hf
          refine r_iinc (j := 4) (v := x5) (lv' := [(0, .ref (gad (xG X) 208)), (1, .int y1), (2, .int y2), (3, .int y3), (4, .int x5)]) C dX12_sumOf_70 rfl (by rw [ex5]; rfl) (by decide) [1, 2, 3, 4, 0] rfl ?_
          refine r_goto C 5 dX12_sumOf_73 (by decide) ?_
          exact r_lv [0, 1, 2, 3, 4] rfl (ih _ _ _ _ _ hf)
        · rw [if_pos c4] at hf
          refine r_aload_n (i := 0) C dX12_sumOf_42 rfl 0 rfl ?_
          refine r_iload (i := 4) C dX12_sumOf_43 4 rfl ?_
          refine r_iload_n (i := 2) C dX12_sumOf_45 rfl 2 rfl ?_
          obtain ⟨x8, h6, e7, hf⟩ := cl2_of hf
          refine r_callVi (As := [.int y4, .int y2]) (st := []) C 208 rfl (by decide) rfl (kX12_holdsLine (xG X) e7) cw_X12_278 rfl rfl (Nat.le_of_ble_eq_true rfl) (zr2 hR rfl rfl) (zrcs hcs) dX12_sumOf_46 ?_
          refine r_if_eq C 70 dX12_sumOf_49 (by decide) (fun c9 => ?_) (fun c9 => ?_)
          · rw [if_pos c9] at hf
            obtain ⟨x10, ex10, hf⟩ := lt_of hf
            refine r_iinc (j := 4) (v := x10) (lv' := [(0, .ref (gad (xG X) 208)), (1, .int y1), (2, .int y2), (3, .int y3), (4, .int x10)]) C dX12_sumOf_70 rfl (by rw [ex10]; rfl) (by decide) [1, 2, 3, 4, 0] rfl ?_
            refine r_goto C 5 dX12_sumOf_73 (by decide) ?_
            exact r_lv [0, 1, 2, 3, 4] rfl (ih _ _ _ _ _ hf)
          · rw [if_neg c9] at hf
            refine r_iload_n (i := 3) C dX12_sumOf_52 rfl 3 rfl ?_
            refine r_aload_n (i := 0) C dX12_sumOf_53 rfl 0 rfl ?_
            refine g_X12_13 C dX12_sumOf_54 ?_
            refine r_sipush (v := 334) C dX12_sumOf_57 (by decide) ?_
            refine r_iconst (v := 4) C dX12_sumOf_60 (by decide) ?_
            refine r_iload (i := 4) C dX12_sumOf_61 4 rfl ?_
            refine r_imul C dX12_sumOf_63 ?_
            refine r_iadd C dX12_sumOf_64 ?_
            refine r_iconst (v := 1) C dX12_sumOf_65 (by decide) ?_
            refine r_iadd C dX12_sumOf_66 ?_
            obtain ⟨g11, hf⟩ := gd_of hf
            refine r_iald C 209 rfl (by decide) g11 dX12_sumOf_67 ?_
            refine r_iadd C dX12_sumOf_68 ?_
            obtain ⟨x12, ex12, hf⟩ := lt_of hf
            refine r_top ex12 ?_
            refine r_istore_n (i := 3) (lv' := [(0, .ref (gad (xG X) 208)), (1, .int y1), (2, .int y2), (3, .int x12), (4, .int y4)]) C dX12_sumOf_69 rfl (by decide) [1, 2, 3, 0, 4] rfl ?_
            obtain ⟨x13, ex13, hf⟩ := lt_of hf
            refine r_iinc (j := 4) (v := x13) (lv' := [(0, .ref (gad (xG X) 208)), (1, .int y1), (2, .int y2), (3, .int x12), (4, .int x13)]) C dX12_sumOf_70 rfl (by rw [ex13]; rfl) (by decide) [1, 2, 3, 4, 0] rfl ?_
            refine r_goto C 5 dX12_sumOf_73 (by decide) ?_
            exact r_lv [0, 1, 2, 3, 4] rfl (ih _ _ _ _ _ hf)
set_option maxHeartbeats 4000000 in
set_option maxRecDepth 100000 in
theorem kX12_sumOf (G : Gx)  {h : Hp} {a1 : Int32} {a2 : Int32} {rr : Int32} {hh : Hp} (hf : fX12_sumOf h a1 a2 = some (rr, hh)) : MC G yX12_sumOf cX12_sumOf 5 (some .int) 6 384 h [.ref (gad G 208), .int a1, .int a2] (some (.int rr)) hh := by
  refine MC.of RX12 (by decide) rfl (Nat.le_of_ble_eq_true rfl) rfl (fun X C hG hR hF => ?_)
  subst hG
  have hcs : True := trivial
  unfold fX12_sumOf at hf
  refine r_iconst (v := 0) C dX12_sumOf_0 (by decide) ?_
  refine r_istore_n (i := 3) (lv' := [(0, .ref (gad (xG X) 208)), (1, .int a1), (2, .int a2), (3, .int (0 : Int32))]) C dX12_sumOf_1 rfl (by decide) [1, 2, 3, 0] rfl ?_
  refine r_iconst (v := 0) C dX12_sumOf_2 (by decide) ?_
  refine r_istore (i := 4) (lv' := [(0, .ref (gad (xG X) 208)), (1, .int a1), (2, .int a2), (3, .int (0 : Int32)), (4, .int (0 : Int32))]) C dX12_sumOf_3 (by decide) [1, 2, 3, 4, 0] rfl ?_
  exact r_lv [0, 1, 2, 3, 4] rfl ((wX12_sumOf  C hR hcs hF big) _ _ _ _ _ hf)
def fX12_strainOf (h : Hp) (a1 : Int32) : Option (Int32 × Hp) := gd (inb ((46 : Int32) + a1) 2031) (cl2 (fX12_sumOf h (0 : Int32) a1) (fun x4 h2 => some (((h 209 ((46 : Int32) + a1).toNatClampNeg) + x4), h2)))
set_option maxHeartbeats 4000000 in
set_option maxRecDepth 100000 in
theorem kX12_strainOf (G : Gx)  {h : Hp} {a1 : Int32} {rr : Int32} {hh : Hp} (hf : fX12_strainOf h a1 = some (rr, hh)) : MC G yX12_strainOf cX12_strainOf 2 (some .int) 7 448 h [.ref (gad G 208), .int a1] (some (.int rr)) hh := by
  refine MC.of RX12 (by decide) rfl (Nat.le_of_ble_eq_true rfl) rfl (fun X C hG hR hF => ?_)
  subst hG
  have hcs : True := trivial
  unfold fX12_strainOf at hf
  refine r_aload_n (i := 0) C dX12_strainOf_0 rfl 0 rfl ?_
  refine g_X12_13 C dX12_strainOf_1 ?_
  refine r_bipush (v := 46) C dX12_strainOf_4 (by decide) ?_
  refine r_iload_n (i := 1) C dX12_strainOf_6 rfl 1 rfl ?_
  refine r_iadd C dX12_strainOf_7 ?_
  obtain ⟨g1, hf⟩ := gd_of hf
  refine r_iald C 209 rfl (by decide) g1 dX12_strainOf_8 ?_
  refine r_aload_n (i := 0) C dX12_strainOf_9 rfl 0 rfl ?_
  refine r_iconst (v := 0) C dX12_strainOf_10 (by decide) ?_
  refine r_iload_n (i := 1) C dX12_strainOf_11 rfl 1 rfl ?_
  obtain ⟨x4, h2, e3, hf⟩ := cl2_of hf
  refine r_callVi (As := [.int (0 : Int32), .int a1]) (st := [.int (h 209 ((46 : Int32) + a1).toNatClampNeg)]) C 208 rfl (by decide) rfl (kX12_sumOf (xG X) e3) cw_X12_281 rfl rfl (Nat.le_of_ble_eq_true rfl) (zr2 hR rfl rfl) (zrcs hcs) dX12_strainOf_12 ?_
  refine r_iadd C dX12_strainOf_15 ?_
  cases hf
  exact r_iret C hF dX12_strainOf_16
def fX12_rustsBy (h : Hp) (a1 : Int32) : Option (Int32 × Hp) := (if (fX12_hasLaw h) = (0 : Int32) then some ((1 : Int32), h) else cl2 (fX12_sumOf h (1 : Int32) a1) (fun x4 h2 => some (x4, h2)))
set_option maxHeartbeats 4000000 in
set_option maxRecDepth 100000 in
theorem kX12_rustsBy (G : Gx)  {h : Hp} {a1 : Int32} {rr : Int32} {hh : Hp} (hf : fX12_rustsBy h a1 = some (rr, hh)) : MC G yX12_rustsBy cX12_rustsBy 2 (some .int) 7 448 h [.ref (gad G 208), .int a1] (some (.int rr)) hh := by
  refine MC.of RX12 (by decide) rfl (Nat.le_of_ble_eq_true rfl) rfl (fun X C hG hR hF => ?_)
  subst hG
  have hcs : True := trivial
  unfold fX12_rustsBy at hf
  refine r_aload_n (i := 0) C dX12_rustsBy_0 rfl 0 rfl ?_
  refine r_callVi (As := []) (st := []) C 208 rfl (by decide) rfl (kX12_hasLaw (xG X)) cw_X12_275 rfl rfl (Nat.le_of_ble_eq_true rfl) (zr2 hR rfl rfl) (zrcs hcs) dX12_rustsBy_1 ?_
  refine r_if_eq C 16 dX12_rustsBy_4 (by decide) (fun c1 => ?_) (fun c1 => ?_)
  · rw [if_pos c1] at hf
    refine r_iconst (v := 1) C dX12_rustsBy_16 (by decide) ?_
    cases hf
    exact r_iret C hF dX12_rustsBy_17
  · rw [if_neg c1] at hf
    refine r_aload_n (i := 0) C dX12_rustsBy_7 rfl 0 rfl ?_
    refine r_iconst (v := 1) C dX12_rustsBy_8 (by decide) ?_
    refine r_iload_n (i := 1) C dX12_rustsBy_9 rfl 1 rfl ?_
    obtain ⟨x4, h2, e3, hf⟩ := cl2_of hf
    refine r_callVi (As := [.int (1 : Int32), .int a1]) (st := []) C 208 rfl (by decide) rfl (kX12_sumOf (xG X) e3) cw_X12_281 rfl rfl (Nat.le_of_ble_eq_true rfl) (zr2 hR rfl rfl) (zrcs hcs) dX12_rustsBy_10 ?_
    refine r_goto C 17 dX12_rustsBy_13 (by decide) ?_
    cases hf
    exact r_iret C hF dX12_rustsBy_17
def fX12_doesHold (h : Hp) (a1 : Int32) : Option (Int32 × Hp) := cl9 (fX12_rustOf h a1) (fun x1 => cl2 (fX12_strainOf h a1) (fun x5 h3 => (if (x1 + x5) < (60 : Int32) then some ((1 : Int32), h3) else cl2 (fX12_sumOf h3 (2 : Int32) a1) (fun x9 h7 => (if x9 ≤ (0 : Int32) then some ((0 : Int32), h7) else some ((1 : Int32), h7))))))
set_option maxHeartbeats 4000000 in
set_option maxRecDepth 100000 in
theorem kX12_doesHold (G : Gx)  {h : Hp} {a1 : Int32} {rr : Int32} {hh : Hp} (hf : fX12_doesHold h a1 = some (rr, hh)) : MC G yX12_doesHold cX12_doesHold 2 (some .boolean) 8 512 h [.ref (gad G 208), .int a1] (some (.int rr)) hh := by
  refine MC.of RX12 (by decide) rfl (Nat.le_of_ble_eq_true rfl) rfl (fun X C hG hR hF => ?_)
  subst hG
  have hcs : True := trivial
  unfold fX12_doesHold at hf
  refine r_aload_n (i := 0) C dX12_doesHold_0 rfl 0 rfl ?_
  refine r_iload_n (i := 1) C dX12_doesHold_1 rfl 1 rfl ?_
  obtain ⟨x1, e2, hf⟩ := cl_of hf
  refine r_callVi (As := [.int a1]) (st := []) C 208 rfl (by decide) rfl (kX12_rustOf (xG X) e2) cw_X12_262 rfl rfl (Nat.le_of_ble_eq_true rfl) (zr2 hR rfl rfl) (zrcs hcs) dX12_doesHold_2 ?_
  refine r_aload_n (i := 0) C dX12_doesHold_5 rfl 0 rfl ?_
  refine r_iload_n (i := 1) C dX12_doesHold_6 rfl 1 rfl ?_
  obtain ⟨x5, h3, e4, hf⟩ := cl2_of hf
  refine r_callVi (As := [.int a1]) (st := [.int x1]) C 208 rfl (by decide) rfl (kX12_strainOf (xG X) e4) cw_X12_284 rfl rfl (Nat.le_of_ble_eq_true rfl) (zr2 hR rfl rfl) (zrcs hcs) dX12_doesHold_7 ?_
  refine r_iadd C dX12_doesHold_10 ?_
  refine r_bipush (v := 60) C dX12_doesHold_11 (by decide) ?_
  refine r_icmp_lt C 25 dX12_doesHold_13 (by decide) (fun c6 => ?_) (fun c6 => ?_)
  · rw [if_pos c6] at hf
    refine r_iconst (v := 1) C dX12_doesHold_25 (by decide) ?_
    refine r_goto C 30 dX12_doesHold_26 (by decide) ?_
    have zz : (1 : Int32) = 0 ∨ (1 : Int32) = 1 := (Or.inr rfl)
    cases hf
    exact r_zret C zz hF dX12_doesHold_30
  · rw [if_neg c6] at hf
    refine r_aload_n (i := 0) C dX12_doesHold_16 rfl 0 rfl ?_
    refine r_iconst (v := 2) C dX12_doesHold_17 (by decide) ?_
    refine r_iload_n (i := 1) C dX12_doesHold_18 rfl 1 rfl ?_
    obtain ⟨x9, h7, e8, hf⟩ := cl2_of hf
    refine r_callVi (As := [.int (2 : Int32), .int a1]) (st := []) C 208 rfl (by decide) rfl (kX12_sumOf (xG X) e8) cw_X12_281 rfl rfl (Nat.le_of_ble_eq_true rfl) (zr2 hR rfl rfl) (zrcs hcs) dX12_doesHold_19 ?_
    refine r_if_le C 29 dX12_doesHold_22 (by decide) (fun c10 => ?_) (fun c10 => ?_)
    · rw [if_pos c10] at hf
      refine r_iconst (v := 0) C dX12_doesHold_29 (by decide) ?_
      have zz : (0 : Int32) = 0 ∨ (0 : Int32) = 1 := (Or.inl rfl)
      cases hf
      exact r_zret C zz hF dX12_doesHold_30
    · rw [if_neg c10] at hf
      refine r_iconst (v := 1) C dX12_doesHold_25 (by decide) ?_
      refine r_goto C 30 dX12_doesHold_26 (by decide) ?_
      have zz : (1 : Int32) = 0 ∨ (1 : Int32) = 1 := (Or.inr rfl)
      cases hf
      exact r_zret C zz hF dX12_doesHold_30
def BX12_holdingOf_0  (rec : Hp → Int32 → Int32 → Int32 → Option (Int32 × Hp)) (h : Hp) (y1 : Int32) (y2 : Int32) (y3 : Int32) : Option (Int32 × Hp) := (if (16 : Int32) ≤ y3 then some (y2, h) else (if (fX12_has y1 y3) = (0 : Int32) then lt9 (y2 ||| (0 : Int32)) (fun x3 => lt9 (y3 + (1 : Int32)) (fun x4 => rec h y1 x3 x4)) else cl2 (fX12_doesHold h y3) (fun x7 h5 => (if x7 = (0 : Int32) then lt9 (y2 ||| (0 : Int32)) (fun x9 => lt9 (y3 + (1 : Int32)) (fun x10 => rec h5 y1 x9 x10)) else lt9 (y2 ||| ((1 : Int32) <<< (y3 &&& 31))) (fun x11 => lt9 (y3 + (1 : Int32)) (fun x12 => rec h5 y1 x11 x12))))))
def LX12_holdingOf  : Nat → Hp → Int32 → Int32 → Int32 → Option (Int32 × Hp)
  | 0, _, _, _, _ => none
  | n + 1, h, y1, y2, y3 => BX12_holdingOf_0  (LX12_holdingOf  n) h y1 y2 y3
def fX12_holdingOf (h : Hp) (a1 : Int32) : Option (Int32 × Hp) := lt9 (up2 h 208 18 a1) (fun h13 => LX12_holdingOf big h13 a1 (0 : Int32) (0 : Int32))
set_option maxHeartbeats 4000000 in
set_option maxRecDepth 100000 in
theorem wX12_holdingOf {X : Cx}  (C : OK X cX12_holdingOf 4 RX12 (some .int)) (hR : xR X = { frames := 9, cells := 0, slots := 0, locals := 576 }) (hcs : True) {rr : Int32} {hh : Hp} (hF : FinR X (some (.int rr)) hh) : ∀ n : Nat, (∀ (h : Hp) (y1 : Int32) (y2 : Int32) (y3 : Int32), LX12_holdingOf  n h y1 y2 y3 = some (rr, hh) → VW X 4 h 0 0 9 [(0, .ref (gad (xG X) 208)), (1, .int y1), (2, .int y2), (3, .int y3)] []) := by
  intro n
  induction n with
  | zero => exact (fun _ _ _ _ hf => (by rw [LX12_holdingOf] at hf; cases hf))
  | succ n ih =>
    intro h y1 y2 y3 hf
    rw [LX12_holdingOf] at hf
    unfold BX12_holdingOf_0 at hf
    refine r_iload_n (i := 3) C dX12_holdingOf_9 rfl 3 rfl ?_
    refine r_bipush (v := 16) C dX12_holdingOf_10 (by decide) ?_
    refine r_icmp_ge C 47 dX12_holdingOf_12 (by decide) (fun c1 => ?_) (fun c1 => ?_)
    · rw [if_pos c1] at hf
      refine r_iload_n (i := 2) C dX12_holdingOf_47 rfl 2 rfl ?_
      cases hf
      exact r_iret C hF dX12_holdingOf_48
    · rw [if_neg c1] at hf
      refine r_iload_n (i := 2) C dX12_holdingOf_15 rfl 2 rfl ?_
      refine r_iload_n (i := 1) C dX12_holdingOf_16 rfl 1 rfl ?_
      refine r_iload_n (i := 3) C dX12_holdingOf_17 rfl 3 rfl ?_
      refine r_callSi (As := [.int y1, .int y3]) (st := [.int y2]) C (kX12_has (xG X)) cw_X12_69 rfl rfl (Nat.le_of_ble_eq_true rfl) (zr2 hR rfl rfl) (zrcs hcs) dX12_holdingOf_18 ?_
      refine r_if_eq C 38 dX12_holdingOf_21 (by decide) (fun c2 => ?_) (fun c2 => ?_)
      · rw [if_pos c2] at hf
        refine r_iconst (v := 0) C dX12_holdingOf_38 (by decide) ?_
        refine r_ior C dX12_holdingOf_39 ?_
        obtain ⟨x3, ex3, hf⟩ := lt_of hf
        refine r_top ex3 ?_
        refine r_istore_n (i := 2) (lv' := [(0, .ref (gad (xG X) 208)), (1, .int y1), (2, .int x3), (3, .int y3)]) C dX12_holdingOf_40 rfl (by decide) [1, 2, 0, 3] rfl ?_
        obtain ⟨x4, ex4, hf⟩ := lt_of hf
        refine r_iinc (j := 3) (v := x4) (lv' := [(0, .ref (gad (xG X) 208)), (1, .int y1), (2, .int x3), (3, .int x4)]) C dX12_holdingOf_41 rfl (by rw [ex4]; rfl) (by decide) [1, 2, 3, 0] rfl ?_
        refine r_goto C 9 dX12_holdingOf_44 (by decide) ?_
        exact r_lv [0, 1, 2, 3] rfl (ih _ _ _ _ hf)
      · rw [if_neg c2] at hf
        refine r_aload_n (i := 0) C dX12_holdingOf_24 rfl 0 rfl ?_
        refine r_iload_n (i := 3) C dX12_holdingOf_25 rfl 3 rfl ?_
        obtain ⟨x7, h5, e6, hf⟩ := cl2_of hf
        refine r_callVi (As := [.int y3]) (st := [.int y2]) C 208 rfl (by decide) rfl (kX12_doesHold (xG X) e6) cw_X12_287 rfl rfl (Nat.le_of_ble_eq_true rfl) (zr2 hR rfl rfl) (zrcs hcs) dX12_holdingOf_26 ?_
        refine r_if_eq C 38 dX12_holdingOf_29 (by decide) (fun c8 => ?_) (fun c8 => ?_)
        · rw [if_pos c8] at hf
          refine r_iconst (v := 0) C dX12_holdingOf_38 (by decide) ?_
          refine r_ior C dX12_holdingOf_39 ?_
          obtain ⟨x9, ex9, hf⟩ := lt_of hf
          refine r_top ex9 ?_
          refine r_istore_n (i := 2) (lv' := [(0, .ref (gad (xG X) 208)), (1, .int y1), (2, .int x9), (3, .int y3)]) C dX12_holdingOf_40 rfl (by decide) [1, 2, 0, 3] rfl ?_
          obtain ⟨x10, ex10, hf⟩ := lt_of hf
          refine r_iinc (j := 3) (v := x10) (lv' := [(0, .ref (gad (xG X) 208)), (1, .int y1), (2, .int x9), (3, .int x10)]) C dX12_holdingOf_41 rfl (by rw [ex10]; rfl) (by decide) [1, 2, 3, 0] rfl ?_
          refine r_goto C 9 dX12_holdingOf_44 (by decide) ?_
          exact r_lv [0, 1, 2, 3] rfl (ih _ _ _ _ hf)
        · rw [if_neg c8] at hf
          refine r_iconst (v := 1) C dX12_holdingOf_32 (by decide) ?_
          refine r_iload_n (i := 3) C dX12_holdingOf_33 rfl 3 rfl ?_
          refine r_ishl C dX12_holdingOf_34 ?_
          refine r_goto C 39 dX12_holdingOf_35 (by decide) ?_
          refine r_ior C dX12_holdingOf_39 ?_
          obtain ⟨x11, ex11, hf⟩ := lt_of hf
          refine r_top ex11 ?_
          refine r_istore_n (i := 2) (lv' := [(0, .ref (gad (xG X) 208)), (1, .int y1), (2, .int x11), (3, .int y3)]) C dX12_holdingOf_40 rfl (by decide) [1, 2, 0, 3] rfl ?_
          obtain ⟨x12, ex12, hf⟩ := lt_of hf
          refine r_iinc (j := 3) (v := x12) (lv' := [(0, .ref (gad (xG X) 208)), (1, .int y1), (2, .int x11), (3, .int x12)]) C dX12_holdingOf_41 rfl (by rw [ex12]; rfl) (by decide) [1, 2, 3, 0] rfl ?_
          refine r_goto C 9 dX12_holdingOf_44 (by decide) ?_
          exact r_lv [0, 1, 2, 3] rfl (ih _ _ _ _ hf)
set_option maxHeartbeats 4000000 in
set_option maxRecDepth 100000 in
theorem kX12_holdingOf (G : Gx)  {h : Hp} {a1 : Int32} {rr : Int32} {hh : Hp} (hf : fX12_holdingOf h a1 = some (rr, hh)) : MC G yX12_holdingOf cX12_holdingOf 4 (some .int) 9 576 h [.ref (gad G 208), .int a1] (some (.int rr)) hh := by
  refine MC.of RX12 (by decide) rfl (Nat.le_of_ble_eq_true rfl) rfl (fun X C hG hR hF => ?_)
  subst hG
  have hcs : True := trivial
  unfold fX12_holdingOf at hf
  refine r_aload_n (i := 0) C dX12_holdingOf_0 rfl 0 rfl ?_
  refine r_iload_n (i := 1) C dX12_holdingOf_1 rfl 1 rfl ?_
  obtain ⟨h13, eh13, hf⟩ := lt_of hf
  refine p_X12_250 C eh13 dX12_holdingOf_2 ?_
  refine r_iconst (v := 0) C dX12_holdingOf_5 (by decide) ?_
  refine r_istore_n (i := 2) (lv' := [(0, .ref (gad (xG X) 208)), (1, .int a1), (2, .int (0 : Int32))]) C dX12_holdingOf_6 rfl (by decide) [1, 2, 0] rfl ?_
  refine r_iconst (v := 0) C dX12_holdingOf_7 (by decide) ?_
  refine r_istore_n (i := 3) (lv' := [(0, .ref (gad (xG X) 208)), (1, .int a1), (2, .int (0 : Int32)), (3, .int (0 : Int32))]) C dX12_holdingOf_8 rfl (by decide) [1, 2, 3, 0] rfl ?_
  exact r_lv [0, 1, 2, 3] rfl ((wX12_holdingOf  C hR hcs hF big) _ _ _ _ hf)
def fX12_holdingNow (h : Hp) : Option (Int32 × Hp) := cl2 (fX12_holdingOf h (fX12_pins h)) (fun x3 h1 => some (x3, h1))
set_option maxHeartbeats 4000000 in
set_option maxRecDepth 100000 in
theorem kX12_holdingNow (G : Gx)  {h : Hp}  {rr : Int32} {hh : Hp} (hf : fX12_holdingNow h = some (rr, hh)) : MC G yX12_holdingNow cX12_holdingNow 1 (some .int) 10 640 h [.ref (gad G 208)] (some (.int rr)) hh := by
  refine MC.of RX12 (by decide) rfl (Nat.le_of_ble_eq_true rfl) rfl (fun X C hG hR hF => ?_)
  subst hG
  have hcs : True := trivial
  unfold fX12_holdingNow at hf
  refine r_aload_n (i := 0) C dX12_holdingNow_0 rfl 0 rfl ?_
  refine r_aload_n (i := 0) C dX12_holdingNow_1 rfl 0 rfl ?_
  refine r_callVi (As := []) (st := [.ref (gad (xG X) 208)]) C 208 rfl (by decide) rfl (kX12_pins (xG X)) cw_X12_65 rfl rfl (Nat.le_of_ble_eq_true rfl) (zr2 hR rfl rfl) (zrcs hcs) dX12_holdingNow_2 ?_
  obtain ⟨x3, h1, e2, hf⟩ := cl2_of hf
  refine r_callVi (As := [.int (fX12_pins h)]) (st := []) C 208 rfl (by decide) rfl (kX12_holdingOf (xG X) e2) cw_X12_290 rfl rfl (Nat.le_of_ble_eq_true rfl) (zr2 hR rfl rfl) (zrcs hcs) dX12_holdingNow_5 ?_
  cases hf
  exact r_iret C hF dX12_holdingNow_8
def BX12_skyBy_0 (h : Hp) (rec : Int32 → Int32 → Int32 → Int32 → Option (Int32)) (y1 : Int32) (y2 : Int32) (y3 : Int32) (y4 : Int32) : Option (Int32) := (if (16 : Int32) ≤ y4 then gd (inb ((46 : Int32) + y2) 2031) (some (jmax (0 : Int32) (y3 - ((2 : Int32) * (h 209 ((46 : Int32) + y2).toNatClampNeg))))) else (if (fX12_has y1 y4) = (0 : Int32) then lt9 (y4 + (1 : Int32)) (fun x4 => rec y1 y2 y3 x4) else lt9 (jmax y3 ((h 209 4) - ((h 209 5) * (jabs (y2 - y4))))) (fun x5 => lt9 (y4 + (1 : Int32)) (fun x6 => rec y1 y2 x5 x6))))
def LX12_skyBy (h : Hp) : Nat → Int32 → Int32 → Int32 → Int32 → Option (Int32)
  | 0, _, _, _, _ => none
  | n + 1, y1, y2, y3, y4 => BX12_skyBy_0 h (LX12_skyBy h n) y1 y2 y3 y4
def fX12_skyBy (h : Hp) (a1 : Int32) (a2 : Int32) : Option (Int32) := LX12_skyBy h big a1 a2 (0 : Int32) (0 : Int32)
set_option maxHeartbeats 4000000 in
set_option maxRecDepth 100000 in
theorem wX12_skyBy {X : Cx} {h : Hp}  (C : OK X cX12_skyBy 5 RX12 (some .int)) (hR : xR X = { frames := 3, cells := 0, slots := 0, locals := 192 }) (hcs : True) {rr : Int32} (hF : FinR X (some (.int rr)) h) : ∀ n : Nat, (∀ (y1 : Int32) (y2 : Int32) (y3 : Int32) (y4 : Int32), LX12_skyBy h n y1 y2 y3 y4 = some rr → VW X 5 h 0 0 5 [(0, .ref (gad (xG X) 208)), (1, .int y1), (2, .int y2), (3, .int y3), (4, .int y4)] []) := by
  intro n
  induction n with
  | zero => exact (fun _ _ _ _ hf => (by rw [LX12_skyBy] at hf; cases hf))
  | succ n ih =>
    intro y1 y2 y3 y4 hf
    rw [LX12_skyBy] at hf
    unfold BX12_skyBy_0 at hf
    refine r_iload (i := 4) C dX12_skyBy_5 4 rfl ?_
    refine r_bipush (v := 16) C dX12_skyBy_7 (by decide) ?_
    refine r_icmp_ge C 57 dX12_skyBy_9 (by decide) (fun c1 => ?_) (fun c1 => ?_)
    · rw [if_pos c1] at hf
      refine r_iconst (v := 0) C dX12_skyBy_57 (by decide) ?_
      refine r_iload_n (i := 3) C dX12_skyBy_58 rfl 3 rfl ?_
      refine r_iconst (v := 2) C dX12_skyBy_59 (by decide) ?_
      refine r_aload_n (i := 0) C dX12_skyBy_60 rfl 0 rfl ?_
      refine g_X12_13 C dX12_skyBy_61 ?_
      refine r_bipush (v := 46) C dX12_skyBy_64 (by decide) ?_
      refine r_iload_n (i := 2) C dX12_skyBy_66 rfl 2 rfl ?_
      refine r_iadd C dX12_skyBy_67 ?_
      obtain ⟨g2, hf⟩ := gd_of hf
      refine r_iald C 209 rfl (by decide) g2 dX12_skyBy_68 ?_
      refine r_imul C dX12_skyBy_69 ?_
      refine r_isub C dX12_skyBy_70 ?_
      refine r_mmax9 C gw_1806 gm_max_s gm_i gm_max_c (zr1 hR rfl) (zr0 hR (Nat.le_of_ble_eq_true rfl)) (zrcs hcs) dX12_skyBy_71 ?_
      cases hf
      exact r_iret C hF dX12_skyBy_74
    · rw [if_neg c1] at hf
      refine r_iload_n (i := 1) C dX12_skyBy_12 rfl 1 rfl ?_
      refine r_iload (i := 4) C dX12_skyBy_13 4 rfl ?_
      refine r_callSi (As := [.int y1, .int y4]) (st := []) C (kX12_has (xG X)) cw_X12_69 rfl rfl (Nat.le_of_ble_eq_true rfl) (zr2 hR rfl rfl) (zrcs hcs) dX12_skyBy_15 ?_
      refine r_if_eq C 49 dX12_skyBy_18 (by decide) (fun c3 => ?_) (fun c3 => ?_)
      · rw [if_pos c3] at hf
        refine r_iload_n (i := 3) C dX12_skyBy_49 rfl 3 rfl ?_
        refine r_istore_n (i := 3) (lv' := [(0, .ref (gad (xG X) 208)), (1, .int y1), (2, .int y2), (3, .int y3), (4, .int y4)]) C dX12_skyBy_50 rfl (by decide) [1, 2, 3, 0, 4] rfl ?_
        obtain ⟨x4, ex4, hf⟩ := lt_of hf
        refine r_iinc (j := 4) (v := x4) (lv' := [(0, .ref (gad (xG X) 208)), (1, .int y1), (2, .int y2), (3, .int y3), (4, .int x4)]) C dX12_skyBy_51 rfl (by rw [ex4]; rfl) (by decide) [1, 2, 3, 4, 0] rfl ?_
        refine r_goto C 5 dX12_skyBy_54 (by decide) ?_
        exact r_lv [0, 1, 2, 3, 4] rfl (ih _ _ _ _ hf)
      · rw [if_neg c3] at hf
        refine r_iload_n (i := 3) C dX12_skyBy_21 rfl 3 rfl ?_
        refine r_aload_n (i := 0) C dX12_skyBy_22 rfl 0 rfl ?_
        refine g_X12_13 C dX12_skyBy_23 ?_
        refine r_iconst (v := 4) C dX12_skyBy_26 (by decide) ?_
        refine r_ialdc C 209 (m := 4) rfl (by decide) (by decide) (show inb 4 2031 by decide) dX12_skyBy_27 ?_
        refine r_aload_n (i := 0) C dX12_skyBy_28 rfl 0 rfl ?_
        refine g_X12_13 C dX12_skyBy_29 ?_
        refine r_iconst (v := 5) C dX12_skyBy_32 (by decide) ?_
        refine r_ialdc C 209 (m := 5) rfl (by decide) (by decide) (show inb 5 2031 by decide) dX12_skyBy_33 ?_
        refine r_iload_n (i := 2) C dX12_skyBy_34 rfl 2 rfl ?_
        refine r_iload (i := 4) C dX12_skyBy_35 4 rfl ?_
        refine r_isub C dX12_skyBy_37 ?_
        refine r_mabs9 C gw_1796 gm_abs_s gm_i gm_abs_c (zr1 hR rfl) (zr0 hR (Nat.le_of_ble_eq_true rfl)) (zrcs hcs) dX12_skyBy_38 ?_
        refine r_imul C dX12_skyBy_41 ?_
        refine r_isub C dX12_skyBy_42 ?_
        refine r_mmax9 C gw_1806 gm_max_s gm_i gm_max_c (zr1 hR rfl) (zr0 hR (Nat.le_of_ble_eq_true rfl)) (zrcs hcs) dX12_skyBy_43 ?_
        refine r_goto C 50 dX12_skyBy_46 (by decide) ?_
        obtain ⟨x5, ex5, hf⟩ := lt_of hf
        refine r_top ex5 ?_
        refine r_istore_n (i := 3) (lv' := [(0, .ref (gad (xG X) 208)), (1, .int y1), (2, .int y2), (3, .int x5), (4, .int y4)]) C dX12_skyBy_50 rfl (by decide) [1, 2, 3, 0, 4] rfl ?_
        obtain ⟨x6, ex6, hf⟩ := lt_of hf
        refine r_iinc (j := 4) (v := x6) (lv' := [(0, .ref (gad (xG X) 208)), (1, .int y1), (2, .int y2), (3, .int x5), (4, .int x6)]) C dX12_skyBy_51 rfl (by rw [ex6]; rfl) (by decide) [1, 2, 3, 4, 0] rfl ?_
        refine r_goto C 5 dX12_skyBy_54 (by decide) ?_
        exact r_lv [0, 1, 2, 3, 4] rfl (ih _ _ _ _ hf)
set_option maxHeartbeats 4000000 in
set_option maxRecDepth 100000 in
theorem kX12_skyBy (G : Gx)  {h : Hp} {a1 : Int32} {a2 : Int32} {rr : Int32} (hf : fX12_skyBy h a1 a2 = some rr) : MC G yX12_skyBy cX12_skyBy 5 (some .int) 3 192 h [.ref (gad G 208), .int a1, .int a2] (some (.int rr)) h := by
  refine MC.of RX12 (by decide) rfl (Nat.le_of_ble_eq_true rfl) rfl (fun X C hG hR hF => ?_)
  subst hG
  have hcs : True := trivial
  unfold fX12_skyBy at hf
  refine r_iconst (v := 0) C dX12_skyBy_0 (by decide) ?_
  refine r_istore_n (i := 3) (lv' := [(0, .ref (gad (xG X) 208)), (1, .int a1), (2, .int a2), (3, .int (0 : Int32))]) C dX12_skyBy_1 rfl (by decide) [1, 2, 3, 0] rfl ?_
  refine r_iconst (v := 0) C dX12_skyBy_2 (by decide) ?_
  refine r_istore (i := 4) (lv' := [(0, .ref (gad (xG X) 208)), (1, .int a1), (2, .int a2), (3, .int (0 : Int32)), (4, .int (0 : Int32))]) C dX12_skyBy_3 (by decide) [1, 2, 3, 4, 0] rfl ?_
  exact r_lv [0, 1, 2, 3, 4] rfl ((wX12_skyBy  C hR hcs hF big) _ _ _ _ hf)
def BX12_standingBy_0 (h : Hp) (rec : Int32 → Int32 → Int32 → Option (Int32)) (y1 : Int32) (y2 : Int32) (y3 : Int32) : Option (Int32) := (if (16 : Int32) ≤ y3 then some y2 else cl9 (fX12_skyBy h y1 y3) (fun x2 => gd (inb ((14 : Int32) + y3) 2031) (gd (inb ((30 : Int32) + y3) 2031) ((if (x2 - (h 209 ((14 : Int32) + y3).toNatClampNeg)) < (h 209 ((30 : Int32) + y3).toNatClampNeg) then lt9 (y2 ||| (0 : Int32)) (fun x7 => lt9 (y3 + (1 : Int32)) (fun x8 => rec y1 x7 x8)) else lt9 (y2 ||| ((1 : Int32) <<< (y3 &&& 31))) (fun x9 => lt9 (y3 + (1 : Int32)) (fun x10 => rec y1 x9 x10)))))))
def LX12_standingBy (h : Hp) : Nat → Int32 → Int32 → Int32 → Option (Int32)
  | 0, _, _, _ => none
  | n + 1, y1, y2, y3 => BX12_standingBy_0 h (LX12_standingBy h n) y1 y2 y3
def fX12_standingBy (h : Hp) (a1 : Int32) : Option (Int32) := LX12_standingBy h big a1 (0 : Int32) (0 : Int32)
set_option maxHeartbeats 4000000 in
set_option maxRecDepth 100000 in
theorem wX12_standingBy {X : Cx} {h : Hp}  (C : OK X cX12_standingBy 4 RX12 (some .int)) (hR : xR X = { frames := 4, cells := 0, slots := 0, locals := 256 }) (hcs : True) {rr : Int32} (hF : FinR X (some (.int rr)) h) : ∀ n : Nat, (∀ (y1 : Int32) (y2 : Int32) (y3 : Int32), LX12_standingBy h n y1 y2 y3 = some rr → VW X 4 h 0 0 4 [(0, .ref (gad (xG X) 208)), (1, .int y1), (2, .int y2), (3, .int y3)] []) := by
  intro n
  induction n with
  | zero => exact (fun _ _ _ hf => (by rw [LX12_standingBy] at hf; cases hf))
  | succ n ih =>
    intro y1 y2 y3 hf
    rw [LX12_standingBy] at hf
    unfold BX12_standingBy_0 at hf
    refine r_iload_n (i := 3) C dX12_standingBy_4 rfl 3 rfl ?_
    refine r_bipush (v := 16) C dX12_standingBy_5 (by decide) ?_
    refine r_icmp_ge C 54 dX12_standingBy_7 (by decide) (fun c1 => ?_) (fun c1 => ?_)
    · rw [if_pos c1] at hf
      refine r_iload_n (i := 2) C dX12_standingBy_54 rfl 2 rfl ?_
      cases hf
      exact r_iret C hF dX12_standingBy_55
    · rw [if_neg c1] at hf
      refine r_iload_n (i := 2) C dX12_standingBy_10 rfl 2 rfl ?_
      refine r_aload_n (i := 0) C dX12_standingBy_11 rfl 0 rfl ?_
      refine r_iload_n (i := 1) C dX12_standingBy_12 rfl 1 rfl ?_
      refine r_iload_n (i := 3) C dX12_standingBy_13 rfl 3 rfl ?_
      obtain ⟨x2, e3, hf⟩ := cl_of hf
      refine r_callVi (As := [.int y1, .int y3]) (st := [.int y2]) C 208 rfl (by decide) rfl (kX12_skyBy (xG X) e3) cw_X12_296 rfl rfl (Nat.le_of_ble_eq_true rfl) (zr2 hR rfl rfl) (zrcs hcs) dX12_standingBy_14 ?_
      refine r_aload_n (i := 0) C dX12_standingBy_17 rfl 0 rfl ?_
      refine g_X12_13 C dX12_standingBy_18 ?_
      refine r_bipush (v := 14) C dX12_standingBy_21 (by decide) ?_
      refine r_iload_n (i := 3) C dX12_standingBy_23 rfl 3 rfl ?_
      refine r_iadd C dX12_standingBy_24 ?_
      obtain ⟨g4, hf⟩ := gd_of hf
      refine r_iald C 209 rfl (by decide) g4 dX12_standingBy_25 ?_
      refine r_isub C dX12_standingBy_26 ?_
      refine r_aload_n (i := 0) C dX12_standingBy_27 rfl 0 rfl ?_
      refine g_X12_13 C dX12_standingBy_28 ?_
      refine r_bipush (v := 30) C dX12_standingBy_31 (by decide) ?_
      refine r_iload_n (i := 3) C dX12_standingBy_33 rfl 3 rfl ?_
      refine r_iadd C dX12_standingBy_34 ?_
      obtain ⟨g5, hf⟩ := gd_of hf
      refine r_iald C 209 rfl (by decide) g5 dX12_standingBy_35 ?_
      refine r_icmp_lt C 45 dX12_standingBy_36 (by decide) (fun c6 => ?_) (fun c6 => ?_)
      · rw [if_pos c6] at hf
        refine r_iconst (v := 0) C dX12_standingBy_45 (by decide) ?_
        refine r_ior C dX12_standingBy_46 ?_
        obtain ⟨x7, ex7, hf⟩ := lt_of hf
        refine r_top ex7 ?_
        refine r_istore_n (i := 2) (lv' := [(0, .ref (gad (xG X) 208)), (1, .int y1), (2, .int x7), (3, .int y3)]) C dX12_standingBy_47 rfl (by decide) [1, 2, 0, 3] rfl ?_
        obtain ⟨x8, ex8, hf⟩ := lt_of hf
        refine r_iinc (j := 3) (v := x8) (lv' := [(0, .ref (gad (xG X) 208)), (1, .int y1), (2, .int x7), (3, .int x8)]) C dX12_standingBy_48 rfl (by rw [ex8]; rfl) (by decide) [1, 2, 3, 0] rfl ?_
        refine r_goto C 4 dX12_standingBy_51 (by decide) ?_
        exact r_lv [0, 1, 2, 3] rfl (ih _ _ _ hf)
      · rw [if_neg c6] at hf
        refine r_iconst (v := 1) C dX12_standingBy_39 (by decide) ?_
        refine r_iload_n (i := 3) C dX12_standingBy_40 rfl 3 rfl ?_
        refine r_ishl C dX12_standingBy_41 ?_
        refine r_goto C 46 dX12_standingBy_42 (by decide) ?_
        refine r_ior C dX12_standingBy_46 ?_
        obtain ⟨x9, ex9, hf⟩ := lt_of hf
        refine r_top ex9 ?_
        refine r_istore_n (i := 2) (lv' := [(0, .ref (gad (xG X) 208)), (1, .int y1), (2, .int x9), (3, .int y3)]) C dX12_standingBy_47 rfl (by decide) [1, 2, 0, 3] rfl ?_
        obtain ⟨x10, ex10, hf⟩ := lt_of hf
        refine r_iinc (j := 3) (v := x10) (lv' := [(0, .ref (gad (xG X) 208)), (1, .int y1), (2, .int x9), (3, .int x10)]) C dX12_standingBy_48 rfl (by rw [ex10]; rfl) (by decide) [1, 2, 3, 0] rfl ?_
        refine r_goto C 4 dX12_standingBy_51 (by decide) ?_
        exact r_lv [0, 1, 2, 3] rfl (ih _ _ _ hf)
set_option maxHeartbeats 4000000 in
set_option maxRecDepth 100000 in
theorem kX12_standingBy (G : Gx)  {h : Hp} {a1 : Int32} {rr : Int32} (hf : fX12_standingBy h a1 = some rr) : MC G yX12_standingBy cX12_standingBy 4 (some .int) 4 256 h [.ref (gad G 208), .int a1] (some (.int rr)) h := by
  refine MC.of RX12 (by decide) rfl (Nat.le_of_ble_eq_true rfl) rfl (fun X C hG hR hF => ?_)
  subst hG
  have hcs : True := trivial
  unfold fX12_standingBy at hf
  refine r_iconst (v := 0) C dX12_standingBy_0 (by decide) ?_
  refine r_istore_n (i := 2) (lv' := [(0, .ref (gad (xG X) 208)), (1, .int a1), (2, .int (0 : Int32))]) C dX12_standingBy_1 rfl (by decide) [1, 2, 0] rfl ?_
  refine r_iconst (v := 0) C dX12_standingBy_2 (by decide) ?_
  refine r_istore_n (i := 3) (lv' := [(0, .ref (gad (xG X) 208)), (1, .int a1), (2, .int (0 : Int32)), (3, .int (0 : Int32))]) C dX12_standingBy_3 rfl (by decide) [1, 2, 3, 0] rfl ?_
  exact r_lv [0, 1, 2, 3] rfl ((wX12_standingBy  C hR hcs hF big) _ _ _ hf)
def fX12_standingWith (h : Hp) (a1 : Int32) : Option (Int32 × Hp) := cl2 (fX12_holdingOf h a1) (fun x3 h1 => cl9 (fX12_standingBy h1 x3) (fun x4 => some (x4, h1)))
set_option maxHeartbeats 4000000 in
set_option maxRecDepth 100000 in
theorem kX12_standingWith (G : Gx)  {h : Hp} {a1 : Int32} {rr : Int32} {hh : Hp} (hf : fX12_standingWith h a1 = some (rr, hh)) : MC G yX12_standingWith cX12_standingWith 2 (some .int) 10 640 h [.ref (gad G 208), .int a1] (some (.int rr)) hh := by
  refine MC.of RX12 (by decide) rfl (Nat.le_of_ble_eq_true rfl) rfl (fun X C hG hR hF => ?_)
  subst hG
  have hcs : True := trivial
  unfold fX12_standingWith at hf
  refine r_aload_n (i := 0) C dX12_standingWith_0 rfl 0 rfl ?_
  refine r_aload_n (i := 0) C dX12_standingWith_1 rfl 0 rfl ?_
  refine r_iload_n (i := 1) C dX12_standingWith_2 rfl 1 rfl ?_
  obtain ⟨x3, h1, e2, hf⟩ := cl2_of hf
  refine r_callVi (As := [.int a1]) (st := [.ref (gad (xG X) 208)]) C 208 rfl (by decide) rfl (kX12_holdingOf (xG X) e2) cw_X12_290 rfl rfl (Nat.le_of_ble_eq_true rfl) (zr2 hR rfl rfl) (zrcs hcs) dX12_standingWith_3 ?_
  obtain ⟨x4, e5, hf⟩ := cl_of hf
  refine r_callVi (As := [.int x3]) (st := []) C 208 rfl (by decide) rfl (kX12_standingBy (xG X) e5) cw_X12_299 rfl rfl (Nat.le_of_ble_eq_true rfl) (zr2 hR rfl rfl) (zrcs hcs) dX12_standingWith_6 ?_
  cases hf
  exact r_iret C hF dX12_standingWith_9
def fX12_standingNow (h : Hp) : Option (Int32 × Hp) := cl2 (fX12_standingWith h (fX12_pins h)) (fun x3 h1 => some (x3, h1))
set_option maxHeartbeats 4000000 in
set_option maxRecDepth 100000 in
theorem kX12_standingNow (G : Gx)  {h : Hp}  {rr : Int32} {hh : Hp} (hf : fX12_standingNow h = some (rr, hh)) : MC G yX12_standingNow cX12_standingNow 1 (some .int) 11 704 h [.ref (gad G 208)] (some (.int rr)) hh := by
  refine MC.of RX12 (by decide) rfl (Nat.le_of_ble_eq_true rfl) rfl (fun X C hG hR hF => ?_)
  subst hG
  have hcs : True := trivial
  unfold fX12_standingNow at hf
  refine r_aload_n (i := 0) C dX12_standingNow_0 rfl 0 rfl ?_
  refine r_aload_n (i := 0) C dX12_standingNow_1 rfl 0 rfl ?_
  refine r_callVi (As := []) (st := [.ref (gad (xG X) 208)]) C 208 rfl (by decide) rfl (kX12_pins (xG X)) cw_X12_65 rfl rfl (Nat.le_of_ble_eq_true rfl) (zr2 hR rfl rfl) (zrcs hcs) dX12_standingNow_2 ?_
  obtain ⟨x3, h1, e2, hf⟩ := cl2_of hf
  refine r_callVi (As := [.int (fX12_pins h)]) (st := []) C 208 rfl (by decide) rfl (kX12_standingWith (xG X) e2) cw_X12_302 rfl rfl (Nat.le_of_ble_eq_true rfl) (zr2 hR rfl rfl) (zrcs hcs) dX12_standingNow_5 ?_
  cases hf
  exact r_iret C hF dX12_standingNow_8
def fX12_place (h : Hp) (a1 : Int32) (a2 : Int32) : Option (Int32 × Hp) := lt9 (up2 h 208 0 (0 : Int32)) (fun h1 => cl2 (fX12_throwsIf h1 (fX12_noPlace a1) (1 : Int32)) (fun x4 h2 => (if x4 = (0 : Int32) then cl9 ((if (fX12_in a2 (0 : Int32) (9 : Int32)) = (0 : Int32) then some (1 : Int32) else some (0 : Int32)) : Option (Int32)) (fun v6 => cl2 (fX12_throwsIf h2 v6 (2 : Int32)) (fun x12 h10 => (if x12 = (0 : Int32) then cl2 (fX12_holdingNow h10) (fun x16 h14 => (if a2 = (0 : Int32) then gd (inb ((14 : Int32) + a1) 2031) (some ((h14 209 ((14 : Int32) + a1).toNatClampNeg), h14)) else (if a2 = (1 : Int32) then gd (inb ((30 : Int32) + a1) 2031) (some ((h14 209 ((30 : Int32) + a1).toNatClampNeg), h14)) else (if a2 = (2 : Int32) then gd (inb ((46 : Int32) + a1) 2031) (some ((h14 209 ((46 : Int32) + a1).toNatClampNeg), h14)) else (if a2 = (3 : Int32) then (if (fX12_hasLadder h14 a1) = (0 : Int32) then some ((0 : Int32), h14) else some ((1 : Int32), h14)) else (if a2 = (4 : Int32) then (if (fX12_hasPin h14 a1) = (0 : Int32) then some ((0 : Int32), h14) else some ((1 : Int32), h14)) else (if a2 = (5 : Int32) then cl9 (fX12_rustOf h14 a1) (fun x28 => some (x28, h14)) else (if a2 = (6 : Int32) then cl2 (fX12_strainOf h14 a1) (fun x33 h31 => some (x33, h31)) else (if a2 = (7 : Int32) then some (((x16 >>> (a1 &&& 31)) &&& (1 : Int32)), h14) else (if a2 = (8 : Int32) then cl9 (fX12_skyBy h14 x16 a1) (fun x36 => some (x36, h14)) else cl9 (fX12_standingBy h14 x16) (fun x38 => some (((x38 >>> (a1 &&& 31)) &&& (1 : Int32)), h14)))))))))))) else some ((0 : Int32), h10)))) else some ((0 : Int32), h2))))
set_option maxHeartbeats 4000000 in
set_option maxRecDepth 100000 in
theorem kX12_place (G : Gx)  {h : Hp} {a1 : Int32} {a2 : Int32} {rr : Int32} {hh : Hp} (hf : fX12_place h a1 a2 = some (rr, hh)) : MC G yX12_place cX12_place 4 (some .int) 11 704 h [.ref (gad G 208), .int a1, .int a2] (some (.int rr)) hh := by
  refine MC.of RX12 (by decide) rfl (Nat.le_of_ble_eq_true rfl) rfl (fun X C hG hR hF => ?_)
  subst hG
  have hcs : True := trivial
  unfold fX12_place at hf
  refine r_aload_n (i := 0) C dX12_place_0 rfl 0 rfl ?_
  refine r_iconst (v := 0) C dX12_place_1 (by decide) ?_
  obtain ⟨h1, eh1, hf⟩ := lt_of hf
  refine p_X12_3 C eh1 dX12_place_2 ?_
  refine r_aload_n (i := 0) C dX12_place_5 rfl 0 rfl ?_
  refine r_iload_n (i := 1) C dX12_place_6 rfl 1 rfl ?_
  refine r_callSi (As := [.int a1]) (st := [.ref (gad (xG X) 208)]) C (kX12_noPlace (xG X)) cw_X12_305 rfl rfl (Nat.le_of_ble_eq_true rfl) (zr2 hR rfl rfl) (zrcs hcs) dX12_place_7 ?_
  refine r_iconst (v := 1) C dX12_place_10 (by decide) ?_
  obtain ⟨x4, h2, e3, hf⟩ := cl2_of hf
  refine r_callVi (As := [.int (fX12_noPlace a1), .int (1 : Int32)]) (st := []) C 208 rfl (by decide) rfl (kX12_throwsIf (xG X) e3) cw_X12_247 rfl rfl (Nat.le_of_ble_eq_true rfl) (zr2 hR rfl rfl) (zrcs hcs) dX12_place_11 ?_
  refine r_if_ne C 40 dX12_place_14 (by decide) (fun c5 => ?_) (fun c5 => ?_)
  · rw [if_neg c5] at hf
    refine r_iconst (v := 0) C dX12_place_40 (by decide) ?_
    cases hf
    exact r_iret C hF dX12_place_41
  · rw [if_pos c5] at hf
    refine r_aload_n (i := 0) C dX12_place_17 rfl 0 rfl ?_
    refine r_iload_n (i := 2) C dX12_place_18 rfl 2 rfl ?_
    refine r_iconst (v := 0) C dX12_place_19 (by decide) ?_
    refine r_bipush (v := 9) C dX12_place_20 (by decide) ?_
    refine r_callSi (As := [.int a2, .int (0 : Int32), .int (9 : Int32)]) (st := [.ref (gad (xG X) 208)]) C (kX12_in (xG X)) cw_X12_76 rfl rfl (Nat.le_of_ble_eq_true rfl) (zr2 hR rfl rfl) (zrcs hcs) dX12_place_22 ?_
    obtain ⟨v6, r8, hf⟩ := cl_of hf
    have k7 : VW X 4 h2 0 0 33 [(0, .ref (gad (xG X) 208)), (1, .int a1), (2, .int a2)] [.int v6, .ref (gad (xG X) 208)] := by
      refine r_iconst (v := 2) C dX12_place_33 (by decide) ?_
      obtain ⟨x12, h10, e11, hf⟩ := cl2_of hf
      refine r_callVi (As := [.int v6, .int (2 : Int32)]) (st := []) C 208 rfl (by decide) rfl (kX12_throwsIf (xG X) e11) cw_X12_247 rfl rfl (Nat.le_of_ble_eq_true rfl) (zr2 hR rfl rfl) (zrcs hcs) dX12_place_34 ?_
      refine r_if_eq C 42 dX12_place_37 (by decide) (fun c13 => ?_) (fun c13 => ?_)
      · rw [if_pos c13] at hf
        refine r_aload_n (i := 0) C dX12_place_42 rfl 0 rfl ?_
        obtain ⟨x16, h14, e15, hf⟩ := cl2_of hf
        refine r_callVi (As := []) (st := []) C 208 rfl (by decide) rfl (kX12_holdingNow (xG X) e15) cw_X12_308 rfl rfl (Nat.le_of_ble_eq_true rfl) (zr2 hR rfl rfl) (zrcs hcs) dX12_place_43 ?_
        refine r_istore_n (i := 3) (lv' := [(0, .ref (gad (xG X) 208)), (1, .int a1), (2, .int a2), (3, .int x16)]) C dX12_place_46 rfl (by decide) [1, 2, 3, 0] rfl ?_
        refine r_iload_n (i := 2) C dX12_place_47 rfl 2 rfl ?_
        by_cases c17 : a2 = (0 : Int32)
        · rw [if_pos c17] at hf
          refine r_tableIn C 100 dX12_place_48 (by rw [c17] <;> decide) (by rw [c17] <;> decide) (by rw [c17] <;> rfl) (by decide) ?_
          refine r_aload_n (i := 0) C dX12_place_100 rfl 0 rfl ?_
          refine g_X12_13 C dX12_place_101 ?_
          refine r_bipush (v := 14) C dX12_place_104 (by decide) ?_
          refine r_iload_n (i := 1) C dX12_place_106 rfl 1 rfl ?_
          refine r_iadd C dX12_place_107 ?_
          obtain ⟨g18, hf⟩ := gd_of hf
          refine r_iald C 209 rfl (by decide) g18 dX12_place_108 ?_
          cases hf
          exact r_iret C hF dX12_place_109
        · rw [if_neg c17] at hf
          by_cases c19 : a2 = (1 : Int32)
          · rw [if_pos c19] at hf
            refine r_tableIn C 110 dX12_place_48 (by rw [c19] <;> decide) (by rw [c19] <;> decide) (by rw [c19] <;> rfl) (by decide) ?_
            refine r_aload_n (i := 0) C dX12_place_110 rfl 0 rfl ?_
            refine g_X12_13 C dX12_place_111 ?_
            refine r_bipush (v := 30) C dX12_place_114 (by decide) ?_
            refine r_iload_n (i := 1) C dX12_place_116 rfl 1 rfl ?_
            refine r_iadd C dX12_place_117 ?_
            obtain ⟨g20, hf⟩ := gd_of hf
            refine r_iald C 209 rfl (by decide) g20 dX12_place_118 ?_
            cases hf
            exact r_iret C hF dX12_place_119
          · rw [if_neg c19] at hf
            by_cases c21 : a2 = (2 : Int32)
            · rw [if_pos c21] at hf
              refine r_tableIn C 120 dX12_place_48 (by rw [c21] <;> decide) (by rw [c21] <;> decide) (by rw [c21] <;> rfl) (by decide) ?_
              refine r_aload_n (i := 0) C dX12_place_120 rfl 0 rfl ?_
              refine g_X12_13 C dX12_place_121 ?_
              refine r_bipush (v := 46) C dX12_place_124 (by decide) ?_
              refine r_iload_n (i := 1) C dX12_place_126 rfl 1 rfl ?_
              refine r_iadd C dX12_place_127 ?_
              obtain ⟨g22, hf⟩ := gd_of hf
              refine r_iald C 209 rfl (by decide) g22 dX12_place_128 ?_
              cases hf
              exact r_iret C hF dX12_place_129
            · rw [if_neg c21] at hf
              by_cases c23 : a2 = (3 : Int32)
              · rw [if_pos c23] at hf
                refine r_tableIn C 130 dX12_place_48 (by rw [c23] <;> decide) (by rw [c23] <;> decide) (by rw [c23] <;> rfl) (by decide) ?_
                refine r_aload_n (i := 0) C dX12_place_130 rfl 0 rfl ?_
                refine r_iload_n (i := 1) C dX12_place_131 rfl 1 rfl ?_
                refine r_callVi (As := [.int a1]) (st := []) C 208 rfl (by decide) rfl (kX12_hasLadder (xG X)) cw_X12_268 rfl rfl (Nat.le_of_ble_eq_true rfl) (zr2 hR rfl rfl) (zrcs hcs) dX12_place_132 ?_
                refine r_if_eq C 142 dX12_place_135 (by decide) (fun c24 => ?_) (fun c24 => ?_)
                · rw [if_pos c24] at hf
                  refine r_iconst (v := 0) C dX12_place_142 (by decide) ?_
                  cases hf
                  exact r_iret C hF dX12_place_143
                · rw [if_neg c24] at hf
                  refine r_iconst (v := 1) C dX12_place_138 (by decide) ?_
                  refine r_goto C 143 dX12_place_139 (by decide) ?_
                  cases hf
                  exact r_iret C hF dX12_place_143
              · rw [if_neg c23] at hf
                by_cases c25 : a2 = (4 : Int32)
                · rw [if_pos c25] at hf
                  refine r_tableIn C 144 dX12_place_48 (by rw [c25] <;> decide) (by rw [c25] <;> decide) (by rw [c25] <;> rfl) (by decide) ?_
                  refine r_aload_n (i := 0) C dX12_place_144 rfl 0 rfl ?_
                  refine r_iload_n (i := 1) C dX12_place_145 rfl 1 rfl ?_
                  refine r_callVi (As := [.int a1]) (st := []) C 208 rfl (by decide) rfl (kX12_hasPin (xG X)) cw_X12_122 rfl rfl (Nat.le_of_ble_eq_true rfl) (zr2 hR rfl rfl) (zrcs hcs) dX12_place_146 ?_
                  refine r_if_eq C 156 dX12_place_149 (by decide) (fun c26 => ?_) (fun c26 => ?_)
                  · rw [if_pos c26] at hf
                    refine r_iconst (v := 0) C dX12_place_156 (by decide) ?_
                    cases hf
                    exact r_iret C hF dX12_place_157
                  · rw [if_neg c26] at hf
                    refine r_iconst (v := 1) C dX12_place_152 (by decide) ?_
                    refine r_goto C 157 dX12_place_153 (by decide) ?_
                    cases hf
                    exact r_iret C hF dX12_place_157
                · rw [if_neg c25] at hf
                  by_cases c27 : a2 = (5 : Int32)
                  · rw [if_pos c27] at hf
                    refine r_tableIn C 158 dX12_place_48 (by rw [c27] <;> decide) (by rw [c27] <;> decide) (by rw [c27] <;> rfl) (by decide) ?_
                    refine r_aload_n (i := 0) C dX12_place_158 rfl 0 rfl ?_
                    refine r_iload_n (i := 1) C dX12_place_159 rfl 1 rfl ?_
                    obtain ⟨x28, e29, hf⟩ := cl_of hf
                    refine r_callVi (As := [.int a1]) (st := []) C 208 rfl (by decide) rfl (kX12_rustOf (xG X) e29) cw_X12_262 rfl rfl (Nat.le_of_ble_eq_true rfl) (zr2 hR rfl rfl) (zrcs hcs) dX12_place_160 ?_
                    cases hf
                    exact r_iret C hF dX12_place_163
                  · rw [if_neg c27] at hf
                    by_cases c30 : a2 = (6 : Int32)
                    · rw [if_pos c30] at hf
                      refine r_tableIn C 164 dX12_place_48 (by rw [c30] <;> decide) (by rw [c30] <;> decide) (by rw [c30] <;> rfl) (by decide) ?_
                      refine r_aload_n (i := 0) C dX12_place_164 rfl 0 rfl ?_
                      refine r_iload_n (i := 1) C dX12_place_165 rfl 1 rfl ?_
                      obtain ⟨x33, h31, e32, hf⟩ := cl2_of hf
                      refine r_callVi (As := [.int a1]) (st := []) C 208 rfl (by decide) rfl (kX12_strainOf (xG X) e32) cw_X12_284 rfl rfl (Nat.le_of_ble_eq_true rfl) (zr2 hR rfl rfl) (zrcs hcs) dX12_place_166 ?_
                      cases hf
                      exact r_iret C hF dX12_place_169
                    · rw [if_neg c30] at hf
                      by_cases c34 : a2 = (7 : Int32)
                      · rw [if_pos c34] at hf
                        refine r_tableIn C 170 dX12_place_48 (by rw [c34] <;> decide) (by rw [c34] <;> decide) (by rw [c34] <;> rfl) (by decide) ?_
                        refine r_iload_n (i := 3) C dX12_place_170 rfl 3 rfl ?_
                        refine r_iload_n (i := 1) C dX12_place_171 rfl 1 rfl ?_
                        refine r_ishr C dX12_place_172 ?_
                        refine r_iconst (v := 1) C dX12_place_173 (by decide) ?_
                        refine r_iand C dX12_place_174 ?_
                        cases hf
                        exact r_iret C hF dX12_place_175
                      · rw [if_neg c34] at hf
                        by_cases c35 : a2 = (8 : Int32)
                        · rw [if_pos c35] at hf
                          refine r_tableIn C 176 dX12_place_48 (by rw [c35] <;> decide) (by rw [c35] <;> decide) (by rw [c35] <;> rfl) (by decide) ?_
                          refine r_aload_n (i := 0) C dX12_place_176 rfl 0 rfl ?_
                          refine r_iload_n (i := 3) C dX12_place_177 rfl 3 rfl ?_
                          refine r_iload_n (i := 1) C dX12_place_178 rfl 1 rfl ?_
                          obtain ⟨x36, e37, hf⟩ := cl_of hf
                          refine r_callVi (As := [.int x16, .int a1]) (st := []) C 208 rfl (by decide) rfl (kX12_skyBy (xG X) e37) cw_X12_296 rfl rfl (Nat.le_of_ble_eq_true rfl) (zr2 hR rfl rfl) (zrcs hcs) dX12_place_179 ?_
                          cases hf
                          exact r_iret C hF dX12_place_182
                        · rw [if_neg c35] at hf
                          refine r_tableOut C 183 dX12_place_48 (sw_out2 (0) (8) 9 (by decide) ?_ (by decide) (by decide)) (by decide) ?_
                          · intro k9 h9
                            match k9, h9 with
                            | 0, _ => exact fun e9 => c17 (e9.trans (by decide))
                            | 1, _ => exact fun e9 => c19 (e9.trans (by decide))
                            | 2, _ => exact fun e9 => c21 (e9.trans (by decide))
                            | 3, _ => exact fun e9 => c23 (e9.trans (by decide))
                            | 4, _ => exact fun e9 => c25 (e9.trans (by decide))
                            | 5, _ => exact fun e9 => c27 (e9.trans (by decide))
                            | 6, _ => exact fun e9 => c30 (e9.trans (by decide))
                            | 7, _ => exact fun e9 => c34 (e9.trans (by decide))
                            | 8, _ => exact fun e9 => c35 (e9.trans (by decide))
                            | k9 + 9, h9 => exact absurd h9 (by omega)
                          refine r_aload_n (i := 0) C dX12_place_183 rfl 0 rfl ?_
                          refine r_iload_n (i := 3) C dX12_place_184 rfl 3 rfl ?_
                          obtain ⟨x38, e39, hf⟩ := cl_of hf
                          refine r_callVi (As := [.int x16]) (st := []) C 208 rfl (by decide) rfl (kX12_standingBy (xG X) e39) cw_X12_299 rfl rfl (Nat.le_of_ble_eq_true rfl) (zr2 hR rfl rfl) (zrcs hcs) dX12_place_185 ?_
                          refine r_iload_n (i := 1) C dX12_place_188 rfl 1 rfl ?_
                          refine r_ishr C dX12_place_189 ?_
                          refine r_iconst (v := 1) C dX12_place_190 (by decide) ?_
                          refine r_iand C dX12_place_191 ?_
                          cases hf
                          exact r_iret C hF dX12_place_192
      · rw [if_neg c13] at hf
        refine r_iconst (v := 0) C dX12_place_40 (by decide) ?_
        cases hf
        exact r_iret C hF dX12_place_41
    clear hf
    have hf := r8
    refine r_if_ne C 32 dX12_place_25 (by decide) (fun c9 => ?_) (fun c9 => ?_)
    · rw [if_neg c9] at hf
      refine r_iconst (v := 0) C dX12_place_32 (by decide) ?_
      cases hf
      exact k7
    · rw [if_pos c9] at hf
      refine r_iconst (v := 1) C dX12_place_28 (by decide) ?_
      refine r_goto C 33 dX12_place_29 (by decide) ?_
      cases hf
      exact k7
def fX12_pinner (h : Hp) (a1 : Int32) (a2 : Int32) : Option (Int32 × Hp) := lt9 (up2 h 208 0 (0 : Int32)) (fun h1 => cl2 (fX12_throwsIf h1 (fX12_noPinner h1 a1) (1 : Int32)) (fun x4 h2 => (if x4 = (0 : Int32) then cl9 ((if (fX12_in a2 (0 : Int32) (2 : Int32)) = (0 : Int32) then some (1 : Int32) else some (0 : Int32)) : Option (Int32)) (fun v6 => cl2 (fX12_throwsIf h2 v6 (2 : Int32)) (fun x12 h10 => (if x12 = (0 : Int32) then cl9 (fX12_of h10 a1 a2) (fun x14 => some (x14, h10)) else some ((0 : Int32), h10)))) else some ((0 : Int32), h2))))
set_option maxHeartbeats 4000000 in
set_option maxRecDepth 100000 in
theorem kX12_pinner (G : Gx)  {h : Hp} {a1 : Int32} {a2 : Int32} {rr : Int32} {hh : Hp} (hf : fX12_pinner h a1 a2 = some (rr, hh)) : MC G yX12_pinner cX12_pinner 3 (some .int) 3 192 h [.ref (gad G 208), .int a1, .int a2] (some (.int rr)) hh := by
  refine MC.of RX12 (by decide) rfl (Nat.le_of_ble_eq_true rfl) rfl (fun X C hG hR hF => ?_)
  subst hG
  have hcs : True := trivial
  unfold fX12_pinner at hf
  refine r_aload_n (i := 0) C dX12_pinner_0 rfl 0 rfl ?_
  refine r_iconst (v := 0) C dX12_pinner_1 (by decide) ?_
  obtain ⟨h1, eh1, hf⟩ := lt_of hf
  refine p_X12_3 C eh1 dX12_pinner_2 ?_
  refine r_aload_n (i := 0) C dX12_pinner_5 rfl 0 rfl ?_
  refine r_aload_n (i := 0) C dX12_pinner_6 rfl 0 rfl ?_
  refine r_iload_n (i := 1) C dX12_pinner_7 rfl 1 rfl ?_
  refine r_callVi (As := [.int a1]) (st := [.ref (gad (xG X) 208)]) C 208 rfl (by decide) rfl (kX12_noPinner (xG X)) cw_X12_311 rfl rfl (Nat.le_of_ble_eq_true rfl) (zr2 hR rfl rfl) (zrcs hcs) dX12_pinner_8 ?_
  refine r_iconst (v := 1) C dX12_pinner_11 (by decide) ?_
  obtain ⟨x4, h2, e3, hf⟩ := cl2_of hf
  refine r_callVi (As := [.int (fX12_noPinner h1 a1), .int (1 : Int32)]) (st := []) C 208 rfl (by decide) rfl (kX12_throwsIf (xG X) e3) cw_X12_247 rfl rfl (Nat.le_of_ble_eq_true rfl) (zr2 hR rfl rfl) (zrcs hcs) dX12_pinner_12 ?_
  refine r_if_ne C 40 dX12_pinner_15 (by decide) (fun c5 => ?_) (fun c5 => ?_)
  · rw [if_neg c5] at hf
    refine r_iconst (v := 0) C dX12_pinner_40 (by decide) ?_
    refine r_goto C 50 dX12_pinner_41 (by decide) ?_
    cases hf
    exact r_iret C hF dX12_pinner_50
  · rw [if_pos c5] at hf
    refine r_aload_n (i := 0) C dX12_pinner_18 rfl 0 rfl ?_
    refine r_iload_n (i := 2) C dX12_pinner_19 rfl 2 rfl ?_
    refine r_iconst (v := 0) C dX12_pinner_20 (by decide) ?_
    refine r_iconst (v := 2) C dX12_pinner_21 (by decide) ?_
    refine r_callSi (As := [.int a2, .int (0 : Int32), .int (2 : Int32)]) (st := [.ref (gad (xG X) 208)]) C (kX12_in (xG X)) cw_X12_76 rfl rfl (Nat.le_of_ble_eq_true rfl) (zr2 hR rfl rfl) (zrcs hcs) dX12_pinner_22 ?_
    obtain ⟨v6, r8, hf⟩ := cl_of hf
    have k7 : VW X 3 h2 0 0 33 [(0, .ref (gad (xG X) 208)), (1, .int a1), (2, .int a2)] [.int v6, .ref (gad (xG X) 208)] := by
      refine r_iconst (v := 2) C dX12_pinner_33 (by decide) ?_
      obtain ⟨x12, h10, e11, hf⟩ := cl2_of hf
      refine r_callVi (As := [.int v6, .int (2 : Int32)]) (st := []) C 208 rfl (by decide) rfl (kX12_throwsIf (xG X) e11) cw_X12_247 rfl rfl (Nat.le_of_ble_eq_true rfl) (zr2 hR rfl rfl) (zrcs hcs) dX12_pinner_34 ?_
      refine r_if_eq C 44 dX12_pinner_37 (by decide) (fun c13 => ?_) (fun c13 => ?_)
      · rw [if_pos c13] at hf
        refine r_aload_n (i := 0) C dX12_pinner_44 rfl 0 rfl ?_
        refine r_iload_n (i := 1) C dX12_pinner_45 rfl 1 rfl ?_
        refine r_iload_n (i := 2) C dX12_pinner_46 rfl 2 rfl ?_
        obtain ⟨x14, e15, hf⟩ := cl_of hf
        refine r_callVi (As := [.int a1, .int a2]) (st := []) C 208 rfl (by decide) rfl (kX12_of (xG X) e15) cw_X12_314 rfl rfl (Nat.le_of_ble_eq_true rfl) (zr2 hR rfl rfl) (zrcs hcs) dX12_pinner_47 ?_
        cases hf
        exact r_iret C hF dX12_pinner_50
      · rw [if_neg c13] at hf
        refine r_iconst (v := 0) C dX12_pinner_40 (by decide) ?_
        refine r_goto C 50 dX12_pinner_41 (by decide) ?_
        cases hf
        exact r_iret C hF dX12_pinner_50
    clear hf
    have hf := r8
    refine r_if_ne C 32 dX12_pinner_25 (by decide) (fun c9 => ?_) (fun c9 => ?_)
    · rw [if_neg c9] at hf
      refine r_iconst (v := 0) C dX12_pinner_32 (by decide) ?_
      cases hf
      exact k7
    · rw [if_pos c9] at hf
      refine r_iconst (v := 1) C dX12_pinner_28 (by decide) ?_
      refine r_goto C 33 dX12_pinner_29 (by decide) ?_
      cases hf
      exact k7
def fX12_rusts (h : Hp) (a1 : Int32) : Option (Int32 × Hp) := lt9 (up2 h 208 0 (0 : Int32)) (fun h1 => cl2 (fX12_throwsIf h1 (fX12_noPlace a1) (1 : Int32)) (fun x4 h2 => cl9 ((if x4 = (0 : Int32) then (if (fX12_hasPin h2 a1) = (0 : Int32) then some true else some false) else some true) : Option Bool) (fun q5 => if q5 = true then some ((0 : Int32), h2) else lt9 (up2 h2 208 18 (fX12_pins h2)) (fun h11 => cl2 (fX12_rustsBy h11 a1) (fun x14 h12 => some (x14, h12))))))
set_option maxHeartbeats 4000000 in
set_option maxRecDepth 100000 in
theorem kX12_rusts (G : Gx)  {h : Hp} {a1 : Int32} {rr : Int32} {hh : Hp} (hf : fX12_rusts h a1 = some (rr, hh)) : MC G yX12_rusts cX12_rusts 2 (some .int) 8 512 h [.ref (gad G 208), .int a1] (some (.int rr)) hh := by
  refine MC.of RX12 (by decide) rfl (Nat.le_of_ble_eq_true rfl) rfl (fun X C hG hR hF => ?_)
  subst hG
  have hcs : True := trivial
  unfold fX12_rusts at hf
  refine r_aload_n (i := 0) C dX12_rusts_0 rfl 0 rfl ?_
  refine r_iconst (v := 0) C dX12_rusts_1 (by decide) ?_
  obtain ⟨h1, eh1, hf⟩ := lt_of hf
  refine p_X12_3 C eh1 dX12_rusts_2 ?_
  refine r_aload_n (i := 0) C dX12_rusts_5 rfl 0 rfl ?_
  refine r_iload_n (i := 1) C dX12_rusts_6 rfl 1 rfl ?_
  refine r_callSi (As := [.int a1]) (st := [.ref (gad (xG X) 208)]) C (kX12_noPlace (xG X)) cw_X12_305 rfl rfl (Nat.le_of_ble_eq_true rfl) (zr2 hR rfl rfl) (zrcs hcs) dX12_rusts_7 ?_
  refine r_iconst (v := 1) C dX12_rusts_10 (by decide) ?_
  obtain ⟨x4, h2, e3, hf⟩ := cl2_of hf
  refine r_callVi (As := [.int (fX12_noPlace a1), .int (1 : Int32)]) (st := []) C 208 rfl (by decide) rfl (kX12_throwsIf (xG X) e3) cw_X12_247 rfl rfl (Nat.le_of_ble_eq_true rfl) (zr2 hR rfl rfl) (zrcs hcs) dX12_rusts_11 ?_
  obtain ⟨q5, r8, hf⟩ := cl_of hf
  have k6 : q5 = true → VW X 2 h2 0 0 25 [(0, .ref (gad (xG X) 208)), (1, .int a1)] [] := fun qq => by
    rw [if_pos qq] at hf
    refine r_iconst (v := 0) C dX12_rusts_25 (by decide) ?_
    cases hf
    exact r_iret C hF dX12_rusts_26
  have k7 : q5 = false → VW X 2 h2 0 0 27 [(0, .ref (gad (xG X) 208)), (1, .int a1)] [] := fun qq => by
    rw [if_neg (by rw [qq]; decide)] at hf
    refine r_aload_n (i := 0) C dX12_rusts_27 rfl 0 rfl ?_
    refine r_aload_n (i := 0) C dX12_rusts_28 rfl 0 rfl ?_
    refine r_callVi (As := []) (st := [.ref (gad (xG X) 208)]) C 208 rfl (by decide) rfl (kX12_pins (xG X)) cw_X12_65 rfl rfl (Nat.le_of_ble_eq_true rfl) (zr2 hR rfl rfl) (zrcs hcs) dX12_rusts_29 ?_
    obtain ⟨h11, eh11, hf⟩ := lt_of hf
    refine p_X12_250 C eh11 dX12_rusts_32 ?_
    refine r_aload_n (i := 0) C dX12_rusts_35 rfl 0 rfl ?_
    refine r_iload_n (i := 1) C dX12_rusts_36 rfl 1 rfl ?_
    obtain ⟨x14, h12, e13, hf⟩ := cl2_of hf
    refine r_callVi (As := [.int a1]) (st := []) C 208 rfl (by decide) rfl (kX12_rustsBy (xG X) e13) cw_X12_317 rfl rfl (Nat.le_of_ble_eq_true rfl) (zr2 hR rfl rfl) (zrcs hcs) dX12_rusts_37 ?_
    cases hf
    exact r_iret C hF dX12_rusts_40
  clear hf
  have hf := r8
  refine r_if_ne C 25 dX12_rusts_14 (by decide) (fun c9 => ?_) (fun c9 => ?_)
  · rw [if_neg c9] at hf
    exact k6 (Option.some.inj hf).symm
  · rw [if_pos c9] at hf
    refine r_aload_n (i := 0) C dX12_rusts_17 rfl 0 rfl ?_
    refine r_iload_n (i := 1) C dX12_rusts_18 rfl 1 rfl ?_
    refine r_callVi (As := [.int a1]) (st := []) C 208 rfl (by decide) rfl (kX12_hasPin (xG X)) cw_X12_122 rfl rfl (Nat.le_of_ble_eq_true rfl) (zr2 hR rfl rfl) (zrcs hcs) dX12_rusts_19 ?_
    refine r_if_ne C 27 dX12_rusts_22 (by decide) (fun c10 => ?_) (fun c10 => ?_)
    · rw [if_neg c10] at hf
      exact k7 (Option.some.inj hf).symm
    · rw [if_pos c10] at hf
      exact k6 (Option.some.inj hf).symm
def fX12_low (h : Hp) : Option (Int32 × Hp) := lt9 (up2 h 208 0 (0 : Int32)) (fun h1 => cl2 (fX12_standingNow h1) (fun x4 h2 => some (((65535 : Int32) &&& (x4 ^^^ (-1 : Int32))), h2)))
set_option maxHeartbeats 4000000 in
set_option maxRecDepth 100000 in
theorem kX12_low (G : Gx)  {h : Hp}  {rr : Int32} {hh : Hp} (hf : fX12_low h = some (rr, hh)) : MC G yX12_low cX12_low 1 (some .int) 12 768 h [.ref (gad G 208)] (some (.int rr)) hh := by
  refine MC.of RX12 (by decide) rfl (Nat.le_of_ble_eq_true rfl) rfl (fun X C hG hR hF => ?_)
  subst hG
  have hcs : True := trivial
  unfold fX12_low at hf
  refine r_aload_n (i := 0) C dX12_low_0 rfl 0 rfl ?_
  refine r_iconst (v := 0) C dX12_low_1 (by decide) ?_
  obtain ⟨h1, eh1, hf⟩ := lt_of hf
  refine p_X12_3 C eh1 dX12_low_2 ?_
  refine r_ldc (v := 65535) C dX12_low_5 gw_1835 ?_
  refine r_aload_n (i := 0) C dX12_low_7 rfl 0 rfl ?_
  obtain ⟨x4, h2, e3, hf⟩ := cl2_of hf
  refine r_callVi (As := []) (st := [.int (65535 : Int32)]) C 208 rfl (by decide) rfl (kX12_standingNow (xG X) e3) cw_X12_320 rfl rfl (Nat.le_of_ble_eq_true rfl) (zr2 hR rfl rfl) (zrcs hcs) dX12_low_8 ?_
  refine r_iconst (v := (-1)) C dX12_low_11 (by decide) ?_
  refine r_ixor C dX12_low_12 ?_
  refine r_iand C dX12_low_13 ?_
  cases hf
  exact r_iret C hF dX12_low_14
def fX12_held (h : Hp) : Option (Int32 × Hp) := lt9 (up2 h 208 0 (0 : Int32)) (fun h1 => cl2 (fX12_holdingNow h1) (fun x4 h2 => some (x4, h2)))
set_option maxHeartbeats 4000000 in
set_option maxRecDepth 100000 in
theorem kX12_held (G : Gx)  {h : Hp}  {rr : Int32} {hh : Hp} (hf : fX12_held h = some (rr, hh)) : MC G yX12_held cX12_held 1 (some .int) 11 704 h [.ref (gad G 208)] (some (.int rr)) hh := by
  refine MC.of RX12 (by decide) rfl (Nat.le_of_ble_eq_true rfl) rfl (fun X C hG hR hF => ?_)
  subst hG
  have hcs : True := trivial
  unfold fX12_held at hf
  refine r_aload_n (i := 0) C dX12_held_0 rfl 0 rfl ?_
  refine r_iconst (v := 0) C dX12_held_1 (by decide) ?_
  obtain ⟨h1, eh1, hf⟩ := lt_of hf
  refine p_X12_3 C eh1 dX12_held_2 ?_
  refine r_aload_n (i := 0) C dX12_held_5 rfl 0 rfl ?_
  obtain ⟨x4, h2, e3, hf⟩ := cl2_of hf
  refine r_callVi (As := []) (st := []) C 208 rfl (by decide) rfl (kX12_holdingNow (xG X) e3) cw_X12_308 rfl rfl (Nat.le_of_ble_eq_true rfl) (zr2 hR rfl rfl) (zrcs hcs) dX12_held_6 ?_
  cases hf
  exact r_iret C hF dX12_held_9

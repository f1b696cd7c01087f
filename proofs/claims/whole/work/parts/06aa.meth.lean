def fX0_become (h : Hp) (b : Nat) (b2 : Nat) : Option (Hp) := lt9 (up2 h (b + 5) 0 (h (b2 + 5) 0)) (fun h1 => lt9 (upA h1 (b + 6) (va_cpy (h1 (b2 + 6)) (h1 (b + 6)) 0 0 5)) (fun h2 => lt9 (upA h2 (b + 7) (va_cpy (h2 (b2 + 7)) (h2 (b + 7)) 0 0 5)) (fun h3 => lt9 (upA h3 (b + 8) (va_cpy (h3 (b2 + 8)) (h3 (b + 8)) 0 0 5)) (fun h4 => some h4))))
set_option maxHeartbeats 4000000 in
set_option maxRecDepth 100000 in
theorem kX0_become (G : Gx) {b : Nat} (hb : isSky b) {b2 : Nat} (hb2 : isSky b2) {h : Hp}  {hh : Hp} (hf : fX0_become h b b2 = some hh) : MC G yX0_become cX0_become 2 none 2 128 h [.ref (gad G (b + 5)), .ref (gad G (b2 + 5))] none hh := by
  refine MC.of RX0 (by decide) rfl (Nat.le_of_ble_eq_true rfl) rfl (fun X C hG hR hF => ?_)
  subst hG
  have hcs : True := trivial
  unfold fX0_become at hf
  refine r_aload_n (i := 0) C dX0_become_0 rfl 0 rfl ?_
  refine r_aload_n (i := 1) C dX0_become_1 rfl 1 rfl ?_
  refine g_X0_19 hb2 C dX0_become_2 ?_
  obtain ⟨h1, eh1, hf⟩ := lt_of hf
  refine p_X0_19 hb C eh1 dX0_become_5 ?_
  refine r_aload_n (i := 1) C dX0_become_8 rfl 1 rfl ?_
  refine g_X0_9 hb2 C dX0_become_9 ?_
  refine r_iconst (v := 0) C dX0_become_12 (by decide) ?_
  refine r_aload_n (i := 0) C dX0_become_13 rfl 0 rfl ?_
  refine g_X0_9 hb C dX0_become_14 ?_
  refine r_iconst (v := 0) C dX0_become_17 (by decide) ?_
  refine r_iconst (v := 5) C dX0_become_18 (by decide) ?_
  obtain ⟨h2, eh2, hf⟩ := lt_of hf
  refine r_copyi C (b2 + 6) (b + 6) eh2 (sky_dsc hb2 6 (by decide)) (sky_dsc hb 6 (by decide)) (sky_lt hb2 6 (by decide)) (sky_lt hb 6 (by decide)) (by decide) (by decide) (by decide) (by decide) (by decide) gw_638 gm_ac_n gm_ac_s gm_ac_i (zr1 hR rfl) (zrac hR rfl) dX0_become_19 ?_
  refine r_aload_n (i := 1) C dX0_become_22 rfl 1 rfl ?_
  refine g_X0_13 hb2 C dX0_become_23 ?_
  refine r_iconst (v := 0) C dX0_become_26 (by decide) ?_
  refine r_aload_n (i := 0) C dX0_become_27 rfl 0 rfl ?_
  refine g_X0_13 hb C dX0_become_28 ?_
  refine r_iconst (v := 0) C dX0_become_31 (by decide) ?_
  refine r_iconst (v := 5) C dX0_become_32 (by decide) ?_
  obtain ⟨h3, eh3, hf⟩ := lt_of hf
  refine r_copyi C (b2 + 7) (b + 7) eh3 (sky_dsc hb2 7 (by decide)) (sky_dsc hb 7 (by decide)) (sky_lt hb2 7 (by decide)) (sky_lt hb 7 (by decide)) (by decide) (by decide) (by decide) (by decide) (by decide) gw_638 gm_ac_n gm_ac_s gm_ac_i (zr1 hR rfl) (zrac hR rfl) dX0_become_33 ?_
  refine r_aload_n (i := 1) C dX0_become_36 rfl 1 rfl ?_
  refine g_X0_16 hb2 C dX0_become_37 ?_
  refine r_iconst (v := 0) C dX0_become_40 (by decide) ?_
  refine r_aload_n (i := 0) C dX0_become_41 rfl 0 rfl ?_
  refine g_X0_16 hb C dX0_become_42 ?_
  refine r_iconst (v := 0) C dX0_become_45 (by decide) ?_
  refine r_iconst (v := 5) C dX0_become_46 (by decide) ?_
  obtain ⟨h4, eh4, hf⟩ := lt_of hf
  refine r_copyi C (b2 + 8) (b + 8) eh4 (sky_dsc hb2 8 (by decide)) (sky_dsc hb 8 (by decide)) (sky_lt hb2 8 (by decide)) (sky_lt hb 8 (by decide)) (by decide) (by decide) (by decide) (by decide) (by decide) gw_638 gm_ac_n gm_ac_s gm_ac_i (zr1 hR rfl) (zrac hR rfl) dX0_become_47 ?_
  cases hf
  exact r_vret C hF dX0_become_50
def fX0_add (h : Hp) (b : Nat) (a1 : Int32) (a2 : Int32) (a3 : Int32) : Option (Hp) := (if (5 : Int32) ≤ (h (b + 5) 0) then some h else gd (inb (h (b + 5) 0) 5) (lt9 (up2 h (b + 6) (h (b + 5) 0).toNatClampNeg a1) (fun h3 => gd (inb (h3 (b + 5) 0) 5) (lt9 (up2 h3 (b + 7) (h3 (b + 5) 0).toNatClampNeg a2) (fun h5 => gd (inb (h5 (b + 5) 0) 5) (lt9 (up2 h5 (b + 8) (h5 (b + 5) 0).toNatClampNeg a3) (fun h7 => lt9 (up2 h7 (b + 5) 0 ((h7 (b + 5) 0) + (1 : Int32))) (fun h8 => some h8))))))))
set_option maxHeartbeats 4000000 in
set_option maxRecDepth 100000 in
theorem kX0_add (G : Gx) {b : Nat} (hb : isSky b) {h : Hp} {a1 : Int32} {a2 : Int32} {a3 : Int32} {hh : Hp} (hf : fX0_add h b a1 a2 a3 = some hh) : MC G yX0_add cX0_add 4 none 1 64 h [.ref (gad G (b + 5)), .int a1, .int a2, .int a3] none hh := by
  refine MC.of RX0 (by decide) rfl (Nat.le_of_ble_eq_true rfl) rfl (fun X C hG hR hF => ?_)
  subst hG
  have hcs : True := trivial
  unfold fX0_add at hf
  refine r_aload_n (i := 0) C dX0_add_0 rfl 0 rfl ?_
  refine g_X0_19 hb C dX0_add_1 ?_
  refine r_iconst (v := 5) C dX0_add_4 (by decide) ?_
  refine r_icmp_ge C 48 dX0_add_5 (by decide) (fun c1 => ?_) (fun c1 => ?_)
  · rw [if_pos c1] at hf
    cases hf
    exact r_vret C hF dX0_add_48
  · rw [if_neg c1] at hf
    refine r_aload_n (i := 0) C dX0_add_8 rfl 0 rfl ?_
    refine g_X0_9 hb C dX0_add_9 ?_
    refine r_aload_n (i := 0) C dX0_add_12 rfl 0 rfl ?_
    refine g_X0_19 hb C dX0_add_13 ?_
    refine r_iload_n (i := 1) C dX0_add_16 rfl 1 rfl ?_
    obtain ⟨g2, hf⟩ := gd_of hf
    obtain ⟨h3, eh3, hf⟩ := lt_of hf
    refine r_iast C (b + 6) eh3 (sky_dsc hb 6 (by decide)) (sky_lt hb 6 (by decide)) g2 dX0_add_17 ?_
    refine r_aload_n (i := 0) C dX0_add_18 rfl 0 rfl ?_
    refine g_X0_13 hb C dX0_add_19 ?_
    refine r_aload_n (i := 0) C dX0_add_22 rfl 0 rfl ?_
    refine g_X0_19 hb C dX0_add_23 ?_
    refine r_iload_n (i := 2) C dX0_add_26 rfl 2 rfl ?_
    obtain ⟨g4, hf⟩ := gd_of hf
    obtain ⟨h5, eh5, hf⟩ := lt_of hf
    refine r_iast C (b + 7) eh5 (sky_dsc hb 7 (by decide)) (sky_lt hb 7 (by decide)) g4 dX0_add_27 ?_
    refine r_aload_n (i := 0) C dX0_add_28 rfl 0 rfl ?_
    refine g_X0_16 hb C dX0_add_29 ?_
    refine r_aload_n (i := 0) C dX0_add_32 rfl 0 rfl ?_
    refine g_X0_19 hb C dX0_add_33 ?_
    refine r_iload_n (i := 3) C dX0_add_36 rfl 3 rfl ?_
    obtain ⟨g6, hf⟩ := gd_of hf
    obtain ⟨h7, eh7, hf⟩ := lt_of hf
    refine r_iast C (b + 8) eh7 (sky_dsc hb 8 (by decide)) (sky_lt hb 8 (by decide)) g6 dX0_add_37 ?_
    refine r_aload_n (i := 0) C dX0_add_38 rfl 0 rfl ?_
    refine r_dup C dX0_add_39 rfl ?_
    refine g_X0_19 hb C dX0_add_40 ?_
    refine r_iconst (v := 1) C dX0_add_43 (by decide) ?_
    refine r_iadd C dX0_add_44 ?_
    obtain ⟨h8, eh8, hf⟩ := lt_of hf
    refine p_X0_19 hb C eh8 dX0_add_45 ?_
    cases hf
    exact r_vret C hF dX0_add_48
def BX0_brassOfAll_0 (h : Hp) (b : Nat) (rec : Int32 → Int32 → Option (Int32)) (y1 : Int32) (y2 : Int32) : Option (Int32) := (if (h (b + 5) 0) ≤ y2 then some y1 else gd (inb y2 5) (lt9 (y1 + (h (b + 8) y2.toNatClampNeg)) (fun x3 => lt9 (y2 + (1 : Int32)) (fun x4 => rec x3 x4))))
def LX0_brassOfAll (h : Hp) (b : Nat) : Nat → Int32 → Int32 → Option (Int32)
  | 0, _, _ => none
  | n + 1, y1, y2 => BX0_brassOfAll_0 h b (LX0_brassOfAll h b n) y1 y2
def fX0_brassOfAll (h : Hp) (b : Nat) : Option (Int32) := LX0_brassOfAll h b big (0 : Int32) (0 : Int32)
set_option maxHeartbeats 4000000 in
set_option maxRecDepth 100000 in
theorem wX0_brassOfAll {X : Cx} {h : Hp} {b : Nat} (hb : isSky b) {rr : Int32} (C : OK X cX0_brassOfAll 3 RX0 (some .int)) (hR : xR X = { frames := 1, cells := 0, slots := 0, locals := 64 }) (hcs : True) (hF : FinR X (some (.int rr)) h) : ∀ n : Nat, (∀ (y1 : Int32) (y2 : Int32), LX0_brassOfAll h b n y1 y2 = some rr → VW X 3 h 0 0 4 [(0, .ref (gad (xG X) (b + 5))), (1, .int y1), (2, .int y2)] []) := by
  intro n
  induction n with
  | zero => exact (fun _ _ hf => (by rw [LX0_brassOfAll] at hf; cases hf))
  | succ n ih =>
    intro y1 y2 hf
    rw [LX0_brassOfAll] at hf
    unfold BX0_brassOfAll_0 at hf
    refine r_iload_n (i := 2) C dX0_brassOfAll_4 rfl 2 rfl ?_
    refine r_aload_n (i := 0) C dX0_brassOfAll_5 rfl 0 rfl ?_
    refine g_X0_19 hb C dX0_brassOfAll_6 ?_
    refine r_icmp_ge C 27 dX0_brassOfAll_9 (by decide) (fun c1 => ?_) (fun c1 => ?_)
    · rw [if_pos c1] at hf
      refine r_iload_n (i := 1) C dX0_brassOfAll_27 rfl 1 rfl ?_
      cases hf
      exact r_iret C hF dX0_brassOfAll_28
    · rw [if_neg c1] at hf
      refine r_iload_n (i := 1) C dX0_brassOfAll_12 rfl 1 rfl ?_
      refine r_aload_n (i := 0) C dX0_brassOfAll_13 rfl 0 rfl ?_
      refine g_X0_16 hb C dX0_brassOfAll_14 ?_
      refine r_iload_n (i := 2) C dX0_brassOfAll_17 rfl 2 rfl ?_
      obtain ⟨g2, hf⟩ := gd_of hf
      refine r_iald C (b + 8) (sky_dsc hb 8 (by decide)) (sky_lt hb 8 (by decide)) g2 dX0_brassOfAll_18 ?_
      refine r_iadd C dX0_brassOfAll_19 ?_
      obtain ⟨x3, ex3, hf⟩ := lt_of hf
      refine r_top ex3 ?_
      refine r_istore_n (i := 1) (lv' := [(0, .ref (gad (xG X) (b + 5))), (1, .int x3), (2, .int y2)]) C dX0_brassOfAll_20 rfl (by decide) [1, 0, 2] rfl ?_
      obtain ⟨x4, ex4, hf⟩ := lt_of hf
      refine r_iinc (j := 2) (v := x4) (lv' := [(0, .ref (gad (xG X) (b + 5))), (1, .int x3), (2, .int x4)]) C dX0_brassOfAll_21 rfl (by rw [ex4]; rfl) (by decide) [1, 2, 0] rfl ?_
      refine r_goto C 4 dX0_brassOfAll_24 (by decide) ?_
      exact r_lv [0, 1, 2] rfl (ih _ _ hf)
set_option maxHeartbeats 4000000 in
set_option maxRecDepth 100000 in
theorem kX0_brassOfAll (G : Gx) {b : Nat} (hb : isSky b) {h : Hp}  {rr : Int32} (hf : fX0_brassOfAll h b = some rr) : MC G yX0_brassOfAll cX0_brassOfAll 3 (some .int) 1 64 h [.ref (gad G (b + 5))] (some (.int rr)) h := by
  refine MC.of RX0 (by decide) rfl (Nat.le_of_ble_eq_true rfl) rfl (fun X C hG hR hF => ?_)
  subst hG
  have hcs : True := trivial
  unfold fX0_brassOfAll at hf
  refine r_iconst (v := 0) C dX0_brassOfAll_0 (by decide) ?_
  refine r_istore_n (i := 1) (lv' := [(0, .ref (gad (xG X) (b + 5))), (1, .int (0 : Int32))]) C dX0_brassOfAll_1 rfl (by decide) [1, 0] rfl ?_
  refine r_iconst (v := 0) C dX0_brassOfAll_2 (by decide) ?_
  refine r_istore_n (i := 2) (lv' := [(0, .ref (gad (xG X) (b + 5))), (1, .int (0 : Int32)), (2, .int (0 : Int32))]) C dX0_brassOfAll_3 rfl (by decide) [1, 2, 0] rfl ?_
  exact r_lv [0, 1, 2] rfl ((wX0_brassOfAll hb C hR hcs hF big) _ _ hf)
def fX0_daysTo (h : Hp) (b : Nat) (a1 : Int32) (a2 : Int32) : Option (Int32) := gd (inb a1 5) (lt9 (jabs ((h (b + 6) a1.toNatClampNeg) - a2)) (fun x2 => gd (inb a1 5) ((if (1 : Int32) ≤ (h (b + 7) a1.toNatClampNeg) then gd (inb a1 5) (gd (inb a1 5) (gd (¬ (h (b + 7) a1.toNatClampNeg) = 0) (some (((x2 + (h (b + 7) a1.toNatClampNeg)) - (1 : Int32)) / (h (b + 7) a1.toNatClampNeg))))) else some x2))))
set_option maxHeartbeats 4000000 in
set_option maxRecDepth 100000 in
theorem kX0_daysTo (G : Gx) {b : Nat} (hb : isSky b) {h : Hp} {a1 : Int32} {a2 : Int32} {rr : Int32} (hf : fX0_daysTo h b a1 a2 = some rr) : MC G yX0_daysTo cX0_daysTo 4 (some .int) 2 128 h [.ref (gad G (b + 5)), .int a1, .int a2] (some (.int rr)) h := by
  refine MC.of RX0 (by decide) rfl (Nat.le_of_ble_eq_true rfl) rfl (fun X C hG hR hF => ?_)
  subst hG
  have hcs : True := trivial
  unfold fX0_daysTo at hf
  refine r_aload_n (i := 0) C dX0_daysTo_0 rfl 0 rfl ?_
  refine g_X0_9 hb C dX0_daysTo_1 ?_
  refine r_iload_n (i := 1) C dX0_daysTo_4 rfl 1 rfl ?_
  obtain ⟨g1, hf⟩ := gd_of hf
  refine r_iald C (b + 6) (sky_dsc hb 6 (by decide)) (sky_lt hb 6 (by decide)) g1 dX0_daysTo_5 ?_
  refine r_iload_n (i := 2) C dX0_daysTo_6 rfl 2 rfl ?_
  refine r_isub C dX0_daysTo_7 ?_
  refine r_mabs9 C gw_1348 gm_abs_s gm_i gm_abs_c (zr1 hR rfl) (zr0 hR (Nat.le_of_ble_eq_true rfl)) (zrcs hcs) dX0_daysTo_8 ?_
  obtain ⟨x2, ex2, hf⟩ := lt_of hf
  refine r_top ex2 ?_
  refine r_istore_n (i := 3) (lv' := [(0, .ref (gad (xG X) (b + 5))), (1, .int a1), (2, .int a2), (3, .int x2)]) C dX0_daysTo_11 rfl (by decide) [1, 2, 3, 0] rfl ?_
  refine r_aload_n (i := 0) C dX0_daysTo_12 rfl 0 rfl ?_
  refine g_X0_13 hb C dX0_daysTo_13 ?_
  refine r_iload_n (i := 1) C dX0_daysTo_16 rfl 1 rfl ?_
  obtain ⟨g3, hf⟩ := gd_of hf
  refine r_iald C (b + 7) (sky_dsc hb 7 (by decide)) (sky_lt hb 7 (by decide)) g3 dX0_daysTo_17 ?_
  refine r_iconst (v := 1) C dX0_daysTo_18 (by decide) ?_
  refine r_icmp_ge C 26 dX0_daysTo_19 (by decide) (fun c4 => ?_) (fun c4 => ?_)
  · rw [if_pos c4] at hf
    refine r_iload_n (i := 3) C dX0_daysTo_26 rfl 3 rfl ?_
    refine r_aload_n (i := 0) C dX0_daysTo_27 rfl 0 rfl ?_
    refine g_X0_13 hb C dX0_daysTo_28 ?_
    refine r_iload_n (i := 1) C dX0_daysTo_31 rfl 1 rfl ?_
    obtain ⟨g5, hf⟩ := gd_of hf
    refine r_iald C (b + 7) (sky_dsc hb 7 (by decide)) (sky_lt hb 7 (by decide)) g5 dX0_daysTo_32 ?_
    refine r_iadd C dX0_daysTo_33 ?_
    refine r_iconst (v := 1) C dX0_daysTo_34 (by decide) ?_
    refine r_isub C dX0_daysTo_35 ?_
    refine r_aload_n (i := 0) C dX0_daysTo_36 rfl 0 rfl ?_
    refine g_X0_13 hb C dX0_daysTo_37 ?_
    refine r_iload_n (i := 1) C dX0_daysTo_40 rfl 1 rfl ?_
    obtain ⟨g6, hf⟩ := gd_of hf
    refine r_iald C (b + 7) (sky_dsc hb 7 (by decide)) (sky_lt hb 7 (by decide)) g6 dX0_daysTo_41 ?_
    obtain ⟨g7, hf⟩ := gd_of hf
    refine r_idiv C dX0_daysTo_42 g7 ?_
    cases hf
    exact r_iret C hF dX0_daysTo_43
  · rw [if_neg c4] at hf
    refine r_iload_n (i := 3) C dX0_daysTo_22 rfl 3 rfl ?_
    refine r_goto C 43 dX0_daysTo_23 (by decide) ?_
    cases hf
    exact r_iret C hF dX0_daysTo_43
def fX2_clear (h : Hp) (b : Nat) : Option (Hp) := lt9 (up2 h b 0 (0 : Int32)) (fun h1 => lt9 (up2 h1 b 5 (0 : Int32)) (fun h2 => some h2))
set_option maxHeartbeats 4000000 in
set_option maxRecDepth 100000 in
theorem kX2_clear (G : Gx) {b : Nat} (hb : isLaw b) {h : Hp}  {hh : Hp} (hf : fX2_clear h b = some hh) : MC G yX2_clear cX2_clear 1 none 1 64 h [.ref (gad G b)] none hh := by
  refine MC.of RX2 (by decide) rfl (Nat.le_of_ble_eq_true rfl) rfl (fun X C hG hR hF => ?_)
  subst hG
  have hcs : True := trivial
  unfold fX2_clear at hf
  refine r_aload_n (i := 0) C dX2_clear_0 rfl 0 rfl ?_
  refine r_iconst (v := 0) C dX2_clear_1 (by decide) ?_
  obtain ⟨h1, eh1, hf⟩ := lt_of hf
  refine p_X2_9 hb C eh1 dX2_clear_2 ?_
  refine r_aload_n (i := 0) C dX2_clear_5 rfl 0 rfl ?_
  refine r_iconst (v := 0) C dX2_clear_6 (by decide) ?_
  obtain ⟨h2, eh2, hf⟩ := lt_of hf
  refine p_X2_30 hb C eh2 dX2_clear_7 ?_
  cases hf
  exact r_vret C hF dX2_clear_10
def fX2_put (h : Hp) (b : Nat) (a1 : Int32) : Option (Hp) := (if (400 : Int32) ≤ (h b 5) then some h else gd (inb (h b 5) 400) (lt9 (up2 h (b + 4) (h b 5).toNatClampNeg a1) (fun h3 => lt9 (up2 h3 b 5 ((h3 b 5) + (1 : Int32))) (fun h4 => some h4))))
set_option maxHeartbeats 4000000 in
set_option maxRecDepth 100000 in
theorem kX2_put (G : Gx) {b : Nat} (hb : isLaw b) {h : Hp} {a1 : Int32} {hh : Hp} (hf : fX2_put h b a1 = some hh) : MC G yX2_put cX2_put 2 none 1 64 h [.ref (gad G b), .int a1] none hh := by
  refine MC.of RX2 (by decide) rfl (Nat.le_of_ble_eq_true rfl) rfl (fun X C hG hR hF => ?_)
  subst hG
  have hcs : True := trivial
  unfold fX2_put at hf
  refine r_aload_n (i := 0) C dX2_put_0 rfl 0 rfl ?_
  refine g_X2_30 hb C dX2_put_1 ?_
  refine r_aload_n (i := 0) C dX2_put_4 rfl 0 rfl ?_
  refine g_X2_27 hb C dX2_put_5 ?_
  refine r_alen (v := 400) C (b + 4) (law_dsc hb 4 (by decide)) (law_lt hb 4 (by decide)) (by decide) (by decide) dX2_put_8 ?_
  refine r_icmp_ge C 32 dX2_put_9 (by decide) (fun c1 => ?_) (fun c1 => ?_)
  · rw [if_pos c1] at hf
    cases hf
    exact r_vret C hF dX2_put_32
  · rw [if_neg c1] at hf
    refine r_aload_n (i := 0) C dX2_put_12 rfl 0 rfl ?_
    refine g_X2_27 hb C dX2_put_13 ?_
    refine r_aload_n (i := 0) C dX2_put_16 rfl 0 rfl ?_
    refine g_X2_30 hb C dX2_put_17 ?_
    refine r_iload_n (i := 1) C dX2_put_20 rfl 1 rfl ?_
    obtain ⟨g2, hf⟩ := gd_of hf
    obtain ⟨h3, eh3, hf⟩ := lt_of hf
    refine r_iast C (b + 4) eh3 (law_dsc hb 4 (by decide)) (law_lt hb 4 (by decide)) g2 dX2_put_21 ?_
    refine r_aload_n (i := 0) C dX2_put_22 rfl 0 rfl ?_
    refine r_dup C dX2_put_23 rfl ?_
    refine g_X2_30 hb C dX2_put_24 ?_
    refine r_iconst (v := 1) C dX2_put_27 (by decide) ?_
    refine r_iadd C dX2_put_28 ?_
    obtain ⟨h4, eh4, hf⟩ := lt_of hf
    refine p_X2_30 hb C eh4 dX2_put_29 ?_
    cases hf
    exact r_vret C hF dX2_put_32
def fX2_endLine (h : Hp) (b : Nat) (a1 : Int32) (a2 : Int32) : Option (Hp) := cl9 ((if (h b 0) < (0 : Int32) then some false else (if (12 : Int32) ≤ (h b 0) then some false else some true)) : Option Bool) (fun q1 => if q1 = true then gd (inb (h b 0) 12) (lt9 (up2 h (b + 1) (h b 0).toNatClampNeg a1) (fun h8 => gd (inb (h8 b 0) 12) (lt9 (up2 h8 (b + 2) (h8 b 0).toNatClampNeg a2) (fun h10 => gd (inb (h10 b 0) 12) (lt9 (up2 h10 (b + 3) (h10 b 0).toNatClampNeg (h10 b 5)) (fun h12 => lt9 (up2 h12 b 0 ((h12 b 0) + (1 : Int32))) (fun h13 => some h13))))))) else some h)
set_option maxHeartbeats 4000000 in
set_option maxRecDepth 100000 in
theorem kX2_endLine (G : Gx) {b : Nat} (hb : isLaw b) {h : Hp} {a1 : Int32} {a2 : Int32} {hh : Hp} (hf : fX2_endLine h b a1 a2 = some hh) : MC G yX2_endLine cX2_endLine 3 none 1 64 h [.ref (gad G b), .int a1, .int a2] none hh := by
  refine MC.of RX2 (by decide) rfl (Nat.le_of_ble_eq_true rfl) rfl (fun X C hG hR hF => ?_)
  subst hG
  have hcs : True := trivial
  unfold fX2_endLine at hf
  refine r_aload_n (i := 0) C dX2_endLine_0 rfl 0 rfl ?_
  refine g_X2_9 hb C dX2_endLine_1 ?_
  obtain ⟨q1, r4, hf⟩ := cl_of hf
  have k2 : q1 = true → VW X 3 h 0 0 16 [(0, .ref (gad (xG X) b)), (1, .int a1), (2, .int a2)] [] := fun qq => by
    rw [if_pos qq] at hf
    refine r_aload_n (i := 0) C dX2_endLine_16 rfl 0 rfl ?_
    refine g_X2_15 hb C dX2_endLine_17 ?_
    refine r_aload_n (i := 0) C dX2_endLine_20 rfl 0 rfl ?_
    refine g_X2_9 hb C dX2_endLine_21 ?_
    refine r_iload_n (i := 1) C dX2_endLine_24 rfl 1 rfl ?_
    obtain ⟨g7, hf⟩ := gd_of hf
    obtain ⟨h8, eh8, hf⟩ := lt_of hf
    refine r_iast C (b + 1) eh8 (law_dsc hb 1 (by decide)) (law_lt hb 1 (by decide)) g7 dX2_endLine_25 ?_
    refine r_aload_n (i := 0) C dX2_endLine_26 rfl 0 rfl ?_
    refine g_X2_19 hb C dX2_endLine_27 ?_
    refine r_aload_n (i := 0) C dX2_endLine_30 rfl 0 rfl ?_
    refine g_X2_9 hb C dX2_endLine_31 ?_
    refine r_iload_n (i := 2) C dX2_endLine_34 rfl 2 rfl ?_
    obtain ⟨g9, hf⟩ := gd_of hf
    obtain ⟨h10, eh10, hf⟩ := lt_of hf
    refine r_iast C (b + 2) eh10 (law_dsc hb 2 (by decide)) (law_lt hb 2 (by decide)) g9 dX2_endLine_35 ?_
    refine r_aload_n (i := 0) C dX2_endLine_36 rfl 0 rfl ?_
    refine g_X2_22 hb C dX2_endLine_37 ?_
    refine r_aload_n (i := 0) C dX2_endLine_40 rfl 0 rfl ?_
    refine g_X2_9 hb C dX2_endLine_41 ?_
    refine r_aload_n (i := 0) C dX2_endLine_44 rfl 0 rfl ?_
    refine g_X2_30 hb C dX2_endLine_45 ?_
    obtain ⟨g11, hf⟩ := gd_of hf
    obtain ⟨h12, eh12, hf⟩ := lt_of hf
    refine r_iast C (b + 3) eh12 (law_dsc hb 3 (by decide)) (law_lt hb 3 (by decide)) g11 dX2_endLine_48 ?_
    refine r_aload_n (i := 0) C dX2_endLine_49 rfl 0 rfl ?_
    refine r_dup C dX2_endLine_50 rfl ?_
    refine g_X2_9 hb C dX2_endLine_51 ?_
    refine r_iconst (v := 1) C dX2_endLine_54 (by decide) ?_
    refine r_iadd C dX2_endLine_55 ?_
    obtain ⟨h13, eh13, hf⟩ := lt_of hf
    refine p_X2_9 hb C eh13 dX2_endLine_56 ?_
    cases hf
    exact r_vret C hF dX2_endLine_59
  have k3 : q1 = false → VW X 3 h 0 0 59 [(0, .ref (gad (xG X) b)), (1, .int a1), (2, .int a2)] [] := fun qq => by
    rw [if_neg (by rw [qq]; decide)] at hf
    cases hf
    exact r_vret C hF dX2_endLine_59
  clear hf
  have hf := r4
  refine r_if_lt C 59 dX2_endLine_4 (by decide) (fun c5 => ?_) (fun c5 => ?_)
  · rw [if_pos c5] at hf
    exact k3 (Option.some.inj hf).symm
  · rw [if_neg c5] at hf
    refine r_aload_n (i := 0) C dX2_endLine_7 rfl 0 rfl ?_
    refine g_X2_9 hb C dX2_endLine_8 ?_
    refine r_bipush (v := 12) C dX2_endLine_11 (by decide) ?_
    refine r_icmp_ge C 59 dX2_endLine_13 (by decide) (fun c6 => ?_) (fun c6 => ?_)
    · rw [if_pos c6] at hf
      exact k3 (Option.some.inj hf).symm
    · rw [if_neg c6] at hf
      exact k2 (Option.some.inj hf).symm
def fX2_become (h : Hp) (b : Nat) (b2 : Nat) : Option (Hp) := lt9 (up2 h b 0 (h b2 0)) (fun h1 => lt9 (up2 h1 b 5 (h1 b2 5)) (fun h2 => lt9 (upA h2 (b + 1) (va_cpy (h2 (b2 + 1)) (h2 (b + 1)) 0 0 12)) (fun h3 => lt9 (upA h3 (b + 2) (va_cpy (h3 (b2 + 2)) (h3 (b + 2)) 0 0 12)) (fun h4 => lt9 (upA h4 (b + 3) (va_cpy (h4 (b2 + 3)) (h4 (b + 3)) 0 0 12)) (fun h5 => lt9 (upA h5 (b + 4) (va_cpy (h5 (b2 + 4)) (h5 (b + 4)) 0 0 400)) (fun h6 => some h6))))))
set_option maxHeartbeats 4000000 in
set_option maxRecDepth 100000 in
theorem kX2_become (G : Gx) {b : Nat} (hb : isLaw b) {b2 : Nat} (hb2 : isLaw b2) {h : Hp}  {hh : Hp} (hf : fX2_become h b b2 = some hh) : MC G yX2_become cX2_become 2 none 2 128 h [.ref (gad G b), .ref (gad G b2)] none hh := by
  refine MC.of RX2 (by decide) rfl (Nat.le_of_ble_eq_true rfl) rfl (fun X C hG hR hF => ?_)
  subst hG
  have hcs : True := trivial
  unfold fX2_become at hf
  refine r_aload_n (i := 0) C dX2_become_0 rfl 0 rfl ?_
  refine r_aload_n (i := 1) C dX2_become_1 rfl 1 rfl ?_
  refine g_X2_9 hb2 C dX2_become_2 ?_
  obtain ⟨h1, eh1, hf⟩ := lt_of hf
  refine p_X2_9 hb C eh1 dX2_become_5 ?_
  refine r_aload_n (i := 0) C dX2_become_8 rfl 0 rfl ?_
  refine r_aload_n (i := 1) C dX2_become_9 rfl 1 rfl ?_
  refine g_X2_30 hb2 C dX2_become_10 ?_
  obtain ⟨h2, eh2, hf⟩ := lt_of hf
  refine p_X2_30 hb C eh2 dX2_become_13 ?_
  refine r_aload_n (i := 1) C dX2_become_16 rfl 1 rfl ?_
  refine g_X2_15 hb2 C dX2_become_17 ?_
  refine r_iconst (v := 0) C dX2_become_20 (by decide) ?_
  refine r_aload_n (i := 0) C dX2_become_21 rfl 0 rfl ?_
  refine g_X2_15 hb C dX2_become_22 ?_
  refine r_iconst (v := 0) C dX2_become_25 (by decide) ?_
  refine r_bipush (v := 12) C dX2_become_26 (by decide) ?_
  obtain ⟨h3, eh3, hf⟩ := lt_of hf
  refine r_copyi C (b2 + 1) (b + 1) eh3 (law_dsc hb2 1 (by decide)) (law_dsc hb 1 (by decide)) (law_lt hb2 1 (by decide)) (law_lt hb 1 (by decide)) (by decide) (by decide) (by decide) (by decide) (by decide) gw_813 gm_ac_n gm_ac_s gm_ac_i (zr1 hR rfl) (zrac hR rfl) dX2_become_28 ?_
  refine r_aload_n (i := 1) C dX2_become_31 rfl 1 rfl ?_
  refine g_X2_19 hb2 C dX2_become_32 ?_
  refine r_iconst (v := 0) C dX2_become_35 (by decide) ?_
  refine r_aload_n (i := 0) C dX2_become_36 rfl 0 rfl ?_
  refine g_X2_19 hb C dX2_become_37 ?_
  refine r_iconst (v := 0) C dX2_become_40 (by decide) ?_
  refine r_bipush (v := 12) C dX2_become_41 (by decide) ?_
  obtain ⟨h4, eh4, hf⟩ := lt_of hf
  refine r_copyi C (b2 + 2) (b + 2) eh4 (law_dsc hb2 2 (by decide)) (law_dsc hb 2 (by decide)) (law_lt hb2 2 (by decide)) (law_lt hb 2 (by decide)) (by decide) (by decide) (by decide) (by decide) (by decide) gw_813 gm_ac_n gm_ac_s gm_ac_i (zr1 hR rfl) (zrac hR rfl) dX2_become_43 ?_
  refine r_aload_n (i := 1) C dX2_become_46 rfl 1 rfl ?_
  refine g_X2_22 hb2 C dX2_become_47 ?_
  refine r_iconst (v := 0) C dX2_become_50 (by decide) ?_
  refine r_aload_n (i := 0) C dX2_become_51 rfl 0 rfl ?_
  refine g_X2_22 hb C dX2_become_52 ?_
  refine r_iconst (v := 0) C dX2_become_55 (by decide) ?_
  refine r_bipush (v := 12) C dX2_become_56 (by decide) ?_
  obtain ⟨h5, eh5, hf⟩ := lt_of hf
  refine r_copyi C (b2 + 3) (b + 3) eh5 (law_dsc hb2 3 (by decide)) (law_dsc hb 3 (by decide)) (law_lt hb2 3 (by decide)) (law_lt hb 3 (by decide)) (by decide) (by decide) (by decide) (by decide) (by decide) gw_813 gm_ac_n gm_ac_s gm_ac_i (zr1 hR rfl) (zrac hR rfl) dX2_become_58 ?_
  refine r_aload_n (i := 1) C dX2_become_61 rfl 1 rfl ?_
  refine g_X2_27 hb2 C dX2_become_62 ?_
  refine r_iconst (v := 0) C dX2_become_65 (by decide) ?_
  refine r_aload_n (i := 0) C dX2_become_66 rfl 0 rfl ?_
  refine g_X2_27 hb C dX2_become_67 ?_
  refine r_iconst (v := 0) C dX2_become_70 (by decide) ?_
  refine r_aload_n (i := 0) C dX2_become_71 rfl 0 rfl ?_
  refine g_X2_27 hb C dX2_become_72 ?_
  refine r_alen (v := 400) C (b + 4) (law_dsc hb 4 (by decide)) (law_lt hb 4 (by decide)) (by decide) (by decide) dX2_become_75 ?_
  obtain ⟨h6, eh6, hf⟩ := lt_of hf
  refine r_copyi C (b2 + 4) (b + 4) eh6 (law_dsc hb2 4 (by decide)) (law_dsc hb 4 (by decide)) (law_lt hb2 4 (by decide)) (law_lt hb 4 (by decide)) (by decide) (by decide) (by decide) (by decide) (by decide) gw_813 gm_ac_n gm_ac_s gm_ac_i (zr1 hR rfl) (zrac hR rfl) dX2_become_76 ?_
  cases hf
  exact r_vret C hF dX2_become_79
def fX2_partOf (h : Hp) (b : Nat) (a1 : Int32) (a2 : Int32) (a3 : Int32) : Option (Int32) := (if a1 = (-6 : Int32) then some a3 else (if a1 = (-5 : Int32) then gd (inb a2 16) (some (h (b + 1) a2.toNatClampNeg)) else (if a1 = (-4 : Int32) then gd (inb a2 16) (some (h (b + 4) a2.toNatClampNeg)) else (if a1 = (-3 : Int32) then gd (inb a2 16) (some (h (b + 3) a2.toNatClampNeg)) else (if a1 = (-2 : Int32) then some a2 else some (h b 13))))))
set_option maxHeartbeats 4000000 in
set_option maxRecDepth 100000 in
theorem kX2_partOf (G : Gx) {b : Nat} (hb : isSky b) {h : Hp} {a1 : Int32} {a2 : Int32} {a3 : Int32} {rr : Int32} (hf : fX2_partOf h b a1 a2 a3 = some rr) : MC G yX2_partOf cX2_partOf 4 (some .int) 1 64 h [.int a1, .ref (gad G b), .int a2, .int a3] (some (.int rr)) h := by
  refine MC.of RX2 (by decide) rfl (Nat.le_of_ble_eq_true rfl) rfl (fun X C hG hR hF => ?_)
  subst hG
  have hcs : True := trivial
  unfold fX2_partOf at hf
  refine r_iload_n (i := 0) C dX2_partOf_0 rfl 0 rfl ?_
  by_cases c1 : a1 = (-6 : Int32)
  · rw [if_pos c1] at hf
    refine r_tableIn C 59 dX2_partOf_1 (by rw [c1] <;> decide) (by rw [c1] <;> decide) (by rw [c1] <;> rfl) (by decide) ?_
    refine r_iload_n (i := 3) C dX2_partOf_59 rfl 3 rfl ?_
    cases hf
    exact r_iret C hF dX2_partOf_60
  · rw [if_neg c1] at hf
    by_cases c2 : a1 = (-5 : Int32)
    · rw [if_pos c2] at hf
      refine r_tableIn C 52 dX2_partOf_1 (by rw [c2] <;> decide) (by rw [c2] <;> decide) (by rw [c2] <;> rfl) (by decide) ?_
      refine r_aload_n (i := 1) C dX2_partOf_52 rfl 1 rfl ?_
      refine g_X2_62 hb C dX2_partOf_53 ?_
      refine r_iload_n (i := 2) C dX2_partOf_56 rfl 2 rfl ?_
      obtain ⟨g3, hf⟩ := gd_of hf
      refine r_iald C (b + 1) (sky_dsc hb 1 (by decide)) (sky_lt hb 1 (by decide)) g3 dX2_partOf_57 ?_
      cases hf
      exact r_iret C hF dX2_partOf_58
    · rw [if_neg c2] at hf
      by_cases c4 : a1 = (-4 : Int32)
      · rw [if_pos c4] at hf
        refine r_tableIn C 45 dX2_partOf_1 (by rw [c4] <;> decide) (by rw [c4] <;> decide) (by rw [c4] <;> rfl) (by decide) ?_
        refine r_aload_n (i := 1) C dX2_partOf_45 rfl 1 rfl ?_
        refine g_X2_59 hb C dX2_partOf_46 ?_
        refine r_iload_n (i := 2) C dX2_partOf_49 rfl 2 rfl ?_
        obtain ⟨g5, hf⟩ := gd_of hf
        refine r_iald C (b + 4) (sky_dsc hb 4 (by decide)) (sky_lt hb 4 (by decide)) g5 dX2_partOf_50 ?_
        cases hf
        exact r_iret C hF dX2_partOf_51
      · rw [if_neg c4] at hf
        by_cases c6 : a1 = (-3 : Int32)
        · rw [if_pos c6] at hf
          refine r_tableIn C 38 dX2_partOf_1 (by rw [c6] <;> decide) (by rw [c6] <;> decide) (by rw [c6] <;> rfl) (by decide) ?_
          refine r_aload_n (i := 1) C dX2_partOf_38 rfl 1 rfl ?_
          refine g_X2_56 hb C dX2_partOf_39 ?_
          refine r_iload_n (i := 2) C dX2_partOf_42 rfl 2 rfl ?_
          obtain ⟨g7, hf⟩ := gd_of hf
          refine r_iald C (b + 3) (sky_dsc hb 3 (by decide)) (sky_lt hb 3 (by decide)) g7 dX2_partOf_43 ?_
          cases hf
          exact r_iret C hF dX2_partOf_44
        · rw [if_neg c6] at hf
          by_cases c8 : a1 = (-2 : Int32)
          · rw [if_pos c8] at hf
            refine r_tableIn C 36 dX2_partOf_1 (by rw [c8] <;> decide) (by rw [c8] <;> decide) (by rw [c8] <;> rfl) (by decide) ?_
            refine r_iload_n (i := 2) C dX2_partOf_36 rfl 2 rfl ?_
            cases hf
            exact r_iret C hF dX2_partOf_37
          · rw [if_neg c8] at hf
            refine r_tableOut C 61 dX2_partOf_1 (sw_out2 (-6) (-2) 5 (by decide) ?_ (by decide) (by decide)) (by decide) ?_
            · intro k9 h9
              match k9, h9 with
              | 0, _ => exact fun e9 => c1 (e9.trans (by decide))
              | 1, _ => exact fun e9 => c2 (e9.trans (by decide))
              | 2, _ => exact fun e9 => c4 (e9.trans (by decide))
              | 3, _ => exact fun e9 => c6 (e9.trans (by decide))
              | 4, _ => exact fun e9 => c8 (e9.trans (by decide))
              | k9 + 5, h9 => exact absurd h9 (by omega)
            refine r_aload_n (i := 1) C dX2_partOf_61 rfl 1 rfl ?_
            refine g_X2_65 hb C dX2_partOf_62 ?_
            cases hf
            exact r_iret C hF dX2_partOf_65
def fX2_joined (a1 : Int32) (a2 : Int32) : Int32 := lt9 (ushr a2 (1 : Int32)) (fun x1 => lt9 (a2 &&& (1 : Int32)) (fun x2 => (if a1 = (-14 : Int32) then (if x2 = (0 : Int32) then (x1 &&& (-2 : Int32)) else x1) else (if a1 = (-13 : Int32) then (a2 ^^^ (1 : Int32)) else (x1 ||| x2)))))
set_option maxHeartbeats 4000000 in
set_option maxRecDepth 100000 in
theorem kX2_joined (G : Gx)  {h : Hp} {a1 : Int32} {a2 : Int32} : MC G yX2_joined cX2_joined 4 (some .int) 1 64 h [.int a1, .int a2] (some (.int (fX2_joined a1 a2))) h := by
  refine MC.of RX2 (by decide) rfl (Nat.le_of_ble_eq_true rfl) rfl (fun X C hG hR hF => ?_)
  subst hG
  have hcs : True := trivial
  obtain ⟨rr, hf⟩ : ∃ rr, fX2_joined a1 a2 = rr := ⟨_, rfl⟩
  rw [hf] at hF
  unfold fX2_joined at hf
  refine r_iload_n (i := 1) C dX2_joined_0 rfl 1 rfl ?_
  refine r_iconst (v := 1) C dX2_joined_1 (by decide) ?_
  refine r_iushr C dX2_joined_2 ?_
  obtain ⟨x1, ex1, hf⟩ := lt_of hf
  refine r_top ex1 ?_
  refine r_istore_n (i := 2) (lv' := [(0, .int a1), (1, .int a2), (2, .int x1)]) C dX2_joined_3 rfl (by decide) [1, 2, 0] rfl ?_
  refine r_iload_n (i := 1) C dX2_joined_4 rfl 1 rfl ?_
  refine r_iconst (v := 1) C dX2_joined_5 (by decide) ?_
  refine r_iand C dX2_joined_6 ?_
  obtain ⟨x2, ex2, hf⟩ := lt_of hf
  refine r_top ex2 ?_
  refine r_istore_n (i := 3) (lv' := [(0, .int a1), (1, .int a2), (2, .int x1), (3, .int x2)]) C dX2_joined_7 rfl (by decide) [1, 2, 3, 0] rfl ?_
  refine r_iload_n (i := 0) C dX2_joined_8 rfl 0 rfl ?_
  by_cases c3 : a1 = (-14 : Int32)
  · rw [if_pos c3] at hf
    refine r_lookup C 40 dX2_joined_9 (by decide) (by rw [c3] <;> rfl) (by decide) ?_
    refine r_iload_n (i := 3) C dX2_joined_40 rfl 3 rfl ?_
    refine r_if_ne C 51 dX2_joined_41 (by decide) (fun c4 => ?_) (fun c4 => ?_)
    · rw [if_neg c4] at hf
      refine r_iload_n (i := 2) C dX2_joined_51 rfl 2 rfl ?_
      subst hf
      exact r_iret C hF dX2_joined_52
    · rw [if_pos c4] at hf
      refine r_iload_n (i := 2) C dX2_joined_44 rfl 2 rfl ?_
      refine r_bipush (v := (-2)) C dX2_joined_45 (by decide) ?_
      refine r_iand C dX2_joined_47 ?_
      refine r_goto C 52 dX2_joined_48 (by decide) ?_
      subst hf
      exact r_iret C hF dX2_joined_52
  · rw [if_neg c3] at hf
    by_cases c5 : a1 = (-13 : Int32)
    · rw [if_pos c5] at hf
      refine r_lookup C 36 dX2_joined_9 (by decide) (by rw [c5] <;> rfl) (by decide) ?_
      refine r_iload_n (i := 1) C dX2_joined_36 rfl 1 rfl ?_
      refine r_iconst (v := 1) C dX2_joined_37 (by decide) ?_
      refine r_ixor C dX2_joined_38 ?_
      subst hf
      exact r_iret C hF dX2_joined_39
    · rw [if_neg c5] at hf
      refine r_lookup (off := 44) C 53 dX2_joined_9 (by decide) ((lv_osw (a := -14) c3 (by decide)).trans ((lv_osw (a := -13) c5 (by decide)).trans (rfl))) (by decide) ?_
      refine r_iload_n (i := 2) C dX2_joined_53 rfl 2 rfl ?_
      refine r_iload_n (i := 3) C dX2_joined_54 rfl 3 rfl ?_
      refine r_ior C dX2_joined_55 ?_
      subst hf
      exact r_iret C hF dX2_joined_56
def fX4_become (h : Hp) (b : Nat) (b2 : Nat) : Option (Hp) := lt9 (upA h (b + 10) (va_cpy (h (b2 + 10)) (h (b + 10)) 0 0 60)) (fun h1 => lt9 (up2 h1 (b + 9) 1 (h1 (b2 + 9) 1)) (fun h2 => lt9 (up2 h2 (b + 9) 2 (h2 (b2 + 9) 2)) (fun h3 => some h3)))
set_option maxHeartbeats 4000000 in
set_option maxRecDepth 100000 in
theorem kX4_become (G : Gx) {b : Nat} (hb : isSky b) {b2 : Nat} (hb2 : isSky b2) {h : Hp}  {hh : Hp} (hf : fX4_become h b b2 = some hh) : MC G yX4_become cX4_become 2 none 2 128 h [.ref (gad G (b + 9)), .ref (gad G (b2 + 9))] none hh := by
  refine MC.of RX4 (by decide) rfl (Nat.le_of_ble_eq_true rfl) rfl (fun X C hG hR hF => ?_)
  subst hG
  have hcs : True := trivial
  unfold fX4_become at hf
  refine r_aload_n (i := 1) C dX4_become_0 rfl 1 rfl ?_
  refine g_X4_11 hb2 C dX4_become_1 ?_
  refine r_iconst (v := 0) C dX4_become_4 (by decide) ?_
  refine r_aload_n (i := 0) C dX4_become_5 rfl 0 rfl ?_
  refine g_X4_11 hb C dX4_become_6 ?_
  refine r_iconst (v := 0) C dX4_become_9 (by decide) ?_
  refine r_bipush (v := 60) C dX4_become_10 (by decide) ?_
  obtain ⟨h1, eh1, hf⟩ := lt_of hf
  refine r_copyi C (b2 + 10) (b + 10) eh1 (sky_dsc hb2 10 (by decide)) (sky_dsc hb 10 (by decide)) (sky_lt hb2 10 (by decide)) (sky_lt hb 10 (by decide)) (by decide) (by decide) (by decide) (by decide) (by decide) gw_643 gm_ac_n gm_ac_s gm_ac_i (zr1 hR rfl) (zrac hR rfl) dX4_become_12 ?_
  refine r_aload_n (i := 0) C dX4_become_15 rfl 0 rfl ?_
  refine r_aload_n (i := 1) C dX4_become_16 rfl 1 rfl ?_
  refine g_X4_21 hb2 C dX4_become_17 ?_
  obtain ⟨h2, eh2, hf⟩ := lt_of hf
  refine p_X4_21 hb C eh2 dX4_become_20 ?_
  refine r_aload_n (i := 0) C dX4_become_23 rfl 0 rfl ?_
  refine r_aload_n (i := 1) C dX4_become_24 rfl 1 rfl ?_
  refine g_X4_25 hb2 C dX4_become_25 ?_
  obtain ⟨h3, eh3, hf⟩ := lt_of hf
  refine p_X4_25 hb C eh3 dX4_become_28 ?_
  cases hf
  exact r_vret C hF dX4_become_31
def fX4_add (h : Hp) (b : Nat) (a1 : Int32) (a2 : Int32) (a3 : Int32) (a4 : Int32) : Option (Hp) := cl9 (cl9 ((if (h (b + 9) 2) < (0 : Int32) then some true else (if (h (b + 9) 2) < (60 : Int32) then some false else some true)) : Option Bool) (fun q4 => if q4 = true then lt9 (up2 h (b + 9) 2 (0 : Int32)) (fun h10 => some h10) else some h) : Option (Hp)) (fun h1 => gd (inb (h1 (b + 9) 2) 60) (lt9 (up2 h1 (b + 10) (h1 (b + 9) 2).toNatClampNeg ((((a1 <<< ((16 : Int32) &&& 31)) ||| (a2 <<< ((12 : Int32) &&& 31))) ||| (a3 <<< ((8 : Int32) &&& 31))) ||| a4)) (fun h12 => lt9 (up2 h12 (b + 9) 2 (irem ((h12 (b + 9) 2) + (1 : Int32)) (60 : Int32))) (fun h13 => lt9 (up2 h13 (b + 9) 1 (jmin ((h13 (b + 9) 1) + (1 : Int32)) (60 : Int32))) (fun h14 => some h14)))))
set_option maxHeartbeats 4000000 in
set_option maxRecDepth 100000 in
theorem kX4_add (G : Gx) {b : Nat} (hb : isSky b) {h : Hp} {a1 : Int32} {a2 : Int32} {a3 : Int32} {a4 : Int32} {hh : Hp} (hf : fX4_add h b a1 a2 a3 a4 = some hh) : MC G yX4_add cX4_add 5 none 2 128 h [.ref (gad G (b + 9)), .int a1, .int a2, .int a3, .int a4] none hh := by
  refine MC.of RX4 (by decide) rfl (Nat.le_of_ble_eq_true rfl) rfl (fun X C hG hR hF => ?_)
  subst hG
  have hcs : True := trivial
  unfold fX4_add at hf
  refine r_aload_n (i := 0) C dX4_add_0 rfl 0 rfl ?_
  refine g_X4_25 hb C dX4_add_1 ?_
  obtain ⟨h1, r3, hf⟩ := cl_of hf
  have k2 : VW X 5 h1 0 0 21 [(0, .ref (gad (xG X) (b + 9))), (1, .int a1), (2, .int a2), (3, .int a3), (4, .int a4)] [] := by
    refine r_aload_n (i := 0) C dX4_add_21 rfl 0 rfl ?_
    refine g_X4_11 hb C dX4_add_22 ?_
    refine r_aload_n (i := 0) C dX4_add_25 rfl 0 rfl ?_
    refine g_X4_25 hb C dX4_add_26 ?_
    refine r_iload_n (i := 1) C dX4_add_29 rfl 1 rfl ?_
    refine r_bipush (v := 16) C dX4_add_30 (by decide) ?_
    refine r_ishl C dX4_add_32 ?_
    refine r_iload_n (i := 2) C dX4_add_33 rfl 2 rfl ?_
    refine r_bipush (v := 12) C dX4_add_34 (by decide) ?_
    refine r_ishl C dX4_add_36 ?_
    refine r_ior C dX4_add_37 ?_
    refine r_iload_n (i := 3) C dX4_add_38 rfl 3 rfl ?_
    refine r_bipush (v := 8) C dX4_add_39 (by decide) ?_
    refine r_ishl C dX4_add_41 ?_
    refine r_ior C dX4_add_42 ?_
    refine r_iload (i := 4) C dX4_add_43 4 rfl ?_
    refine r_ior C dX4_add_45 ?_
    obtain ⟨g11, hf⟩ := gd_of hf
    obtain ⟨h12, eh12, hf⟩ := lt_of hf
    refine r_iast C (b + 10) eh12 (sky_dsc hb 10 (by decide)) (sky_lt hb 10 (by decide)) g11 dX4_add_46 ?_
    refine r_aload_n (i := 0) C dX4_add_47 rfl 0 rfl ?_
    refine r_aload_n (i := 0) C dX4_add_48 rfl 0 rfl ?_
    refine g_X4_25 hb C dX4_add_49 ?_
    refine r_iconst (v := 1) C dX4_add_52 (by decide) ?_
    refine r_iadd C dX4_add_53 ?_
    refine r_bipush (v := 60) C dX4_add_54 (by decide) ?_
    refine r_irem C dX4_add_56 (by decide) ?_
    obtain ⟨h13, eh13, hf⟩ := lt_of hf
    refine p_X4_25 hb C eh13 dX4_add_57 ?_
    refine r_aload_n (i := 0) C dX4_add_60 rfl 0 rfl ?_
    refine r_aload_n (i := 0) C dX4_add_61 rfl 0 rfl ?_
    refine g_X4_21 hb C dX4_add_62 ?_
    refine r_iconst (v := 1) C dX4_add_65 (by decide) ?_
    refine r_iadd C dX4_add_66 ?_
    refine r_bipush (v := 60) C dX4_add_67 (by decide) ?_
    refine r_mmin9 C gw_680 gm_min_s gm_i gm_min_c (zr1 hR rfl) (zr0 hR (Nat.le_of_ble_eq_true rfl)) (zrcs hcs) dX4_add_69 ?_
    obtain ⟨h14, eh14, hf⟩ := lt_of hf
    refine p_X4_21 hb C eh14 dX4_add_72 ?_
    cases hf
    exact r_vret C hF dX4_add_75
  clear hf
  have hf := r3
  obtain ⟨q4, r7, hf⟩ := cl_of hf
  have k5 : q4 = true → VW X 5 h 0 0 16 [(0, .ref (gad (xG X) (b + 9))), (1, .int a1), (2, .int a2), (3, .int a3), (4, .int a4)] [] := fun qq => by
    rw [if_pos qq] at hf
    refine r_aload_n (i := 0) C dX4_add_16 rfl 0 rfl ?_
    refine r_iconst (v := 0) C dX4_add_17 (by decide) ?_
    obtain ⟨h10, eh10, hf⟩ := lt_of hf
    refine p_X4_25 hb C eh10 dX4_add_18 ?_
    cases hf
    exact k2
  have k6 : q4 = false → VW X 5 h 0 0 21 [(0, .ref (gad (xG X) (b + 9))), (1, .int a1), (2, .int a2), (3, .int a3), (4, .int a4)] [] := fun qq => by
    rw [if_neg (by rw [qq]; decide)] at hf
    cases hf
    exact k2
  clear hf
  have hf := r7
  refine r_if_lt C 16 dX4_add_4 (by decide) (fun c8 => ?_) (fun c8 => ?_)
  · rw [if_pos c8] at hf
    exact k5 (Option.some.inj hf).symm
  · rw [if_neg c8] at hf
    refine r_aload_n (i := 0) C dX4_add_7 rfl 0 rfl ?_
    refine g_X4_25 hb C dX4_add_8 ?_
    refine r_bipush (v := 60) C dX4_add_11 (by decide) ?_
    refine r_icmp_lt C 21 dX4_add_13 (by decide) (fun c9 => ?_) (fun c9 => ?_)
    · rw [if_pos c9] at hf
      exact k6 (Option.some.inj hf).symm
    · rw [if_neg c9] at hf
      exact k5 (Option.some.inj hf).symm
def fX4_rowAgo (h : Hp) (b : Nat) (a1 : Int32) : Option (Int32) := lt9 (irem ((((h (b + 9) 2) - (1 : Int32)) - a1) + (120 : Int32)) (60 : Int32)) (fun x1 => (if (0 : Int32) ≤ x1 then gd (inb x1 60) (some (h (b + 10) x1.toNatClampNeg)) else some (0 : Int32)))
set_option maxHeartbeats 4000000 in
set_option maxRecDepth 100000 in
theorem kX4_rowAgo (G : Gx) {b : Nat} (hb : isSky b) {h : Hp} {a1 : Int32} {rr : Int32} (hf : fX4_rowAgo h b a1 = some rr) : MC G yX4_rowAgo cX4_rowAgo 3 (some .int) 1 64 h [.ref (gad G (b + 9)), .int a1] (some (.int rr)) h := by
  refine MC.of RX4 (by decide) rfl (Nat.le_of_ble_eq_true rfl) rfl (fun X C hG hR hF => ?_)
  subst hG
  have hcs : True := trivial
  unfold fX4_rowAgo at hf
  refine r_aload_n (i := 0) C dX4_rowAgo_0 rfl 0 rfl ?_
  refine g_X4_25 hb C dX4_rowAgo_1 ?_
  refine r_iconst (v := 1) C dX4_rowAgo_4 (by decide) ?_
  refine r_isub C dX4_rowAgo_5 ?_
  refine r_iload_n (i := 1) C dX4_rowAgo_6 rfl 1 rfl ?_
  refine r_isub C dX4_rowAgo_7 ?_
  refine r_bipush (v := 120) C dX4_rowAgo_8 (by decide) ?_
  refine r_iadd C dX4_rowAgo_10 ?_
  refine r_bipush (v := 60) C dX4_rowAgo_11 (by decide) ?_
  refine r_irem C dX4_rowAgo_13 (by decide) ?_
  obtain ⟨x1, ex1, hf⟩ := lt_of hf
  refine r_top ex1 ?_
  refine r_istore_n (i := 2) (lv' := [(0, .ref (gad (xG X) (b + 9))), (1, .int a1), (2, .int x1)]) C dX4_rowAgo_14 rfl (by decide) [1, 2, 0] rfl ?_
  refine r_iload_n (i := 2) C dX4_rowAgo_15 rfl 2 rfl ?_
  refine r_if_ge C 23 dX4_rowAgo_16 (by decide) (fun c2 => ?_) (fun c2 => ?_)
  · rw [if_pos c2] at hf
    refine r_aload_n (i := 0) C dX4_rowAgo_23 rfl 0 rfl ?_
    refine g_X4_11 hb C dX4_rowAgo_24 ?_
    refine r_iload_n (i := 2) C dX4_rowAgo_27 rfl 2 rfl ?_
    obtain ⟨g3, hf⟩ := gd_of hf
    refine r_iald C (b + 10) (sky_dsc hb 10 (by decide)) (sky_lt hb 10 (by decide)) g3 dX4_rowAgo_28 ?_
    cases hf
    exact r_iret C hF dX4_rowAgo_29
  · rw [if_neg c2] at hf
    refine r_iconst (v := 0) C dX4_rowAgo_19 (by decide) ?_
    refine r_goto C 29 dX4_rowAgo_20 (by decide) ?_
    cases hf
    exact r_iret C hF dX4_rowAgo_29
def fX4_tell (h : Hp) (b : Nat) (a1 : Int32) (a2 : Int32) : Option (Int32) := cl9 ((if a1 < (0 : Int32) then some true else (if a1 < (h (b + 9) 1) then some false else some true)) : Option Bool) (fun q1 => if q1 = true then some (-1 : Int32) else cl9 (fX4_rowAgo h b a1) (fun x7 => (if a2 = (0 : Int32) then some (ushr x7 (16 : Int32)) else (if a2 = (1 : Int32) then some ((ushr x7 (12 : Int32)) &&& (15 : Int32)) else (if a2 = (2 : Int32) then some ((ushr x7 (8 : Int32)) &&& (15 : Int32)) else some (x7 &&& (255 : Int32)))))))
set_option maxHeartbeats 4000000 in
set_option maxRecDepth 100000 in
theorem kX4_tell (G : Gx) {b : Nat} (hb : isSky b) {h : Hp} {a1 : Int32} {a2 : Int32} {rr : Int32} (hf : fX4_tell h b a1 a2 = some rr) : MC G yX4_tell cX4_tell 4 (some .int) 2 128 h [.ref (gad G (b + 9)), .int a1, .int a2] (some (.int rr)) h := by
  refine MC.of RX4 (by decide) rfl (Nat.le_of_ble_eq_true rfl) rfl (fun X C hG hR hF => ?_)
  subst hG
  have hcs : True := trivial
  unfold fX4_tell at hf
  refine r_iload_n (i := 1) C dX4_tell_0 rfl 1 rfl ?_
  obtain ⟨q1, r4, hf⟩ := cl_of hf
  have k2 : q1 = true → VW X 4 h 0 0 12 [(0, .ref (gad (xG X) (b + 9))), (1, .int a1), (2, .int a2)] [] := fun qq => by
    rw [if_pos qq] at hf
    refine r_iconst (v := (-1)) C dX4_tell_12 (by decide) ?_
    cases hf
    exact r_iret C hF dX4_tell_13
  have k3 : q1 = false → VW X 4 h 0 0 14 [(0, .ref (gad (xG X) (b + 9))), (1, .int a1), (2, .int a2)] [] := fun qq => by
    rw [if_neg (by rw [qq]; decide)] at hf
    refine r_aload_n (i := 0) C dX4_tell_14 rfl 0 rfl ?_
    refine r_iload_n (i := 1) C dX4_tell_15 rfl 1 rfl ?_
    obtain ⟨x7, e8, hf⟩ := cl_of hf
    refine r_callVi (As := [.int a1]) (st := []) C (b + 9) (sky_dsc hb 9 (by decide)) (sky_lt hb 9 (by decide)) rfl (kX4_rowAgo (xG X) hb e8) cw_X4_34 rfl rfl (Nat.le_of_ble_eq_true rfl) (zr2 hR rfl rfl) (zrcs hcs) dX4_tell_16 ?_
    refine r_istore_n (i := 3) (lv' := [(0, .ref (gad (xG X) (b + 9))), (1, .int a1), (2, .int a2), (3, .int x7)]) C dX4_tell_19 rfl (by decide) [1, 2, 3, 0] rfl ?_
    refine r_iload_n (i := 2) C dX4_tell_20 rfl 2 rfl ?_
    by_cases c9 : a2 = (0 : Int32)
    · rw [if_pos c9] at hf
      refine r_tableIn C 48 dX4_tell_21 (by rw [c9] <;> decide) (by rw [c9] <;> decide) (by rw [c9] <;> rfl) (by decide) ?_
      refine r_iload_n (i := 3) C dX4_tell_48 rfl 3 rfl ?_
      refine r_bipush (v := 16) C dX4_tell_49 (by decide) ?_
      refine r_iushr C dX4_tell_51 ?_
      cases hf
      exact r_iret C hF dX4_tell_52
    · rw [if_neg c9] at hf
      by_cases c10 : a2 = (1 : Int32)
      · rw [if_pos c10] at hf
        refine r_tableIn C 53 dX4_tell_21 (by rw [c10] <;> decide) (by rw [c10] <;> decide) (by rw [c10] <;> rfl) (by decide) ?_
        refine r_iload_n (i := 3) C dX4_tell_53 rfl 3 rfl ?_
        refine r_bipush (v := 12) C dX4_tell_54 (by decide) ?_
        refine r_iushr C dX4_tell_56 ?_
        refine r_bipush (v := 15) C dX4_tell_57 (by decide) ?_
        refine r_iand C dX4_tell_59 ?_
        cases hf
        exact r_iret C hF dX4_tell_60
      · rw [if_neg c10] at hf
        by_cases c11 : a2 = (2 : Int32)
        · rw [if_pos c11] at hf
          refine r_tableIn C 61 dX4_tell_21 (by rw [c11] <;> decide) (by rw [c11] <;> decide) (by rw [c11] <;> rfl) (by decide) ?_
          refine r_iload_n (i := 3) C dX4_tell_61 rfl 3 rfl ?_
          refine r_bipush (v := 8) C dX4_tell_62 (by decide) ?_
          refine r_iushr C dX4_tell_64 ?_
          refine r_bipush (v := 15) C dX4_tell_65 (by decide) ?_
          refine r_iand C dX4_tell_67 ?_
          cases hf
          exact r_iret C hF dX4_tell_68
        · rw [if_neg c11] at hf
          refine r_tableOut C 69 dX4_tell_21 (sw_out2 (0) (2) 3 (by decide) ?_ (by decide) (by decide)) (by decide) ?_
          · intro k9 h9
            match k9, h9 with
            | 0, _ => exact fun e9 => c9 (e9.trans (by decide))
            | 1, _ => exact fun e9 => c10 (e9.trans (by decide))
            | 2, _ => exact fun e9 => c11 (e9.trans (by decide))
            | k9 + 3, h9 => exact absurd h9 (by omega)
          refine r_iload_n (i := 3) C dX4_tell_69 rfl 3 rfl ?_
          refine r_sipush (v := 255) C dX4_tell_70 (by decide) ?_
          refine r_iand C dX4_tell_73 ?_
          cases hf
          exact r_iret C hF dX4_tell_74
  clear hf
  have hf := r4
  refine r_if_lt C 12 dX4_tell_1 (by decide) (fun c5 => ?_) (fun c5 => ?_)
  · rw [if_pos c5] at hf
    exact k2 (Option.some.inj hf).symm
  · rw [if_neg c5] at hf
    refine r_iload_n (i := 1) C dX4_tell_4 rfl 1 rfl ?_
    refine r_aload_n (i := 0) C dX4_tell_5 rfl 0 rfl ?_
    refine g_X4_21 hb C dX4_tell_6 ?_
    refine r_icmp_lt C 14 dX4_tell_9 (by decide) (fun c6 => ?_) (fun c6 => ?_)
    · rw [if_pos c6] at hf
      exact k3 (Option.some.inj hf).symm
    · rw [if_neg c6] at hf
      exact k2 (Option.some.inj hf).symm
def BX4_rowsOf_0 (h : Hp) (b : Nat) (rec : Int32 → Int32 → Int32 → Option (Int32)) (y1 : Int32) (y2 : Int32) (y3 : Int32) : Option (Int32) := (if (h (b + 9) 1) ≤ y3 then some y2 else cl9 (fX4_tell h b y3 (1 : Int32)) (fun x2 => (if x2 = y1 then lt9 (y2 + (1 : Int32)) (fun x6 => lt9 (y3 + (1 : Int32)) (fun x7 => rec y1 x6 x7)) else lt9 (y3 + (1 : Int32)) (fun x5 => rec y1 y2 x5))))
def LX4_rowsOf (h : Hp) (b : Nat) : Nat → Int32 → Int32 → Int32 → Option (Int32)
  | 0, _, _, _ => none
  | n + 1, y1, y2, y3 => BX4_rowsOf_0 h b (LX4_rowsOf h b n) y1 y2 y3
def fX4_rowsOf (h : Hp) (b : Nat) (a1 : Int32) : Option (Int32) := LX4_rowsOf h b big a1 (0 : Int32) (0 : Int32)
set_option maxHeartbeats 4000000 in
set_option maxRecDepth 100000 in
theorem wX4_rowsOf {X : Cx} {h : Hp} {b : Nat} (hb : isSky b) {rr : Int32} (C : OK X cX4_rowsOf 4 RX4 (some .int)) (hR : xR X = { frames := 3, cells := 0, slots := 0, locals := 192 }) (hcs : True) (hF : FinR X (some (.int rr)) h) : ∀ n : Nat, (∀ (y1 : Int32) (y2 : Int32) (y3 : Int32), LX4_rowsOf h b n y1 y2 y3 = some rr → VW X 4 h 0 0 4 [(0, .ref (gad (xG X) (b + 9))), (1, .int y1), (2, .int y2), (3, .int y3)] []) := by
  intro n
  induction n with
  | zero => exact (fun _ _ _ hf => (by rw [LX4_rowsOf] at hf; cases hf))
  | succ n ih =>
    intro y1 y2 y3 hf
    rw [LX4_rowsOf] at hf
    unfold BX4_rowsOf_0 at hf
    refine r_iload_n (i := 3) C dX4_rowsOf_4 rfl 3 rfl ?_
    refine r_aload_n (i := 0) C dX4_rowsOf_5 rfl 0 rfl ?_
    refine g_X4_21 hb C dX4_rowsOf_6 ?_
    refine r_icmp_ge C 31 dX4_rowsOf_9 (by decide) (fun c1 => ?_) (fun c1 => ?_)
    · rw [if_pos c1] at hf
      refine r_iload_n (i := 2) C dX4_rowsOf_31 rfl 2 rfl ?_
      cases hf
      exact r_iret C hF dX4_rowsOf_32
    · rw [if_neg c1] at hf
      refine r_aload_n (i := 0) C dX4_rowsOf_12 rfl 0 rfl ?_
      refine r_iload_n (i := 3) C dX4_rowsOf_13 rfl 3 rfl ?_
      refine r_iconst (v := 1) C dX4_rowsOf_14 (by decide) ?_
      obtain ⟨x2, e3, hf⟩ := cl_of hf
      refine r_callVi (As := [.int y3, .int (1 : Int32)]) (st := []) C (b + 9) (sky_dsc hb 9 (by decide)) (sky_lt hb 9 (by decide)) rfl (kX4_tell (xG X) hb e3) cw_X4_38 rfl rfl (Nat.le_of_ble_eq_true rfl) (zr2 hR rfl rfl) (zrcs hcs) dX4_rowsOf_15 ?_
      refine r_iload_n (i := 1) C dX4_rowsOf_18 rfl 1 rfl ?_
      refine r_icmp_ne C 25 dX4_rowsOf_19 (by decide) (fun c4 => ?_) (fun c4 => ?_)
      · rw [if_neg c4] at hf
        obtain ⟨x5, ex5, hf⟩ := lt_of hf
        refine r_iinc (j := 3) (v := x5) (lv' := [(0, .ref (gad (xG X) (b + 9))), (1, .int y1), (2, .int y2), (3, .int x5)]) C dX4_rowsOf_25 rfl (by rw [ex5]; rfl) (by decide) [1, 2, 3, 0] rfl ?_
        refine r_goto C 4 dX4_rowsOf_28 (by decide) ?_
        exact r_lv [0, 1, 2, 3] rfl (ih _ _ _ hf)
      · rw [if_pos c4] at hf
        obtain ⟨x6, ex6, hf⟩ := lt_of hf
        refine r_iinc (j := 2) (v := x6) (lv' := [(0, .ref (gad (xG X) (b + 9))), (1, .int y1), (2, .int x6), (3, .int y3)]) C dX4_rowsOf_22 rfl (by rw [ex6]; rfl) (by decide) [1, 2, 0, 3] rfl ?_
        obtain ⟨x7, ex7, hf⟩ := lt_of hf
        refine r_iinc (j := 3) (v := x7) (lv' := [(0, .ref (gad (xG X) (b + 9))), (1, .int y1), (2, .int x6), (3, .int x7)]) C dX4_rowsOf_25 rfl (by rw [ex7]; rfl) (by decide) [1, 2, 3, 0] rfl ?_
        refine r_goto C 4 dX4_rowsOf_28 (by decide) ?_
        exact r_lv [0, 1, 2, 3] rfl (ih _ _ _ hf)
set_option maxHeartbeats 4000000 in
set_option maxRecDepth 100000 in
theorem kX4_rowsOf (G : Gx) {b : Nat} (hb : isSky b) {h : Hp} {a1 : Int32} {rr : Int32} (hf : fX4_rowsOf h b a1 = some rr) : MC G yX4_rowsOf cX4_rowsOf 4 (some .int) 3 192 h [.ref (gad G (b + 9)), .int a1] (some (.int rr)) h := by
  refine MC.of RX4 (by decide) rfl (Nat.le_of_ble_eq_true rfl) rfl (fun X C hG hR hF => ?_)
  subst hG
  have hcs : True := trivial
  unfold fX4_rowsOf at hf
  refine r_iconst (v := 0) C dX4_rowsOf_0 (by decide) ?_
  refine r_istore_n (i := 2) (lv' := [(0, .ref (gad (xG X) (b + 9))), (1, .int a1), (2, .int (0 : Int32))]) C dX4_rowsOf_1 rfl (by decide) [1, 2, 0] rfl ?_
  refine r_iconst (v := 0) C dX4_rowsOf_2 (by decide) ?_
  refine r_istore_n (i := 3) (lv' := [(0, .ref (gad (xG X) (b + 9))), (1, .int a1), (2, .int (0 : Int32)), (3, .int (0 : Int32))]) C dX4_rowsOf_3 rfl (by decide) [1, 2, 3, 0] rfl ?_
  exact r_lv [0, 1, 2, 3] rfl ((wX4_rowsOf hb C hR hcs hF big) _ _ _ hf)
def BX4_latestDayOf_0 (h : Hp) (b : Nat) (rec : Int32 → Int32 → Option (Int32)) (y1 : Int32) (y2 : Int32) : Option (Int32) := (if (h (b + 9) 1) ≤ y2 then some (-1 : Int32) else cl9 (fX4_tell h b y2 (1 : Int32)) (fun x2 => (if x2 = y1 then cl9 (fX4_tell h b y2 (0 : Int32)) (fun x6 => some x6) else lt9 (y2 + (1 : Int32)) (fun x5 => rec y1 x5))))
def LX4_latestDayOf (h : Hp) (b : Nat) : Nat → Int32 → Int32 → Option (Int32)
  | 0, _, _ => none
  | n + 1, y1, y2 => BX4_latestDayOf_0 h b (LX4_latestDayOf h b n) y1 y2
def fX4_latestDayOf (h : Hp) (b : Nat) (a1 : Int32) : Option (Int32) := LX4_latestDayOf h b big a1 (0 : Int32)
set_option maxHeartbeats 4000000 in
set_option maxRecDepth 100000 in
theorem wX4_latestDayOf {X : Cx} {h : Hp} {b : Nat} (hb : isSky b) {rr : Int32} (C : OK X cX4_latestDayOf 3 RX4 (some .int)) (hR : xR X = { frames := 3, cells := 0, slots := 0, locals := 192 }) (hcs : True) (hF : FinR X (some (.int rr)) h) : ∀ n : Nat, (∀ (y1 : Int32) (y2 : Int32), LX4_latestDayOf h b n y1 y2 = some rr → VW X 3 h 0 0 2 [(0, .ref (gad (xG X) (b + 9))), (1, .int y1), (2, .int y2)] []) := by
  intro n
  induction n with
  | zero => exact (fun _ _ hf => (by rw [LX4_latestDayOf] at hf; cases hf))
  | succ n ih =>
    intro y1 y2 hf
    rw [LX4_latestDayOf] at hf
    unfold BX4_latestDayOf_0 at hf
    refine r_iload_n (i := 2) C dX4_latestDayOf_2 rfl 2 rfl ?_
    refine r_aload_n (i := 0) C dX4_latestDayOf_3 rfl 0 rfl ?_
    refine g_X4_21 hb C dX4_latestDayOf_4 ?_
    refine r_icmp_ge C 33 dX4_latestDayOf_7 (by decide) (fun c1 => ?_) (fun c1 => ?_)
    · rw [if_pos c1] at hf
      refine r_iconst (v := (-1)) C dX4_latestDayOf_33 (by decide) ?_
      cases hf
      exact r_iret C hF dX4_latestDayOf_34
    · rw [if_neg c1] at hf
      refine r_aload_n (i := 0) C dX4_latestDayOf_10 rfl 0 rfl ?_
      refine r_iload_n (i := 2) C dX4_latestDayOf_11 rfl 2 rfl ?_
      refine r_iconst (v := 1) C dX4_latestDayOf_12 (by decide) ?_
      obtain ⟨x2, e3, hf⟩ := cl_of hf
      refine r_callVi (As := [.int y2, .int (1 : Int32)]) (st := []) C (b + 9) (sky_dsc hb 9 (by decide)) (sky_lt hb 9 (by decide)) rfl (kX4_tell (xG X) hb e3) cw_X4_38 rfl rfl (Nat.le_of_ble_eq_true rfl) (zr2 hR rfl rfl) (zrcs hcs) dX4_latestDayOf_13 ?_
      refine r_iload_n (i := 1) C dX4_latestDayOf_16 rfl 1 rfl ?_
      refine r_icmp_ne C 27 dX4_latestDayOf_17 (by decide) (fun c4 => ?_) (fun c4 => ?_)
      · rw [if_neg c4] at hf
        obtain ⟨x5, ex5, hf⟩ := lt_of hf
        refine r_iinc (j := 2) (v := x5) (lv' := [(0, .ref (gad (xG X) (b + 9))), (1, .int y1), (2, .int x5)]) C dX4_latestDayOf_27 rfl (by rw [ex5]; rfl) (by decide) [1, 2, 0] rfl ?_
        refine r_goto C 2 dX4_latestDayOf_30 (by decide) ?_
        exact r_lv [0, 1, 2] rfl (ih _ _ hf)
      · rw [if_pos c4] at hf
        refine r_aload_n (i := 0) C dX4_latestDayOf_20 rfl 0 rfl ?_
        refine r_iload_n (i := 2) C dX4_latestDayOf_21 rfl 2 rfl ?_
        refine r_iconst (v := 0) C dX4_latestDayOf_22 (by decide) ?_
        obtain ⟨x6, e7, hf⟩ := cl_of hf
        refine r_callVi (As := [.int y2, .int (0 : Int32)]) (st := []) C (b + 9) (sky_dsc hb 9 (by decide)) (sky_lt hb 9 (by decide)) rfl (kX4_tell (xG X) hb e7) cw_X4_38 rfl rfl (Nat.le_of_ble_eq_true rfl) (zr2 hR rfl rfl) (zrcs hcs) dX4_latestDayOf_23 ?_
        cases hf
        exact r_iret C hF dX4_latestDayOf_26
set_option maxHeartbeats 4000000 in
set_option maxRecDepth 100000 in
theorem kX4_latestDayOf (G : Gx) {b : Nat} (hb : isSky b) {h : Hp} {a1 : Int32} {rr : Int32} (hf : fX4_latestDayOf h b a1 = some rr) : MC G yX4_latestDayOf cX4_latestDayOf 3 (some .int) 3 192 h [.ref (gad G (b + 9)), .int a1] (some (.int rr)) h := by
  refine MC.of RX4 (by decide) rfl (Nat.le_of_ble_eq_true rfl) rfl (fun X C hG hR hF => ?_)
  subst hG
  have hcs : True := trivial
  unfold fX4_latestDayOf at hf
  refine r_iconst (v := 0) C dX4_latestDayOf_0 (by decide) ?_
  refine r_istore_n (i := 2) (lv' := [(0, .ref (gad (xG X) (b + 9))), (1, .int a1), (2, .int (0 : Int32))]) C dX4_latestDayOf_1 rfl (by decide) [1, 2, 0] rfl ?_
  exact r_lv [0, 1, 2] rfl ((wX4_latestDayOf hb C hR hcs hF big) _ _ hf)
def fX5_forget (h : Hp) : Option (Hp) := lt9 (up2 h 18 1 (0 : Int32)) (fun h1 => some h1)
set_option maxHeartbeats 4000000 in
set_option maxRecDepth 100000 in
theorem kX5_forget (G : Gx)  {h : Hp}  {hh : Hp} (hf : fX5_forget h = some hh) : MC G yX5_forget cX5_forget 1 none 1 64 h [.ref (gad G 18)] none hh := by
  refine MC.of RX5 (by decide) rfl (Nat.le_of_ble_eq_true rfl) rfl (fun X C hG hR hF => ?_)
  subst hG
  have hcs : True := trivial
  unfold fX5_forget at hf
  refine r_aload_n (i := 0) C dX5_forget_0 rfl 0 rfl ?_
  refine r_iconst (v := 0) C dX5_forget_1 (by decide) ?_
  obtain ⟨h1, eh1, hf⟩ := lt_of hf
  refine p_X5_24 C eh1 dX5_forget_2 ?_
  cases hf
  exact r_vret C hF dX5_forget_5
def fX7_become (h : Hp) (b : Nat) (b2 : Nat) : Option (Hp) := lt9 (upA h (b + 1) (va_cpy (h (b2 + 1)) (h (b + 1)) 0 0 16)) (fun h1 => lt9 (upA h1 (b + 2) (va_cpy (h1 (b2 + 2)) (h1 (b + 2)) 0 0 16)) (fun h2 => lt9 (upA h2 (b + 3) (va_cpy (h2 (b2 + 3)) (h2 (b + 3)) 0 0 16)) (fun h3 => lt9 (upA h3 (b + 4) (va_cpy (h3 (b2 + 4)) (h3 (b + 4)) 0 0 16)) (fun h4 => lt9 (up2 h4 b 4 (h4 b2 4)) (fun h5 => lt9 (up2 h5 b 5 (h5 b2 5)) (fun h6 => cl9 (fX0_become h6 b b2) (fun h7 => cl9 (fX4_become h7 b b2) (fun h9 => lt9 (up2 h9 b 8 (h9 b2 8)) (fun h11 => lt9 (up2 h11 b 9 (h11 b2 9)) (fun h12 => lt9 (up2 h12 b 10 (h12 b2 10)) (fun h13 => lt9 (up2 h13 b 11 (h13 b2 11)) (fun h14 => lt9 (up2 h14 b 12 (h14 b2 12)) (fun h15 => lt9 (up2 h15 b 13 (h15 b2 13)) (fun h16 => lt9 (up2 h16 b 14 (h16 b2 14)) (fun h17 => lt9 (up2 h17 b 15 (h17 b2 15)) (fun h18 => lt9 (up2 h18 b 16 (h18 b2 16)) (fun h19 => some h19)))))))))))))))))
set_option maxHeartbeats 4000000 in
set_option maxRecDepth 100000 in
theorem kX7_become (G : Gx) {b : Nat} (hb : isSky b) {b2 : Nat} (hb2 : isSky b2) {h : Hp}  {hh : Hp} (hf : fX7_become h b b2 = some hh) : MC G yX7_become cX7_become 2 none 4 256 h [.ref (gad G b), .ref (gad G b2)] none hh := by
  refine MC.of RX7 (by decide) rfl (Nat.le_of_ble_eq_true rfl) rfl (fun X C hG hR hF => ?_)
  subst hG
  have hcs : True := trivial
  unfold fX7_become at hf
  refine r_aload_n (i := 1) C dX7_become_0 rfl 1 rfl ?_
  refine g_X7_9 hb2 C dX7_become_1 ?_
  refine r_iconst (v := 0) C dX7_become_4 (by decide) ?_
  refine r_aload_n (i := 0) C dX7_become_5 rfl 0 rfl ?_
  refine g_X7_9 hb C dX7_become_6 ?_
  refine r_iconst (v := 0) C dX7_become_9 (by decide) ?_
  refine r_bipush (v := 16) C dX7_become_10 (by decide) ?_
  obtain ⟨h1, eh1, hf⟩ := lt_of hf
  refine r_copyi C (b2 + 1) (b + 1) eh1 (sky_dsc hb2 1 (by decide)) (sky_dsc hb 1 (by decide)) (sky_lt hb2 1 (by decide)) (sky_lt hb 1 (by decide)) (by decide) (by decide) (by decide) (by decide) (by decide) gw_631 gm_ac_n gm_ac_s gm_ac_i (zr1 hR rfl) (zrac hR rfl) dX7_become_12 ?_
  refine r_aload_n (i := 1) C dX7_become_15 rfl 1 rfl ?_
  refine g_X7_15 hb2 C dX7_become_16 ?_
  refine r_iconst (v := 0) C dX7_become_19 (by decide) ?_
  refine r_aload_n (i := 0) C dX7_become_20 rfl 0 rfl ?_
  refine g_X7_15 hb C dX7_become_21 ?_
  refine r_iconst (v := 0) C dX7_become_24 (by decide) ?_
  refine r_bipush (v := 16) C dX7_become_25 (by decide) ?_
  obtain ⟨h2, eh2, hf⟩ := lt_of hf
  refine r_copyi C (b2 + 2) (b + 2) eh2 (sky_dsc hb2 2 (by decide)) (sky_dsc hb 2 (by decide)) (sky_lt hb2 2 (by decide)) (sky_lt hb 2 (by decide)) (by decide) (by decide) (by decide) (by decide) (by decide) gw_631 gm_ac_n gm_ac_s gm_ac_i (zr1 hR rfl) (zrac hR rfl) dX7_become_27 ?_
  refine r_aload_n (i := 1) C dX7_become_30 rfl 1 rfl ?_
  refine g_X7_18 hb2 C dX7_become_31 ?_
  refine r_iconst (v := 0) C dX7_become_34 (by decide) ?_
  refine r_aload_n (i := 0) C dX7_become_35 rfl 0 rfl ?_
  refine g_X7_18 hb C dX7_become_36 ?_
  refine r_iconst (v := 0) C dX7_become_39 (by decide) ?_
  refine r_bipush (v := 16) C dX7_become_40 (by decide) ?_
  obtain ⟨h3, eh3, hf⟩ := lt_of hf
  refine r_copyi C (b2 + 3) (b + 3) eh3 (sky_dsc hb2 3 (by decide)) (sky_dsc hb 3 (by decide)) (sky_lt hb2 3 (by decide)) (sky_lt hb 3 (by decide)) (by decide) (by decide) (by decide) (by decide) (by decide) gw_631 gm_ac_n gm_ac_s gm_ac_i (zr1 hR rfl) (zrac hR rfl) dX7_become_42 ?_
  refine r_aload_n (i := 1) C dX7_become_45 rfl 1 rfl ?_
  refine g_X7_21 hb2 C dX7_become_46 ?_
  refine r_iconst (v := 0) C dX7_become_49 (by decide) ?_
  refine r_aload_n (i := 0) C dX7_become_50 rfl 0 rfl ?_
  refine g_X7_21 hb C dX7_become_51 ?_
  refine r_iconst (v := 0) C dX7_become_54 (by decide) ?_
  refine r_bipush (v := 16) C dX7_become_55 (by decide) ?_
  obtain ⟨h4, eh4, hf⟩ := lt_of hf
  refine r_copyi C (b2 + 4) (b + 4) eh4 (sky_dsc hb2 4 (by decide)) (sky_dsc hb 4 (by decide)) (sky_lt hb2 4 (by decide)) (sky_lt hb 4 (by decide)) (by decide) (by decide) (by decide) (by decide) (by decide) gw_631 gm_ac_n gm_ac_s gm_ac_i (zr1 hR rfl) (zrac hR rfl) dX7_become_57 ?_
  refine r_aload_n (i := 0) C dX7_become_60 rfl 0 rfl ?_
  refine r_aload_n (i := 1) C dX7_become_61 rfl 1 rfl ?_
  refine g_X7_54 hb2 C dX7_become_62 ?_
  obtain ⟨h5, eh5, hf⟩ := lt_of hf
  refine p_X7_54 hb C eh5 dX7_become_65 ?_
  refine r_aload_n (i := 0) C dX7_become_68 rfl 0 rfl ?_
  refine r_aload_n (i := 1) C dX7_become_69 rfl 1 rfl ?_
  refine g_X7_57 hb2 C dX7_become_70 ?_
  obtain ⟨h6, eh6, hf⟩ := lt_of hf
  refine p_X7_57 hb C eh6 dX7_become_73 ?_
  refine r_aload_n (i := 0) C dX7_become_76 rfl 0 rfl ?_
  refine g_X7_27 hb C dX7_become_77 ?_
  refine r_aload_n (i := 1) C dX7_become_80 rfl 1 rfl ?_
  refine g_X7_27 hb2 C dX7_become_81 ?_
  obtain ⟨h7, e8, hf⟩ := cl_of hf
  refine r_callNVv (As := [.ref (gad (xG X) (b2 + 5))]) (st := []) C (b + 5) (sky_dsc hb 5 (by decide)) (sky_lt hb 5 (by decide)) rfl (kX0_become (xG X) hb hb2 e8) cw_X7_60 rfl rfl (Nat.le_of_ble_eq_true rfl) (zr2 hR rfl rfl) (zrcs hcs) dX7_become_84 ?_
  refine r_aload_n (i := 0) C dX7_become_87 rfl 0 rfl ?_
  refine g_X7_34 hb C dX7_become_88 ?_
  refine r_aload_n (i := 1) C dX7_become_91 rfl 1 rfl ?_
  refine g_X7_34 hb2 C dX7_become_92 ?_
  obtain ⟨h9, e10, hf⟩ := cl_of hf
  refine r_callNVv (As := [.ref (gad (xG X) (b2 + 9))]) (st := []) C (b + 9) (sky_dsc hb 9 (by decide)) (sky_lt hb 9 (by decide)) rfl (kX4_become (xG X) hb hb2 e10) cw_X7_64 rfl rfl (Nat.le_of_ble_eq_true rfl) (zr2 hR rfl rfl) (zrcs hcs) dX7_become_95 ?_
  refine r_aload_n (i := 0) C dX7_become_98 rfl 0 rfl ?_
  refine r_aload_n (i := 1) C dX7_become_99 rfl 1 rfl ?_
  refine g_X7_38 hb2 C dX7_become_100 ?_
  obtain ⟨h11, eh11, hf⟩ := lt_of hf
  refine p_X7_38 hb C eh11 dX7_become_103 ?_
  refine r_aload_n (i := 0) C dX7_become_106 rfl 0 rfl ?_
  refine r_aload_n (i := 1) C dX7_become_107 rfl 1 rfl ?_
  refine g_X7_42 hb2 C dX7_become_108 ?_
  obtain ⟨h12, eh12, hf⟩ := lt_of hf
  refine p_X7_42 hb C eh12 dX7_become_111 ?_
  refine r_aload_n (i := 0) C dX7_become_114 rfl 0 rfl ?_
  refine r_aload_n (i := 1) C dX7_become_115 rfl 1 rfl ?_
  refine g_X7_67 hb2 C dX7_become_116 ?_
  obtain ⟨h13, eh13, hf⟩ := lt_of hf
  refine p_X7_67 hb C eh13 dX7_become_119 ?_
  refine r_aload_n (i := 0) C dX7_become_122 rfl 0 rfl ?_
  refine r_aload_n (i := 1) C dX7_become_123 rfl 1 rfl ?_
  refine g_X7_70 hb2 C dX7_become_124 ?_
  obtain ⟨h14, eh14, hf⟩ := lt_of hf
  refine p_X7_70 hb C eh14 dX7_become_127 ?_
  refine r_aload_n (i := 0) C dX7_become_130 rfl 0 rfl ?_
  refine r_aload_n (i := 1) C dX7_become_131 rfl 1 rfl ?_
  refine g_X7_73 hb2 C dX7_become_132 ?_
  obtain ⟨h15, eh15, hf⟩ := lt_of hf
  refine p_X7_73 hb C eh15 dX7_become_135 ?_
  refine r_aload_n (i := 0) C dX7_become_138 rfl 0 rfl ?_
  refine r_aload_n (i := 1) C dX7_become_139 rfl 1 rfl ?_
  refine g_X7_76 hb2 C dX7_become_140 ?_
  obtain ⟨h16, eh16, hf⟩ := lt_of hf
  refine p_X7_76 hb C eh16 dX7_become_143 ?_
  refine r_aload_n (i := 0) C dX7_become_146 rfl 0 rfl ?_
  refine r_aload_n (i := 1) C dX7_become_147 rfl 1 rfl ?_
  refine g_X7_45 hb2 C dX7_become_148 ?_
  obtain ⟨h17, eh17, hf⟩ := lt_of hf
  refine p_X7_45 hb C eh17 dX7_become_151 ?_
  refine r_aload_n (i := 0) C dX7_become_154 rfl 0 rfl ?_
  refine r_aload_n (i := 1) C dX7_become_155 rfl 1 rfl ?_
  refine g_X7_79 hb2 C dX7_become_156 ?_
  obtain ⟨h18, eh18, hf⟩ := lt_of hf
  refine p_X7_79 hb C eh18 dX7_become_159 ?_
  refine r_aload_n (i := 0) C dX7_become_162 rfl 0 rfl ?_
  refine r_aload_n (i := 1) C dX7_become_163 rfl 1 rfl ?_
  refine g_X7_82 hb2 C dX7_become_164 ?_
  obtain ⟨h19, eh19, hf⟩ := lt_of hf
  refine p_X7_82 hb C eh19 dX7_become_167 ?_
  cases hf
  exact r_vret C hF dX7_become_170
def fX7_free (h : Hp) (b : Nat) : Int32 := (((65535 : Int32) &&& ((h b 4) ^^^ (-1 : Int32))) &&& ((h b 5) ^^^ (-1 : Int32)))
set_option maxHeartbeats 4000000 in
set_option maxRecDepth 100000 in
theorem kX7_free (G : Gx) {b : Nat} (hb : isSky b) {h : Hp}  : MC G yX7_free cX7_free 1 (some .int) 1 64 h [.ref (gad G b)] (some (.int (fX7_free h b))) h := by
  refine MC.of RX7 (by decide) rfl (Nat.le_of_ble_eq_true rfl) rfl (fun X C hG hR hF => ?_)
  subst hG
  have hcs : True := trivial
  obtain ⟨rr, hf⟩ : ∃ rr, fX7_free h b = rr := ⟨_, rfl⟩
  rw [hf] at hF
  unfold fX7_free at hf
  refine r_ldc (v := 65535) C dX7_free_0 gw_727 ?_
  refine r_aload_n (i := 0) C dX7_free_2 rfl 0 rfl ?_
  refine g_X7_54 hb C dX7_free_3 ?_
  refine r_iconst (v := (-1)) C dX7_free_6 (by decide) ?_
  refine r_ixor C dX7_free_7 ?_
  refine r_iand C dX7_free_8 ?_
  refine r_aload_n (i := 0) C dX7_free_9 rfl 0 rfl ?_
  refine g_X7_57 hb C dX7_free_10 ?_
  refine r_iconst (v := (-1)) C dX7_free_13 (by decide) ?_
  refine r_ixor C dX7_free_14 ?_
  refine r_iand C dX7_free_15 ?_
  subst hf
  exact r_iret C hF dX7_free_16
def fX7_setPin (h : Hp) (b : Nat) (a1 : Int32) (a2 : Int32) : Option (Hp) := lt9 (up2 h b 5 ((h b 5) ||| ((1 : Int32) <<< (a1 &&& 31)))) (fun h1 => gd (inb a1 16) (lt9 (up2 h1 (b + 4) a1.toNatClampNeg a2) (fun h3 => some h3)))
set_option maxHeartbeats 4000000 in
set_option maxRecDepth 100000 in
theorem kX7_setPin (G : Gx) {b : Nat} (hb : isSky b) {h : Hp} {a1 : Int32} {a2 : Int32} {hh : Hp} (hf : fX7_setPin h b a1 a2 = some hh) : MC G yX7_setPin cX7_setPin 3 none 1 64 h [.ref (gad G b), .int a1, .int a2] none hh := by
  refine MC.of RX7 (by decide) rfl (Nat.le_of_ble_eq_true rfl) rfl (fun X C hG hR hF => ?_)
  subst hG
  have hcs : True := trivial
  unfold fX7_setPin at hf
  refine r_aload_n (i := 0) C dX7_setPin_0 rfl 0 rfl ?_
  refine r_dup C dX7_setPin_1 rfl ?_
  refine g_X7_57 hb C dX7_setPin_2 ?_
  refine r_iconst (v := 1) C dX7_setPin_5 (by decide) ?_
  refine r_iload_n (i := 1) C dX7_setPin_6 rfl 1 rfl ?_
  refine r_ishl C dX7_setPin_7 ?_
  refine r_ior C dX7_setPin_8 ?_
  obtain ⟨h1, eh1, hf⟩ := lt_of hf
  refine p_X7_57 hb C eh1 dX7_setPin_9 ?_
  refine r_aload_n (i := 0) C dX7_setPin_12 rfl 0 rfl ?_
  refine g_X7_21 hb C dX7_setPin_13 ?_
  refine r_iload_n (i := 1) C dX7_setPin_16 rfl 1 rfl ?_
  refine r_iload_n (i := 2) C dX7_setPin_17 rfl 2 rfl ?_
  obtain ⟨g2, hf⟩ := gd_of hf
  obtain ⟨h3, eh3, hf⟩ := lt_of hf
  refine r_iast C (b + 4) eh3 (sky_dsc hb 4 (by decide)) (sky_lt hb 4 (by decide)) g2 dX7_setPin_18 ?_
  cases hf
  exact r_vret C hF dX7_setPin_19
def fX7_takePin (h : Hp) (b : Nat) (a1 : Int32) : Option (Hp) := lt9 (up2 h b 5 ((h b 5) &&& (((1 : Int32) <<< (a1 &&& 31)) ^^^ (-1 : Int32)))) (fun h1 => gd (inb a1 16) (lt9 (up2 h1 (b + 4) a1.toNatClampNeg (0 : Int32)) (fun h3 => some h3)))
set_option maxHeartbeats 4000000 in
set_option maxRecDepth 100000 in
theorem kX7_takePin (G : Gx) {b : Nat} (hb : isSky b) {h : Hp} {a1 : Int32} {hh : Hp} (hf : fX7_takePin h b a1 = some hh) : MC G yX7_takePin cX7_takePin 2 none 1 64 h [.ref (gad G b), .int a1] none hh := by
  refine MC.of RX7 (by decide) rfl (Nat.le_of_ble_eq_true rfl) rfl (fun X C hG hR hF => ?_)
  subst hG
  have hcs : True := trivial
  unfold fX7_takePin at hf
  refine r_aload_n (i := 0) C dX7_takePin_0 rfl 0 rfl ?_
  refine r_dup C dX7_takePin_1 rfl ?_
  refine g_X7_57 hb C dX7_takePin_2 ?_
  refine r_iconst (v := 1) C dX7_takePin_5 (by decide) ?_
  refine r_iload_n (i := 1) C dX7_takePin_6 rfl 1 rfl ?_
  refine r_ishl C dX7_takePin_7 ?_
  refine r_iconst (v := (-1)) C dX7_takePin_8 (by decide) ?_
  refine r_ixor C dX7_takePin_9 ?_
  refine r_iand C dX7_takePin_10 ?_
  obtain ⟨h1, eh1, hf⟩ := lt_of hf
  refine p_X7_57 hb C eh1 dX7_takePin_11 ?_
  refine r_aload_n (i := 0) C dX7_takePin_14 rfl 0 rfl ?_
  refine g_X7_21 hb C dX7_takePin_15 ?_
  refine r_iload_n (i := 1) C dX7_takePin_18 rfl 1 rfl ?_
  refine r_iconst (v := 0) C dX7_takePin_19 (by decide) ?_
  obtain ⟨g2, hf⟩ := gd_of hf
  obtain ⟨h3, eh3, hf⟩ := lt_of hf
  refine r_iast C (b + 4) eh3 (sky_dsc hb 4 (by decide)) (sky_lt hb 4 (by decide)) g2 dX7_takePin_20 ?_
  cases hf
  exact r_vret C hF dX7_takePin_21
def fX7_rustMore (h : Hp) (b : Nat) (a1 : Int32) (a2 : Int32) : Option (Hp) := gd (inb a1 16) (gd (inb a1 16) (lt9 (up2 h (b + 4) a1.toNatClampNeg (jmin ((h (b + 4) a1.toNatClampNeg) + a2) (99 : Int32))) (fun h3 => some h3)))
set_option maxHeartbeats 4000000 in
set_option maxRecDepth 100000 in
theorem kX7_rustMore (G : Gx) {b : Nat} (hb : isSky b) {h : Hp} {a1 : Int32} {a2 : Int32} {hh : Hp} (hf : fX7_rustMore h b a1 a2 = some hh) : MC G yX7_rustMore cX7_rustMore 3 none 2 128 h [.ref (gad G b), .int a1, .int a2] none hh := by
  refine MC.of RX7 (by decide) rfl (Nat.le_of_ble_eq_true rfl) rfl (fun X C hG hR hF => ?_)
  subst hG
  have hcs : True := trivial
  unfold fX7_rustMore at hf
  refine r_aload_n (i := 0) C dX7_rustMore_0 rfl 0 rfl ?_
  refine g_X7_21 hb C dX7_rustMore_1 ?_
  refine r_iload_n (i := 1) C dX7_rustMore_4 rfl 1 rfl ?_
  refine r_aload_n (i := 0) C dX7_rustMore_5 rfl 0 rfl ?_
  refine g_X7_21 hb C dX7_rustMore_6 ?_
  refine r_iload_n (i := 1) C dX7_rustMore_9 rfl 1 rfl ?_
  obtain ⟨g1, hf⟩ := gd_of hf
  refine r_iald C (b + 4) (sky_dsc hb 4 (by decide)) (sky_lt hb 4 (by decide)) g1 dX7_rustMore_10 ?_
  refine r_iload_n (i := 2) C dX7_rustMore_11 rfl 2 rfl ?_
  refine r_iadd C dX7_rustMore_12 ?_
  refine r_bipush (v := 99) C dX7_rustMore_13 (by decide) ?_
  refine r_mmin9 C gw_661 gm_min_s gm_i gm_min_c (zr1 hR rfl) (zr0 hR (Nat.le_of_ble_eq_true rfl)) (zrcs hcs) dX7_rustMore_15 ?_
  obtain ⟨g2, hf⟩ := gd_of hf
  obtain ⟨h3, eh3, hf⟩ := lt_of hf
  refine r_iast C (b + 4) eh3 (sky_dsc hb 4 (by decide)) (sky_lt hb 4 (by decide)) g2 dX7_rustMore_18 ?_
  cases hf
  exact r_vret C hF dX7_rustMore_19
def fX7_endDay (h : Hp) (b : Nat) : Option (Hp) := lt9 (up2 h b 13 (jmin ((h b 13) + (1 : Int32)) (9999 : Int32))) (fun h1 => some h1)
set_option maxHeartbeats 4000000 in
set_option maxRecDepth 100000 in
theorem kX7_endDay (G : Gx) {b : Nat} (hb : isSky b) {h : Hp}  {hh : Hp} (hf : fX7_endDay h b = some hh) : MC G yX7_endDay cX7_endDay 1 none 2 128 h [.ref (gad G b)] none hh := by
  refine MC.of RX7 (by decide) rfl (Nat.le_of_ble_eq_true rfl) rfl (fun X C hG hR hF => ?_)
  subst hG
  have hcs : True := trivial
  unfold fX7_endDay at hf
  refine r_aload_n (i := 0) C dX7_endDay_0 rfl 0 rfl ?_
  refine r_aload_n (i := 0) C dX7_endDay_1 rfl 0 rfl ?_
  refine g_X7_76 hb C dX7_endDay_2 ?_
  refine r_iconst (v := 1) C dX7_endDay_5 (by decide) ?_
  refine r_iadd C dX7_endDay_6 ?_
  refine r_sipush (v := 9999) C dX7_endDay_7 (by decide) ?_
  refine r_mmin9 C gw_661 gm_min_s gm_i gm_min_c (zr1 hR rfl) (zr0 hR (Nat.le_of_ble_eq_true rfl)) (zrcs hcs) dX7_endDay_10 ?_
  obtain ⟨h1, eh1, hf⟩ := lt_of hf
  refine p_X7_76 hb C eh1 dX7_endDay_13 ?_
  cases hf
  exact r_vret C hF dX7_endDay_16
def fX7_draw (h : Hp) (b : Nat) : Option (Int32 × Hp) := lt9 (up2 h b 14 (((1103515245 : Int32) * (h b 14)) + (12345 : Int32))) (fun h1 => some (((ushr (h1 b 14) (16 : Int32)) &&& (32767 : Int32)), h1))
set_option maxHeartbeats 4000000 in
set_option maxRecDepth 100000 in
theorem kX7_draw (G : Gx) {b : Nat} (hb : isSky b) {h : Hp}  {rr : Int32} {hh : Hp} (hf : fX7_draw h b = some (rr, hh)) : MC G yX7_draw cX7_draw 1 (some .int) 1 64 h [.ref (gad G b)] (some (.int rr)) hh := by
  refine MC.of RX7 (by decide) rfl (Nat.le_of_ble_eq_true rfl) rfl (fun X C hG hR hF => ?_)
  subst hG
  have hcs : True := trivial
  unfold fX7_draw at hf
  refine r_aload_n (i := 0) C dX7_draw_0 rfl 0 rfl ?_
  refine r_ldc (v := 1103515245) C dX7_draw_1 gw_671 ?_
  refine r_aload_n (i := 0) C dX7_draw_3 rfl 0 rfl ?_
  refine g_X7_45 hb C dX7_draw_4 ?_
  refine r_imul C dX7_draw_7 ?_
  refine r_sipush (v := 12345) C dX7_draw_8 (by decide) ?_
  refine r_iadd C dX7_draw_11 ?_
  obtain ⟨h1, eh1, hf⟩ := lt_of hf
  refine p_X7_45 hb C eh1 dX7_draw_12 ?_
  refine r_aload_n (i := 0) C dX7_draw_15 rfl 0 rfl ?_
  refine g_X7_45 hb C dX7_draw_16 ?_
  refine r_bipush (v := 16) C dX7_draw_19 (by decide) ?_
  refine r_iushr C dX7_draw_21 ?_
  refine r_sipush (v := 32767) C dX7_draw_22 (by decide) ?_
  refine r_iand C dX7_draw_25 ?_
  cases hf
  exact r_iret C hF dX7_draw_26
def fX9_hasRoom (h : Hp) : Int32 := (if (400 : Int32) < ((h 1 1) + (20 : Int32)) then (0 : Int32) else (1 : Int32))
set_option maxHeartbeats 4000000 in
set_option maxRecDepth 100000 in
theorem kX9_hasRoom (G : Gx)  {h : Hp}  : MC G yX9_hasRoom cX9_hasRoom 1 (some .boolean) 1 64 h [.ref (gad G 1)] (some (.int (fX9_hasRoom h))) h := by
  refine MC.of RX9 (by decide) rfl (Nat.le_of_ble_eq_true rfl) rfl (fun X C hG hR hF => ?_)
  subst hG
  have hcs : True := trivial
  obtain ⟨rr, hf⟩ : ∃ rr, fX9_hasRoom h = rr := ⟨_, rfl⟩
  rw [hf] at hF
  unfold fX9_hasRoom at hf
  refine r_aload_n (i := 0) C dX9_hasRoom_0 rfl 0 rfl ?_
  refine g_X9_19 C dX9_hasRoom_1 ?_
  refine r_bipush (v := 20) C dX9_hasRoom_4 (by decide) ?_
  refine r_iadd C dX9_hasRoom_6 ?_
  refine r_sipush (v := 400) C dX9_hasRoom_7 (by decide) ?_
  refine r_icmp_gt C 17 dX9_hasRoom_10 (by decide) (fun c1 => ?_) (fun c1 => ?_)
  · rw [if_pos c1] at hf
    refine r_iconst (v := 0) C dX9_hasRoom_17 (by decide) ?_
    subst hf
    exact r_zret C (Or.inl rfl) hF dX9_hasRoom_18
  · rw [if_neg c1] at hf
    refine r_iconst (v := 1) C dX9_hasRoom_13 (by decide) ?_
    refine r_goto C 18 dX9_hasRoom_14 (by decide) ?_
    subst hf
    exact r_zret C (Or.inr rfl) hF dX9_hasRoom_18
theorem zX9_hasRoom {h : Hp}   : fX9_hasRoom h = 0 ∨ fX9_hasRoom h = 1 := by
  unfold fX9_hasRoom
  exact by repeat' (first | exact Or.inl rfl | exact Or.inr rfl | (apply b_ite) | (unfold lt9) | assumption | exact zqq)
def fX9_add (h : Hp) (a1 : Int32) : Option (Hp) := (if ((h 1 1) + (4 : Int32)) ≤ (400 : Int32) then gd (inb (h 1 1) 400) (lt9 (up2 h 2 (h 1 1).toNatClampNeg (vp_nar .byte ((ushr a1 (24 : Int32)).toInt8.toInt32))) (fun h3 => gd (inb ((h3 1 1) + (1 : Int32)) 400) (lt9 (up2 h3 2 ((h3 1 1) + (1 : Int32)).toNatClampNeg (vp_nar .byte ((ushr a1 (16 : Int32)).toInt8.toInt32))) (fun h5 => gd (inb ((h5 1 1) + (2 : Int32)) 400) (lt9 (up2 h5 2 ((h5 1 1) + (2 : Int32)).toNatClampNeg (vp_nar .byte ((ushr a1 (8 : Int32)).toInt8.toInt32))) (fun h7 => gd (inb ((h7 1 1) + (3 : Int32)) 400) (lt9 (up2 h7 2 ((h7 1 1) + (3 : Int32)).toNatClampNeg (vp_nar .byte (a1.toInt8.toInt32))) (fun h9 => lt9 (up2 h9 1 1 ((h9 1 1) + (4 : Int32))) (fun h10 => some h10))))))))) else some h)
set_option maxHeartbeats 4000000 in
set_option maxRecDepth 100000 in
theorem kX9_add (G : Gx)  {h : Hp} {a1 : Int32} {hh : Hp} (hf : fX9_add h a1 = some hh) : MC G yX9_add cX9_add 2 none 1 64 h [.ref (gad G 1), .int a1] none hh := by
  refine MC.of RX9 (by decide) rfl (Nat.le_of_ble_eq_true rfl) rfl (fun X C hG hR hF => ?_)
  subst hG
  have hcs : True := trivial
  unfold fX9_add at hf
  refine r_aload_n (i := 0) C dX9_add_0 rfl 0 rfl ?_
  refine g_X9_19 C dX9_add_1 ?_
  refine r_iconst (v := 4) C dX9_add_4 (by decide) ?_
  refine r_iadd C dX9_add_5 ?_
  refine r_sipush (v := 400) C dX9_add_6 (by decide) ?_
  refine r_icmp_le C 13 dX9_add_9 (by decide) (fun c1 => ?_) (fun c1 => ?_)
  · rw [if_pos c1] at hf
    refine r_aload_n (i := 0) C dX9_add_13 rfl 0 rfl ?_
    refine g_X9_11 C dX9_add_14 ?_
    refine r_aload_n (i := 0) C dX9_add_17 rfl 0 rfl ?_
    refine g_X9_19 C dX9_add_18 ?_
    refine r_iload_n (i := 1) C dX9_add_21 rfl 1 rfl ?_
    refine r_bipush (v := 24) C dX9_add_22 (by decide) ?_
    refine r_iushr C dX9_add_24 ?_
    refine r_i2b C dX9_add_25 ?_
    obtain ⟨g2, hf⟩ := gd_of hf
    obtain ⟨h3, eh3, hf⟩ := lt_of hf
    refine r_bast C 2 eh3 rfl (by decide) g2 dX9_add_26 ?_
    refine r_aload_n (i := 0) C dX9_add_27 rfl 0 rfl ?_
    refine g_X9_11 C dX9_add_28 ?_
    refine r_aload_n (i := 0) C dX9_add_31 rfl 0 rfl ?_
    refine g_X9_19 C dX9_add_32 ?_
    refine r_iconst (v := 1) C dX9_add_35 (by decide) ?_
    refine r_iadd C dX9_add_36 ?_
    refine r_iload_n (i := 1) C dX9_add_37 rfl 1 rfl ?_
    refine r_bipush (v := 16) C dX9_add_38 (by decide) ?_
    refine r_iushr C dX9_add_40 ?_
    refine r_i2b C dX9_add_41 ?_
    obtain ⟨g4, hf⟩ := gd_of hf
    obtain ⟨h5, eh5, hf⟩ := lt_of hf
    refine r_bast C 2 eh5 rfl (by decide) g4 dX9_add_42 ?_
    refine r_aload_n (i := 0) C dX9_add_43 rfl 0 rfl ?_
    refine g_X9_11 C dX9_add_44 ?_
    refine r_aload_n (i := 0) C dX9_add_47 rfl 0 rfl ?_
    refine g_X9_19 C dX9_add_48 ?_
    refine r_iconst (v := 2) C dX9_add_51 (by decide) ?_
    refine r_iadd C dX9_add_52 ?_
    refine r_iload_n (i := 1) C dX9_add_53 rfl 1 rfl ?_
    refine r_bipush (v := 8) C dX9_add_54 (by decide) ?_
    refine r_iushr C dX9_add_56 ?_
    refine r_i2b C dX9_add_57 ?_
    obtain ⟨g6, hf⟩ := gd_of hf
    obtain ⟨h7, eh7, hf⟩ := lt_of hf
    refine r_bast C 2 eh7 rfl (by decide) g6 dX9_add_58 ?_
    refine r_aload_n (i := 0) C dX9_add_59 rfl 0 rfl ?_
    refine g_X9_11 C dX9_add_60 ?_
    refine r_aload_n (i := 0) C dX9_add_63 rfl 0 rfl ?_
    refine g_X9_19 C dX9_add_64 ?_
    refine r_iconst (v := 3) C dX9_add_67 (by decide) ?_
    refine r_iadd C dX9_add_68 ?_
    refine r_iload_n (i := 1) C dX9_add_69 rfl 1 rfl ?_
    refine r_i2b C dX9_add_70 ?_
    obtain ⟨g8, hf⟩ := gd_of hf
    obtain ⟨h9, eh9, hf⟩ := lt_of hf
    refine r_bast C 2 eh9 rfl (by decide) g8 dX9_add_71 ?_
    refine r_aload_n (i := 0) C dX9_add_72 rfl 0 rfl ?_
    refine r_dup C dX9_add_73 rfl ?_
    refine g_X9_19 C dX9_add_74 ?_
    refine r_iconst (v := 4) C dX9_add_77 (by decide) ?_
    refine r_iadd C dX9_add_78 ?_
    obtain ⟨h10, eh10, hf⟩ := lt_of hf
    refine p_X9_19 C eh10 dX9_add_79 ?_
    cases hf
    exact r_vret C hF dX9_add_82
  · rw [if_neg c1] at hf
    cases hf
    exact r_vret C hF dX9_add_12
def fX9_cut (h : Hp) (a1 : Int32) : Option (Int32 × Hp) := cl9 ((if a1 < (0 : Int32) then some true else (if a1 ≤ (h 1 1) then some false else some true)) : Option Bool) (fun q1 => if q1 = true then some ((0 : Int32), h) else lt9 (up2 h 1 1 a1) (fun h7 => some ((1 : Int32), h7)))
set_option maxHeartbeats 4000000 in
set_option maxRecDepth 100000 in
theorem kX9_cut (G : Gx)  {h : Hp} {a1 : Int32} {rr : Int32} {hh : Hp} (hf : fX9_cut h a1 = some (rr, hh)) : MC G yX9_cut cX9_cut 2 (some .boolean) 1 64 h [.ref (gad G 1), .int a1] (some (.int rr)) hh := by
  refine MC.of RX9 (by decide) rfl (Nat.le_of_ble_eq_true rfl) rfl (fun X C hG hR hF => ?_)
  subst hG
  have hcs : True := trivial
  unfold fX9_cut at hf
  refine r_iload_n (i := 1) C dX9_cut_0 rfl 1 rfl ?_
  obtain ⟨q1, r4, hf⟩ := cl_of hf
  have k2 : q1 = true → VW X 2 h 0 0 12 [(0, .ref (gad (xG X) 1)), (1, .int a1)] [] := fun qq => by
    rw [if_pos qq] at hf
    refine r_iconst (v := 0) C dX9_cut_12 (by decide) ?_
    have zz : (0 : Int32) = 0 ∨ (0 : Int32) = 1 := (Or.inl rfl)
    cases hf
    exact r_zret C zz hF dX9_cut_13
  have k3 : q1 = false → VW X 2 h 0 0 14 [(0, .ref (gad (xG X) 1)), (1, .int a1)] [] := fun qq => by
    rw [if_neg (by rw [qq]; decide)] at hf
    refine r_aload_n (i := 0) C dX9_cut_14 rfl 0 rfl ?_
    refine r_iload_n (i := 1) C dX9_cut_15 rfl 1 rfl ?_
    obtain ⟨h7, eh7, hf⟩ := lt_of hf
    refine p_X9_19 C eh7 dX9_cut_16 ?_
    refine r_iconst (v := 1) C dX9_cut_19 (by decide) ?_
    have zz : (1 : Int32) = 0 ∨ (1 : Int32) = 1 := (Or.inr rfl)
    cases hf
    exact r_zret C zz hF dX9_cut_20
  clear hf
  have hf := r4
  refine r_if_lt C 12 dX9_cut_1 (by decide) (fun c5 => ?_) (fun c5 => ?_)
  · rw [if_pos c5] at hf
    exact k2 (Option.some.inj hf).symm
  · rw [if_neg c5] at hf
    refine r_iload_n (i := 1) C dX9_cut_4 rfl 1 rfl ?_
    refine r_aload_n (i := 0) C dX9_cut_5 rfl 0 rfl ?_
    refine g_X9_19 C dX9_cut_6 ?_
    refine r_icmp_le C 14 dX9_cut_9 (by decide) (fun c6 => ?_) (fun c6 => ?_)
    · rw [if_pos c6] at hf
      exact k3 (Option.some.inj hf).symm
    · rw [if_neg c6] at hf
      exact k2 (Option.some.inj hf).symm
def fX9_open (h : Hp) : Option (Hp) := lt9 (up2 h 1 2 (h 1 1)) (fun h1 => lt9 (up2 h1 1 1 (0 : Int32)) (fun h2 => lt9 (up2 h2 1 3 (0 : Int32)) (fun h3 => lt9 (up2 h3 1 4 (0 : Int32)) (fun h4 => lt9 (up2 h4 1 5 (-1 : Int32)) (fun h5 => some h5)))))
set_option maxHeartbeats 4000000 in
set_option maxRecDepth 100000 in
theorem kX9_open (G : Gx)  {h : Hp}  {hh : Hp} (hf : fX9_open h = some hh) : MC G yX9_open cX9_open 1 none 1 64 h [.ref (gad G 1)] none hh := by
  refine MC.of RX9 (by decide) rfl (Nat.le_of_ble_eq_true rfl) rfl (fun X C hG hR hF => ?_)
  subst hG
  have hcs : True := trivial
  unfold fX9_open at hf
  refine r_aload_n (i := 0) C dX9_open_0 rfl 0 rfl ?_
  refine r_aload_n (i := 0) C dX9_open_1 rfl 0 rfl ?_
  refine g_X9_19 C dX9_open_2 ?_
  obtain ⟨h1, eh1, hf⟩ := lt_of hf
  refine p_X9_22 C eh1 dX9_open_5 ?_
  refine r_aload_n (i := 0) C dX9_open_8 rfl 0 rfl ?_
  refine r_iconst (v := 0) C dX9_open_9 (by decide) ?_
  obtain ⟨h2, eh2, hf⟩ := lt_of hf
  refine p_X9_19 C eh2 dX9_open_10 ?_
  refine r_aload_n (i := 0) C dX9_open_13 rfl 0 rfl ?_
  refine r_iconst (v := 0) C dX9_open_14 (by decide) ?_
  obtain ⟨h3, eh3, hf⟩ := lt_of hf
  refine p_X9_25 C eh3 dX9_open_15 ?_
  refine r_aload_n (i := 0) C dX9_open_18 rfl 0 rfl ?_
  refine r_iconst (v := 0) C dX9_open_19 (by decide) ?_
  obtain ⟨h4, eh4, hf⟩ := lt_of hf
  refine p_X9_28 C eh4 dX9_open_20 ?_
  refine r_aload_n (i := 0) C dX9_open_23 rfl 0 rfl ?_
  refine r_iconst (v := (-1)) C dX9_open_24 (by decide) ?_
  obtain ⟨h5, eh5, hf⟩ := lt_of hf
  refine p_X9_15 C eh5 dX9_open_25 ?_
  cases hf
  exact r_vret C hF dX9_open_28
def fX9_byteAt (h : Hp) (a1 : Int32) : Option (Int32) := cl9 ((if a1 < (0 : Int32) then some false else (if (h 1 2) ≤ a1 then some false else some true)) : Option Bool) (fun q1 => if q1 = true then gd (inb a1 400) (some ((h 2 a1.toNatClampNeg) &&& (255 : Int32))) else some (-1 : Int32))
set_option maxHeartbeats 4000000 in
set_option maxRecDepth 100000 in
theorem kX9_byteAt (G : Gx)  {h : Hp} {a1 : Int32} {rr : Int32} (hf : fX9_byteAt h a1 = some rr) : MC G yX9_byteAt cX9_byteAt 2 (some .int) 1 64 h [.ref (gad G 1), .int a1] (some (.int rr)) h := by
  refine MC.of RX9 (by decide) rfl (Nat.le_of_ble_eq_true rfl) rfl (fun X C hG hR hF => ?_)
  subst hG
  have hcs : True := trivial
  unfold fX9_byteAt at hf
  refine r_iload_n (i := 1) C dX9_byteAt_0 rfl 1 rfl ?_
  obtain ⟨q1, r4, hf⟩ := cl_of hf
  have k2 : q1 = true → VW X 2 h 0 0 12 [(0, .ref (gad (xG X) 1)), (1, .int a1)] [] := fun qq => by
    rw [if_pos qq] at hf
    refine r_aload_n (i := 0) C dX9_byteAt_12 rfl 0 rfl ?_
    refine g_X9_11 C dX9_byteAt_13 ?_
    refine r_iload_n (i := 1) C dX9_byteAt_16 rfl 1 rfl ?_
    obtain ⟨g7, hf⟩ := gd_of hf
    refine r_bald C 2 rfl (by decide) g7 dX9_byteAt_17 ?_
    refine r_sipush (v := 255) C dX9_byteAt_18 (by decide) ?_
    refine r_iand C dX9_byteAt_21 ?_
    refine r_goto C 26 dX9_byteAt_22 (by decide) ?_
    cases hf
    exact r_iret C hF dX9_byteAt_26
  have k3 : q1 = false → VW X 2 h 0 0 25 [(0, .ref (gad (xG X) 1)), (1, .int a1)] [] := fun qq => by
    rw [if_neg (by rw [qq]; decide)] at hf
    refine r_iconst (v := (-1)) C dX9_byteAt_25 (by decide) ?_
    cases hf
    exact r_iret C hF dX9_byteAt_26
  clear hf
  have hf := r4
  refine r_if_lt C 25 dX9_byteAt_1 (by decide) (fun c5 => ?_) (fun c5 => ?_)
  · rw [if_pos c5] at hf
    exact k3 (Option.some.inj hf).symm
  · rw [if_neg c5] at hf
    refine r_iload_n (i := 1) C dX9_byteAt_4 rfl 1 rfl ?_
    refine r_aload_n (i := 0) C dX9_byteAt_5 rfl 0 rfl ?_
    refine g_X9_22 C dX9_byteAt_6 ?_
    refine r_icmp_ge C 25 dX9_byteAt_9 (by decide) (fun c6 => ?_) (fun c6 => ?_)
    · rw [if_pos c6] at hf
      exact k3 (Option.some.inj hf).symm
    · rw [if_neg c6] at hf
      exact k2 (Option.some.inj hf).symm
def fX9_failed (h : Hp) : Int32 := (if (h 1 5) = (-1 : Int32) then (0 : Int32) else (1 : Int32))
set_option maxHeartbeats 4000000 in
set_option maxRecDepth 100000 in
theorem kX9_failed (G : Gx)  {h : Hp}  : MC G yX9_failed cX9_failed 1 (some .boolean) 1 64 h [.ref (gad G 1)] (some (.int (fX9_failed h))) h := by
  refine MC.of RX9 (by decide) rfl (Nat.le_of_ble_eq_true rfl) rfl (fun X C hG hR hF => ?_)
  subst hG
  have hcs : True := trivial
  obtain ⟨rr, hf⟩ : ∃ rr, fX9_failed h = rr := ⟨_, rfl⟩
  rw [hf] at hF
  unfold fX9_failed at hf
  refine r_aload_n (i := 0) C dX9_failed_0 rfl 0 rfl ?_
  refine g_X9_15 C dX9_failed_1 ?_
  refine r_iconst (v := (-1)) C dX9_failed_4 (by decide) ?_
  refine r_icmp_eq C 12 dX9_failed_5 (by decide) (fun c1 => ?_) (fun c1 => ?_)
  · rw [if_pos c1] at hf
    refine r_iconst (v := 0) C dX9_failed_12 (by decide) ?_
    subst hf
    exact r_zret C (Or.inl rfl) hF dX9_failed_13
  · rw [if_neg c1] at hf
    refine r_iconst (v := 1) C dX9_failed_8 (by decide) ?_
    refine r_goto C 13 dX9_failed_9 (by decide) ?_
    subst hf
    exact r_zret C (Or.inr rfl) hF dX9_failed_13
theorem zX9_failed {h : Hp}   : fX9_failed h = 0 ∨ fX9_failed h = 1 := by
  unfold fX9_failed
  exact by repeat' (first | exact Or.inl rfl | exact Or.inr rfl | (apply b_ite) | (unfold lt9) | assumption | exact zqq)
def fX9_fail (h : Hp) (a1 : Int32) : Option (Hp) := (if (h 1 5) = (-1 : Int32) then lt9 (up2 h 1 5 a1) (fun h2 => some h2) else some h)
set_option maxHeartbeats 4000000 in
set_option maxRecDepth 100000 in
theorem kX9_fail (G : Gx)  {h : Hp} {a1 : Int32} {hh : Hp} (hf : fX9_fail h a1 = some hh) : MC G yX9_fail cX9_fail 2 none 1 64 h [.ref (gad G 1), .int a1] none hh := by
  refine MC.of RX9 (by decide) rfl (Nat.le_of_ble_eq_true rfl) rfl (fun X C hG hR hF => ?_)
  subst hG
  have hcs : True := trivial
  unfold fX9_fail at hf
  refine r_aload_n (i := 0) C dX9_fail_0 rfl 0 rfl ?_
  refine g_X9_15 C dX9_fail_1 ?_
  refine r_iconst (v := (-1)) C dX9_fail_4 (by decide) ?_
  refine r_icmp_ne C 13 dX9_fail_5 (by decide) (fun c1 => ?_) (fun c1 => ?_)
  · rw [if_neg c1] at hf
    cases hf
    exact r_vret C hF dX9_fail_13
  · rw [if_pos c1] at hf
    refine r_aload_n (i := 0) C dX9_fail_8 rfl 0 rfl ?_
    refine r_iload_n (i := 1) C dX9_fail_9 rfl 1 rfl ?_
    obtain ⟨h2, eh2, hf⟩ := lt_of hf
    refine p_X9_15 C eh2 dX9_fail_10 ?_
    cases hf
    exact r_vret C hF dX9_fail_13
def fX9_failLatest (h : Hp) : Option (Hp) := cl9 (fX9_fail h (h 1 4)) (fun h1 => some h1)
set_option maxHeartbeats 4000000 in
set_option maxRecDepth 100000 in
theorem kX9_failLatest (G : Gx)  {h : Hp}  {hh : Hp} (hf : fX9_failLatest h = some hh) : MC G yX9_failLatest cX9_failLatest 1 none 2 128 h [.ref (gad G 1)] none hh := by
  refine MC.of RX9 (by decide) rfl (Nat.le_of_ble_eq_true rfl) rfl (fun X C hG hR hF => ?_)
  subst hG
  have hcs : True := trivial
  unfold fX9_failLatest at hf
  refine r_aload_n (i := 0) C dX9_failLatest_0 rfl 0 rfl ?_
  refine r_aload_n (i := 0) C dX9_failLatest_1 rfl 0 rfl ?_
  refine g_X9_28 C dX9_failLatest_2 ?_
  obtain ⟨h1, e2, hf⟩ := cl_of hf
  refine r_callVv (As := [.int (h 1 4)]) (st := []) C 1 rfl (by decide) rfl (kX9_fail (xG X) e2) cw_X9_34 rfl rfl (Nat.le_of_ble_eq_true rfl) (zr2 hR rfl rfl) (zrcs hcs) dX9_failLatest_5 ?_
  cases hf
  exact r_vret C hF dX9_failLatest_8
def BX9_skipBlanks_0  (rec : Hp → Option (Hp)) (h : Hp) : Option (Hp) := cl9 ((if (h 1 2) ≤ (h 1 3) then some false else gd (inb (h 1 3) 400) ((if (h 2 (h 1 3).toNatClampNeg) = (32 : Int32) then some true else some false))) : Option Bool) (fun q1 => if q1 = true then lt9 (up2 h 1 3 ((h 1 3) + (1 : Int32))) (fun h8 => rec h8) else some h)
def LX9_skipBlanks  : Nat → Hp → Option (Hp)
  | 0, _ => none
  | n + 1, h => BX9_skipBlanks_0  (LX9_skipBlanks  n) h
def fX9_skipBlanks (h : Hp) : Option (Hp) := LX9_skipBlanks big h
set_option maxHeartbeats 4000000 in
set_option maxRecDepth 100000 in
theorem wX9_skipBlanks {X : Cx}  {hh : Hp} (C : OK X cX9_skipBlanks 1 RX9 none) (hR : xR X = { frames := 1, cells := 0, slots := 0, locals := 64 }) (hcs : True) (hF : FinR X none hh) : ∀ n : Nat, (∀ (h : Hp), LX9_skipBlanks  n h = some hh → VW X 1 h 0 0 0 [(0, .ref (gad (xG X) 1))] []) := by
  intro n
  induction n with
  | zero => exact (fun _ hf => (by rw [LX9_skipBlanks] at hf; cases hf))
  | succ n ih =>
    intro h hf
    rw [LX9_skipBlanks] at hf
    unfold BX9_skipBlanks_0 at hf
    refine r_aload_n (i := 0) C dX9_skipBlanks_0 rfl 0 rfl ?_
    refine g_X9_25 C dX9_skipBlanks_1 ?_
    refine r_aload_n (i := 0) C dX9_skipBlanks_4 rfl 0 rfl ?_
    refine g_X9_22 C dX9_skipBlanks_5 ?_
    obtain ⟨q1, r4, hf⟩ := cl_of hf
    have k2 : q1 = true → VW X 1 h 0 0 25 [(0, .ref (gad (xG X) 1))] [] := fun qq => by
      rw [if_pos qq] at hf
      refine r_aload_n (i := 0) C dX9_skipBlanks_25 rfl 0 rfl ?_
      refine r_dup C dX9_skipBlanks_26 rfl ?_
      refine g_X9_25 C dX9_skipBlanks_27 ?_
      refine r_iconst (v := 1) C dX9_skipBlanks_30 (by decide) ?_
      refine r_iadd C dX9_skipBlanks_31 ?_
      obtain ⟨h8, eh8, hf⟩ := lt_of hf
      refine p_X9_25 C eh8 dX9_skipBlanks_32 ?_
      refine r_goto C 0 dX9_skipBlanks_35 (by decide) ?_
      exact r_lv [0] rfl (ih _ hf)
    have k3 : q1 = false → VW X 1 h 0 0 38 [(0, .ref (gad (xG X) 1))] [] := fun qq => by
      rw [if_neg (by rw [qq]; decide)] at hf
      cases hf
      exact r_vret C hF dX9_skipBlanks_38
    clear hf
    have hf := r4
    refine r_icmp_ge C 38 dX9_skipBlanks_8 (by decide) (fun c5 => ?_) (fun c5 => ?_)
    · rw [if_pos c5] at hf
      exact k3 (Option.some.inj hf).symm
    · rw [if_neg c5] at hf
      refine r_aload_n (i := 0) C dX9_skipBlanks_11 rfl 0 rfl ?_
      refine g_X9_11 C dX9_skipBlanks_12 ?_
      refine r_aload_n (i := 0) C dX9_skipBlanks_15 rfl 0 rfl ?_
      refine g_X9_25 C dX9_skipBlanks_16 ?_
      obtain ⟨g6, hf⟩ := gd_of hf
      refine r_bald C 2 rfl (by decide) g6 dX9_skipBlanks_19 ?_
      refine r_bipush (v := 32) C dX9_skipBlanks_20 (by decide) ?_
      refine r_icmp_ne C 38 dX9_skipBlanks_22 (by decide) (fun c7 => ?_) (fun c7 => ?_)
      · rw [if_neg c7] at hf
        exact k3 (Option.some.inj hf).symm
      · rw [if_pos c7] at hf
        exact k2 (Option.some.inj hf).symm
set_option maxHeartbeats 4000000 in
set_option maxRecDepth 100000 in
theorem kX9_skipBlanks (G : Gx)  {h : Hp}  {hh : Hp} (hf : fX9_skipBlanks h = some hh) : MC G yX9_skipBlanks cX9_skipBlanks 1 none 1 64 h [.ref (gad G 1)] none hh := by
  refine MC.of RX9 (by decide) rfl (Nat.le_of_ble_eq_true rfl) rfl (fun X C hG hR hF => ?_)
  subst hG
  have hcs : True := trivial
  unfold fX9_skipBlanks at hf
  exact r_lv [0] rfl ((wX9_skipBlanks  C hR hcs hF big) _ hf)
def fX9_atEnd (h : Hp) : Option (Int32 × Hp) := cl9 (fX9_skipBlanks h) (fun h1 => (if (h1 1 3) < (h1 1 2) then some ((0 : Int32), h1) else some ((1 : Int32), h1)))
set_option maxHeartbeats 4000000 in
set_option maxRecDepth 100000 in
theorem kX9_atEnd (G : Gx)  {h : Hp}  {rr : Int32} {hh : Hp} (hf : fX9_atEnd h = some (rr, hh)) : MC G yX9_atEnd cX9_atEnd 1 (some .boolean) 2 128 h [.ref (gad G 1)] (some (.int rr)) hh := by
  refine MC.of RX9 (by decide) rfl (Nat.le_of_ble_eq_true rfl) rfl (fun X C hG hR hF => ?_)
  subst hG
  have hcs : True := trivial
  unfold fX9_atEnd at hf
  refine r_aload_n (i := 0) C dX9_atEnd_0 rfl 0 rfl ?_
  obtain ⟨h1, e2, hf⟩ := cl_of hf
  refine r_callVv (As := []) (st := []) C 1 rfl (by decide) rfl (kX9_skipBlanks (xG X) e2) cw_X9_31 rfl rfl (Nat.le_of_ble_eq_true rfl) (zr2 hR rfl rfl) (zrcs hcs) dX9_atEnd_1 ?_
  refine r_aload_n (i := 0) C dX9_atEnd_4 rfl 0 rfl ?_
  refine g_X9_25 C dX9_atEnd_5 ?_
  refine r_aload_n (i := 0) C dX9_atEnd_8 rfl 0 rfl ?_
  refine g_X9_22 C dX9_atEnd_9 ?_
  refine r_icmp_lt C 19 dX9_atEnd_12 (by decide) (fun c3 => ?_) (fun c3 => ?_)
  · rw [if_pos c3] at hf
    refine r_iconst (v := 0) C dX9_atEnd_19 (by decide) ?_
    have zz : (0 : Int32) = 0 ∨ (0 : Int32) = 1 := (Or.inl rfl)
    cases hf
    exact r_zret C zz hF dX9_atEnd_20
  · rw [if_neg c3] at hf
    refine r_iconst (v := 1) C dX9_atEnd_15 (by decide) ?_
    refine r_goto C 20 dX9_atEnd_16 (by decide) ?_
    have zz : (1 : Int32) = 0 ∨ (1 : Int32) = 1 := (Or.inr rfl)
    cases hf
    exact r_zret C zz hF dX9_atEnd_20

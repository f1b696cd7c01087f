def BX12_led_0  (rec : Hp → Int32 → Int32 → Int32 → Int32 → Int32 → Option (Int32 × Hp)) (h : Hp) (y1 : Int32) (y2 : Int32) (y3 : Int32) (y4 : Int32) (y5 : Int32) : Option (Int32 × Hp) := (if y5 < (0 : Int32) then (if y2 = (0 : Int32) then some (y3, h) else some (y4, h)) else cl9 (fX12_ofLog h y5 (1 : Int32)) (fun x3 => (if x3 = y1 then lt9 (y3 + (1 : Int32)) (fun x6 => cl9 (fX12_ofLog h y5 (0 : Int32)) (fun x7 => lt9 (y5 + (-1 : Int32)) (fun x9 => rec h y1 y2 x6 x7 x9))) else lt9 (y5 + (-1 : Int32)) (fun x10 => rec h y1 y2 y3 y4 x10))))
def LX12_led  : Nat → Hp → Int32 → Int32 → Int32 → Int32 → Int32 → Option (Int32 × Hp)
  | 0, _, _, _, _, _, _ => none
  | n + 1, h, y1, y2, y3, y4, y5 => BX12_led_0  (LX12_led  n) h y1 y2 y3 y4 y5
def fX12_led (h : Hp) (a1 : Int32) (a2 : Int32) : Option (Int32 × Hp) := lt9 (up2 h 208 0 (0 : Int32)) (fun h11 => cl2 (fX12_throwsIf h11 (fX12_noPlace a1) (1 : Int32)) (fun x14 h12 => (if x14 = (0 : Int32) then lt9 ((h12 209 11) - (1 : Int32)) (fun x16 => LX12_led big h12 a1 a2 (0 : Int32) (-1 : Int32) x16) else some ((0 : Int32), h12))))
set_option maxHeartbeats 4000000 in
set_option maxRecDepth 100000 in
theorem wX12_led {X : Cx}  (C : OK X cX12_led 6 RX12 (some .int)) (hR : xR X = { frames := 3, cells := 0, slots := 0, locals := 192 }) (hcs : True) {rr : Int32} {hh : Hp} (hF : FinR X (some (.int rr)) hh) : ∀ n : Nat, (∀ (h : Hp) (y1 : Int32) (y2 : Int32) (y3 : Int32) (y4 : Int32) (y5 : Int32), LX12_led  n h y1 y2 y3 y4 y5 = some (rr, hh) → VW X 6 h 0 0 35 [(0, .ref (gad (xG X) 208)), (1, .int y1), (2, .int y2), (3, .int y3), (4, .int y4), (5, .int y5)] []) := by
  intro n
  induction n with
  | zero => exact (fun _ _ _ _ _ _ hf => (by rw [LX12_led] at hf; cases hf))
  | succ n ih =>
    intro h y1 y2 y3 y4 y5 hf
    rw [LX12_led] at hf
    unfold BX12_led_0 at hf
    refine r_iload (i := 5) C dX12_led_35 5 rfl ?_
    refine r_if_lt C 72 dX12_led_37 (by decide) (fun c1 => ?_) (fun c1 => ?_)
    · rw [if_pos c1] at hf
      refine r_iload_n (i := 2) C dX12_led_72 rfl 2 rfl ?_
      refine r_if_eq C 81 dX12_led_73 (by decide) (fun c2 => ?_) (fun c2 => ?_)
      · rw [if_pos c2] at hf
        refine r_iload_n (i := 3) C dX12_led_81 rfl 3 rfl ?_
        cases hf
        exact r_iret C hF dX12_led_82
      · rw [if_neg c2] at hf
        refine r_iload (i := 4) C dX12_led_76 4 rfl ?_
        refine r_goto C 82 dX12_led_78 (by decide) ?_
        cases hf
        exact r_iret C hF dX12_led_82
    · rw [if_neg c1] at hf
      refine r_aload_n (i := 0) C dX12_led_40 rfl 0 rfl ?_
      refine r_iload (i := 5) C dX12_led_41 5 rfl ?_
      refine r_iconst (v := 1) C dX12_led_43 (by decide) ?_
      obtain ⟨x3, e4, hf⟩ := cl_of hf
      refine r_callVi (As := [.int y5, .int (1 : Int32)]) (st := []) C 208 rfl (by decide) rfl (kX12_ofLog (xG X) e4) cw_X12_426 rfl rfl (Nat.le_of_ble_eq_true rfl) (zr2 hR rfl rfl) (zrcs hcs) dX12_led_44 ?_
      refine r_iload_n (i := 1) C dX12_led_47 rfl 1 rfl ?_
      refine r_icmp_eq C 54 dX12_led_48 (by decide) (fun c5 => ?_) (fun c5 => ?_)
      · rw [if_pos c5] at hf
        obtain ⟨x6, ex6, hf⟩ := lt_of hf
        refine r_iinc (j := 3) (v := x6) (lv' := [(0, .ref (gad (xG X) 208)), (1, .int y1), (2, .int y2), (3, .int x6), (4, .int y4), (5, .int y5)]) C dX12_led_54 rfl (by rw [ex6]; rfl) (by decide) [1, 2, 3, 0, 4, 5] rfl ?_
        refine r_aload_n (i := 0) C dX12_led_57 rfl 0 rfl ?_
        refine r_iload (i := 5) C dX12_led_58 5 rfl ?_
        refine r_iconst (v := 0) C dX12_led_60 (by decide) ?_
        obtain ⟨x7, e8, hf⟩ := cl_of hf
        refine r_callVi (As := [.int y5, .int (0 : Int32)]) (st := []) C 208 rfl (by decide) rfl (kX12_ofLog (xG X) e8) cw_X12_426 rfl rfl (Nat.le_of_ble_eq_true rfl) (zr2 hR rfl rfl) (zrcs hcs) dX12_led_61 ?_
        refine r_istore (i := 4) (lv' := [(0, .ref (gad (xG X) 208)), (1, .int y1), (2, .int y2), (3, .int x6), (4, .int x7), (5, .int y5)]) C dX12_led_64 (by decide) [1, 2, 3, 4, 0, 5] rfl ?_
        obtain ⟨x9, ex9, hf⟩ := lt_of hf
        refine r_iinc (j := 5) (v := x9) (lv' := [(0, .ref (gad (xG X) 208)), (1, .int y1), (2, .int y2), (3, .int x6), (4, .int x7), (5, .int x9)]) C dX12_led_66 rfl (by rw [ex9]; rfl) (by decide) [1, 2, 3, 4, 5, 0] rfl ?_
        refine r_goto C 35 dX12_led_69 (by decide) ?_
        exact r_lv [0, 1, 2, 3, 4, 5] rfl (ih _ _ _ _ _ _ hf)
      · rw [if_neg c5] at hf
        refine r_goto C 66 dX12_led_51 (by decide) ?_
        obtain ⟨x10, ex10, hf⟩ := lt_of hf
        refine r_iinc (j := 5) (v := x10) (lv' := [(0, .ref (gad (xG X) 208)), (1, .int y1), (2, .int y2), (3, .int y3), (4, .int y4), (5, .int x10)]) C dX12_led_66 rfl (by rw [ex10]; rfl) (by decide) [1, 2, 3, 4, 5, 0] rfl ?_
        refine r_goto C 35 dX12_led_69 (by decide) ?_
        exact r_lv [0, 1, 2, 3, 4, 5] rfl (ih _ _ _ _ _ _ hf)
set_option maxHeartbeats 4000000 in
set_option maxRecDepth 100000 in
theorem kX12_led (G : Gx)  {h : Hp} {a1 : Int32} {a2 : Int32} {rr : Int32} {hh : Hp} (hf : fX12_led h a1 a2 = some (rr, hh)) : MC G yX12_led cX12_led 6 (some .int) 3 192 h [.ref (gad G 208), .int a1, .int a2] (some (.int rr)) hh := by
  refine MC.of RX12 (by decide) rfl (Nat.le_of_ble_eq_true rfl) rfl (fun X C hG hR hF => ?_)
  subst hG
  have hcs : True := trivial
  unfold fX12_led at hf
  refine r_aload_n (i := 0) C dX12_led_0 rfl 0 rfl ?_
  refine r_iconst (v := 0) C dX12_led_1 (by decide) ?_
  obtain ⟨h11, eh11, hf⟩ := lt_of hf
  refine p_X12_3 C eh11 dX12_led_2 ?_
  refine r_aload_n (i := 0) C dX12_led_5 rfl 0 rfl ?_
  refine r_iload_n (i := 1) C dX12_led_6 rfl 1 rfl ?_
  refine r_callSi (As := [.int a1]) (st := [.ref (gad (xG X) 208)]) C (kX12_noPlace (xG X)) cw_X12_305 rfl rfl (Nat.le_of_ble_eq_true rfl) (zr2 hR rfl rfl) (zrcs hcs) dX12_led_7 ?_
  refine r_iconst (v := 1) C dX12_led_10 (by decide) ?_
  obtain ⟨x14, h12, e13, hf⟩ := cl2_of hf
  refine r_callVi (As := [.int (fX12_noPlace a1), .int (1 : Int32)]) (st := []) C 208 rfl (by decide) rfl (kX12_throwsIf (xG X) e13) cw_X12_247 rfl rfl (Nat.le_of_ble_eq_true rfl) (zr2 hR rfl rfl) (zrcs hcs) dX12_led_11 ?_
  refine r_if_eq C 19 dX12_led_14 (by decide) (fun c15 => ?_) (fun c15 => ?_)
  · rw [if_pos c15] at hf
    refine r_iconst (v := 0) C dX12_led_19 (by decide) ?_
    refine r_istore_n (i := 3) (lv' := [(0, .ref (gad (xG X) 208)), (1, .int a1), (2, .int a2), (3, .int (0 : Int32))]) C dX12_led_20 rfl (by decide) [1, 2, 3, 0] rfl ?_
    refine r_iconst (v := (-1)) C dX12_led_21 (by decide) ?_
    refine r_istore (i := 4) (lv' := [(0, .ref (gad (xG X) 208)), (1, .int a1), (2, .int a2), (3, .int (0 : Int32)), (4, .int (-1 : Int32))]) C dX12_led_22 (by decide) [1, 2, 3, 4, 0] rfl ?_
    refine r_aload_n (i := 0) C dX12_led_24 rfl 0 rfl ?_
    refine g_X12_13 C dX12_led_25 ?_
    refine r_bipush (v := 11) C dX12_led_28 (by decide) ?_
    refine r_ialdc C 209 (m := 11) rfl (by decide) (by decide) (show inb 11 2031 by decide) dX12_led_30 ?_
    refine r_iconst (v := 1) C dX12_led_31 (by decide) ?_
    refine r_isub C dX12_led_32 ?_
    obtain ⟨x16, ex16, hf⟩ := lt_of hf
    refine r_top ex16 ?_
    refine r_istore (i := 5) (lv' := [(0, .ref (gad (xG X) 208)), (1, .int a1), (2, .int a2), (3, .int (0 : Int32)), (4, .int (-1 : Int32)), (5, .int x16)]) C dX12_led_33 (by decide) [1, 2, 3, 4, 5, 0] rfl ?_
    exact r_lv [0, 1, 2, 3, 4, 5] rfl ((wX12_led  C hR hcs hF big) _ _ _ _ _ _ hf)
  · rw [if_neg c15] at hf
    refine r_iconst (v := 0) C dX12_led_17 (by decide) ?_
    cases hf
    exact r_iret C hF dX12_led_18
def fX12_log (h : Hp) (a1 : Int32) (a2 : Int32) : Option (Int32 × Hp) := lt9 (up2 h 208 0 (0 : Int32)) (fun h1 => cl9 ((if (fX12_in a2 (0 : Int32) (3 : Int32)) = (0 : Int32) then some (1 : Int32) else some (0 : Int32)) : Option (Int32)) (fun v2 => cl2 (fX12_throwsIf h1 v2 (1 : Int32)) (fun x8 h6 => (if x8 = (0 : Int32) then (if (fX12_in a1 (0 : Int32) ((h6 209 11) - (1 : Int32))) = (0 : Int32) then some ((-1 : Int32), h6) else cl9 (fX12_ofLog h6 a1 a2) (fun x11 => some (x11, h6))) else some ((0 : Int32), h6)))))
set_option maxHeartbeats 4000000 in
set_option maxRecDepth 100000 in
theorem kX12_log (G : Gx)  {h : Hp} {a1 : Int32} {a2 : Int32} {rr : Int32} {hh : Hp} (hf : fX12_log h a1 a2 = some (rr, hh)) : MC G yX12_log cX12_log 3 (some .int) 2 128 h [.ref (gad G 208), .int a1, .int a2] (some (.int rr)) hh := by
  refine MC.of RX12 (by decide) rfl (Nat.le_of_ble_eq_true rfl) rfl (fun X C hG hR hF => ?_)
  subst hG
  have hcs : True := trivial
  unfold fX12_log at hf
  refine r_aload_n (i := 0) C dX12_log_0 rfl 0 rfl ?_
  refine r_iconst (v := 0) C dX12_log_1 (by decide) ?_
  obtain ⟨h1, eh1, hf⟩ := lt_of hf
  refine p_X12_3 C eh1 dX12_log_2 ?_
  refine r_aload_n (i := 0) C dX12_log_5 rfl 0 rfl ?_
  refine r_iload_n (i := 2) C dX12_log_6 rfl 2 rfl ?_
  refine r_iconst (v := 0) C dX12_log_7 (by decide) ?_
  refine r_iconst (v := 3) C dX12_log_8 (by decide) ?_
  refine r_callSi (As := [.int a2, .int (0 : Int32), .int (3 : Int32)]) (st := [.ref (gad (xG X) 208)]) C (kX12_in (xG X)) cw_X12_76 rfl rfl (Nat.le_of_ble_eq_true rfl) (zr2 hR rfl rfl) (zrcs hcs) dX12_log_9 ?_
  obtain ⟨v2, r4, hf⟩ := cl_of hf
  have k3 : VW X 3 h1 0 0 20 [(0, .ref (gad (xG X) 208)), (1, .int a1), (2, .int a2)] [.int v2, .ref (gad (xG X) 208)] := by
    refine r_iconst (v := 1) C dX12_log_20 (by decide) ?_
    obtain ⟨x8, h6, e7, hf⟩ := cl2_of hf
    refine r_callVi (As := [.int v2, .int (1 : Int32)]) (st := []) C 208 rfl (by decide) rfl (kX12_throwsIf (xG X) e7) cw_X12_247 rfl rfl (Nat.le_of_ble_eq_true rfl) (zr2 hR rfl rfl) (zrcs hcs) dX12_log_21 ?_
    refine r_if_eq C 29 dX12_log_24 (by decide) (fun c9 => ?_) (fun c9 => ?_)
    · rw [if_pos c9] at hf
      refine r_iload_n (i := 1) C dX12_log_29 rfl 1 rfl ?_
      refine r_iconst (v := 0) C dX12_log_30 (by decide) ?_
      refine r_aload_n (i := 0) C dX12_log_31 rfl 0 rfl ?_
      refine g_X12_13 C dX12_log_32 ?_
      refine r_bipush (v := 11) C dX12_log_35 (by decide) ?_
      refine r_ialdc C 209 (m := 11) rfl (by decide) (by decide) (show inb 11 2031 by decide) dX12_log_37 ?_
      refine r_iconst (v := 1) C dX12_log_38 (by decide) ?_
      refine r_isub C dX12_log_39 ?_
      refine r_callSi (As := [.int a1, .int (0 : Int32), .int ((h6 209 11) - (1 : Int32))]) (st := []) C (kX12_in (xG X)) cw_X12_76 rfl rfl (Nat.le_of_ble_eq_true rfl) (zr2 hR rfl rfl) (zrcs hcs) dX12_log_40 ?_
      refine r_if_eq C 55 dX12_log_43 (by decide) (fun c10 => ?_) (fun c10 => ?_)
      · rw [if_pos c10] at hf
        refine r_iconst (v := (-1)) C dX12_log_55 (by decide) ?_
        cases hf
        exact r_iret C hF dX12_log_56
      · rw [if_neg c10] at hf
        refine r_aload_n (i := 0) C dX12_log_46 rfl 0 rfl ?_
        refine r_iload_n (i := 1) C dX12_log_47 rfl 1 rfl ?_
        refine r_iload_n (i := 2) C dX12_log_48 rfl 2 rfl ?_
        obtain ⟨x11, e12, hf⟩ := cl_of hf
        refine r_callVi (As := [.int a1, .int a2]) (st := []) C 208 rfl (by decide) rfl (kX12_ofLog (xG X) e12) cw_X12_426 rfl rfl (Nat.le_of_ble_eq_true rfl) (zr2 hR rfl rfl) (zrcs hcs) dX12_log_49 ?_
        refine r_goto C 56 dX12_log_52 (by decide) ?_
        cases hf
        exact r_iret C hF dX12_log_56
    · rw [if_neg c9] at hf
      refine r_iconst (v := 0) C dX12_log_27 (by decide) ?_
      cases hf
      exact r_iret C hF dX12_log_28
  clear hf
  have hf := r4
  refine r_if_ne C 19 dX12_log_12 (by decide) (fun c5 => ?_) (fun c5 => ?_)
  · rw [if_neg c5] at hf
    refine r_iconst (v := 0) C dX12_log_19 (by decide) ?_
    cases hf
    exact k3
  · rw [if_pos c5] at hf
    refine r_iconst (v := 1) C dX12_log_15 (by decide) ?_
    refine r_goto C 20 dX12_log_16 (by decide) ?_
    cases hf
    exact k3
def fX12_seed (h : Hp) (a1 : Int32) : Option (Int32 × Hp) := lt9 (up2 h 208 0 (0 : Int32)) (fun h1 => gd (inb (12 : Int32) 2031) (lt9 (up2 h1 209 (12 : Int32).toNatClampNeg a1) (fun h3 => some ((h1 209 12), h3))))
set_option maxHeartbeats 4000000 in
set_option maxRecDepth 100000 in
theorem kX12_seed (G : Gx)  {h : Hp} {a1 : Int32} {rr : Int32} {hh : Hp} (hf : fX12_seed h a1 = some (rr, hh)) : MC G yX12_seed cX12_seed 3 (some .int) 1 64 h [.ref (gad G 208), .int a1] (some (.int rr)) hh := by
  refine MC.of RX12 (by decide) rfl (Nat.le_of_ble_eq_true rfl) rfl (fun X C hG hR hF => ?_)
  subst hG
  have hcs : True := trivial
  unfold fX12_seed at hf
  refine r_aload_n (i := 0) C dX12_seed_0 rfl 0 rfl ?_
  refine r_iconst (v := 0) C dX12_seed_1 (by decide) ?_
  obtain ⟨h1, eh1, hf⟩ := lt_of hf
  refine p_X12_3 C eh1 dX12_seed_2 ?_
  refine r_aload_n (i := 0) C dX12_seed_5 rfl 0 rfl ?_
  refine g_X12_13 C dX12_seed_6 ?_
  refine r_bipush (v := 12) C dX12_seed_9 (by decide) ?_
  refine r_ialdc C 209 (m := 12) rfl (by decide) (by decide) (show inb 12 2031 by decide) dX12_seed_11 ?_
  refine r_istore_n (i := 2) (lv' := [(0, .ref (gad (xG X) 208)), (1, .int a1), (2, .int (h1 209 12))]) C dX12_seed_12 rfl (by decide) [1, 2, 0] rfl ?_
  refine r_aload_n (i := 0) C dX12_seed_13 rfl 0 rfl ?_
  refine g_X12_13 C dX12_seed_14 ?_
  refine r_bipush (v := 12) C dX12_seed_17 (by decide) ?_
  refine r_iload_n (i := 1) C dX12_seed_19 rfl 1 rfl ?_
  obtain ⟨g2, hf⟩ := gd_of hf
  obtain ⟨h3, eh3, hf⟩ := lt_of hf
  refine r_iast C 209 eh3 rfl (by decide) g2 dX12_seed_20 ?_
  refine r_iload_n (i := 2) C dX12_seed_21 rfl 2 rfl ?_
  cases hf
  exact r_iret C hF dX12_seed_22
def BX12_brassOfAll_0 (h : Hp) (rec : Int32 → Int32 → Option (Int32)) (y1 : Int32) (y2 : Int32) : Option (Int32) := (if (fX12_pinners h) ≤ y2 then some y1 else cl9 (fX12_of h y2 (2 : Int32)) (fun x2 => lt9 (y1 + x2) (fun x4 => lt9 (y2 + (1 : Int32)) (fun x5 => rec x4 x5))))
def LX12_brassOfAll (h : Hp) : Nat → Int32 → Int32 → Option (Int32)
  | 0, _, _ => none
  | n + 1, y1, y2 => BX12_brassOfAll_0 h (LX12_brassOfAll h n) y1 y2
def fX12_brassOfAll (h : Hp) : Option (Int32) := LX12_brassOfAll h big (0 : Int32) (0 : Int32)
set_option maxHeartbeats 4000000 in
set_option maxRecDepth 100000 in
theorem wX12_brassOfAll {X : Cx} {h : Hp}  (C : OK X cX12_brassOfAll 3 RX12 (some .int)) (hR : xR X = { frames := 3, cells := 0, slots := 0, locals := 192 }) (hcs : True) {rr : Int32} (hF : FinR X (some (.int rr)) h) : ∀ n : Nat, (∀ (y1 : Int32) (y2 : Int32), LX12_brassOfAll h n y1 y2 = some rr → VW X 3 h 0 0 4 [(0, .ref (gad (xG X) 208)), (1, .int y1), (2, .int y2)] []) := by
  intro n
  induction n with
  | zero => exact (fun _ _ hf => (by rw [LX12_brassOfAll] at hf; cases hf))
  | succ n ih =>
    intro y1 y2 hf
    rw [LX12_brassOfAll] at hf
    unfold BX12_brassOfAll_0 at hf
    refine r_iload_n (i := 2) C dX12_brassOfAll_4 rfl 2 rfl ?_
    refine r_aload_n (i := 0) C dX12_brassOfAll_5 rfl 0 rfl ?_
    refine r_callVi (As := []) (st := [.int y2]) C 208 rfl (by decide) rfl (kX12_pinners (xG X)) cw_X12_73 rfl rfl (Nat.le_of_ble_eq_true rfl) (zr2 hR rfl rfl) (zrcs hcs) dX12_brassOfAll_6 ?_
    refine r_icmp_ge C 27 dX12_brassOfAll_9 (by decide) (fun c1 => ?_) (fun c1 => ?_)
    · rw [if_pos c1] at hf
      refine r_iload_n (i := 1) C dX12_brassOfAll_27 rfl 1 rfl ?_
      cases hf
      exact r_iret C hF dX12_brassOfAll_28
    · rw [if_neg c1] at hf
      refine r_iload_n (i := 1) C dX12_brassOfAll_12 rfl 1 rfl ?_
      refine r_aload_n (i := 0) C dX12_brassOfAll_13 rfl 0 rfl ?_
      refine r_iload_n (i := 2) C dX12_brassOfAll_14 rfl 2 rfl ?_
      refine r_iconst (v := 2) C dX12_brassOfAll_15 (by decide) ?_
      obtain ⟨x2, e3, hf⟩ := cl_of hf
      refine r_callVi (As := [.int y2, .int (2 : Int32)]) (st := [.int y1]) C 208 rfl (by decide) rfl (kX12_of (xG X) e3) cw_X12_314 rfl rfl (Nat.le_of_ble_eq_true rfl) (zr2 hR rfl rfl) (zrcs hcs) dX12_brassOfAll_16 ?_
      refine r_iadd C dX12_brassOfAll_19 ?_
      obtain ⟨x4, ex4, hf⟩ := lt_of hf
      refine r_top ex4 ?_
      refine r_istore_n (i := 1) (lv' := [(0, .ref (gad (xG X) 208)), (1, .int x4), (2, .int y2)]) C dX12_brassOfAll_20 rfl (by decide) [1, 0, 2] rfl ?_
      obtain ⟨x5, ex5, hf⟩ := lt_of hf
      refine r_iinc (j := 2) (v := x5) (lv' := [(0, .ref (gad (xG X) 208)), (1, .int x4), (2, .int x5)]) C dX12_brassOfAll_21 rfl (by rw [ex5]; rfl) (by decide) [1, 2, 0] rfl ?_
      refine r_goto C 4 dX12_brassOfAll_24 (by decide) ?_
      exact r_lv [0, 1, 2] rfl (ih _ _ hf)
set_option maxHeartbeats 4000000 in
set_option maxRecDepth 100000 in
theorem kX12_brassOfAll (G : Gx)  {h : Hp}  {rr : Int32} (hf : fX12_brassOfAll h = some rr) : MC G yX12_brassOfAll cX12_brassOfAll 3 (some .int) 3 192 h [.ref (gad G 208)] (some (.int rr)) h := by
  refine MC.of RX12 (by decide) rfl (Nat.le_of_ble_eq_true rfl) rfl (fun X C hG hR hF => ?_)
  subst hG
  have hcs : True := trivial
  unfold fX12_brassOfAll at hf
  refine r_iconst (v := 0) C dX12_brassOfAll_0 (by decide) ?_
  refine r_istore_n (i := 1) (lv' := [(0, .ref (gad (xG X) 208)), (1, .int (0 : Int32))]) C dX12_brassOfAll_1 rfl (by decide) [1, 0] rfl ?_
  refine r_iconst (v := 0) C dX12_brassOfAll_2 (by decide) ?_
  refine r_istore_n (i := 2) (lv' := [(0, .ref (gad (xG X) 208)), (1, .int (0 : Int32)), (2, .int (0 : Int32))]) C dX12_brassOfAll_3 rfl (by decide) [1, 2, 0] rfl ?_
  exact r_lv [0, 1, 2] rfl ((wX12_brassOfAll  C hR hcs hF big) _ _ hf)
def BJ_fill_0 (ar an : Nat) (rec : Hp → Int32 → Int32 → Int32 → Option (Hp)) (h : Hp) (y1 : Int32) (y2 : Int32) (y3 : Int32) : Option (Hp) := (if y3 ≤ y2 then some h else gd (inb y2 an) (lt9 (up2 h ar y2.toNatClampNeg y1) (fun h3 => lt9 (y2 + (1 : Int32)) (fun x4 => rec h3 y1 x4 y3))))
def LJ_fill (ar an : Nat) : Nat → Hp → Int32 → Int32 → Int32 → Option (Hp)
  | 0, _, _, _, _ => none
  | n + 1, h, y1, y2, y3 => BJ_fill_0 ar an (LJ_fill ar an n) h y1 y2 y3
def fJ_fill (h : Hp) (ar an : Nat) (a1 : Int32) : Option (Hp) := LJ_fill ar an big h a1 (0 : Int32) (Int32.ofNat an)
set_option maxHeartbeats 4000000 in
set_option maxRecDepth 100000 in
theorem wJ_fill {X : Cx} {ar an : Nat} {aq : List Nat} (hda : dsc ar = .inr (0, an, aq)) (hla : ar < NC) (C : OK X prog_33_method_103_code 4 "java/util/Arrays" none) (hR : xR X = { frames := 1, cells := 0, slots := 0, locals := 64 }) (hcs : True) {hh : Hp} (hF : FinR X none hh) : ∀ n : Nat, (∀ (h : Hp) (y1 : Int32) (y2 : Int32) (y3 : Int32), LJ_fill ar an n h y1 y2 y3 = some hh → VW X 4 h 0 0 5 [(0, .ref (gad (xG X) ar)), (1, .int y1), (2, .int y2), (3, .int y3)] []) := by
  intro n
  induction n with
  | zero => exact (fun _ _ _ _ hf => (by rw [LJ_fill] at hf; cases hf))
  | succ n ih =>
    intro h y1 y2 y3 hf
    rw [LJ_fill] at hf
    unfold BJ_fill_0 at hf
    refine r_iload_n (i := 2) C dJ_fill_5 rfl 2 rfl ?_
    refine r_iload_n (i := 3) C dJ_fill_6 rfl 3 rfl ?_
    refine r_icmp_ge C 20 dJ_fill_7 (by decide) (fun c1 => ?_) (fun c1 => ?_)
    · rw [if_pos c1] at hf
      cases hf
      exact r_vret C hF dJ_fill_20
    · rw [if_neg c1] at hf
      refine r_aload_n (i := 0) C dJ_fill_10 rfl 0 rfl ?_
      refine r_iload_n (i := 2) C dJ_fill_11 rfl 2 rfl ?_
      refine r_iload_n (i := 1) C dJ_fill_12 rfl 1 rfl ?_
      obtain ⟨g2, hf⟩ := gd_of hf
      obtain ⟨h3, eh3, hf⟩ := lt_of hf
      refine r_iast C ar eh3 hda hla g2 dJ_fill_13 ?_
      obtain ⟨x4, ex4, hf⟩ := lt_of hf
      refine r_iinc (j := 2) (v := x4) (lv' := [(0, .ref (gad (xG X) ar)), (1, .int y1), (2, .int x4), (3, .int y3)]) C dJ_fill_14 rfl (by rw [ex4]; rfl) (by decide) [1, 2, 0, 3] rfl ?_
      refine r_goto C 5 dJ_fill_17 (by decide) ?_
      exact r_lv [0, 1, 2, 3] rfl (ih _ _ _ _ hf)
set_option maxHeartbeats 4000000 in
set_option maxRecDepth 100000 in
theorem kJ_fill (G : Gx) {ar an : Nat} {aq : List Nat} (hda : dsc ar = .inr (0, an, aq)) (hla : ar < NC) {h : Hp} {a1 : Int32} {hh : Hp} (hf : fJ_fill h ar an a1 = some hh) : MC G yJ_fill prog_33_method_103_code 4 none 1 64 h [.ref (gad G ar), .int a1] none hh := by
  refine MC.of "java/util/Arrays" (by decide) rfl (Nat.le_of_ble_eq_true rfl) rfl (fun X C hG hR hF => ?_)
  subst hG
  have hcs : True := trivial
  unfold fJ_fill at hf
  refine r_iconst (v := 0) C dJ_fill_0 (by decide) ?_
  refine r_istore_n (i := 2) (lv' := [(0, .ref (gad (xG X) ar)), (1, .int a1), (2, .int (0 : Int32))]) C dJ_fill_1 rfl (by decide) [1, 2, 0] rfl ?_
  refine r_aload_n (i := 0) C dJ_fill_2 rfl 0 rfl ?_
  refine r_alen C ar hda hla (by decide) rfl dJ_fill_3 ?_
  refine r_istore_n (i := 3) (lv' := [(0, .ref (gad (xG X) ar)), (1, .int a1), (2, .int (0 : Int32)), (3, .int (Int32.ofNat an))]) C dJ_fill_4 rfl (by decide) [1, 2, 3, 0] rfl ?_
  exact r_lv [0, 1, 2, 3] rfl ((wJ_fill hda hla C hR hcs hF big) _ _ _ _ hf)
def fJ_bitCount (a1 : Int32) : Int32 := lt9 (a1 - ((ushr a1 (1 : Int32)) &&& (1431655765 : Int32))) (fun x1 => lt9 ((x1 &&& (858993459 : Int32)) + ((ushr x1 (2 : Int32)) &&& (858993459 : Int32))) (fun x2 => lt9 ((x2 + (ushr x2 (4 : Int32))) &&& (252645135 : Int32)) (fun x3 => lt9 (x3 + (ushr x3 (8 : Int32))) (fun x4 => lt9 (x4 + (ushr x4 (16 : Int32))) (fun x5 => (x5 &&& (63 : Int32)))))))
set_option maxHeartbeats 4000000 in
set_option maxRecDepth 100000 in
theorem kJ_bitCount (G : Gx)  {h : Hp} {a1 : Int32} : MC G yJ_bitCount prog_22_method_49_code 1 (some .int) 1 64 h [.int a1] (some (.int (fJ_bitCount a1))) h := by
  refine MC.of "java/lang/Integer" (by decide) rfl (Nat.le_of_ble_eq_true rfl) rfl (fun X C hG hR hF => ?_)
  subst hG
  have hcs : True := trivial
  obtain ⟨rr, hf⟩ : ∃ rr, fJ_bitCount a1 = rr := ⟨_, rfl⟩
  rw [hf] at hF
  unfold fJ_bitCount at hf
  refine r_iload_n (i := 0) C dJ_bitCount_0 rfl 0 rfl ?_
  refine r_iload_n (i := 0) C dJ_bitCount_1 rfl 0 rfl ?_
  refine r_iconst (v := 1) C dJ_bitCount_2 (by decide) ?_
  refine r_iushr C dJ_bitCount_3 ?_
  refine r_ldcw (v := 1431655765) C dJ_bitCount_4 gw_708 ?_
  refine r_iand C dJ_bitCount_7 ?_
  refine r_isub C dJ_bitCount_8 ?_
  obtain ⟨x1, ex1, hf⟩ := lt_of hf
  refine r_top ex1 ?_
  refine r_istore_n (i := 0) (lv' := [(0, .int x1)]) C dJ_bitCount_9 rfl (by decide) [0] rfl ?_
  refine r_iload_n (i := 0) C dJ_bitCount_10 rfl 0 rfl ?_
  refine r_ldcw (v := 858993459) C dJ_bitCount_11 gw_709 ?_
  refine r_iand C dJ_bitCount_14 ?_
  refine r_iload_n (i := 0) C dJ_bitCount_15 rfl 0 rfl ?_
  refine r_iconst (v := 2) C dJ_bitCount_16 (by decide) ?_
  refine r_iushr C dJ_bitCount_17 ?_
  refine r_ldcw (v := 858993459) C dJ_bitCount_18 gw_709 ?_
  refine r_iand C dJ_bitCount_21 ?_
  refine r_iadd C dJ_bitCount_22 ?_
  obtain ⟨x2, ex2, hf⟩ := lt_of hf
  refine r_top ex2 ?_
  refine r_istore_n (i := 0) (lv' := [(0, .int x2)]) C dJ_bitCount_23 rfl (by decide) [0] rfl ?_
  refine r_iload_n (i := 0) C dJ_bitCount_24 rfl 0 rfl ?_
  refine r_iload_n (i := 0) C dJ_bitCount_25 rfl 0 rfl ?_
  refine r_iconst (v := 4) C dJ_bitCount_26 (by decide) ?_
  refine r_iushr C dJ_bitCount_27 ?_
  refine r_iadd C dJ_bitCount_28 ?_
  refine r_ldcw (v := 252645135) C dJ_bitCount_29 gw_710 ?_
  refine r_iand C dJ_bitCount_32 ?_
  obtain ⟨x3, ex3, hf⟩ := lt_of hf
  refine r_top ex3 ?_
  refine r_istore_n (i := 0) (lv' := [(0, .int x3)]) C dJ_bitCount_33 rfl (by decide) [0] rfl ?_
  refine r_iload_n (i := 0) C dJ_bitCount_34 rfl 0 rfl ?_
  refine r_iload_n (i := 0) C dJ_bitCount_35 rfl 0 rfl ?_
  refine r_bipush (v := 8) C dJ_bitCount_36 (by decide) ?_
  refine r_iushr C dJ_bitCount_38 ?_
  refine r_iadd C dJ_bitCount_39 ?_
  obtain ⟨x4, ex4, hf⟩ := lt_of hf
  refine r_top ex4 ?_
  refine r_istore_n (i := 0) (lv' := [(0, .int x4)]) C dJ_bitCount_40 rfl (by decide) [0] rfl ?_
  refine r_iload_n (i := 0) C dJ_bitCount_41 rfl 0 rfl ?_
  refine r_iload_n (i := 0) C dJ_bitCount_42 rfl 0 rfl ?_
  refine r_bipush (v := 16) C dJ_bitCount_43 (by decide) ?_
  refine r_iushr C dJ_bitCount_45 ?_
  refine r_iadd C dJ_bitCount_46 ?_
  obtain ⟨x5, ex5, hf⟩ := lt_of hf
  refine r_top ex5 ?_
  refine r_istore_n (i := 0) (lv' := [(0, .int x5)]) C dJ_bitCount_47 rfl (by decide) [0] rfl ?_
  refine r_iload_n (i := 0) C dJ_bitCount_48 rfl 0 rfl ?_
  refine r_bipush (v := 63) C dJ_bitCount_49 (by decide) ?_
  refine r_iand C dJ_bitCount_51 ?_
  subst hf
  exact r_iret C hF dJ_bitCount_52
def fJ_numberOfTrailingZeros (h : Hp) (a1 : Int32) : Option (Int32) := lt9 ((a1 ^^^ (-1 : Int32)) &&& (a1 - (1 : Int32))) (fun x1 => (if (0 : Int32) < x1 then cl2 ((if x1 ≤ (65536 : Int32) then some (x1, (1 : Int32)) else lt9 ((1 : Int32) + (16 : Int32)) (fun x8 => lt9 (ushr x1 (16 : Int32)) (fun x9 => some (x9, x8)))) : Option (Int32 × Int32)) (fun x3 x4 => cl2 ((if x3 ≤ (256 : Int32) then some (x3, x4) else lt9 (x4 + (8 : Int32)) (fun x15 => lt9 (ushr x3 (8 : Int32)) (fun x16 => some (x16, x15)))) : Option (Int32 × Int32)) (fun x10 x11 => cl2 ((if x10 ≤ (16 : Int32) then some (x10, x11) else lt9 (x11 + (4 : Int32)) (fun x22 => lt9 (ushr x10 (4 : Int32)) (fun x23 => some (x23, x22)))) : Option (Int32 × Int32)) (fun x17 x18 => (if x17 ≤ (4 : Int32) then some (x18 + (ushr x17 (1 : Int32))) else lt9 (x18 + (2 : Int32)) (fun x25 => lt9 (ushr x17 (2 : Int32)) (fun x26 => some (x25 + (ushr x26 (1 : Int32))))))))) else some (x1 &&& (32 : Int32))))
set_option maxHeartbeats 4000000 in
set_option maxRecDepth 100000 in
theorem kJ_numberOfTrailingZeros (G : Gx)  {h : Hp} {a1 : Int32} {rr : Int32} (hf : fJ_numberOfTrailingZeros h a1 = some rr) : MC G yJ_numberOfTrailingZeros prog_22_method_48_code 2 (some .int) 1 64 h [.int a1] (some (.int rr)) h := by
  refine MC.of "java/lang/Integer" (by decide) rfl (Nat.le_of_ble_eq_true rfl) rfl (fun X C hG hR hF => ?_)
  subst hG
  have hcs : True := trivial
  unfold fJ_numberOfTrailingZeros at hf
  refine r_iload_n (i := 0) C dJ_numberOfTrailingZeros_0 rfl 0 rfl ?_
  refine r_iconst (v := (-1)) C dJ_numberOfTrailingZeros_1 (by decide) ?_
  refine r_ixor C dJ_numberOfTrailingZeros_2 ?_
  refine r_iload_n (i := 0) C dJ_numberOfTrailingZeros_3 rfl 0 rfl ?_
  refine r_iconst (v := 1) C dJ_numberOfTrailingZeros_4 (by decide) ?_
  refine r_isub C dJ_numberOfTrailingZeros_5 ?_
  refine r_iand C dJ_numberOfTrailingZeros_6 ?_
  obtain ⟨x1, ex1, hf⟩ := lt_of hf
  refine r_top ex1 ?_
  refine r_istore_n (i := 0) (lv' := [(0, .int x1)]) C dJ_numberOfTrailingZeros_7 rfl (by decide) [0] rfl ?_
  refine r_iload_n (i := 0) C dJ_numberOfTrailingZeros_8 rfl 0 rfl ?_
  refine r_if_gt C 17 dJ_numberOfTrailingZeros_9 (by decide) (fun c2 => ?_) (fun c2 => ?_)
  · rw [if_pos c2] at hf
    refine r_iconst (v := 1) C dJ_numberOfTrailingZeros_17 (by decide) ?_
    refine r_istore_n (i := 1) (lv' := [(0, .int x1), (1, .int (1 : Int32))]) C dJ_numberOfTrailingZeros_18 rfl (by decide) [1, 0] rfl ?_
    refine r_iload_n (i := 0) C dJ_numberOfTrailingZeros_19 rfl 0 rfl ?_
    refine r_ldcw (v := 65536) C dJ_numberOfTrailingZeros_20 gw_738 ?_
    obtain ⟨x3, x4, r6, hf⟩ := cl2_of hf
    have k5 : VW X 2 h 0 0 34 [(0, .int x3), (1, .int x4)] [] := by
      refine r_iload_n (i := 0) C dJ_numberOfTrailingZeros_34 rfl 0 rfl ?_
      refine r_sipush (v := 256) C dJ_numberOfTrailingZeros_35 (by decide) ?_
      obtain ⟨x10, x11, r13, hf⟩ := cl2_of hf
      have k12 : VW X 2 h 0 0 49 [(0, .int x10), (1, .int x11)] [] := by
        refine r_iload_n (i := 0) C dJ_numberOfTrailingZeros_49 rfl 0 rfl ?_
        refine r_bipush (v := 16) C dJ_numberOfTrailingZeros_50 (by decide) ?_
        obtain ⟨x17, x18, r20, hf⟩ := cl2_of hf
        have k19 : VW X 2 h 0 0 62 [(0, .int x17), (1, .int x18)] [] := by
          refine r_iload_n (i := 0) C dJ_numberOfTrailingZeros_62 rfl 0 rfl ?_
          refine r_iconst (v := 4) C dJ_numberOfTrailingZeros_63 (by decide) ?_
          refine r_icmp_le C 74 dJ_numberOfTrailingZeros_64 (by decide) (fun c24 => ?_) (fun c24 => ?_)
          · rw [if_pos c24] at hf
            refine r_iload_n (i := 1) C dJ_numberOfTrailingZeros_74 rfl 1 rfl ?_
            refine r_iload_n (i := 0) C dJ_numberOfTrailingZeros_75 rfl 0 rfl ?_
            refine r_iconst (v := 1) C dJ_numberOfTrailingZeros_76 (by decide) ?_
            refine r_iushr C dJ_numberOfTrailingZeros_77 ?_
            refine r_iadd C dJ_numberOfTrailingZeros_78 ?_
            cases hf
            exact r_iret C hF dJ_numberOfTrailingZeros_79
          · rw [if_neg c24] at hf
            obtain ⟨x25, ex25, hf⟩ := lt_of hf
            refine r_iinc (j := 1) (v := x25) (lv' := [(0, .int x17), (1, .int x25)]) C dJ_numberOfTrailingZeros_67 rfl (by rw [ex25]; rfl) (by decide) [1, 0] rfl ?_
            refine r_iload_n (i := 0) C dJ_numberOfTrailingZeros_70 rfl 0 rfl ?_
            refine r_iconst (v := 2) C dJ_numberOfTrailingZeros_71 (by decide) ?_
            refine r_iushr C dJ_numberOfTrailingZeros_72 ?_
            obtain ⟨x26, ex26, hf⟩ := lt_of hf
            refine r_top ex26 ?_
            refine r_istore_n (i := 0) (lv' := [(0, .int x26), (1, .int x25)]) C dJ_numberOfTrailingZeros_73 rfl (by decide) [0, 1] rfl ?_
            refine r_iload_n (i := 1) C dJ_numberOfTrailingZeros_74 rfl 1 rfl ?_
            refine r_iload_n (i := 0) C dJ_numberOfTrailingZeros_75 rfl 0 rfl ?_
            refine r_iconst (v := 1) C dJ_numberOfTrailingZeros_76 (by decide) ?_
            refine r_iushr C dJ_numberOfTrailingZeros_77 ?_
            refine r_iadd C dJ_numberOfTrailingZeros_78 ?_
            cases hf
            exact r_iret C hF dJ_numberOfTrailingZeros_79
        clear hf
        have hf := r20
        refine r_icmp_le C 62 dJ_numberOfTrailingZeros_52 (by decide) (fun c21 => ?_) (fun c21 => ?_)
        · rw [if_pos c21] at hf
          cases hf
          exact k19
        · rw [if_neg c21] at hf
          obtain ⟨x22, ex22, hf⟩ := lt_of hf
          refine r_iinc (j := 1) (v := x22) (lv' := [(0, .int x10), (1, .int x22)]) C dJ_numberOfTrailingZeros_55 rfl (by rw [ex22]; rfl) (by decide) [1, 0] rfl ?_
          refine r_iload_n (i := 0) C dJ_numberOfTrailingZeros_58 rfl 0 rfl ?_
          refine r_iconst (v := 4) C dJ_numberOfTrailingZeros_59 (by decide) ?_
          refine r_iushr C dJ_numberOfTrailingZeros_60 ?_
          obtain ⟨x23, ex23, hf⟩ := lt_of hf
          refine r_top ex23 ?_
          refine r_istore_n (i := 0) (lv' := [(0, .int x23), (1, .int x22)]) C dJ_numberOfTrailingZeros_61 rfl (by decide) [0, 1] rfl ?_
          cases hf
          exact k19
      clear hf
      have hf := r13
      refine r_icmp_le C 49 dJ_numberOfTrailingZeros_38 (by decide) (fun c14 => ?_) (fun c14 => ?_)
      · rw [if_pos c14] at hf
        cases hf
        exact k12
      · rw [if_neg c14] at hf
        obtain ⟨x15, ex15, hf⟩ := lt_of hf
        refine r_iinc (j := 1) (v := x15) (lv' := [(0, .int x3), (1, .int x15)]) C dJ_numberOfTrailingZeros_41 rfl (by rw [ex15]; rfl) (by decide) [1, 0] rfl ?_
        refine r_iload_n (i := 0) C dJ_numberOfTrailingZeros_44 rfl 0 rfl ?_
        refine r_bipush (v := 8) C dJ_numberOfTrailingZeros_45 (by decide) ?_
        refine r_iushr C dJ_numberOfTrailingZeros_47 ?_
        obtain ⟨x16, ex16, hf⟩ := lt_of hf
        refine r_top ex16 ?_
        refine r_istore_n (i := 0) (lv' := [(0, .int x16), (1, .int x15)]) C dJ_numberOfTrailingZeros_48 rfl (by decide) [0, 1] rfl ?_
        cases hf
        exact k12
    clear hf
    have hf := r6
    refine r_icmp_le C 34 dJ_numberOfTrailingZeros_23 (by decide) (fun c7 => ?_) (fun c7 => ?_)
    · rw [if_pos c7] at hf
      cases hf
      exact k5
    · rw [if_neg c7] at hf
      obtain ⟨x8, ex8, hf⟩ := lt_of hf
      refine r_iinc (j := 1) (v := x8) (lv' := [(0, .int x1), (1, .int x8)]) C dJ_numberOfTrailingZeros_26 rfl (by rw [ex8]; rfl) (by decide) [1, 0] rfl ?_
      refine r_iload_n (i := 0) C dJ_numberOfTrailingZeros_29 rfl 0 rfl ?_
      refine r_bipush (v := 16) C dJ_numberOfTrailingZeros_30 (by decide) ?_
      refine r_iushr C dJ_numberOfTrailingZeros_32 ?_
      obtain ⟨x9, ex9, hf⟩ := lt_of hf
      refine r_top ex9 ?_
      refine r_istore_n (i := 0) (lv' := [(0, .int x9), (1, .int x8)]) C dJ_numberOfTrailingZeros_33 rfl (by decide) [0, 1] rfl ?_
      cases hf
      exact k5
  · rw [if_neg c2] at hf
    refine r_iload_n (i := 0) C dJ_numberOfTrailingZeros_12 rfl 0 rfl ?_
    refine r_bipush (v := 32) C dJ_numberOfTrailingZeros_13 (by decide) ?_
    refine r_iand C dJ_numberOfTrailingZeros_15 ?_
    cases hf
    exact r_iret C hF dJ_numberOfTrailingZeros_16
def fJ_numberOfLeadingZeros (h : Hp) (a1 : Int32) : Option (Int32) := (if (0 : Int32) < a1 then cl2 ((if a1 < (65536 : Int32) then some (a1, (31 : Int32)) else lt9 ((31 : Int32) + (-16 : Int32)) (fun x7 => lt9 (ushr a1 (16 : Int32)) (fun x8 => some (x8, x7)))) : Option (Int32 × Int32)) (fun x2 x3 => cl2 ((if x2 < (256 : Int32) then some (x2, x3) else lt9 (x3 + (-8 : Int32)) (fun x14 => lt9 (ushr x2 (8 : Int32)) (fun x15 => some (x15, x14)))) : Option (Int32 × Int32)) (fun x9 x10 => cl2 ((if x9 < (16 : Int32) then some (x9, x10) else lt9 (x10 + (-4 : Int32)) (fun x21 => lt9 (ushr x9 (4 : Int32)) (fun x22 => some (x22, x21)))) : Option (Int32 × Int32)) (fun x16 x17 => (if x16 < (4 : Int32) then some (x17 - (ushr x16 (1 : Int32))) else lt9 (x17 + (-2 : Int32)) (fun x24 => lt9 (ushr x16 (2 : Int32)) (fun x25 => some (x24 - (ushr x25 (1 : Int32))))))))) else (if a1 = (0 : Int32) then some (32 : Int32) else some (0 : Int32)))
set_option maxHeartbeats 4000000 in
set_option maxRecDepth 100000 in
theorem kJ_numberOfLeadingZeros (G : Gx)  {h : Hp} {a1 : Int32} {rr : Int32} (hf : fJ_numberOfLeadingZeros h a1 = some rr) : MC G yJ_numberOfLeadingZeros prog_22_method_47_code 2 (some .int) 1 64 h [.int a1] (some (.int rr)) h := by
  refine MC.of "java/lang/Integer" (by decide) rfl (Nat.le_of_ble_eq_true rfl) rfl (fun X C hG hR hF => ?_)
  subst hG
  have hcs : True := trivial
  unfold fJ_numberOfLeadingZeros at hf
  refine r_iload_n (i := 0) C dJ_numberOfLeadingZeros_0 rfl 0 rfl ?_
  refine r_if_gt C 15 dJ_numberOfLeadingZeros_1 (by decide) (fun c1 => ?_) (fun c1 => ?_)
  · rw [if_pos c1] at hf
    refine r_bipush (v := 31) C dJ_numberOfLeadingZeros_15 (by decide) ?_
    refine r_istore_n (i := 1) (lv' := [(0, .int a1), (1, .int (31 : Int32))]) C dJ_numberOfLeadingZeros_17 rfl (by decide) [1, 0] rfl ?_
    refine r_iload_n (i := 0) C dJ_numberOfLeadingZeros_18 rfl 0 rfl ?_
    refine r_ldcw (v := 65536) C dJ_numberOfLeadingZeros_19 gw_738 ?_
    obtain ⟨x2, x3, r5, hf⟩ := cl2_of hf
    have k4 : VW X 2 h 0 0 33 [(0, .int x2), (1, .int x3)] [] := by
      refine r_iload_n (i := 0) C dJ_numberOfLeadingZeros_33 rfl 0 rfl ?_
      refine r_sipush (v := 256) C dJ_numberOfLeadingZeros_34 (by decide) ?_
      obtain ⟨x9, x10, r12, hf⟩ := cl2_of hf
      have k11 : VW X 2 h 0 0 48 [(0, .int x9), (1, .int x10)] [] := by
        refine r_iload_n (i := 0) C dJ_numberOfLeadingZeros_48 rfl 0 rfl ?_
        refine r_bipush (v := 16) C dJ_numberOfLeadingZeros_49 (by decide) ?_
        obtain ⟨x16, x17, r19, hf⟩ := cl2_of hf
        have k18 : VW X 2 h 0 0 61 [(0, .int x16), (1, .int x17)] [] := by
          refine r_iload_n (i := 0) C dJ_numberOfLeadingZeros_61 rfl 0 rfl ?_
          refine r_iconst (v := 4) C dJ_numberOfLeadingZeros_62 (by decide) ?_
          refine r_icmp_lt C 73 dJ_numberOfLeadingZeros_63 (by decide) (fun c23 => ?_) (fun c23 => ?_)
          · rw [if_pos c23] at hf
            refine r_iload_n (i := 1) C dJ_numberOfLeadingZeros_73 rfl 1 rfl ?_
            refine r_iload_n (i := 0) C dJ_numberOfLeadingZeros_74 rfl 0 rfl ?_
            refine r_iconst (v := 1) C dJ_numberOfLeadingZeros_75 (by decide) ?_
            refine r_iushr C dJ_numberOfLeadingZeros_76 ?_
            refine r_isub C dJ_numberOfLeadingZeros_77 ?_
            cases hf
            exact r_iret C hF dJ_numberOfLeadingZeros_78
          · rw [if_neg c23] at hf
            obtain ⟨x24, ex24, hf⟩ := lt_of hf
            refine r_iinc (j := 1) (v := x24) (lv' := [(0, .int x16), (1, .int x24)]) C dJ_numberOfLeadingZeros_66 rfl (by rw [ex24]; rfl) (by decide) [1, 0] rfl ?_
            refine r_iload_n (i := 0) C dJ_numberOfLeadingZeros_69 rfl 0 rfl ?_
            refine r_iconst (v := 2) C dJ_numberOfLeadingZeros_70 (by decide) ?_
            refine r_iushr C dJ_numberOfLeadingZeros_71 ?_
            obtain ⟨x25, ex25, hf⟩ := lt_of hf
            refine r_top ex25 ?_
            refine r_istore_n (i := 0) (lv' := [(0, .int x25), (1, .int x24)]) C dJ_numberOfLeadingZeros_72 rfl (by decide) [0, 1] rfl ?_
            refine r_iload_n (i := 1) C dJ_numberOfLeadingZeros_73 rfl 1 rfl ?_
            refine r_iload_n (i := 0) C dJ_numberOfLeadingZeros_74 rfl 0 rfl ?_
            refine r_iconst (v := 1) C dJ_numberOfLeadingZeros_75 (by decide) ?_
            refine r_iushr C dJ_numberOfLeadingZeros_76 ?_
            refine r_isub C dJ_numberOfLeadingZeros_77 ?_
            cases hf
            exact r_iret C hF dJ_numberOfLeadingZeros_78
        clear hf
        have hf := r19
        refine r_icmp_lt C 61 dJ_numberOfLeadingZeros_51 (by decide) (fun c20 => ?_) (fun c20 => ?_)
        · rw [if_pos c20] at hf
          cases hf
          exact k18
        · rw [if_neg c20] at hf
          obtain ⟨x21, ex21, hf⟩ := lt_of hf
          refine r_iinc (j := 1) (v := x21) (lv' := [(0, .int x9), (1, .int x21)]) C dJ_numberOfLeadingZeros_54 rfl (by rw [ex21]; rfl) (by decide) [1, 0] rfl ?_
          refine r_iload_n (i := 0) C dJ_numberOfLeadingZeros_57 rfl 0 rfl ?_
          refine r_iconst (v := 4) C dJ_numberOfLeadingZeros_58 (by decide) ?_
          refine r_iushr C dJ_numberOfLeadingZeros_59 ?_
          obtain ⟨x22, ex22, hf⟩ := lt_of hf
          refine r_top ex22 ?_
          refine r_istore_n (i := 0) (lv' := [(0, .int x22), (1, .int x21)]) C dJ_numberOfLeadingZeros_60 rfl (by decide) [0, 1] rfl ?_
          cases hf
          exact k18
      clear hf
      have hf := r12
      refine r_icmp_lt C 48 dJ_numberOfLeadingZeros_37 (by decide) (fun c13 => ?_) (fun c13 => ?_)
      · rw [if_pos c13] at hf
        cases hf
        exact k11
      · rw [if_neg c13] at hf
        obtain ⟨x14, ex14, hf⟩ := lt_of hf
        refine r_iinc (j := 1) (v := x14) (lv' := [(0, .int x2), (1, .int x14)]) C dJ_numberOfLeadingZeros_40 rfl (by rw [ex14]; rfl) (by decide) [1, 0] rfl ?_
        refine r_iload_n (i := 0) C dJ_numberOfLeadingZeros_43 rfl 0 rfl ?_
        refine r_bipush (v := 8) C dJ_numberOfLeadingZeros_44 (by decide) ?_
        refine r_iushr C dJ_numberOfLeadingZeros_46 ?_
        obtain ⟨x15, ex15, hf⟩ := lt_of hf
        refine r_top ex15 ?_
        refine r_istore_n (i := 0) (lv' := [(0, .int x15), (1, .int x14)]) C dJ_numberOfLeadingZeros_47 rfl (by decide) [0, 1] rfl ?_
        cases hf
        exact k11
    clear hf
    have hf := r5
    refine r_icmp_lt C 33 dJ_numberOfLeadingZeros_22 (by decide) (fun c6 => ?_) (fun c6 => ?_)
    · rw [if_pos c6] at hf
      cases hf
      exact k4
    · rw [if_neg c6] at hf
      obtain ⟨x7, ex7, hf⟩ := lt_of hf
      refine r_iinc (j := 1) (v := x7) (lv' := [(0, .int a1), (1, .int x7)]) C dJ_numberOfLeadingZeros_25 rfl (by rw [ex7]; rfl) (by decide) [1, 0] rfl ?_
      refine r_iload_n (i := 0) C dJ_numberOfLeadingZeros_28 rfl 0 rfl ?_
      refine r_bipush (v := 16) C dJ_numberOfLeadingZeros_29 (by decide) ?_
      refine r_iushr C dJ_numberOfLeadingZeros_31 ?_
      obtain ⟨x8, ex8, hf⟩ := lt_of hf
      refine r_top ex8 ?_
      refine r_istore_n (i := 0) (lv' := [(0, .int x8), (1, .int x7)]) C dJ_numberOfLeadingZeros_32 rfl (by decide) [0, 1] rfl ?_
      cases hf
      exact k4
  · rw [if_neg c1] at hf
    refine r_iload_n (i := 0) C dJ_numberOfLeadingZeros_4 rfl 0 rfl ?_
    refine r_if_ne C 13 dJ_numberOfLeadingZeros_5 (by decide) (fun c26 => ?_) (fun c26 => ?_)
    · rw [if_neg c26] at hf
      refine r_iconst (v := 0) C dJ_numberOfLeadingZeros_13 (by decide) ?_
      cases hf
      exact r_iret C hF dJ_numberOfLeadingZeros_14
    · rw [if_pos c26] at hf
      refine r_bipush (v := 32) C dJ_numberOfLeadingZeros_8 (by decide) ?_
      refine r_goto C 14 dJ_numberOfLeadingZeros_10 (by decide) ?_
      cases hf
      exact r_iret C hF dJ_numberOfLeadingZeros_14
def fX1_gap (h : Hp) (a1 : Int32) (a2 : Int32) : Option (Int32) := cl9 (fX11_distance h (a1 &&& (((1 : Int32) <<< (a2 &&& 31)) ^^^ (-1 : Int32))) a2) (fun x1 => some x1)
set_option maxHeartbeats 4000000 in
set_option maxRecDepth 100000 in
theorem kX1_gap (G : Gx)  {h : Hp} {a1 : Int32} {a2 : Int32} {rr : Int32} (hf : fX1_gap h a1 a2 = some rr) : MC G yX1_gap cX1_gap 2 (some .int) 2 128 h [.int a1, .int a2] (some (.int rr)) h := by
  refine MC.of RX1 (by decide) rfl (Nat.le_of_ble_eq_true rfl) rfl (fun X C hG hR hF => ?_)
  subst hG
  have hcs : True := trivial
  unfold fX1_gap at hf
  refine r_iload_n (i := 0) C dX1_gap_0 rfl 0 rfl ?_
  refine r_iconst (v := 1) C dX1_gap_1 (by decide) ?_
  refine r_iload_n (i := 1) C dX1_gap_2 rfl 1 rfl ?_
  refine r_ishl C dX1_gap_3 ?_
  refine r_iconst (v := (-1)) C dX1_gap_4 (by decide) ?_
  refine r_ixor C dX1_gap_5 ?_
  refine r_iand C dX1_gap_6 ?_
  refine r_iload_n (i := 1) C dX1_gap_7 rfl 1 rfl ?_
  obtain ⟨x1, e2, hf⟩ := cl_of hf
  refine r_callNSi (As := [.int (a1 &&& (((1 : Int32) <<< (a2 &&& 31)) ^^^ (-1 : Int32))), .int a2]) (st := []) C (kX11_distance (xG X) e2) cw_X1_49 rfl rfl (Nat.le_of_ble_eq_true rfl) (zr2 hR rfl rfl) (zrcs hcs) dX1_gap_8 ?_
  cases hf
  exact r_iret C hF dX1_gap_11
def fX1_startOver (h : Hp) : Option (Hp) := cl9 (fJ_fill h 4 16 (0 : Int32)) (fun h1 => cl9 (fJ_fill h1 5 16 (0 : Int32)) (fun h3 => some h3))
set_option maxHeartbeats 4000000 in
set_option maxRecDepth 100000 in
theorem kX1_startOver (G : Gx)  {h : Hp}  {hh : Hp} (hf : fX1_startOver h = some hh) : MC G yX1_startOver cX1_startOver 1 none 2 128 h [.ref (gad G 3)] none hh := by
  refine MC.of RX1 (by decide) rfl (Nat.le_of_ble_eq_true rfl) rfl (fun X C hG hR hF => ?_)
  subst hG
  have hcs : True := trivial
  unfold fX1_startOver at hf
  refine r_aload_n (i := 0) C dX1_startOver_0 rfl 0 rfl ?_
  refine g_X1_18 C dX1_startOver_1 ?_
  refine r_iconst (v := 0) C dX1_startOver_4 (by decide) ?_
  obtain ⟨h1, e2, hf⟩ := cl_of hf
  refine r_callSv (As := [.ref (gad (xG X) 4), .int (0 : Int32)]) (st := []) C (kJ_fill (xG X) rfl (by decide) e2) cw_X1_52 rfl rfl (Nat.le_of_ble_eq_true rfl) (zr2 hR rfl rfl) (zrcs hcs) dX1_startOver_5 ?_
  refine r_aload_n (i := 0) C dX1_startOver_8 rfl 0 rfl ?_
  refine g_X1_22 C dX1_startOver_9 ?_
  refine r_iconst (v := 0) C dX1_startOver_12 (by decide) ?_
  obtain ⟨h3, e4, hf⟩ := cl_of hf
  refine r_callSv (As := [.ref (gad (xG X) 5), .int (0 : Int32)]) (st := []) C (kJ_fill (xG X) rfl (by decide) e4) cw_X1_52 rfl rfl (Nat.le_of_ble_eq_true rfl) (zr2 hR rfl rfl) (zrcs hcs) dX1_startOver_13 ?_
  cases hf
  exact r_vret C hF dX1_startOver_16
def BX2_lineHolds_0 (h : Hp) (b : Nat) (b2 : Nat) (rec : Int32 → Int32 → Int32 → Int32 → Int32 → Int32 → Int32 → Int32 → Option (Int32)) (y1 : Int32) (y3 : Int32) (y4 : Int32) (y5 : Int32) (y6 : Int32) (y7 : Int32) (y8 : Int32) (y9 : Int32) : Option (Int32) := gd (inb y1 12) ((if (h (b + 3) y1.toNatClampNeg) ≤ y9 then (if (y6 &&& (1 : Int32)) = (0 : Int32) then some (0 : Int32) else some (1 : Int32)) else gd (inb y9 400) ((if (h (b + 4) y9.toNatClampNeg) < (0 : Int32) then (if (h (b + 4) y9.toNatClampNeg) < (-7 : Int32) then (if (h (b + 4) y9.toNatClampNeg) = (-8 : Int32) then lt9 (y9 + (1 : Int32)) (fun x52 => rec y1 y3 y4 y5 y6 y8 (0 : Int32) x52) else (if (h (b + 4) y9.toNatClampNeg) = (-9 : Int32) then cl9 ((if (h (b + 4) y9.toNatClampNeg) = (-9 : Int32) then (if y8 ≤ y7 then some (0 : Int32) else some (1 : Int32)) else (if y7 ≤ y8 then some (0 : Int32) else some (1 : Int32))) : Option (Int32)) (fun v9 => lt9 ((y6 <<< ((1 : Int32) &&& 31)) ||| v9) (fun x15 => lt9 (y9 + (1 : Int32)) (fun x16 => rec y1 y3 y4 y5 x15 y7 (0 : Int32) x16))) else (if (h (b + 4) y9.toNatClampNeg) = (-10 : Int32) then cl9 ((if (h (b + 4) y9.toNatClampNeg) = (-9 : Int32) then (if y8 ≤ y7 then some (0 : Int32) else some (1 : Int32)) else (if y7 ≤ y8 then some (0 : Int32) else some (1 : Int32))) : Option (Int32)) (fun v44 => lt9 ((y6 <<< ((1 : Int32) &&& 31)) ||| v44) (fun x50 => lt9 (y9 + (1 : Int32)) (fun x51 => rec y1 y3 y4 y5 x50 y7 (0 : Int32) x51))) else (if (h (b + 4) y9.toNatClampNeg) = (-11 : Int32) then (if (h (b + 4) y9.toNatClampNeg) = (-11 : Int32) then (if y5 = (0 : Int32) then lt9 ((y6 <<< ((1 : Int32) &&& 31)) ||| (0 : Int32)) (fun x26 => lt9 (y9 + (1 : Int32)) (fun x27 => rec y1 y3 y4 y5 x26 y7 y8 x27)) else lt9 ((y6 <<< ((1 : Int32) &&& 31)) ||| (1 : Int32)) (fun x28 => lt9 (y9 + (1 : Int32)) (fun x29 => rec y1 y3 y4 y5 x28 y7 y8 x29))) else (if ((ushr (h b2 4) y3) &&& (1 : Int32)) = (0 : Int32) then lt9 ((y6 <<< ((1 : Int32) &&& 31)) ||| (1 : Int32)) (fun x23 => lt9 (y9 + (1 : Int32)) (fun x24 => rec y1 y3 y4 y5 x23 y7 y8 x24)) else lt9 ((y6 <<< ((1 : Int32) &&& 31)) ||| (0 : Int32)) (fun x21 => lt9 (y9 + (1 : Int32)) (fun x22 => rec y1 y3 y4 y5 x21 y7 y8 x22)))) else (if (h (b + 4) y9.toNatClampNeg) = (-12 : Int32) then (if (h (b + 4) y9.toNatClampNeg) = (-11 : Int32) then (if y5 = (0 : Int32) then lt9 ((y6 <<< ((1 : Int32) &&& 31)) ||| (0 : Int32)) (fun x40 => lt9 (y9 + (1 : Int32)) (fun x41 => rec y1 y3 y4 y5 x40 y7 y8 x41)) else lt9 ((y6 <<< ((1 : Int32) &&& 31)) ||| (1 : Int32)) (fun x42 => lt9 (y9 + (1 : Int32)) (fun x43 => rec y1 y3 y4 y5 x42 y7 y8 x43))) else (if ((ushr (h b2 4) y3) &&& (1 : Int32)) = (0 : Int32) then lt9 ((y6 <<< ((1 : Int32) &&& 31)) ||| (1 : Int32)) (fun x37 => lt9 (y9 + (1 : Int32)) (fun x38 => rec y1 y3 y4 y5 x37 y7 y8 x38)) else lt9 ((y6 <<< ((1 : Int32) &&& 31)) ||| (0 : Int32)) (fun x35 => lt9 (y9 + (1 : Int32)) (fun x36 => rec y1 y3 y4 y5 x35 y7 y8 x36)))) else lt9 (fX2_joined (h (b + 4) y9.toNatClampNeg) y6) (fun x31 => lt9 (y9 + (1 : Int32)) (fun x32 => rec y1 y3 y4 y5 x31 y7 y8 x32))))))) else cl9 (fX2_partOf h b2 (h (b + 4) y9.toNatClampNeg) y3 y4) (fun x53 => lt9 (y8 + x53) (fun x55 => lt9 (y9 + (1 : Int32)) (fun x56 => rec y1 y3 y4 y5 y6 y7 x55 x56)))) else lt9 (y8 + (h (b + 4) y9.toNatClampNeg)) (fun x57 => lt9 (y9 + (1 : Int32)) (fun x58 => rec y1 y3 y4 y5 y6 y7 x57 x58))))))
def LX2_lineHolds (h : Hp) (b : Nat) (b2 : Nat) : Nat → Int32 → Int32 → Int32 → Int32 → Int32 → Int32 → Int32 → Int32 → Option (Int32)
  | 0, _, _, _, _, _, _, _, _ => none
  | n + 1, y1, y3, y4, y5, y6, y7, y8, y9 => BX2_lineHolds_0 h b b2 (LX2_lineHolds h b b2 n) y1 y3 y4 y5 y6 y7 y8 y9
def fX2_lineHolds (h : Hp) (b : Nat) (b2 : Nat) (a1 : Int32) (a2 : Int32) (a3 : Int32) (a4 : Int32) : Option (Int32) := (if a1 = (0 : Int32) then LX2_lineHolds h b b2 big a1 a2 a3 a4 (1 : Int32) (0 : Int32) (0 : Int32) (0 : Int32) else gd (inb (a1 - (1 : Int32)) 12) (LX2_lineHolds h b b2 big a1 a2 a3 a4 (1 : Int32) (0 : Int32) (0 : Int32) (h (b + 3) (a1 - (1 : Int32)).toNatClampNeg)))
set_option maxHeartbeats 4000000 in
set_option maxRecDepth 100000 in
theorem wX2_lineHolds {X : Cx} {h : Hp} {b : Nat} (hb : isLaw b) {b2 : Nat} (hb2 : isSky b2) (C : OK X cX2_lineHolds 11 RX2 (some .boolean)) (hR : xR X = { frames := 2, cells := 0, slots := 0, locals := 128 }) (hcs : True) {rr : Int32} (hF : FinR X (some (.int rr)) h) : ∀ n : Nat, (∀ (y1 : Int32) (y3 : Int32) (y4 : Int32) (y5 : Int32) (y6 : Int32) (y7 : Int32) (y8 : Int32) (y9 : Int32), LX2_lineHolds h b b2 n y1 y3 y4 y5 y6 y7 y8 y9 = some rr → VW X 11 h 0 0 27 [(0, .ref (gad (xG X) b)), (1, .int y1), (2, .ref (gad (xG X) b2)), (3, .int y3), (4, .int y4), (5, .int y5), (6, .int y6), (7, .int y7), (8, .int y8), (9, .int y9)] []) := by
  intro n
  induction n with
  | zero => exact (fun _ _ _ _ _ _ _ _ hf => (by rw [LX2_lineHolds] at hf; cases hf))
  | succ n ih =>
    intro y1 y3 y4 y5 y6 y7 y8 y9 hf
    rw [LX2_lineHolds] at hf
    unfold BX2_lineHolds_0 at hf
    refine r_iload (i := 9) C dX2_lineHolds_27 9 rfl ?_
    refine r_aload_n (i := 0) C dX2_lineHolds_29 rfl 0 rfl ?_
    refine g_X2_22 hb C dX2_lineHolds_30 ?_
    refine r_iload_n (i := 1) C dX2_lineHolds_33 rfl 1 rfl ?_
    obtain ⟨g1, hf⟩ := gd_of hf
    refine r_iald C (b + 3) (law_dsc hb 3 (by decide)) (law_lt hb 3 (by decide)) g1 dX2_lineHolds_34 ?_
    refine r_icmp_ge C 229 dX2_lineHolds_35 (by decide) (fun c2 => ?_) (fun c2 => ?_)
    · rw [if_pos c2] at hf
      refine r_iload (i := 6) C dX2_lineHolds_229 6 rfl ?_
      refine r_iconst (v := 1) C dX2_lineHolds_231 (by decide) ?_
      refine r_iand C dX2_lineHolds_232 ?_
      refine r_if_eq C 240 dX2_lineHolds_233 (by decide) (fun c3 => ?_) (fun c3 => ?_)
      · rw [if_pos c3] at hf
        refine r_iconst (v := 0) C dX2_lineHolds_240 (by decide) ?_
        have zz : (0 : Int32) = 0 ∨ (0 : Int32) = 1 := (Or.inl rfl)
        cases hf
        exact r_zret C zz hF dX2_lineHolds_241
      · rw [if_neg c3] at hf
        refine r_iconst (v := 1) C dX2_lineHolds_236 (by decide) ?_
        refine r_goto C 241 dX2_lineHolds_237 (by decide) ?_
        have zz : (1 : Int32) = 0 ∨ (1 : Int32) = 1 := (Or.inr rfl)
        cases hf
        exact r_zret C zz hF dX2_lineHolds_241
    · rw [if_neg c2] at hf
      refine r_aload_n (i := 0) C dX2_lineHolds_38 rfl 0 rfl ?_
      refine g_X2_27 hb C dX2_lineHolds_39 ?_
      refine r_iload (i := 9) C dX2_lineHolds_42 9 rfl ?_
      obtain ⟨g4, hf⟩ := gd_of hf
      refine r_iald C (b + 4) (law_dsc hb 4 (by decide)) (law_lt hb 4 (by decide)) g4 dX2_lineHolds_44 ?_
      refine r_istore (i := 10) (lv' := [(0, .ref (gad (xG X) b)), (1, .int y1), (2, .ref (gad (xG X) b2)), (3, .int y3), (4, .int y4), (5, .int y5), (6, .int y6), (7, .int y7), (8, .int y8), (9, .int y9), (10, .int (h (b + 4) y9.toNatClampNeg))]) C dX2_lineHolds_45 (by decide) [1, 2, 3, 4, 5, 6, 7, 8, 9, 10, 0] rfl ?_
      refine r_iload (i := 10) C dX2_lineHolds_47 10 rfl ?_
      refine r_if_lt C 62 dX2_lineHolds_49 (by decide) (fun c5 => ?_) (fun c5 => ?_)
      · rw [if_pos c5] at hf
        refine r_iload (i := 10) C dX2_lineHolds_62 10 rfl ?_
        refine r_bipush (v := (-7)) C dX2_lineHolds_64 (by decide) ?_
        refine r_icmp_lt C 86 dX2_lineHolds_66 (by decide) (fun c6 => ?_) (fun c6 => ?_)
        · rw [if_pos c6] at hf
          refine r_iload (i := 10) C dX2_lineHolds_86 10 rfl ?_
          refine r_bipush (v := (-8)) C dX2_lineHolds_88 (by decide) ?_
          refine r_icmp_ne C 103 dX2_lineHolds_90 (by decide) (fun c7 => ?_) (fun c7 => ?_)
          · rw [if_neg c7] at hf
            refine r_iload (i := 10) C dX2_lineHolds_103 10 rfl ?_
            refine r_bipush (v := (-9)) C dX2_lineHolds_105 (by decide) ?_
            refine r_icmp_eq C 117 dX2_lineHolds_107 (by decide) (fun c8 => ?_) (fun c8 => ?_)
            · rw [if_pos c8] at hf
              refine r_iload (i := 6) C dX2_lineHolds_117 6 rfl ?_
              refine r_iconst (v := 1) C dX2_lineHolds_119 (by decide) ?_
              refine r_ishl C dX2_lineHolds_120 ?_
              refine r_iload (i := 10) C dX2_lineHolds_121 10 rfl ?_
              refine r_bipush (v := (-9)) C dX2_lineHolds_123 (by decide) ?_
              obtain ⟨v9, r11, hf⟩ := cl_of hf
              have k10 : VW X 11 h 0 0 150 [(0, .ref (gad (xG X) b)), (1, .int y1), (2, .ref (gad (xG X) b2)), (3, .int y3), (4, .int y4), (5, .int y5), (7, .int y7), (9, .int y9)] [.int v9, .int (y6 <<< ((1 : Int32) &&& 31))] := by
                refine r_ior C dX2_lineHolds_150 ?_
                obtain ⟨x15, ex15, hf⟩ := lt_of hf
                refine r_top ex15 ?_
                refine r_istore (i := 6) (lv' := [(0, .ref (gad (xG X) b)), (1, .int y1), (2, .ref (gad (xG X) b2)), (3, .int y3), (4, .int y4), (5, .int y5), (6, .int x15), (7, .int y7), (9, .int y9)]) C dX2_lineHolds_151 (by decide) [1, 2, 3, 4, 5, 6, 0, 7, 8] rfl ?_
                refine r_iconst (v := 0) C dX2_lineHolds_153 (by decide) ?_
                refine r_istore (i := 8) (lv' := [(0, .ref (gad (xG X) b)), (1, .int y1), (2, .ref (gad (xG X) b2)), (3, .int y3), (4, .int y4), (5, .int y5), (6, .int x15), (7, .int y7), (8, .int (0 : Int32)), (9, .int y9)]) C dX2_lineHolds_154 (by decide) [1, 2, 3, 4, 5, 6, 7, 8, 0, 9] rfl ?_
                refine r_goto C 223 dX2_lineHolds_156 (by decide) ?_
                obtain ⟨x16, ex16, hf⟩ := lt_of hf
                refine r_iinc (j := 9) (v := x16) (lv' := [(0, .ref (gad (xG X) b)), (1, .int y1), (2, .ref (gad (xG X) b2)), (3, .int y3), (4, .int y4), (5, .int y5), (6, .int x15), (7, .int y7), (8, .int (0 : Int32)), (9, .int x16)]) C dX2_lineHolds_223 rfl (by rw [ex16]; rfl) (by decide) [1, 2, 3, 4, 5, 6, 7, 8, 9, 0] rfl ?_
                refine r_goto C 27 dX2_lineHolds_226 (by decide) ?_
                exact r_lv [0, 1, 2, 3, 4, 5, 6, 7, 8, 9] rfl (ih _ _ _ _ _ _ _ _ hf)
              clear hf
              have hf := r11
              refine r_icmp_ne C 138 dX2_lineHolds_125 (by decide) (fun c12 => ?_) (fun c12 => ?_)
              · rw [if_neg c12] at hf
                refine r_iload (i := 7) C dX2_lineHolds_138 7 rfl ?_
                refine r_iload (i := 8) C dX2_lineHolds_140 8 rfl ?_
                refine r_icmp_le C 149 dX2_lineHolds_142 (by decide) (fun c13 => ?_) (fun c13 => ?_)
                · rw [if_pos c13] at hf
                  refine r_iconst (v := 0) C dX2_lineHolds_149 (by decide) ?_
                  cases hf
                  exact r_lv [0, 1, 2, 3, 4, 5, 7, 9] rfl k10
                · rw [if_neg c13] at hf
                  refine r_iconst (v := 1) C dX2_lineHolds_145 (by decide) ?_
                  refine r_goto C 150 dX2_lineHolds_146 (by decide) ?_
                  cases hf
                  exact r_lv [0, 1, 2, 3, 4, 5, 7, 9] rfl k10
              · rw [if_pos c12] at hf
                refine r_iload (i := 7) C dX2_lineHolds_128 7 rfl ?_
                refine r_iload (i := 8) C dX2_lineHolds_130 8 rfl ?_
                refine r_icmp_ge C 149 dX2_lineHolds_132 (by decide) (fun c14 => ?_) (fun c14 => ?_)
                · rw [if_pos c14] at hf
                  refine r_iconst (v := 0) C dX2_lineHolds_149 (by decide) ?_
                  cases hf
                  exact r_lv [0, 1, 2, 3, 4, 5, 7, 9] rfl k10
                · rw [if_neg c14] at hf
                  refine r_goto C 145 dX2_lineHolds_135 (by decide) ?_
                  refine r_iconst (v := 1) C dX2_lineHolds_145 (by decide) ?_
                  refine r_goto C 150 dX2_lineHolds_146 (by decide) ?_
                  cases hf
                  exact r_lv [0, 1, 2, 3, 4, 5, 7, 9] rfl k10
            · rw [if_neg c8] at hf
              refine r_iload (i := 10) C dX2_lineHolds_110 10 rfl ?_
              refine r_bipush (v := (-10)) C dX2_lineHolds_112 (by decide) ?_
              refine r_icmp_ne C 159 dX2_lineHolds_114 (by decide) (fun c17 => ?_) (fun c17 => ?_)
              · rw [if_neg c17] at hf
                refine r_iload (i := 10) C dX2_lineHolds_159 10 rfl ?_
                refine r_bipush (v := (-11)) C dX2_lineHolds_161 (by decide) ?_
                refine r_icmp_eq C 173 dX2_lineHolds_163 (by decide) (fun c18 => ?_) (fun c18 => ?_)
                · rw [if_pos c18] at hf
                  refine r_iload (i := 6) C dX2_lineHolds_173 6 rfl ?_
                  refine r_iconst (v := 1) C dX2_lineHolds_175 (by decide) ?_
                  refine r_ishl C dX2_lineHolds_176 ?_
                  refine r_iload (i := 10) C dX2_lineHolds_177 10 rfl ?_
                  refine r_bipush (v := (-11)) C dX2_lineHolds_179 (by decide) ?_
                  refine r_icmp_ne C 192 dX2_lineHolds_181 (by decide) (fun c19 => ?_) (fun c19 => ?_)
                  · rw [if_neg c19] at hf
                    refine r_aload_n (i := 2) C dX2_lineHolds_192 rfl 2 rfl ?_
                    refine g_X2_47 hb2 C dX2_lineHolds_193 ?_
                    refine r_iload_n (i := 3) C dX2_lineHolds_196 rfl 3 rfl ?_
                    refine r_iushr C dX2_lineHolds_197 ?_
                    refine r_iconst (v := 1) C dX2_lineHolds_198 (by decide) ?_
                    refine r_iand C dX2_lineHolds_199 ?_
                    refine r_if_ne C 207 dX2_lineHolds_200 (by decide) (fun c20 => ?_) (fun c20 => ?_)
                    · rw [if_neg c20] at hf
                      refine r_iconst (v := 0) C dX2_lineHolds_207 (by decide) ?_
                      refine r_ior C dX2_lineHolds_208 ?_
                      obtain ⟨x21, ex21, hf⟩ := lt_of hf
                      refine r_top ex21 ?_
                      refine r_istore (i := 6) (lv' := [(0, .ref (gad (xG X) b)), (1, .int y1), (2, .ref (gad (xG X) b2)), (3, .int y3), (4, .int y4), (5, .int y5), (6, .int x21), (7, .int y7), (8, .int y8), (9, .int y9), (10, .int (h (b + 4) y9.toNatClampNeg))]) C dX2_lineHolds_209 (by decide) [1, 2, 3, 4, 5, 6, 0, 7, 8, 9, 10] rfl ?_
                      refine r_goto C 223 dX2_lineHolds_211 (by decide) ?_
                      obtain ⟨x22, ex22, hf⟩ := lt_of hf
                      refine r_iinc (j := 9) (v := x22) (lv' := [(0, .ref (gad (xG X) b)), (1, .int y1), (2, .ref (gad (xG X) b2)), (3, .int y3), (4, .int y4), (5, .int y5), (6, .int x21), (7, .int y7), (8, .int y8), (9, .int x22), (10, .int (h (b + 4) y9.toNatClampNeg))]) C dX2_lineHolds_223 rfl (by rw [ex22]; rfl) (by decide) [1, 2, 3, 4, 5, 6, 7, 8, 9, 0, 10] rfl ?_
                      refine r_goto C 27 dX2_lineHolds_226 (by decide) ?_
                      exact r_lv [0, 1, 2, 3, 4, 5, 6, 7, 8, 9] rfl (ih _ _ _ _ _ _ _ _ hf)
                    · rw [if_pos c20] at hf
                      refine r_iconst (v := 1) C dX2_lineHolds_203 (by decide) ?_
                      refine r_goto C 208 dX2_lineHolds_204 (by decide) ?_
                      refine r_ior C dX2_lineHolds_208 ?_
                      obtain ⟨x23, ex23, hf⟩ := lt_of hf
                      refine r_top ex23 ?_
                      refine r_istore (i := 6) (lv' := [(0, .ref (gad (xG X) b)), (1, .int y1), (2, .ref (gad (xG X) b2)), (3, .int y3), (4, .int y4), (5, .int y5), (6, .int x23), (7, .int y7), (8, .int y8), (9, .int y9), (10, .int (h (b + 4) y9.toNatClampNeg))]) C dX2_lineHolds_209 (by decide) [1, 2, 3, 4, 5, 6, 0, 7, 8, 9, 10] rfl ?_
                      refine r_goto C 223 dX2_lineHolds_211 (by decide) ?_
                      obtain ⟨x24, ex24, hf⟩ := lt_of hf
                      refine r_iinc (j := 9) (v := x24) (lv' := [(0, .ref (gad (xG X) b)), (1, .int y1), (2, .ref (gad (xG X) b2)), (3, .int y3), (4, .int y4), (5, .int y5), (6, .int x23), (7, .int y7), (8, .int y8), (9, .int x24), (10, .int (h (b + 4) y9.toNatClampNeg))]) C dX2_lineHolds_223 rfl (by rw [ex24]; rfl) (by decide) [1, 2, 3, 4, 5, 6, 7, 8, 9, 0, 10] rfl ?_
                      refine r_goto C 27 dX2_lineHolds_226 (by decide) ?_
                      exact r_lv [0, 1, 2, 3, 4, 5, 6, 7, 8, 9] rfl (ih _ _ _ _ _ _ _ _ hf)
                  · rw [if_pos c19] at hf
                    refine r_iload (i := 5) C dX2_lineHolds_184 5 rfl ?_
                    refine r_if_eq C 207 dX2_lineHolds_186 (by decide) (fun c25 => ?_) (fun c25 => ?_)
                    · rw [if_pos c25] at hf
                      refine r_iconst (v := 0) C dX2_lineHolds_207 (by decide) ?_
                      refine r_ior C dX2_lineHolds_208 ?_
                      obtain ⟨x26, ex26, hf⟩ := lt_of hf
                      refine r_top ex26 ?_
                      refine r_istore (i := 6) (lv' := [(0, .ref (gad (xG X) b)), (1, .int y1), (2, .ref (gad (xG X) b2)), (3, .int y3), (4, .int y4), (5, .int y5), (6, .int x26), (7, .int y7), (8, .int y8), (9, .int y9), (10, .int (h (b + 4) y9.toNatClampNeg))]) C dX2_lineHolds_209 (by decide) [1, 2, 3, 4, 5, 6, 0, 7, 8, 9, 10] rfl ?_
                      refine r_goto C 223 dX2_lineHolds_211 (by decide) ?_
                      obtain ⟨x27, ex27, hf⟩ := lt_of hf
                      refine r_iinc (j := 9) (v := x27) (lv' := [(0, .ref (gad (xG X) b)), (1, .int y1), (2, .ref (gad (xG X) b2)), (3, .int y3), (4, .int y4), (5, .int y5), (6, .int x26), (7, .int y7), (8, .int y8), (9, .int x27), (10, .int (h (b + 4) y9.toNatClampNeg))]) C dX2_lineHolds_223 rfl (by rw [ex27]; rfl) (by decide) [1, 2, 3, 4, 5, 6, 7, 8, 9, 0, 10] rfl ?_
                      refine r_goto C 27 dX2_lineHolds_226 (by decide) ?_
                      exact r_lv [0, 1, 2, 3, 4, 5, 6, 7, 8, 9] rfl (ih _ _ _ _ _ _ _ _ hf)
                    · rw [if_neg c25] at hf
                      refine r_goto C 203 dX2_lineHolds_189 (by decide) ?_
                      refine r_iconst (v := 1) C dX2_lineHolds_203 (by decide) ?_
                      refine r_goto C 208 dX2_lineHolds_204 (by decide) ?_
                      refine r_ior C dX2_lineHolds_208 ?_
                      obtain ⟨x28, ex28, hf⟩ := lt_of hf
                      refine r_top ex28 ?_
                      refine r_istore (i := 6) (lv' := [(0, .ref (gad (xG X) b)), (1, .int y1), (2, .ref (gad (xG X) b2)), (3, .int y3), (4, .int y4), (5, .int y5), (6, .int x28), (7, .int y7), (8, .int y8), (9, .int y9), (10, .int (h (b + 4) y9.toNatClampNeg))]) C dX2_lineHolds_209 (by decide) [1, 2, 3, 4, 5, 6, 0, 7, 8, 9, 10] rfl ?_
                      refine r_goto C 223 dX2_lineHolds_211 (by decide) ?_
                      obtain ⟨x29, ex29, hf⟩ := lt_of hf
                      refine r_iinc (j := 9) (v := x29) (lv' := [(0, .ref (gad (xG X) b)), (1, .int y1), (2, .ref (gad (xG X) b2)), (3, .int y3), (4, .int y4), (5, .int y5), (6, .int x28), (7, .int y7), (8, .int y8), (9, .int x29), (10, .int (h (b + 4) y9.toNatClampNeg))]) C dX2_lineHolds_223 rfl (by rw [ex29]; rfl) (by decide) [1, 2, 3, 4, 5, 6, 7, 8, 9, 0, 10] rfl ?_
                      refine r_goto C 27 dX2_lineHolds_226 (by decide) ?_
                      exact r_lv [0, 1, 2, 3, 4, 5, 6, 7, 8, 9] rfl (ih _ _ _ _ _ _ _ _ hf)
                · rw [if_neg c18] at hf
                  refine r_iload (i := 10) C dX2_lineHolds_166 10 rfl ?_
                  refine r_bipush (v := (-12)) C dX2_lineHolds_168 (by decide) ?_
                  refine r_icmp_ne C 214 dX2_lineHolds_170 (by decide) (fun c30 => ?_) (fun c30 => ?_)
                  · rw [if_neg c30] at hf
                    refine r_iload (i := 10) C dX2_lineHolds_214 10 rfl ?_
                    refine r_iload (i := 6) C dX2_lineHolds_216 6 rfl ?_
                    refine r_callSi (As := [.int (h (b + 4) y9.toNatClampNeg), .int y6]) (st := []) C (kX2_joined (xG X)) cw_X2_52 rfl rfl (Nat.le_of_ble_eq_true rfl) (zr2 hR rfl rfl) (zrcs hcs) dX2_lineHolds_218 ?_
                    obtain ⟨x31, ex31, hf⟩ := lt_of hf
                    refine r_top ex31 ?_
                    refine r_istore (i := 6) (lv' := [(0, .ref (gad (xG X) b)), (1, .int y1), (2, .ref (gad (xG X) b2)), (3, .int y3), (4, .int y4), (5, .int y5), (6, .int x31), (7, .int y7), (8, .int y8), (9, .int y9), (10, .int (h (b + 4) y9.toNatClampNeg))]) C dX2_lineHolds_221 (by decide) [1, 2, 3, 4, 5, 6, 0, 7, 8, 9, 10] rfl ?_
                    obtain ⟨x32, ex32, hf⟩ := lt_of hf
                    refine r_iinc (j := 9) (v := x32) (lv' := [(0, .ref (gad (xG X) b)), (1, .int y1), (2, .ref (gad (xG X) b2)), (3, .int y3), (4, .int y4), (5, .int y5), (6, .int x31), (7, .int y7), (8, .int y8), (9, .int x32), (10, .int (h (b + 4) y9.toNatClampNeg))]) C dX2_lineHolds_223 rfl (by rw [ex32]; rfl) (by decide) [1, 2, 3, 4, 5, 6, 7, 8, 9, 0, 10] rfl ?_
                    refine r_goto C 27 dX2_lineHolds_226 (by decide) ?_
                    exact r_lv [0, 1, 2, 3, 4, 5, 6, 7, 8, 9] rfl (ih _ _ _ _ _ _ _ _ hf)
                  · rw [if_pos c30] at hf
                    refine r_iload (i := 6) C dX2_lineHolds_173 6 rfl ?_
                    refine r_iconst (v := 1) C dX2_lineHolds_175 (by decide) ?_
                    refine r_ishl C dX2_lineHolds_176 ?_
                    refine r_iload (i := 10) C dX2_lineHolds_177 10 rfl ?_
                    refine r_bipush (v := (-11)) C dX2_lineHolds_179 (by decide) ?_
                    refine r_icmp_ne C 192 dX2_lineHolds_181 (by decide) (fun c33 => ?_) (fun c33 => ?_)
                    · rw [if_neg c33] at hf
                      refine r_aload_n (i := 2) C dX2_lineHolds_192 rfl 2 rfl ?_
                      refine g_X2_47 hb2 C dX2_lineHolds_193 ?_
                      refine r_iload_n (i := 3) C dX2_lineHolds_196 rfl 3 rfl ?_
                      refine r_iushr C dX2_lineHolds_197 ?_
                      refine r_iconst (v := 1) C dX2_lineHolds_198 (by decide) ?_
                      refine r_iand C dX2_lineHolds_199 ?_
                      refine r_if_ne C 207 dX2_lineHolds_200 (by decide) (fun c34 => ?_) (fun c34 => ?_)
                      · rw [if_neg c34] at hf
                        refine r_iconst (v := 0) C dX2_lineHolds_207 (by decide) ?_
                        refine r_ior C dX2_lineHolds_208 ?_
                        obtain ⟨x35, ex35, hf⟩ := lt_of hf
                        refine r_top ex35 ?_
                        refine r_istore (i := 6) (lv' := [(0, .ref (gad (xG X) b)), (1, .int y1), (2, .ref (gad (xG X) b2)), (3, .int y3), (4, .int y4), (5, .int y5), (6, .int x35), (7, .int y7), (8, .int y8), (9, .int y9), (10, .int (h (b + 4) y9.toNatClampNeg))]) C dX2_lineHolds_209 (by decide) [1, 2, 3, 4, 5, 6, 0, 7, 8, 9, 10] rfl ?_
                        refine r_goto C 223 dX2_lineHolds_211 (by decide) ?_
                        obtain ⟨x36, ex36, hf⟩ := lt_of hf
                        refine r_iinc (j := 9) (v := x36) (lv' := [(0, .ref (gad (xG X) b)), (1, .int y1), (2, .ref (gad (xG X) b2)), (3, .int y3), (4, .int y4), (5, .int y5), (6, .int x35), (7, .int y7), (8, .int y8), (9, .int x36), (10, .int (h (b + 4) y9.toNatClampNeg))]) C dX2_lineHolds_223 rfl (by rw [ex36]; rfl) (by decide) [1, 2, 3, 4, 5, 6, 7, 8, 9, 0, 10] rfl ?_
                        refine r_goto C 27 dX2_lineHolds_226 (by decide) ?_
                        exact r_lv [0, 1, 2, 3, 4, 5, 6, 7, 8, 9] rfl (ih _ _ _ _ _ _ _ _ hf)
                      · rw [if_pos c34] at hf
                        refine r_iconst (v := 1) C dX2_lineHolds_203 (by decide) ?_
                        refine r_goto C 208 dX2_lineHolds_204 (by decide) ?_
                        refine r_ior C dX2_lineHolds_208 ?_
                        obtain ⟨x37, ex37, hf⟩ := lt_of hf
                        refine r_top ex37 ?_
                        refine r_istore (i := 6) (lv' := [(0, .ref (gad (xG X) b)), (1, .int y1), (2, .ref (gad (xG X) b2)), (3, .int y3), (4, .int y4), (5, .int y5), (6, .int x37), (7, .int y7), (8, .int y8), (9, .int y9), (10, .int (h (b + 4) y9.toNatClampNeg))]) C dX2_lineHolds_209 (by decide) [1, 2, 3, 4, 5, 6, 0, 7, 8, 9, 10] rfl ?_
                        refine r_goto C 223 dX2_lineHolds_211 (by decide) ?_
                        obtain ⟨x38, ex38, hf⟩ := lt_of hf
                        refine r_iinc (j := 9) (v := x38) (lv' := [(0, .ref (gad (xG X) b)), (1, .int y1), (2, .ref (gad (xG X) b2)), (3, .int y3), (4, .int y4), (5, .int y5), (6, .int x37), (7, .int y7), (8, .int y8), (9, .int x38), (10, .int (h (b + 4) y9.toNatClampNeg))]) C dX2_lineHolds_223 rfl (by rw [ex38]; rfl) (by decide) [1, 2, 3, 4, 5, 6, 7, 8, 9, 0, 10] rfl ?_
                        refine r_goto C 27 dX2_lineHolds_226 (by decide) ?_
                        exact r_lv [0, 1, 2, 3, 4, 5, 6, 7, 8, 9] rfl (ih _ _ _ _ _ _ _ _ hf)
                    · rw [if_pos c33] at hf
                      refine r_iload (i := 5) C dX2_lineHolds_184 5 rfl ?_
                      refine r_if_eq C 207 dX2_lineHolds_186 (by decide) (fun c39 => ?_) (fun c39 => ?_)
                      · rw [if_pos c39] at hf
                        refine r_iconst (v := 0) C dX2_lineHolds_207 (by decide) ?_
                        refine r_ior C dX2_lineHolds_208 ?_
                        obtain ⟨x40, ex40, hf⟩ := lt_of hf
                        refine r_top ex40 ?_
                        refine r_istore (i := 6) (lv' := [(0, .ref (gad (xG X) b)), (1, .int y1), (2, .ref (gad (xG X) b2)), (3, .int y3), (4, .int y4), (5, .int y5), (6, .int x40), (7, .int y7), (8, .int y8), (9, .int y9), (10, .int (h (b + 4) y9.toNatClampNeg))]) C dX2_lineHolds_209 (by decide) [1, 2, 3, 4, 5, 6, 0, 7, 8, 9, 10] rfl ?_
                        refine r_goto C 223 dX2_lineHolds_211 (by decide) ?_
                        obtain ⟨x41, ex41, hf⟩ := lt_of hf
                        refine r_iinc (j := 9) (v := x41) (lv' := [(0, .ref (gad (xG X) b)), (1, .int y1), (2, .ref (gad (xG X) b2)), (3, .int y3), (4, .int y4), (5, .int y5), (6, .int x40), (7, .int y7), (8, .int y8), (9, .int x41), (10, .int (h (b + 4) y9.toNatClampNeg))]) C dX2_lineHolds_223 rfl (by rw [ex41]; rfl) (by decide) [1, 2, 3, 4, 5, 6, 7, 8, 9, 0, 10] rfl ?_
                        refine r_goto C 27 dX2_lineHolds_226 (by decide) ?_
                        exact r_lv [0, 1, 2, 3, 4, 5, 6, 7, 8, 9] rfl (ih _ _ _ _ _ _ _ _ hf)
                      · rw [if_neg c39] at hf
                        refine r_goto C 203 dX2_lineHolds_189 (by decide) ?_
                        refine r_iconst (v := 1) C dX2_lineHolds_203 (by decide) ?_
                        refine r_goto C 208 dX2_lineHolds_204 (by decide) ?_
                        refine r_ior C dX2_lineHolds_208 ?_
                        obtain ⟨x42, ex42, hf⟩ := lt_of hf
                        refine r_top ex42 ?_
                        refine r_istore (i := 6) (lv' := [(0, .ref (gad (xG X) b)), (1, .int y1), (2, .ref (gad (xG X) b2)), (3, .int y3), (4, .int y4), (5, .int y5), (6, .int x42), (7, .int y7), (8, .int y8), (9, .int y9), (10, .int (h (b + 4) y9.toNatClampNeg))]) C dX2_lineHolds_209 (by decide) [1, 2, 3, 4, 5, 6, 0, 7, 8, 9, 10] rfl ?_
                        refine r_goto C 223 dX2_lineHolds_211 (by decide) ?_
                        obtain ⟨x43, ex43, hf⟩ := lt_of hf
                        refine r_iinc (j := 9) (v := x43) (lv' := [(0, .ref (gad (xG X) b)), (1, .int y1), (2, .ref (gad (xG X) b2)), (3, .int y3), (4, .int y4), (5, .int y5), (6, .int x42), (7, .int y7), (8, .int y8), (9, .int x43), (10, .int (h (b + 4) y9.toNatClampNeg))]) C dX2_lineHolds_223 rfl (by rw [ex43]; rfl) (by decide) [1, 2, 3, 4, 5, 6, 7, 8, 9, 0, 10] rfl ?_
                        refine r_goto C 27 dX2_lineHolds_226 (by decide) ?_
                        exact r_lv [0, 1, 2, 3, 4, 5, 6, 7, 8, 9] rfl (ih _ _ _ _ _ _ _ _ hf)
              · rw [if_pos c17] at hf
                refine r_iload (i := 6) C dX2_lineHolds_117 6 rfl ?_
                refine r_iconst (v := 1) C dX2_lineHolds_119 (by decide) ?_
                refine r_ishl C dX2_lineHolds_120 ?_
                refine r_iload (i := 10) C dX2_lineHolds_121 10 rfl ?_
                refine r_bipush (v := (-9)) C dX2_lineHolds_123 (by decide) ?_
                obtain ⟨v44, r46, hf⟩ := cl_of hf
                have k45 : VW X 11 h 0 0 150 [(0, .ref (gad (xG X) b)), (1, .int y1), (2, .ref (gad (xG X) b2)), (3, .int y3), (4, .int y4), (5, .int y5), (7, .int y7), (9, .int y9)] [.int v44, .int (y6 <<< ((1 : Int32) &&& 31))] := by
                  refine r_ior C dX2_lineHolds_150 ?_
                  obtain ⟨x50, ex50, hf⟩ := lt_of hf
                  refine r_top ex50 ?_
                  refine r_istore (i := 6) (lv' := [(0, .ref (gad (xG X) b)), (1, .int y1), (2, .ref (gad (xG X) b2)), (3, .int y3), (4, .int y4), (5, .int y5), (6, .int x50), (7, .int y7), (9, .int y9)]) C dX2_lineHolds_151 (by decide) [1, 2, 3, 4, 5, 6, 0, 7, 8] rfl ?_
                  refine r_iconst (v := 0) C dX2_lineHolds_153 (by decide) ?_
                  refine r_istore (i := 8) (lv' := [(0, .ref (gad (xG X) b)), (1, .int y1), (2, .ref (gad (xG X) b2)), (3, .int y3), (4, .int y4), (5, .int y5), (6, .int x50), (7, .int y7), (8, .int (0 : Int32)), (9, .int y9)]) C dX2_lineHolds_154 (by decide) [1, 2, 3, 4, 5, 6, 7, 8, 0, 9] rfl ?_
                  refine r_goto C 223 dX2_lineHolds_156 (by decide) ?_
                  obtain ⟨x51, ex51, hf⟩ := lt_of hf
                  refine r_iinc (j := 9) (v := x51) (lv' := [(0, .ref (gad (xG X) b)), (1, .int y1), (2, .ref (gad (xG X) b2)), (3, .int y3), (4, .int y4), (5, .int y5), (6, .int x50), (7, .int y7), (8, .int (0 : Int32)), (9, .int x51)]) C dX2_lineHolds_223 rfl (by rw [ex51]; rfl) (by decide) [1, 2, 3, 4, 5, 6, 7, 8, 9, 0] rfl ?_
                  refine r_goto C 27 dX2_lineHolds_226 (by decide) ?_
                  exact r_lv [0, 1, 2, 3, 4, 5, 6, 7, 8, 9] rfl (ih _ _ _ _ _ _ _ _ hf)
                clear hf
                have hf := r46
                refine r_icmp_ne C 138 dX2_lineHolds_125 (by decide) (fun c47 => ?_) (fun c47 => ?_)
                · rw [if_neg c47] at hf
                  refine r_iload (i := 7) C dX2_lineHolds_138 7 rfl ?_
                  refine r_iload (i := 8) C dX2_lineHolds_140 8 rfl ?_
                  refine r_icmp_le C 149 dX2_lineHolds_142 (by decide) (fun c48 => ?_) (fun c48 => ?_)
                  · rw [if_pos c48] at hf
                    refine r_iconst (v := 0) C dX2_lineHolds_149 (by decide) ?_
                    cases hf
                    exact r_lv [0, 1, 2, 3, 4, 5, 7, 9] rfl k45
                  · rw [if_neg c48] at hf
                    refine r_iconst (v := 1) C dX2_lineHolds_145 (by decide) ?_
                    refine r_goto C 150 dX2_lineHolds_146 (by decide) ?_
                    cases hf
                    exact r_lv [0, 1, 2, 3, 4, 5, 7, 9] rfl k45
                · rw [if_pos c47] at hf
                  refine r_iload (i := 7) C dX2_lineHolds_128 7 rfl ?_
                  refine r_iload (i := 8) C dX2_lineHolds_130 8 rfl ?_
                  refine r_icmp_ge C 149 dX2_lineHolds_132 (by decide) (fun c49 => ?_) (fun c49 => ?_)
                  · rw [if_pos c49] at hf
                    refine r_iconst (v := 0) C dX2_lineHolds_149 (by decide) ?_
                    cases hf
                    exact r_lv [0, 1, 2, 3, 4, 5, 7, 9] rfl k45
                  · rw [if_neg c49] at hf
                    refine r_goto C 145 dX2_lineHolds_135 (by decide) ?_
                    refine r_iconst (v := 1) C dX2_lineHolds_145 (by decide) ?_
                    refine r_goto C 150 dX2_lineHolds_146 (by decide) ?_
                    cases hf
                    exact r_lv [0, 1, 2, 3, 4, 5, 7, 9] rfl k45
          · rw [if_pos c7] at hf
            refine r_iload (i := 8) C dX2_lineHolds_93 8 rfl ?_
            refine r_istore (i := 7) (lv' := [(0, .ref (gad (xG X) b)), (1, .int y1), (2, .ref (gad (xG X) b2)), (3, .int y3), (4, .int y4), (5, .int y5), (6, .int y6), (7, .int y8), (8, .int y8), (9, .int y9), (10, .int (h (b + 4) y9.toNatClampNeg))]) C dX2_lineHolds_95 (by decide) [1, 2, 3, 4, 5, 6, 7, 0, 8, 9, 10] rfl ?_
            refine r_iconst (v := 0) C dX2_lineHolds_97 (by decide) ?_
            refine r_istore (i := 8) (lv' := [(0, .ref (gad (xG X) b)), (1, .int y1), (2, .ref (gad (xG X) b2)), (3, .int y3), (4, .int y4), (5, .int y5), (6, .int y6), (7, .int y8), (8, .int (0 : Int32)), (9, .int y9), (10, .int (h (b + 4) y9.toNatClampNeg))]) C dX2_lineHolds_98 (by decide) [1, 2, 3, 4, 5, 6, 7, 8, 0, 9, 10] rfl ?_
            refine r_goto C 223 dX2_lineHolds_100 (by decide) ?_
            obtain ⟨x52, ex52, hf⟩ := lt_of hf
            refine r_iinc (j := 9) (v := x52) (lv' := [(0, .ref (gad (xG X) b)), (1, .int y1), (2, .ref (gad (xG X) b2)), (3, .int y3), (4, .int y4), (5, .int y5), (6, .int y6), (7, .int y8), (8, .int (0 : Int32)), (9, .int x52), (10, .int (h (b + 4) y9.toNatClampNeg))]) C dX2_lineHolds_223 rfl (by rw [ex52]; rfl) (by decide) [1, 2, 3, 4, 5, 6, 7, 8, 9, 0, 10] rfl ?_
            refine r_goto C 27 dX2_lineHolds_226 (by decide) ?_
            exact r_lv [0, 1, 2, 3, 4, 5, 6, 7, 8, 9] rfl (ih _ _ _ _ _ _ _ _ hf)
        · rw [if_neg c6] at hf
          refine r_iload (i := 8) C dX2_lineHolds_69 8 rfl ?_
          refine r_iload (i := 10) C dX2_lineHolds_71 10 rfl ?_
          refine r_aload_n (i := 2) C dX2_lineHolds_73 rfl 2 rfl ?_
          refine r_iload_n (i := 3) C dX2_lineHolds_74 rfl 3 rfl ?_
          refine r_iload (i := 4) C dX2_lineHolds_75 4 rfl ?_
          obtain ⟨x53, e54, hf⟩ := cl_of hf
          refine r_callSi (As := [.int (h (b + 4) y9.toNatClampNeg), .ref (gad (xG X) b2), .int y3, .int y4]) (st := [.int y8]) C (kX2_partOf (xG X) hb2 e54) cw_X2_43 rfl rfl (Nat.le_of_ble_eq_true rfl) (zr2 hR rfl rfl) (zrcs hcs) dX2_lineHolds_77 ?_
          refine r_iadd C dX2_lineHolds_80 ?_
          obtain ⟨x55, ex55, hf⟩ := lt_of hf
          refine r_top ex55 ?_
          refine r_istore (i := 8) (lv' := [(0, .ref (gad (xG X) b)), (1, .int y1), (2, .ref (gad (xG X) b2)), (3, .int y3), (4, .int y4), (5, .int y5), (6, .int y6), (7, .int y7), (8, .int x55), (9, .int y9), (10, .int (h (b + 4) y9.toNatClampNeg))]) C dX2_lineHolds_81 (by decide) [1, 2, 3, 4, 5, 6, 7, 8, 0, 9, 10] rfl ?_
          refine r_goto C 223 dX2_lineHolds_83 (by decide) ?_
          obtain ⟨x56, ex56, hf⟩ := lt_of hf
          refine r_iinc (j := 9) (v := x56) (lv' := [(0, .ref (gad (xG X) b)), (1, .int y1), (2, .ref (gad (xG X) b2)), (3, .int y3), (4, .int y4), (5, .int y5), (6, .int y6), (7, .int y7), (8, .int x55), (9, .int x56), (10, .int (h (b + 4) y9.toNatClampNeg))]) C dX2_lineHolds_223 rfl (by rw [ex56]; rfl) (by decide) [1, 2, 3, 4, 5, 6, 7, 8, 9, 0, 10] rfl ?_
          refine r_goto C 27 dX2_lineHolds_226 (by decide) ?_
          exact r_lv [0, 1, 2, 3, 4, 5, 6, 7, 8, 9] rfl (ih _ _ _ _ _ _ _ _ hf)
      · rw [if_neg c5] at hf
        refine r_iload (i := 8) C dX2_lineHolds_52 8 rfl ?_
        refine r_iload (i := 10) C dX2_lineHolds_54 10 rfl ?_
        refine r_iadd C dX2_lineHolds_56 ?_
        obtain ⟨x57, ex57, hf⟩ := lt_of hf
        refine r_top ex57 ?_
        refine r_istore (i := 8) (lv' := [(0, .ref (gad (xG X) b)), (1, .int y1), (2, .ref (gad (xG X) b2)), (3, .int y3), (4, .int y4), (5, .int y5), (6, .int y6), (7, .int y7), (8, .int x57), (9, .int y9), (10, .int (h (b + 4) y9.toNatClampNeg))]) C dX2_lineHolds_57 (by decide) [1, 2, 3, 4, 5, 6, 7, 8, 0, 9, 10] rfl ?_
        refine r_goto C 223 dX2_lineHolds_59 (by decide) ?_
        obtain ⟨x58, ex58, hf⟩ := lt_of hf
        refine r_iinc (j := 9) (v := x58) (lv' := [(0, .ref (gad (xG X) b)), (1, .int y1), (2, .ref (gad (xG X) b2)), (3, .int y3), (4, .int y4), (5, .int y5), (6, .int y6), (7, .int y7), (8, .int x57), (9, .int x58), (10, .int (h (b + 4) y9.toNatClampNeg))]) C dX2_lineHolds_223 rfl (by rw [ex58]; rfl) (by decide) [1, 2, 3, 4, 5, 6, 7, 8, 9, 0, 10] rfl ?_
        refine r_goto C 27 dX2_lineHolds_226 (by decide) ?_
        exact r_lv [0, 1, 2, 3, 4, 5, 6, 7, 8, 9] rfl (ih _ _ _ _ _ _ _ _ hf)
set_option maxHeartbeats 4000000 in
set_option maxRecDepth 100000 in
theorem kX2_lineHolds (G : Gx) {b : Nat} (hb : isLaw b) {b2 : Nat} (hb2 : isSky b2) {h : Hp} {a1 : Int32} {a2 : Int32} {a3 : Int32} {a4 : Int32} {rr : Int32} (hf : fX2_lineHolds h b b2 a1 a2 a3 a4 = some rr) : MC G yX2_lineHolds cX2_lineHolds 11 (some .boolean) 2 128 h [.ref (gad G b), .int a1, .ref (gad G b2), .int a2, .int a3, .int a4] (some (.int rr)) h := by
  refine MC.of RX2 (by decide) rfl (Nat.le_of_ble_eq_true rfl) rfl (fun X C hG hR hF => ?_)
  subst hG
  have hcs : True := trivial
  unfold fX2_lineHolds at hf
  refine r_iconst (v := 1) C dX2_lineHolds_0 (by decide) ?_
  refine r_istore (i := 6) (lv' := [(0, .ref (gad (xG X) b)), (1, .int a1), (2, .ref (gad (xG X) b2)), (3, .int a2), (4, .int a3), (5, .int a4), (6, .int (1 : Int32))]) C dX2_lineHolds_1 (by decide) [1, 2, 3, 4, 5, 6, 0] rfl ?_
  refine r_iconst (v := 0) C dX2_lineHolds_3 (by decide) ?_
  refine r_istore (i := 7) (lv' := [(0, .ref (gad (xG X) b)), (1, .int a1), (2, .ref (gad (xG X) b2)), (3, .int a2), (4, .int a3), (5, .int a4), (6, .int (1 : Int32)), (7, .int (0 : Int32))]) C dX2_lineHolds_4 (by decide) [1, 2, 3, 4, 5, 6, 7, 0] rfl ?_
  refine r_iconst (v := 0) C dX2_lineHolds_6 (by decide) ?_
  refine r_istore (i := 8) (lv' := [(0, .ref (gad (xG X) b)), (1, .int a1), (2, .ref (gad (xG X) b2)), (3, .int a2), (4, .int a3), (5, .int a4), (6, .int (1 : Int32)), (7, .int (0 : Int32)), (8, .int (0 : Int32))]) C dX2_lineHolds_7 (by decide) [1, 2, 3, 4, 5, 6, 7, 8, 0] rfl ?_
  refine r_iload_n (i := 1) C dX2_lineHolds_9 rfl 1 rfl ?_
  refine r_if_ne C 17 dX2_lineHolds_10 (by decide) (fun c59 => ?_) (fun c59 => ?_)
  · rw [if_neg c59] at hf
    refine r_aload_n (i := 0) C dX2_lineHolds_17 rfl 0 rfl ?_
    refine g_X2_22 hb C dX2_lineHolds_18 ?_
    refine r_iload_n (i := 1) C dX2_lineHolds_21 rfl 1 rfl ?_
    refine r_iconst (v := 1) C dX2_lineHolds_22 (by decide) ?_
    refine r_isub C dX2_lineHolds_23 ?_
    obtain ⟨g60, hf⟩ := gd_of hf
    refine r_iald C (b + 3) (law_dsc hb 3 (by decide)) (law_lt hb 3 (by decide)) g60 dX2_lineHolds_24 ?_
    refine r_istore (i := 9) (lv' := [(0, .ref (gad (xG X) b)), (1, .int a1), (2, .ref (gad (xG X) b2)), (3, .int a2), (4, .int a3), (5, .int a4), (6, .int (1 : Int32)), (7, .int (0 : Int32)), (8, .int (0 : Int32)), (9, .int (h (b + 3) (a1 - (1 : Int32)).toNatClampNeg))]) C dX2_lineHolds_25 (by decide) [1, 2, 3, 4, 5, 6, 7, 8, 9, 0] rfl ?_
    exact r_lv [0, 1, 2, 3, 4, 5, 6, 7, 8, 9] rfl ((wX2_lineHolds hb hb2 C hR hcs hF big) _ _ _ _ _ _ _ _ hf)
  · rw [if_pos c59] at hf
    refine r_iconst (v := 0) C dX2_lineHolds_13 (by decide) ?_
    refine r_goto C 25 dX2_lineHolds_14 (by decide) ?_
    refine r_istore (i := 9) (lv' := [(0, .ref (gad (xG X) b)), (1, .int a1), (2, .ref (gad (xG X) b2)), (3, .int a2), (4, .int a3), (5, .int a4), (6, .int (1 : Int32)), (7, .int (0 : Int32)), (8, .int (0 : Int32)), (9, .int (0 : Int32))]) C dX2_lineHolds_25 (by decide) [1, 2, 3, 4, 5, 6, 7, 8, 9, 0] rfl ?_
    exact r_lv [0, 1, 2, 3, 4, 5, 6, 7, 8, 9] rfl ((wX2_lineHolds hb hb2 C hR hcs hF big) _ _ _ _ _ _ _ _ hf)
def fX3_isTooDeep (h : Hp) (a1 : Int32) : Option (Int32 × Hp) := (if a1 < (6 : Int32) then some ((0 : Int32), h) else cl9 (fX9_failLatest h) (fun h2 => some ((1 : Int32), h2)))
set_option maxHeartbeats 4000000 in
set_option maxRecDepth 100000 in
theorem kX3_isTooDeep (G : Gx)  {h : Hp} {a1 : Int32} {rr : Int32} {hh : Hp} (hf : fX3_isTooDeep h a1 = some (rr, hh)) : MC G yX3_isTooDeep cX3_isTooDeep 2 (some .boolean) 3 192 h [.ref (gad G 1), .int a1] (some (.int rr)) hh := by
  refine MC.of RX3 (by decide) rfl (Nat.le_of_ble_eq_true rfl) rfl (fun X C hG hR hF => ?_)
  subst hG
  have hcs : True := trivial
  unfold fX3_isTooDeep at hf
  refine r_iload_n (i := 1) C dX3_isTooDeep_0 rfl 1 rfl ?_
  refine r_bipush (v := 6) C dX3_isTooDeep_1 (by decide) ?_
  refine r_icmp_lt C 12 dX3_isTooDeep_3 (by decide) (fun c1 => ?_) (fun c1 => ?_)
  · rw [if_pos c1] at hf
    refine r_iconst (v := 0) C dX3_isTooDeep_12 (by decide) ?_
    have zz : (0 : Int32) = 0 ∨ (0 : Int32) = 1 := (Or.inl rfl)
    cases hf
    exact r_zret C zz hF dX3_isTooDeep_13
  · rw [if_neg c1] at hf
    refine r_aload_n (i := 0) C dX3_isTooDeep_6 rfl 0 rfl ?_
    obtain ⟨h2, e3, hf⟩ := cl_of hf
    refine r_callNVv (As := []) (st := []) C 1 rfl (by decide) rfl (kX9_failLatest (xG X) e3) cw_X3_83 rfl rfl (Nat.le_of_ble_eq_true rfl) (zr2 hR rfl rfl) (zrcs hcs) dX3_isTooDeep_7 ?_
    refine r_iconst (v := 1) C dX3_isTooDeep_10 (by decide) ?_
    have zz : (1 : Int32) = 0 ∨ (1 : Int32) = 1 := (Or.inr rfl)
    cases hf
    exact r_zret C zz hF dX3_isTooDeep_11
def fX5_remember (h : Hp) (b : Nat) : Option (Hp) := gd (inb (h 18 2) 12) (cl9 (fX7_become h (76 + 11 * (h 18 2).toNatClampNeg) b) (fun h2 => lt9 (up2 h2 18 2 (irem ((h2 18 2) + (1 : Int32)) (12 : Int32))) (fun h4 => lt9 (up2 h4 18 1 (jmin ((h4 18 1) + (1 : Int32)) (12 : Int32))) (fun h5 => some h5))))
set_option maxHeartbeats 4000000 in
set_option maxRecDepth 100000 in
theorem kX5_remember (G : Gx) {b : Nat} (hb : isSky b) {h : Hp}  {hh : Hp} (hf : fX5_remember h b = some hh) : MC G yX5_remember cX5_remember 2 none 6 384 h [.ref (gad G 18), .ref (gad G b)] none hh := by
  refine MC.of RX5 (by decide) rfl (Nat.le_of_ble_eq_true rfl) rfl (fun X C hG hR hF => ?_)
  subst hG
  have hcs : True := trivial
  unfold fX5_remember at hf
  refine r_aload_n (i := 0) C dX5_remember_0 rfl 0 rfl ?_
  refine g_X5_11 C dX5_remember_1 ?_
  refine r_aload_n (i := 0) C dX5_remember_4 rfl 0 rfl ?_
  refine g_X5_16 C dX5_remember_5 ?_
  obtain ⟨g1, hf⟩ := gd_of hf
  refine r_aald C 19 rfl (by decide) g1 (sk_at g1) dX5_remember_8 ?_
  refine r_aload_n (i := 1) C dX5_remember_9 rfl 1 rfl ?_
  obtain ⟨h2, e3, hf⟩ := cl_of hf
  refine r_callNVv (As := [.ref (gad (xG X) b)]) (st := []) C (76 + 11 * (h 18 2).toNatClampNeg) (sky_d0 (sk_past g1)) (sky_l0 (sk_past g1)) rfl (kX7_become (xG X) (sk_past g1) hb e3) cw_X5_20 rfl rfl (Nat.le_of_ble_eq_true rfl) (zr2 hR rfl rfl) (zrcs hcs) dX5_remember_10 ?_
  refine r_aload_n (i := 0) C dX5_remember_13 rfl 0 rfl ?_
  refine r_aload_n (i := 0) C dX5_remember_14 rfl 0 rfl ?_
  refine g_X5_16 C dX5_remember_15 ?_
  refine r_iconst (v := 1) C dX5_remember_18 (by decide) ?_
  refine r_iadd C dX5_remember_19 ?_
  refine r_bipush (v := 12) C dX5_remember_20 (by decide) ?_
  refine r_irem C dX5_remember_22 (by decide) ?_
  obtain ⟨h4, eh4, hf⟩ := lt_of hf
  refine p_X5_16 C eh4 dX5_remember_23 ?_
  refine r_aload_n (i := 0) C dX5_remember_26 rfl 0 rfl ?_
  refine r_aload_n (i := 0) C dX5_remember_27 rfl 0 rfl ?_
  refine g_X5_24 C dX5_remember_28 ?_
  refine r_iconst (v := 1) C dX5_remember_31 (by decide) ?_
  refine r_iadd C dX5_remember_32 ?_
  refine r_bipush (v := 12) C dX5_remember_33 (by decide) ?_
  refine r_mmin9 C gw_1245 gm_min_s gm_i gm_min_c (zr1 hR rfl) (zr0 hR (Nat.le_of_ble_eq_true rfl)) (zrcs hcs) dX5_remember_35 ?_
  obtain ⟨h5, eh5, hf⟩ := lt_of hf
  refine p_X5_24 C eh5 dX5_remember_38 ?_
  cases hf
  exact r_vret C hF dX5_remember_41
def fX5_takeBack (h : Hp) (b : Nat) : Option (Int32 × Hp) := (if (h 18 1) = (0 : Int32) then some ((0 : Int32), h) else lt9 (up2 h 18 2 (irem (((h 18 2) + (12 : Int32)) - (1 : Int32)) (12 : Int32))) (fun h2 => lt9 (up2 h2 18 1 ((h2 18 1) - (1 : Int32))) (fun h3 => gd (inb (h3 18 2) 12) (cl9 (fX7_become h3 b (76 + 11 * (h3 18 2).toNatClampNeg)) (fun h5 => some ((1 : Int32), h5))))))
set_option maxHeartbeats 4000000 in
set_option maxRecDepth 100000 in
theorem kX5_takeBack (G : Gx) {b : Nat} (hb : isSky b) {h : Hp}  {rr : Int32} {hh : Hp} (hf : fX5_takeBack h b = some (rr, hh)) : MC G yX5_takeBack cX5_takeBack 2 (some .boolean) 5 320 h [.ref (gad G 18), .ref (gad G b)] (some (.int rr)) hh := by
  refine MC.of RX5 (by decide) rfl (Nat.le_of_ble_eq_true rfl) rfl (fun X C hG hR hF => ?_)
  subst hG
  have hcs : True := trivial
  unfold fX5_takeBack at hf
  refine r_aload_n (i := 0) C dX5_takeBack_0 rfl 0 rfl ?_
  refine g_X5_24 C dX5_takeBack_1 ?_
  refine r_if_ne C 9 dX5_takeBack_4 (by decide) (fun c1 => ?_) (fun c1 => ?_)
  · rw [if_neg c1] at hf
    refine r_aload_n (i := 0) C dX5_takeBack_9 rfl 0 rfl ?_
    refine r_aload_n (i := 0) C dX5_takeBack_10 rfl 0 rfl ?_
    refine g_X5_16 C dX5_takeBack_11 ?_
    refine r_bipush (v := 12) C dX5_takeBack_14 (by decide) ?_
    refine r_iadd C dX5_takeBack_16 ?_
    refine r_iconst (v := 1) C dX5_takeBack_17 (by decide) ?_
    refine r_isub C dX5_takeBack_18 ?_
    refine r_bipush (v := 12) C dX5_takeBack_19 (by decide) ?_
    refine r_irem C dX5_takeBack_21 (by decide) ?_
    obtain ⟨h2, eh2, hf⟩ := lt_of hf
    refine p_X5_16 C eh2 dX5_takeBack_22 ?_
    refine r_aload_n (i := 0) C dX5_takeBack_25 rfl 0 rfl ?_
    refine r_dup C dX5_takeBack_26 rfl ?_
    refine g_X5_24 C dX5_takeBack_27 ?_
    refine r_iconst (v := 1) C dX5_takeBack_30 (by decide) ?_
    refine r_isub C dX5_takeBack_31 ?_
    obtain ⟨h3, eh3, hf⟩ := lt_of hf
    refine p_X5_24 C eh3 dX5_takeBack_32 ?_
    refine r_aload_n (i := 1) C dX5_takeBack_35 rfl 1 rfl ?_
    refine r_aload_n (i := 0) C dX5_takeBack_36 rfl 0 rfl ?_
    refine g_X5_11 C dX5_takeBack_37 ?_
    refine r_aload_n (i := 0) C dX5_takeBack_40 rfl 0 rfl ?_
    refine g_X5_16 C dX5_takeBack_41 ?_
    obtain ⟨g4, hf⟩ := gd_of hf
    refine r_aald C 19 rfl (by decide) g4 (sk_at g4) dX5_takeBack_44 ?_
    obtain ⟨h5, e6, hf⟩ := cl_of hf
    refine r_callNVv (As := [.ref (gad (xG X) (76 + 11 * (h3 18 2).toNatClampNeg))]) (st := []) C b (sky_d0 hb) (sky_l0 hb) rfl (kX7_become (xG X) hb (sk_past g4) e6) cw_X5_20 rfl rfl (Nat.le_of_ble_eq_true rfl) (zr2 hR rfl rfl) (zrcs hcs) dX5_takeBack_45 ?_
    refine r_iconst (v := 1) C dX5_takeBack_48 (by decide) ?_
    have zz : (1 : Int32) = 0 ∨ (1 : Int32) = 1 := (Or.inr rfl)
    cases hf
    exact r_zret C zz hF dX5_takeBack_49
  · rw [if_pos c1] at hf
    refine r_iconst (v := 0) C dX5_takeBack_7 (by decide) ?_
    have zz : (0 : Int32) = 0 ∨ (0 : Int32) = 1 := (Or.inl rfl)
    cases hf
    exact r_zret C zz hF dX5_takeBack_8

def fX11_trial (h : Hp) (a1 : Int32) (a2 : Int32) : Option (Int32 × Nat × Hp) := (if (fX11_checkNumber a1 (0 : Int32) (60 : Int32)) = 0 then cl9 (fX7_become h 43 32) (fun h2 => cl2 (fX1_daysMore h2 43 a1 (1 : Int32)) (fun x6 h4 => (if a2 = (0 : Int32) then some (x6, 0, h4) else cl2 (fX1_standing h4 43) (fun x10 h8 => some ((fJ_bitCount x10), 0, h8))))) else some ((0 : Int32), (fX11_checkNumber a1 (0 : Int32) (60 : Int32)), h))
set_option maxHeartbeats 4000000 in
set_option maxRecDepth 100000 in
theorem kX11_trial (G : Gx)  {h : Hp} {a1 : Int32} {a2 : Int32} {rr : Int32} {kk : Nat} {hh : Hp} (hf : fX11_trial h a1 a2 = some (rr, kk, hh)) : MX G yX11_trial cX11_trial 4 (some .int) 8 512 h [.ref (gad G 0), .int a1, .int a2] (some (.int rr)) kk hh := by
  refine MX.of RX11 (by decide) rfl (Nat.le_of_ble_eq_true rfl) rfl (fun X C hG hR hE => ?_)
  subst hG
  have hcs : True := trivial
  unfold fX11_trial at hf
  refine r_iload_n (i := 1) C dX11_trial_0 rfl 1 rfl ?_
  refine r_iconst (v := 0) C dX11_trial_1 (by decide) ?_
  refine r_bipush (v := 60) C dX11_trial_2 (by decide) ?_
  by_cases c1 : (fX11_checkNumber a1 (0 : Int32) (60 : Int32)) = 0
  · rw [if_pos c1] at hf
    refine r_callXSv (As := [.int a1, .int (0 : Int32), .int (60 : Int32)]) (st := []) C (kX11_checkNumber (xG X)) cw_X11_244 rfl rfl (Nat.le_of_ble_eq_true rfl) (zq2 hR rfl rfl) (zqc hR (Or.inl c1)) dX11_trial_4 (fun q0 => absurd c1 q0) (fun _ => ?_)
    refine r_aload_n (i := 0) C dX11_trial_7 rfl 0 rfl ?_
    refine g_X11_58 C dX11_trial_8 ?_
    refine r_aload_n (i := 0) C dX11_trial_11 rfl 0 rfl ?_
    refine g_X11_54 C dX11_trial_12 ?_
    obtain ⟨h2, e3, hf⟩ := cl_of hf
    refine r_callNVv (As := [.ref (gad (xG X) 32)]) (st := []) C 43 (sky_d0 sk43) (sky_l0 sk43) rfl (kX7_become (xG X) sk43 sk32 e3) cw_X11_101 rfl rfl (Nat.le_of_ble_eq_true rfl) (zq2 hR rfl rfl) (zrcs hcs) dX11_trial_15 ?_
    refine r_aload_n (i := 0) C dX11_trial_18 rfl 0 rfl ?_
    refine g_X11_19 C dX11_trial_19 ?_
    refine r_aload_n (i := 0) C dX11_trial_22 rfl 0 rfl ?_
    refine g_X11_58 C dX11_trial_23 ?_
    refine r_iload_n (i := 1) C dX11_trial_26 rfl 1 rfl ?_
    refine r_iconst (v := 1) C dX11_trial_27 (by decide) ?_
    obtain ⟨x6, h4, e5, hf⟩ := cl2_of hf
    refine r_callNVi (As := [.ref (gad (xG X) 43), .int a1, .int (1 : Int32)]) (st := []) C 3 rfl (by decide) rfl (kX1_daysMore (xG X) sk43 e5) cw_X11_248 rfl rfl (Nat.le_of_ble_eq_true rfl) (zq2 hR rfl rfl) (zrcs hcs) dX11_trial_28 ?_
    refine r_istore_n (i := 3) (lv' := [(0, .ref (gad (xG X) 0)), (1, .int a1), (2, .int a2), (3, .int x6)]) C dX11_trial_31 rfl (by decide) [1, 2, 3, 0] rfl ?_
    refine r_iload_n (i := 2) C dX11_trial_32 rfl 2 rfl ?_
    refine r_if_eq C 53 dX11_trial_33 (by decide) (fun c7 => ?_) (fun c7 => ?_)
    · rw [if_pos c7] at hf
      refine r_iload_n (i := 3) C dX11_trial_53 rfl 3 rfl ?_
      cases hf
      exact r_iret C (hE.1 rfl) dX11_trial_54
    · rw [if_neg c7] at hf
      refine r_aload_n (i := 0) C dX11_trial_36 rfl 0 rfl ?_
      refine g_X11_19 C dX11_trial_37 ?_
      refine r_aload_n (i := 0) C dX11_trial_40 rfl 0 rfl ?_
      refine g_X11_58 C dX11_trial_41 ?_
      obtain ⟨x10, h8, e9, hf⟩ := cl2_of hf
      refine r_callNVi (As := [.ref (gad (xG X) 43)]) (st := []) C 3 rfl (by decide) rfl (kX1_standing (xG X) sk43 e9) cw_X11_179 rfl rfl (Nat.le_of_ble_eq_true rfl) (zq2 hR rfl rfl) (zrcs hcs) dX11_trial_44 ?_
      refine r_callSi (As := [.int x10]) (st := []) C (kJ_bitCount (xG X)) cw_X11_257 rfl rfl (Nat.le_of_ble_eq_true rfl) (zq2 hR rfl rfl) (zrcs hcs) dX11_trial_47 ?_
      refine r_goto C 54 dX11_trial_50 (by decide) ?_
      cases hf
      exact r_iret C (hE.1 rfl) dX11_trial_54
  · rw [if_neg c1] at hf
    cases hf
    exact r_callXSv (As := [.int a1, .int (0 : Int32), .int (60 : Int32)]) (st := []) C (kX11_checkNumber (xG X)) cw_X11_244 rfl rfl (Nat.le_of_ble_eq_true rfl) (zq2 hR rfl rfl) (zqc hR (Or.inr rfl)) dX11_trial_4 (fun q0 => hE.2 q0) (fun q0 => absurd q0 c1)
def BX11_span_0  (rec : Hp → Int32 → Int32 → Int32 → Int32 → Int32 → Option (Int32 × Nat × Hp)) (h : Hp) (y1 : Int32) (y2 : Int32) (y3 : Int32) (y4 : Int32) (y5 : Int32) : Option (Int32 × Nat × Hp) := (if (6 : Int32) < y5 then (if y2 = (0 : Int32) then some (y3, 0, h) else some (y4, 0, h)) else cl9 (fX7_become h 43 32) (fun h3 => lt9 (up2 h3 43 14 y5) (fun h5 => cl2 (fX1_daysMore h5 43 y1 (1 : Int32)) (fun x8 h6 => lt9 (jmin y3 x8) (fun x9 => lt9 (jmax y4 x8) (fun x10 => lt9 (y5 + (1 : Int32)) (fun x11 => rec h6 y1 y2 x9 x10 x11)))))))
def LX11_span  : Nat → Hp → Int32 → Int32 → Int32 → Int32 → Int32 → Option (Int32 × Nat × Hp)
  | 0, _, _, _, _, _, _ => none
  | n + 1, h, y1, y2, y3, y4, y5 => BX11_span_0  (LX11_span  n) h y1 y2 y3 y4 y5
def fX11_span (h : Hp) (a1 : Int32) (a2 : Int32) : Option (Int32 × Nat × Hp) := (if (fX11_checkNumber a1 (0 : Int32) (60 : Int32)) = 0 then LX11_span big h a1 a2 (16 : Int32) (0 : Int32) (1 : Int32) else some ((0 : Int32), (fX11_checkNumber a1 (0 : Int32) (60 : Int32)), h))
set_option maxHeartbeats 4000000 in
set_option maxRecDepth 100000 in
theorem wX11_span {X : Cx}  {rr : Int32} {kk : Nat} {hh : Hp} (C : OK X cX11_span 7 RX11 (some .int)) (hR : xR X = { frames := 9, cells := xc kk, slots := xs kk, locals := 576 }) (hcs : True) (hE : FinE X (some (.int rr)) kk hh) : ∀ n : Nat, (∀ (h : Hp) (y1 : Int32) (y2 : Int32) (y3 : Int32) (y4 : Int32) (y5 : Int32), LX11_span  n h y1 y2 y3 y4 y5 = some (rr, kk, hh) → VW X 7 h 0 0 16 [(0, .ref (gad (xG X) 0)), (1, .int y1), (2, .int y2), (3, .int y3), (4, .int y4), (5, .int y5)] []) := by
  intro n
  induction n with
  | zero => exact (fun _ _ _ _ _ _ hf => (by rw [LX11_span] at hf; cases hf))
  | succ n ih =>
    intro h y1 y2 y3 y4 y5 hf
    rw [LX11_span] at hf
    unfold BX11_span_0 at hf
    refine r_iload (i := 5) C dX11_span_16 5 rfl ?_
    refine r_bipush (v := 6) C dX11_span_18 (by decide) ?_
    refine r_icmp_gt C 80 dX11_span_20 (by decide) (fun c1 => ?_) (fun c1 => ?_)
    · rw [if_pos c1] at hf
      refine r_iload_n (i := 2) C dX11_span_80 rfl 2 rfl ?_
      refine r_if_eq C 89 dX11_span_81 (by decide) (fun c2 => ?_) (fun c2 => ?_)
      · rw [if_pos c2] at hf
        refine r_iload_n (i := 3) C dX11_span_89 rfl 3 rfl ?_
        cases hf
        exact r_iret C (hE.1 rfl) dX11_span_90
      · rw [if_neg c2] at hf
        refine r_iload (i := 4) C dX11_span_84 4 rfl ?_
        refine r_goto C 90 dX11_span_86 (by decide) ?_
        cases hf
        exact r_iret C (hE.1 rfl) dX11_span_90
    · rw [if_neg c1] at hf
      refine r_aload_n (i := 0) C dX11_span_23 rfl 0 rfl ?_
      refine g_X11_58 C dX11_span_24 ?_
      refine r_aload_n (i := 0) C dX11_span_27 rfl 0 rfl ?_
      refine g_X11_54 C dX11_span_28 ?_
      obtain ⟨h3, e4, hf⟩ := cl_of hf
      refine r_callNVv (As := [.ref (gad (xG X) 32)]) (st := []) C 43 (sky_d0 sk43) (sky_l0 sk43) rfl (kX7_become (xG X) sk43 sk32 e4) cw_X11_101 rfl rfl (Nat.le_of_ble_eq_true rfl) (zq2 hR rfl rfl) (zrcs hcs) dX11_span_31 ?_
      refine r_aload_n (i := 0) C dX11_span_34 rfl 0 rfl ?_
      refine g_X11_58 C dX11_span_35 ?_
      refine r_iload (i := 5) C dX11_span_38 5 rfl ?_
      obtain ⟨h5, eh5, hf⟩ := lt_of hf
      refine p_X11_348 sk43 C eh5 dX11_span_40 ?_
      refine r_aload_n (i := 0) C dX11_span_43 rfl 0 rfl ?_
      refine g_X11_19 C dX11_span_44 ?_
      refine r_aload_n (i := 0) C dX11_span_47 rfl 0 rfl ?_
      refine g_X11_58 C dX11_span_48 ?_
      refine r_iload_n (i := 1) C dX11_span_51 rfl 1 rfl ?_
      refine r_iconst (v := 1) C dX11_span_52 (by decide) ?_
      obtain ⟨x8, h6, e7, hf⟩ := cl2_of hf
      refine r_callNVi (As := [.ref (gad (xG X) 43), .int y1, .int (1 : Int32)]) (st := []) C 3 rfl (by decide) rfl (kX1_daysMore (xG X) sk43 e7) cw_X11_248 rfl rfl (Nat.le_of_ble_eq_true rfl) (zq2 hR rfl rfl) (zrcs hcs) dX11_span_53 ?_
      refine r_istore (i := 6) (lv' := [(0, .ref (gad (xG X) 0)), (1, .int y1), (2, .int y2), (3, .int y3), (4, .int y4), (5, .int y5), (6, .int x8)]) C dX11_span_56 (by decide) [1, 2, 3, 4, 5, 6, 0] rfl ?_
      refine r_iload_n (i := 3) C dX11_span_58 rfl 3 rfl ?_
      refine r_iload (i := 6) C dX11_span_59 6 rfl ?_
      refine r_mmin9 C gw_1273 gm_min_s gm_i gm_min_c (zq1 hR rfl) (zq0 hR (Nat.le_of_ble_eq_true rfl)) (zrcs hcs) dX11_span_61 ?_
      obtain ⟨x9, ex9, hf⟩ := lt_of hf
      refine r_top ex9 ?_
      refine r_istore_n (i := 3) (lv' := [(0, .ref (gad (xG X) 0)), (1, .int y1), (2, .int y2), (3, .int x9), (4, .int y4), (5, .int y5), (6, .int x8)]) C dX11_span_64 rfl (by decide) [1, 2, 3, 0, 4, 5, 6] rfl ?_
      refine r_iload (i := 4) C dX11_span_65 4 rfl ?_
      refine r_iload (i := 6) C dX11_span_67 6 rfl ?_
      refine r_mmax9 C gw_791 gm_max_s gm_i gm_max_c (zq1 hR rfl) (zq0 hR (Nat.le_of_ble_eq_true rfl)) (zrcs hcs) dX11_span_69 ?_
      obtain ⟨x10, ex10, hf⟩ := lt_of hf
      refine r_top ex10 ?_
      refine r_istore (i := 4) (lv' := [(0, .ref (gad (xG X) 0)), (1, .int y1), (2, .int y2), (3, .int x9), (4, .int x10), (5, .int y5), (6, .int x8)]) C dX11_span_72 (by decide) [1, 2, 3, 4, 0, 5, 6] rfl ?_
      obtain ⟨x11, ex11, hf⟩ := lt_of hf
      refine r_iinc (j := 5) (v := x11) (lv' := [(0, .ref (gad (xG X) 0)), (1, .int y1), (2, .int y2), (3, .int x9), (4, .int x10), (5, .int x11), (6, .int x8)]) C dX11_span_74 rfl (by rw [ex11]; rfl) (by decide) [1, 2, 3, 4, 5, 0, 6] rfl ?_
      refine r_goto C 16 dX11_span_77 (by decide) ?_
      exact r_lv [0, 1, 2, 3, 4, 5] rfl (ih _ _ _ _ _ _ hf)
set_option maxHeartbeats 4000000 in
set_option maxRecDepth 100000 in
theorem kX11_span (G : Gx)  {h : Hp} {a1 : Int32} {a2 : Int32} {rr : Int32} {kk : Nat} {hh : Hp} (hf : fX11_span h a1 a2 = some (rr, kk, hh)) : MX G yX11_span cX11_span 7 (some .int) 9 576 h [.ref (gad G 0), .int a1, .int a2] (some (.int rr)) kk hh := by
  refine MX.of RX11 (by decide) rfl (Nat.le_of_ble_eq_true rfl) rfl (fun X C hG hR hE => ?_)
  subst hG
  have hcs : True := trivial
  unfold fX11_span at hf
  refine r_iload_n (i := 1) C dX11_span_0 rfl 1 rfl ?_
  refine r_iconst (v := 0) C dX11_span_1 (by decide) ?_
  refine r_bipush (v := 60) C dX11_span_2 (by decide) ?_
  by_cases c12 : (fX11_checkNumber a1 (0 : Int32) (60 : Int32)) = 0
  · rw [if_pos c12] at hf
    refine r_callXSv (As := [.int a1, .int (0 : Int32), .int (60 : Int32)]) (st := []) C (kX11_checkNumber (xG X)) cw_X11_244 rfl rfl (Nat.le_of_ble_eq_true rfl) (zq2 hR rfl rfl) (zqc hR (Or.inl c12)) dX11_span_4 (fun q0 => absurd c12 q0) (fun _ => ?_)
    refine r_bipush (v := 16) C dX11_span_7 (by decide) ?_
    refine r_istore_n (i := 3) (lv' := [(0, .ref (gad (xG X) 0)), (1, .int a1), (2, .int a2), (3, .int (16 : Int32))]) C dX11_span_9 rfl (by decide) [1, 2, 3, 0] rfl ?_
    refine r_iconst (v := 0) C dX11_span_10 (by decide) ?_
    refine r_istore (i := 4) (lv' := [(0, .ref (gad (xG X) 0)), (1, .int a1), (2, .int a2), (3, .int (16 : Int32)), (4, .int (0 : Int32))]) C dX11_span_11 (by decide) [1, 2, 3, 4, 0] rfl ?_
    refine r_iconst (v := 1) C dX11_span_13 (by decide) ?_
    refine r_istore (i := 5) (lv' := [(0, .ref (gad (xG X) 0)), (1, .int a1), (2, .int a2), (3, .int (16 : Int32)), (4, .int (0 : Int32)), (5, .int (1 : Int32))]) C dX11_span_14 (by decide) [1, 2, 3, 4, 5, 0] rfl ?_
    exact r_lv [0, 1, 2, 3, 4, 5] rfl ((wX11_span  C hR hcs hE big) _ _ _ _ _ _ hf)
  · rw [if_neg c12] at hf
    cases hf
    exact r_callXSv (As := [.int a1, .int (0 : Int32), .int (60 : Int32)]) (st := []) C (kX11_checkNumber (xG X)) cw_X11_244 rfl rfl (Nat.le_of_ble_eq_true rfl) (zq2 hR rfl rfl) (zqc hR (Or.inr rfl)) dX11_span_4 (fun q0 => hE.2 q0) (fun q0 => absurd q0 c12)
def BX11_findFits_0  (rec : Nat → Hp → Int32 → Int32 → Int32 → Int32 → Option (Int32 × Hp)) (h : Hp) (y1 : Int32) (y2 : Int32) (y3 : Int32) (y4 : Int32) : Option (Int32 × Hp) := (if (16 : Int32) ≤ y2 then some (y1, h) else (if y2 = (-1 : Int32) then rec 1 h y1 y2 (0 : Int32) y2 else rec 1 h y1 y2 (16 : Int32) y2))
def BX11_findFits_1  (rec : Nat → Hp → Int32 → Int32 → Int32 → Int32 → Option (Int32 × Hp)) (h : Hp) (y1 : Int32) (y2 : Int32) (y3 : Int32) (y4 : Int32) : Option (Int32 × Hp) := (if y3 ≤ y4 then lt9 (y2 + (1 : Int32)) (fun x4 => rec 0 h y1 x4 0 0) else lt9 ((fX11_bitOf y2) ||| (fX11_bitOf y4)) (fun x5 => cl9 ((if (x5 &&& ((h 32 5) ^^^ (-1 : Int32))) = (0 : Int32) then (if (137 : Int32) ≤ y1 then some false else some true) else some false) : Option Bool) (fun q6 => if q6 = true then cl2 (fX11_explains h x5) (fun x14 h12 => (if x14 = (0 : Int32) then lt9 (y4 + (1 : Int32)) (fun x16 => rec 1 h12 y1 y2 y3 x16) else gd (inb y1 137) (lt9 (up2 h12 29 y1.toNatClampNeg x5) (fun h18 => lt9 (y1 + (1 : Int32)) (fun x19 => lt9 (y4 + (1 : Int32)) (fun x20 => rec 1 h18 x19 y2 y3 x20)))))) else lt9 (y4 + (1 : Int32)) (fun x21 => rec 1 h y1 y2 y3 x21))))
def LX11_findFits  : Nat → Nat → Hp → Int32 → Int32 → Int32 → Int32 → Option (Int32 × Hp)
  | 0, _, _, _, _, _, _ => none
  | n + 1, lab, h, y1, y2, y3, y4 => if lab = 0 then BX11_findFits_0  (LX11_findFits  n) h y1 y2 y3 y4 else if lab = 1 then BX11_findFits_1  (LX11_findFits  n) h y1 y2 y3 y4 else none
def fX11_findFits (h : Hp) : Option (Int32 × Hp) := cl9 (fX1_startOver h) (fun h22 => LX11_findFits big 0 h22 (0 : Int32) (-1 : Int32) 0 0)
set_option maxHeartbeats 4000000 in
set_option maxRecDepth 100000 in
theorem wX11_findFits {X : Cx}  {rr : Int32} {hh : Hp} (C : OK X cX11_findFits 6 RX11 (some .int)) (hR : xR X = { frames := 7, cells := 0, slots := 0, locals := 448 }) (hcs : True) (hF : FinR X (some (.int rr)) hh) : ∀ n : Nat, (∀ (h : Hp) (y1 : Int32) (y2 : Int32) (y3 : Int32) (y4 : Int32), LX11_findFits  n 0 h y1 y2 y3 y4 = some (rr, hh) → VW X 6 h 0 0 11 [(0, .ref (gad (xG X) 0)), (1, .int y1), (2, .int y2)] []) ∧ (∀ (h : Hp) (y1 : Int32) (y2 : Int32) (y3 : Int32) (y4 : Int32), LX11_findFits  n 1 h y1 y2 y3 y4 = some (rr, hh) → VW X 6 h 0 0 32 [(0, .ref (gad (xG X) 0)), (1, .int y1), (2, .int y2), (3, .int y3), (4, .int y4)] []) := by
  intro n
  induction n with
  | zero => exact ⟨(fun _ _ _ _ _ hf => (by rw [LX11_findFits] at hf; cases hf)), (fun _ _ _ _ _ hf => (by rw [LX11_findFits] at hf; cases hf))⟩
  | succ n ih =>
    refine ⟨?_, ?_⟩
    · intro h y1 y2 y3 y4 hf
      rw [LX11_findFits, if_pos rfl] at hf
      unfold BX11_findFits_0 at hf
      refine r_iload_n (i := 2) C dX11_findFits_11 rfl 2 rfl ?_
      refine r_bipush (v := 16) C dX11_findFits_12 (by decide) ?_
      refine r_icmp_ge C 104 dX11_findFits_14 (by decide) (fun c1 => ?_) (fun c1 => ?_)
      · rw [if_pos c1] at hf
        refine r_iload_n (i := 1) C dX11_findFits_104 rfl 1 rfl ?_
        cases hf
        exact r_iret C hF dX11_findFits_105
      · rw [if_neg c1] at hf
        refine r_iload_n (i := 2) C dX11_findFits_17 rfl 2 rfl ?_
        refine r_iconst (v := (-1)) C dX11_findFits_18 (by decide) ?_
        refine r_icmp_ne C 26 dX11_findFits_19 (by decide) (fun c2 => ?_) (fun c2 => ?_)
        · rw [if_neg c2] at hf
          refine r_bipush (v := 16) C dX11_findFits_26 (by decide) ?_
          refine r_istore_n (i := 3) (lv' := [(0, .ref (gad (xG X) 0)), (1, .int y1), (2, .int y2), (3, .int (16 : Int32))]) C dX11_findFits_28 rfl (by decide) [1, 2, 3, 0] rfl ?_
          refine r_iload_n (i := 2) C dX11_findFits_29 rfl 2 rfl ?_
          refine r_istore (i := 4) (lv' := [(0, .ref (gad (xG X) 0)), (1, .int y1), (2, .int y2), (3, .int (16 : Int32)), (4, .int y2)]) C dX11_findFits_30 (by decide) [1, 2, 3, 4, 0] rfl ?_
          exact r_lv [0, 1, 2, 3, 4] rfl (ih.2 _ _ _ _ _ hf)
        · rw [if_pos c2] at hf
          refine r_iconst (v := 0) C dX11_findFits_22 (by decide) ?_
          refine r_goto C 28 dX11_findFits_23 (by decide) ?_
          refine r_istore_n (i := 3) (lv' := [(0, .ref (gad (xG X) 0)), (1, .int y1), (2, .int y2), (3, .int (0 : Int32))]) C dX11_findFits_28 rfl (by decide) [1, 2, 3, 0] rfl ?_
          refine r_iload_n (i := 2) C dX11_findFits_29 rfl 2 rfl ?_
          refine r_istore (i := 4) (lv' := [(0, .ref (gad (xG X) 0)), (1, .int y1), (2, .int y2), (3, .int (0 : Int32)), (4, .int y2)]) C dX11_findFits_30 (by decide) [1, 2, 3, 4, 0] rfl ?_
          exact r_lv [0, 1, 2, 3, 4] rfl (ih.2 _ _ _ _ _ hf)
    · intro h y1 y2 y3 y4 hf
      rw [LX11_findFits, if_neg (by decide), if_pos rfl] at hf
      unfold BX11_findFits_1 at hf
      refine r_iload (i := 4) C dX11_findFits_32 4 rfl ?_
      refine r_iload_n (i := 3) C dX11_findFits_34 rfl 3 rfl ?_
      refine r_icmp_ge C 98 dX11_findFits_35 (by decide) (fun c3 => ?_) (fun c3 => ?_)
      · rw [if_pos c3] at hf
        obtain ⟨x4, ex4, hf⟩ := lt_of hf
        refine r_iinc (j := 2) (v := x4) (lv' := [(0, .ref (gad (xG X) 0)), (1, .int y1), (2, .int x4), (3, .int y3), (4, .int y4)]) C dX11_findFits_98 rfl (by rw [ex4]; rfl) (by decide) [1, 2, 0, 3, 4] rfl ?_
        refine r_goto C 11 dX11_findFits_101 (by decide) ?_
        exact r_lv [0, 1, 2] rfl (ih.1 _ _ _ _ _ hf)
      · rw [if_neg c3] at hf
        refine r_iload_n (i := 2) C dX11_findFits_38 rfl 2 rfl ?_
        refine r_callSi (As := [.int y2]) (st := []) C (kX11_bitOf (xG X)) cw_X11_388 rfl rfl (Nat.le_of_ble_eq_true rfl) (zr2 hR rfl rfl) (zrcs hcs) dX11_findFits_39 ?_
        refine r_iload (i := 4) C dX11_findFits_42 4 rfl ?_
        refine r_callSi (As := [.int y4]) (st := [.int (fX11_bitOf y2)]) C (kX11_bitOf (xG X)) cw_X11_388 rfl rfl (Nat.le_of_ble_eq_true rfl) (zr2 hR rfl rfl) (zrcs hcs) dX11_findFits_44 ?_
        refine r_ior C dX11_findFits_47 ?_
        obtain ⟨x5, ex5, hf⟩ := lt_of hf
        refine r_top ex5 ?_
        refine r_istore (i := 5) (lv' := [(0, .ref (gad (xG X) 0)), (1, .int y1), (2, .int y2), (3, .int y3), (4, .int y4), (5, .int x5)]) C dX11_findFits_48 (by decide) [1, 2, 3, 4, 5, 0] rfl ?_
        refine r_iload (i := 5) C dX11_findFits_50 5 rfl ?_
        refine r_aload_n (i := 0) C dX11_findFits_52 rfl 0 rfl ?_
        refine g_X11_54 C dX11_findFits_53 ?_
        refine g_X11_276 sk32 C dX11_findFits_56 ?_
        refine r_iconst (v := (-1)) C dX11_findFits_59 (by decide) ?_
        refine r_ixor C dX11_findFits_60 ?_
        refine r_iand C dX11_findFits_61 ?_
        obtain ⟨q6, r9, hf⟩ := cl_of hf
        have k7 : q6 = true → VW X 6 h 0 0 72 [(0, .ref (gad (xG X) 0)), (1, .int y1), (2, .int y2), (3, .int y3), (4, .int y4), (5, .int x5)] [] := fun qq => by
          rw [if_pos qq] at hf
          refine r_aload_n (i := 0) C dX11_findFits_72 rfl 0 rfl ?_
          refine r_iload (i := 5) C dX11_findFits_73 5 rfl ?_
          obtain ⟨x14, h12, e13, hf⟩ := cl2_of hf
          refine r_callVi (As := [.int x5]) (st := []) C 0 rfl (by decide) rfl (kX11_explains (xG X) e13) cw_X11_391 rfl rfl (Nat.le_of_ble_eq_true rfl) (zr2 hR rfl rfl) (zrcs hcs) dX11_findFits_75 ?_
          refine r_if_eq C 92 dX11_findFits_78 (by decide) (fun c15 => ?_) (fun c15 => ?_)
          · rw [if_pos c15] at hf
            obtain ⟨x16, ex16, hf⟩ := lt_of hf
            refine r_iinc (j := 4) (v := x16) (lv' := [(0, .ref (gad (xG X) 0)), (1, .int y1), (2, .int y2), (3, .int y3), (4, .int x16), (5, .int x5)]) C dX11_findFits_92 rfl (by rw [ex16]; rfl) (by decide) [1, 2, 3, 4, 0, 5] rfl ?_
            refine r_goto C 32 dX11_findFits_95 (by decide) ?_
            exact r_lv [0, 1, 2, 3, 4] rfl (ih.2 _ _ _ _ _ hf)
          · rw [if_neg c15] at hf
            refine r_aload_n (i := 0) C dX11_findFits_81 rfl 0 rfl ?_
            refine g_X11_75 C dX11_findFits_82 ?_
            refine r_iload_n (i := 1) C dX11_findFits_85 rfl 1 rfl ?_
            refine r_iload (i := 5) C dX11_findFits_86 5 rfl ?_
            obtain ⟨g17, hf⟩ := gd_of hf
            obtain ⟨h18, eh18, hf⟩ := lt_of hf
            refine r_iast C 29 eh18 rfl (by decide) g17 dX11_findFits_88 ?_
            obtain ⟨x19, ex19, hf⟩ := lt_of hf
            refine r_iinc (j := 1) (v := x19) (lv' := [(0, .ref (gad (xG X) 0)), (1, .int x19), (2, .int y2), (3, .int y3), (4, .int y4), (5, .int x5)]) C dX11_findFits_89 rfl (by rw [ex19]; rfl) (by decide) [1, 0, 2, 3, 4, 5] rfl ?_
            obtain ⟨x20, ex20, hf⟩ := lt_of hf
            refine r_iinc (j := 4) (v := x20) (lv' := [(0, .ref (gad (xG X) 0)), (1, .int x19), (2, .int y2), (3, .int y3), (4, .int x20), (5, .int x5)]) C dX11_findFits_92 rfl (by rw [ex20]; rfl) (by decide) [1, 2, 3, 4, 0, 5] rfl ?_
            refine r_goto C 32 dX11_findFits_95 (by decide) ?_
            exact r_lv [0, 1, 2, 3, 4] rfl (ih.2 _ _ _ _ _ hf)
        have k8 : q6 = false → VW X 6 h 0 0 92 [(0, .ref (gad (xG X) 0)), (1, .int y1), (2, .int y2), (3, .int y3), (4, .int y4), (5, .int x5)] [] := fun qq => by
          rw [if_neg (by rw [qq]; decide)] at hf
          obtain ⟨x21, ex21, hf⟩ := lt_of hf
          refine r_iinc (j := 4) (v := x21) (lv' := [(0, .ref (gad (xG X) 0)), (1, .int y1), (2, .int y2), (3, .int y3), (4, .int x21), (5, .int x5)]) C dX11_findFits_92 rfl (by rw [ex21]; rfl) (by decide) [1, 2, 3, 4, 0, 5] rfl ?_
          refine r_goto C 32 dX11_findFits_95 (by decide) ?_
          exact r_lv [0, 1, 2, 3, 4] rfl (ih.2 _ _ _ _ _ hf)
        clear hf
        have hf := r9
        refine r_if_ne C 92 dX11_findFits_62 (by decide) (fun c10 => ?_) (fun c10 => ?_)
        · rw [if_neg c10] at hf
          exact k8 (Option.some.inj hf).symm
        · rw [if_pos c10] at hf
          refine r_iload_n (i := 1) C dX11_findFits_65 rfl 1 rfl ?_
          refine r_sipush (v := 137) C dX11_findFits_66 (by decide) ?_
          refine r_icmp_ge C 92 dX11_findFits_69 (by decide) (fun c11 => ?_) (fun c11 => ?_)
          · rw [if_pos c11] at hf
            exact k8 (Option.some.inj hf).symm
          · rw [if_neg c11] at hf
            exact k7 (Option.some.inj hf).symm
set_option maxHeartbeats 4000000 in
set_option maxRecDepth 100000 in
theorem kX11_findFits (G : Gx)  {h : Hp}  {rr : Int32} {hh : Hp} (hf : fX11_findFits h = some (rr, hh)) : MC G yX11_findFits cX11_findFits 6 (some .int) 7 448 h [.ref (gad G 0)] (some (.int rr)) hh := by
  refine MC.of RX11 (by decide) rfl (Nat.le_of_ble_eq_true rfl) rfl (fun X C hG hR hF => ?_)
  subst hG
  have hcs : True := trivial
  unfold fX11_findFits at hf
  refine r_aload_n (i := 0) C dX11_findFits_0 rfl 0 rfl ?_
  refine g_X11_19 C dX11_findFits_1 ?_
  obtain ⟨h22, e23, hf⟩ := cl_of hf
  refine r_callNVv (As := []) (st := []) C 3 rfl (by decide) rfl (kX1_startOver (xG X) e23) cw_X11_273 rfl rfl (Nat.le_of_ble_eq_true rfl) (zr2 hR rfl rfl) (zrcs hcs) dX11_findFits_4 ?_
  refine r_iconst (v := 0) C dX11_findFits_7 (by decide) ?_
  refine r_istore_n (i := 1) (lv' := [(0, .ref (gad (xG X) 0)), (1, .int (0 : Int32))]) C dX11_findFits_8 rfl (by decide) [1, 0] rfl ?_
  refine r_iconst (v := (-1)) C dX11_findFits_9 (by decide) ?_
  refine r_istore_n (i := 2) (lv' := [(0, .ref (gad (xG X) 0)), (1, .int (0 : Int32)), (2, .int (-1 : Int32))]) C dX11_findFits_10 rfl (by decide) [1, 2, 0] rfl ?_
  exact r_lv [0, 1, 2] rfl ((wX11_findFits  C hR hcs hF big).1 _ _ _ _ _ hf)
def BX11_seen_0  (rec : Hp → Int32 → Int32 → Int32 → Option (Int32 × Nat × Hp)) (h : Hp) (y2 : Int32) (y3 : Int32) (y4 : Int32) : Option (Int32 × Nat × Hp) := (if y2 ≤ y4 then some (y3, 0, h) else gd (inb y4 137) (lt9 (y3 &&& (h 29 y4.toNatClampNeg)) (fun x3 => lt9 (y4 + (1 : Int32)) (fun x4 => rec h y2 x3 x4))))
def LX11_seen  : Nat → Hp → Int32 → Int32 → Int32 → Option (Int32 × Nat × Hp)
  | 0, _, _, _, _ => none
  | n + 1, h, y2, y3, y4 => BX11_seen_0  (LX11_seen  n) h y2 y3 y4
def fX11_seen (h : Hp) (a1 : Int32) : Option (Int32 × Nat × Hp) := cl9 (fX9_open h) (fun h5 => cl9 (fX11_tellsHeights h5) (fun x7 => (if x7 = (0 : Int32) then some ((0 : Int32), 3, h5) else cl2 (fX11_findFits h5) (fun x12 h10 => (if a1 = (0 : Int32) then some (x12, 0, h10) else (if x12 = (0 : Int32) then LX11_seen big h10 x12 (0 : Int32) (0 : Int32) else LX11_seen big h10 x12 (h10 32 5) (0 : Int32)))))))
set_option maxHeartbeats 4000000 in
set_option maxRecDepth 100000 in
theorem wX11_seen {X : Cx}  {rr : Int32} {kk : Nat} {hh : Hp} (C : OK X cX11_seen 5 RX11 (some .int)) (hR : xR X = { frames := 8, cells := xc kk, slots := xs kk, locals := 512 }) (hcs : True) (hE : FinE X (some (.int rr)) kk hh) : ∀ n : Nat, (∀ (h : Hp) (y2 : Int32) (y3 : Int32) (y4 : Int32), LX11_seen  n h y2 y3 y4 = some (rr, kk, hh) → VW X 5 h 0 0 52 [(0, .ref (gad (xG X) 0)), (2, .int y2), (3, .int y3), (4, .int y4)] []) := by
  intro n
  induction n with
  | zero => exact (fun _ _ _ _ hf => (by rw [LX11_seen] at hf; cases hf))
  | succ n ih =>
    intro h y2 y3 y4 hf
    rw [LX11_seen] at hf
    unfold BX11_seen_0 at hf
    refine r_iload (i := 4) C dX11_seen_52 3 rfl ?_
    refine r_iload_n (i := 2) C dX11_seen_54 rfl 1 rfl ?_
    refine r_icmp_ge C 74 dX11_seen_55 (by decide) (fun c1 => ?_) (fun c1 => ?_)
    · rw [if_pos c1] at hf
      refine r_iload_n (i := 3) C dX11_seen_74 rfl 2 rfl ?_
      cases hf
      exact r_iret C (hE.1 rfl) dX11_seen_75
    · rw [if_neg c1] at hf
      refine r_iload_n (i := 3) C dX11_seen_58 rfl 2 rfl ?_
      refine r_aload_n (i := 0) C dX11_seen_59 rfl 0 rfl ?_
      refine g_X11_75 C dX11_seen_60 ?_
      refine r_iload (i := 4) C dX11_seen_63 3 rfl ?_
      obtain ⟨g2, hf⟩ := gd_of hf
      refine r_iald C 29 rfl (by decide) g2 dX11_seen_65 ?_
      refine r_iand C dX11_seen_66 ?_
      obtain ⟨x3, ex3, hf⟩ := lt_of hf
      refine r_top ex3 ?_
      refine r_istore_n (i := 3) (lv' := [(0, .ref (gad (xG X) 0)), (2, .int y2), (3, .int x3), (4, .int y4)]) C dX11_seen_67 rfl (by decide) [1, 2, 0, 3] rfl ?_
      obtain ⟨x4, ex4, hf⟩ := lt_of hf
      refine r_iinc (j := 3) (v := x4) (lv' := [(0, .ref (gad (xG X) 0)), (2, .int y2), (3, .int x3), (4, .int x4)]) C dX11_seen_68 rfl (by rw [ex4]; rfl) (by decide) [1, 2, 3, 0] rfl ?_
      refine r_goto C 52 dX11_seen_71 (by decide) ?_
      exact r_lv [0, 1, 2, 3] rfl (ih _ _ _ _ hf)
set_option maxHeartbeats 4000000 in
set_option maxRecDepth 100000 in
theorem kX11_seen (G : Gx)  {h : Hp} {a1 : Int32} {rr : Int32} {kk : Nat} {hh : Hp} (hf : fX11_seen h a1 = some (rr, kk, hh)) : MX G yX11_seen cX11_seen 5 (some .int) 8 512 h [.ref (gad G 0), .int a1] (some (.int rr)) kk hh := by
  refine MX.of RX11 (by decide) rfl (Nat.le_of_ble_eq_true rfl) rfl (fun X C hG hR hE => ?_)
  subst hG
  have hcs : True := trivial
  unfold fX11_seen at hf
  refine r_aload_n (i := 0) C dX11_seen_0 rfl 0 rfl ?_
  refine g_X11_10 C dX11_seen_1 ?_
  obtain ⟨h5, e6, hf⟩ := cl_of hf
  refine r_callNVv (As := []) (st := []) C 1 rfl (by decide) rfl (kX9_open (xG X) e6) cw_X11_288 rfl rfl (Nat.le_of_ble_eq_true rfl) (zq2 hR rfl rfl) (zrcs hcs) dX11_seen_4 ?_
  refine r_aload_n (i := 0) C dX11_seen_7 rfl 0 rfl ?_
  obtain ⟨x7, e8, hf⟩ := cl_of hf
  refine r_callVi (As := []) (st := []) C 0 rfl (by decide) rfl (kX11_tellsHeights (xG X) e8) cw_X11_306 rfl rfl (Nat.le_of_ble_eq_true rfl) (zq2 hR rfl rfl) (zrcs hcs) dX11_seen_8 ?_
  refine r_if_ne C 22 dX11_seen_11 (by decide) (fun c9 => ?_) (fun c9 => ?_)
  · rw [if_neg c9] at hf
    refine r_aload_n (i := 0) C dX11_seen_22 rfl 0 rfl ?_
    obtain ⟨x12, h10, e11, hf⟩ := cl2_of hf
    refine r_callVi (As := []) (st := []) C 0 rfl (by decide) rfl (kX11_findFits (xG X) e11) cw_X11_309 rfl rfl (Nat.le_of_ble_eq_true rfl) (zq2 hR rfl rfl) (zrcs hcs) dX11_seen_23 ?_
    refine r_istore_n (i := 2) (lv' := [(0, .ref (gad (xG X) 0)), (1, .int a1), (2, .int x12)]) C dX11_seen_26 rfl (by decide) [1, 2, 0] rfl ?_
    refine r_iload_n (i := 1) C dX11_seen_27 rfl 1 rfl ?_
    refine r_if_ne C 33 dX11_seen_28 (by decide) (fun c13 => ?_) (fun c13 => ?_)
    · rw [if_neg c13] at hf
      refine r_iload_n (i := 2) C dX11_seen_33 rfl 2 rfl ?_
      refine r_if_ne C 41 dX11_seen_34 (by decide) (fun c14 => ?_) (fun c14 => ?_)
      · rw [if_neg c14] at hf
        refine r_aload_n (i := 0) C dX11_seen_41 rfl 0 rfl ?_
        refine g_X11_54 C dX11_seen_42 ?_
        refine g_X11_276 sk32 C dX11_seen_45 ?_
        refine r_istore_n (i := 3) (lv' := [(0, .ref (gad (xG X) 0)), (1, .int a1), (2, .int x12), (3, .int (h10 32 5))]) C dX11_seen_48 rfl (by decide) [1, 2, 3, 0] rfl ?_
        refine r_iconst (v := 0) C dX11_seen_49 (by decide) ?_
        refine r_istore (i := 4) (lv' := [(0, .ref (gad (xG X) 0)), (1, .int a1), (2, .int x12), (3, .int (h10 32 5)), (4, .int (0 : Int32))]) C dX11_seen_50 (by decide) [1, 2, 3, 4, 0] rfl ?_
        exact r_lv [0, 2, 3, 4] rfl ((wX11_seen  C hR hcs hE big) _ _ _ _ hf)
      · rw [if_pos c14] at hf
        refine r_iconst (v := 0) C dX11_seen_37 (by decide) ?_
        refine r_goto C 48 dX11_seen_38 (by decide) ?_
        refine r_istore_n (i := 3) (lv' := [(0, .ref (gad (xG X) 0)), (1, .int a1), (2, .int x12), (3, .int (0 : Int32))]) C dX11_seen_48 rfl (by decide) [1, 2, 3, 0] rfl ?_
        refine r_iconst (v := 0) C dX11_seen_49 (by decide) ?_
        refine r_istore (i := 4) (lv' := [(0, .ref (gad (xG X) 0)), (1, .int a1), (2, .int x12), (3, .int (0 : Int32)), (4, .int (0 : Int32))]) C dX11_seen_50 (by decide) [1, 2, 3, 4, 0] rfl ?_
        exact r_lv [0, 2, 3, 4] rfl ((wX11_seen  C hR hcs hE big) _ _ _ _ hf)
    · rw [if_pos c13] at hf
      refine r_iload_n (i := 2) C dX11_seen_31 rfl 2 rfl ?_
      cases hf
      exact r_iret C (hE.1 rfl) dX11_seen_32
  · rw [if_pos c9] at hf
    cases hf
    exact r_throw C (by decide) (hE.2 (by decide)) (zqt (by decide) hR rfl rfl) tw_3 (Nat.le_of_ble_eq_true rfl) dX11_seen_14 dX11_seen_17 dX11_seen_18 dX11_seen_21
def BX11_climb_0  (rec : Hp → Int32 → Int32 → Int32 → Int32 → Option (Int32 × Nat × Hp)) (h : Hp) (y1 : Int32) (y2 : Int32) (y3 : Int32) (y4 : Int32) : Option (Int32 × Nat × Hp) := (if (16 : Int32) ≤ y4 then some (y2, 0, h) else (if (fX7_hasLadder h 32 y4) = (0 : Int32) then lt9 (y4 + (1 : Int32)) (fun x3 => rec h y1 y2 y3 x3) else cl2 (fX11_greatestPart h y4 y1) (fun x6 h4 => (if y3 ≤ x6 then lt9 (y4 + (1 : Int32)) (fun x8 => rec h4 y1 y2 y3 x8) else lt9 (y4 + (1 : Int32)) (fun x9 => rec h4 y1 y4 x6 x9)))))
def LX11_climb  : Nat → Hp → Int32 → Int32 → Int32 → Int32 → Option (Int32 × Nat × Hp)
  | 0, _, _, _, _, _ => none
  | n + 1, h, y1, y2, y3, y4 => BX11_climb_0  (LX11_climb  n) h y1 y2 y3 y4
def fX11_climb (h : Hp) : Option (Int32 × Nat × Hp) := cl9 (fX9_open h) (fun h10 => cl9 (fX11_tellsHeights h10) (fun x12 => (if x12 = (0 : Int32) then some ((0 : Int32), 3, h10) else cl2 (fX11_findFits h10) (fun x17 h15 => (if (2 : Int32) ≤ x17 then LX11_climb big h15 x17 (-1 : Int32) (138 : Int32) (0 : Int32) else some ((-1 : Int32), 0, h15))))))
set_option maxHeartbeats 4000000 in
set_option maxRecDepth 100000 in
theorem wX11_climb {X : Cx}  {rr : Int32} {kk : Nat} {hh : Hp} (C : OK X cX11_climb 6 RX11 (some .int)) (hR : xR X = { frames := 8, cells := xc kk, slots := xs kk, locals := 512 }) (hcs : True) (hE : FinE X (some (.int rr)) kk hh) : ∀ n : Nat, (∀ (h : Hp) (y1 : Int32) (y2 : Int32) (y3 : Int32) (y4 : Int32), LX11_climb  n h y1 y2 y3 y4 = some (rr, kk, hh) → VW X 6 h 0 0 43 [(0, .ref (gad (xG X) 0)), (1, .int y1), (2, .int y2), (3, .int y3), (4, .int y4)] []) := by
  intro n
  induction n with
  | zero => exact (fun _ _ _ _ _ hf => (by rw [LX11_climb] at hf; cases hf))
  | succ n ih =>
    intro h y1 y2 y3 y4 hf
    rw [LX11_climb] at hf
    unfold BX11_climb_0 at hf
    refine r_iload (i := 4) C dX11_climb_43 4 rfl ?_
    refine r_bipush (v := 16) C dX11_climb_45 (by decide) ?_
    refine r_icmp_ge C 89 dX11_climb_47 (by decide) (fun c1 => ?_) (fun c1 => ?_)
    · rw [if_pos c1] at hf
      refine r_iload_n (i := 2) C dX11_climb_89 rfl 2 rfl ?_
      cases hf
      exact r_iret C (hE.1 rfl) dX11_climb_90
    · rw [if_neg c1] at hf
      refine r_aload_n (i := 0) C dX11_climb_50 rfl 0 rfl ?_
      refine g_X11_54 C dX11_climb_51 ?_
      refine r_iload (i := 4) C dX11_climb_54 4 rfl ?_
      refine r_callNVi (As := [.int y4]) (st := []) C 32 (sky_d0 sk32) (sky_l0 sk32) rfl (kX7_hasLadder (xG X) sk32) cw_X11_148 rfl rfl (Nat.le_of_ble_eq_true rfl) (zq2 hR rfl rfl) (zrcs hcs) dX11_climb_56 ?_
      refine r_if_eq C 83 dX11_climb_59 (by decide) (fun c2 => ?_) (fun c2 => ?_)
      · rw [if_pos c2] at hf
        obtain ⟨x3, ex3, hf⟩ := lt_of hf
        refine r_iinc (j := 4) (v := x3) (lv' := [(0, .ref (gad (xG X) 0)), (1, .int y1), (2, .int y2), (3, .int y3), (4, .int x3)]) C dX11_climb_83 rfl (by rw [ex3]; rfl) (by decide) [1, 2, 3, 4, 0] rfl ?_
        refine r_goto C 43 dX11_climb_86 (by decide) ?_
        exact r_lv [0, 1, 2, 3, 4] rfl (ih _ _ _ _ _ hf)
      · rw [if_neg c2] at hf
        refine r_aload_n (i := 0) C dX11_climb_62 rfl 0 rfl ?_
        refine r_iload (i := 4) C dX11_climb_63 4 rfl ?_
        refine r_iload_n (i := 1) C dX11_climb_65 rfl 1 rfl ?_
        obtain ⟨x6, h4, e5, hf⟩ := cl2_of hf
        refine r_callVi (As := [.int y4, .int y1]) (st := []) C 0 rfl (by decide) rfl (kX11_greatestPart (xG X) e5) cw_X11_312 rfl rfl (Nat.le_of_ble_eq_true rfl) (zq2 hR rfl rfl) (zrcs hcs) dX11_climb_66 ?_
        refine r_istore (i := 5) (lv' := [(0, .ref (gad (xG X) 0)), (1, .int y1), (2, .int y2), (3, .int y3), (4, .int y4), (5, .int x6)]) C dX11_climb_69 (by decide) [1, 2, 3, 4, 5, 0] rfl ?_
        refine r_iload (i := 5) C dX11_climb_71 5 rfl ?_
        refine r_iload_n (i := 3) C dX11_climb_73 rfl 3 rfl ?_
        refine r_icmp_ge C 83 dX11_climb_74 (by decide) (fun c7 => ?_) (fun c7 => ?_)
        · rw [if_pos c7] at hf
          obtain ⟨x8, ex8, hf⟩ := lt_of hf
          refine r_iinc (j := 4) (v := x8) (lv' := [(0, .ref (gad (xG X) 0)), (1, .int y1), (2, .int y2), (3, .int y3), (4, .int x8), (5, .int x6)]) C dX11_climb_83 rfl (by rw [ex8]; rfl) (by decide) [1, 2, 3, 4, 0, 5] rfl ?_
          refine r_goto C 43 dX11_climb_86 (by decide) ?_
          exact r_lv [0, 1, 2, 3, 4] rfl (ih _ _ _ _ _ hf)
        · rw [if_neg c7] at hf
          refine r_iload (i := 5) C dX11_climb_77 5 rfl ?_
          refine r_istore_n (i := 3) (lv' := [(0, .ref (gad (xG X) 0)), (1, .int y1), (2, .int y2), (3, .int x6), (4, .int y4), (5, .int x6)]) C dX11_climb_79 rfl (by decide) [1, 2, 3, 0, 4, 5] rfl ?_
          refine r_iload (i := 4) C dX11_climb_80 4 rfl ?_
          refine r_istore_n (i := 2) (lv' := [(0, .ref (gad (xG X) 0)), (1, .int y1), (2, .int y4), (3, .int x6), (4, .int y4), (5, .int x6)]) C dX11_climb_82 rfl (by decide) [1, 2, 0, 3, 4, 5] rfl ?_
          obtain ⟨x9, ex9, hf⟩ := lt_of hf
          refine r_iinc (j := 4) (v := x9) (lv' := [(0, .ref (gad (xG X) 0)), (1, .int y1), (2, .int y4), (3, .int x6), (4, .int x9), (5, .int x6)]) C dX11_climb_83 rfl (by rw [ex9]; rfl) (by decide) [1, 2, 3, 4, 0, 5] rfl ?_
          refine r_goto C 43 dX11_climb_86 (by decide) ?_
          exact r_lv [0, 1, 2, 3, 4] rfl (ih _ _ _ _ _ hf)
set_option maxHeartbeats 4000000 in
set_option maxRecDepth 100000 in
theorem kX11_climb (G : Gx)  {h : Hp}  {rr : Int32} {kk : Nat} {hh : Hp} (hf : fX11_climb h = some (rr, kk, hh)) : MX G yX11_climb cX11_climb 6 (some .int) 8 512 h [.ref (gad G 0)] (some (.int rr)) kk hh := by
  refine MX.of RX11 (by decide) rfl (Nat.le_of_ble_eq_true rfl) rfl (fun X C hG hR hE => ?_)
  subst hG
  have hcs : True := trivial
  unfold fX11_climb at hf
  refine r_aload_n (i := 0) C dX11_climb_0 rfl 0 rfl ?_
  refine g_X11_10 C dX11_climb_1 ?_
  obtain ⟨h10, e11, hf⟩ := cl_of hf
  refine r_callNVv (As := []) (st := []) C 1 rfl (by decide) rfl (kX9_open (xG X) e11) cw_X11_288 rfl rfl (Nat.le_of_ble_eq_true rfl) (zq2 hR rfl rfl) (zrcs hcs) dX11_climb_4 ?_
  refine r_aload_n (i := 0) C dX11_climb_7 rfl 0 rfl ?_
  obtain ⟨x12, e13, hf⟩ := cl_of hf
  refine r_callVi (As := []) (st := []) C 0 rfl (by decide) rfl (kX11_tellsHeights (xG X) e13) cw_X11_306 rfl rfl (Nat.le_of_ble_eq_true rfl) (zq2 hR rfl rfl) (zrcs hcs) dX11_climb_8 ?_
  refine r_if_ne C 22 dX11_climb_11 (by decide) (fun c14 => ?_) (fun c14 => ?_)
  · rw [if_neg c14] at hf
    refine r_aload_n (i := 0) C dX11_climb_22 rfl 0 rfl ?_
    obtain ⟨x17, h15, e16, hf⟩ := cl2_of hf
    refine r_callVi (As := []) (st := []) C 0 rfl (by decide) rfl (kX11_findFits (xG X) e16) cw_X11_309 rfl rfl (Nat.le_of_ble_eq_true rfl) (zq2 hR rfl rfl) (zrcs hcs) dX11_climb_23 ?_
    refine r_istore_n (i := 1) (lv' := [(0, .ref (gad (xG X) 0)), (1, .int x17)]) C dX11_climb_26 rfl (by decide) [1, 0] rfl ?_
    refine r_iload_n (i := 1) C dX11_climb_27 rfl 1 rfl ?_
    refine r_iconst (v := 2) C dX11_climb_28 (by decide) ?_
    refine r_icmp_ge C 34 dX11_climb_29 (by decide) (fun c18 => ?_) (fun c18 => ?_)
    · rw [if_pos c18] at hf
      refine r_iconst (v := (-1)) C dX11_climb_34 (by decide) ?_
      refine r_istore_n (i := 2) (lv' := [(0, .ref (gad (xG X) 0)), (1, .int x17), (2, .int (-1 : Int32))]) C dX11_climb_35 rfl (by decide) [1, 2, 0] rfl ?_
      refine r_sipush (v := 138) C dX11_climb_36 (by decide) ?_
      refine r_istore_n (i := 3) (lv' := [(0, .ref (gad (xG X) 0)), (1, .int x17), (2, .int (-1 : Int32)), (3, .int (138 : Int32))]) C dX11_climb_39 rfl (by decide) [1, 2, 3, 0] rfl ?_
      refine r_iconst (v := 0) C dX11_climb_40 (by decide) ?_
      refine r_istore (i := 4) (lv' := [(0, .ref (gad (xG X) 0)), (1, .int x17), (2, .int (-1 : Int32)), (3, .int (138 : Int32)), (4, .int (0 : Int32))]) C dX11_climb_41 (by decide) [1, 2, 3, 4, 0] rfl ?_
      exact r_lv [0, 1, 2, 3, 4] rfl ((wX11_climb  C hR hcs hE big) _ _ _ _ _ hf)
    · rw [if_neg c18] at hf
      refine r_iconst (v := (-1)) C dX11_climb_32 (by decide) ?_
      cases hf
      exact r_iret C (hE.1 rfl) dX11_climb_33
  · rw [if_pos c14] at hf
    cases hf
    exact r_throw C (by decide) (hE.2 (by decide)) (zqt (by decide) hR rfl rfl) tw_3 (Nat.le_of_ble_eq_true rfl) dX11_climb_14 dX11_climb_17 dX11_climb_18 dX11_climb_21

def BX12_duke_0  (rec : Nat → Hp → Int32 → Int32 → Int32 → Option (Int32 × Hp)) (h : Hp) (y1 : Int32) (y2 : Int32) (y3 : Int32) : Option (Int32 × Hp) := (if (16 : Int32) < y2 then some (y1, h) else rec 1 h y1 y2 (0 : Int32))
def BX12_duke_1  (rec : Nat → Hp → Int32 → Int32 → Int32 → Option (Int32 × Hp)) (h : Hp) (y1 : Int32) (y2 : Int32) (y3 : Int32) : Option (Int32 × Hp) := (if (16 : Int32) < y3 then lt9 (y2 + (1 : Int32)) (fun x3 => rec 0 h y1 x3 0) else cl9 (fX12_doesRest h y2 y3) (fun x4 => (if x4 = (0 : Int32) then lt9 (y1 + (0 : Int32)) (fun x7 => lt9 (y3 + (1 : Int32)) (fun x8 => rec 1 h x7 y2 x8)) else lt9 (y1 + (1 : Int32)) (fun x9 => lt9 (y3 + (1 : Int32)) (fun x10 => rec 1 h x9 y2 x10)))))
def LX12_duke  : Nat → Nat → Hp → Int32 → Int32 → Int32 → Option (Int32 × Hp)
  | 0, _, _, _, _, _ => none
  | n + 1, lab, h, y1, y2, y3 => if lab = 0 then BX12_duke_0  (LX12_duke  n) h y1 y2 y3 else if lab = 1 then BX12_duke_1  (LX12_duke  n) h y1 y2 y3 else none
def fX12_duke (h : Hp) : Option (Int32 × Hp) := lt9 (up2 h 208 0 (0 : Int32)) (fun h11 => cl9 (fX12_laysStands h11) (fun h12 => LX12_duke big 0 h12 (0 : Int32) (0 : Int32) 0))
set_option maxHeartbeats 4000000 in
set_option maxRecDepth 100000 in
theorem wX12_duke {X : Cx}  {rr : Int32} {hh : Hp} (C : OK X cX12_duke 4 RX12 (some .int)) (hR : xR X = { frames := 12, cells := 0, slots := 0, locals := 768 }) (hcs : True) (hF : FinR X (some (.int rr)) hh) : ∀ n : Nat, (∀ (h : Hp) (y1 : Int32) (y2 : Int32) (y3 : Int32), LX12_duke  n 0 h y1 y2 y3 = some (rr, hh) → VW X 4 h 0 0 13 [(0, .ref (gad (xG X) 208)), (1, .int y1), (2, .int y2)] []) ∧ (∀ (h : Hp) (y1 : Int32) (y2 : Int32) (y3 : Int32), LX12_duke  n 1 h y1 y2 y3 = some (rr, hh) → VW X 4 h 0 0 21 [(0, .ref (gad (xG X) 208)), (1, .int y1), (2, .int y2), (3, .int y3)] []) := by
  intro n
  induction n with
  | zero => exact ⟨(fun _ _ _ _ hf => (by rw [LX12_duke] at hf; cases hf)), (fun _ _ _ _ hf => (by rw [LX12_duke] at hf; cases hf))⟩
  | succ n ih =>
    refine ⟨?_, ?_⟩
    · intro h y1 y2 y3 hf
      rw [LX12_duke, if_pos rfl] at hf
      unfold BX12_duke_0 at hf
      refine r_iload_n (i := 2) C dX12_duke_13 rfl 2 rfl ?_
      refine r_bipush (v := 16) C dX12_duke_14 (by decide) ?_
      refine r_icmp_gt C 56 dX12_duke_16 (by decide) (fun c1 => ?_) (fun c1 => ?_)
      · rw [if_pos c1] at hf
        refine r_iload_n (i := 1) C dX12_duke_56 rfl 1 rfl ?_
        cases hf
        exact r_iret C hF dX12_duke_57
      · rw [if_neg c1] at hf
        refine r_iconst (v := 0) C dX12_duke_19 (by decide) ?_
        refine r_istore_n (i := 3) (lv' := [(0, .ref (gad (xG X) 208)), (1, .int y1), (2, .int y2), (3, .int (0 : Int32))]) C dX12_duke_20 rfl (by decide) [1, 2, 3, 0] rfl ?_
        exact r_lv [0, 1, 2, 3] rfl (ih.2 _ _ _ _ hf)
    · intro h y1 y2 y3 hf
      rw [LX12_duke, if_neg (by decide), if_pos rfl] at hf
      unfold BX12_duke_1 at hf
      refine r_iload_n (i := 3) C dX12_duke_21 rfl 3 rfl ?_
      refine r_bipush (v := 16) C dX12_duke_22 (by decide) ?_
      refine r_icmp_gt C 50 dX12_duke_24 (by decide) (fun c2 => ?_) (fun c2 => ?_)
      · rw [if_pos c2] at hf
        obtain ⟨x3, ex3, hf⟩ := lt_of hf
        refine r_iinc (j := 2) (v := x3) (lv' := [(0, .ref (gad (xG X) 208)), (1, .int y1), (2, .int x3), (3, .int y3)]) C dX12_duke_50 rfl (by rw [ex3]; rfl) (by decide) [1, 2, 0, 3] rfl ?_
        refine r_goto C 13 dX12_duke_53 (by decide) ?_
        exact r_lv [0, 1, 2] rfl (ih.1 _ _ _ _ hf)
      · rw [if_neg c2] at hf
        refine r_iload_n (i := 1) C dX12_duke_27 rfl 1 rfl ?_
        refine r_aload_n (i := 0) C dX12_duke_28 rfl 0 rfl ?_
        refine r_iload_n (i := 2) C dX12_duke_29 rfl 2 rfl ?_
        refine r_iload_n (i := 3) C dX12_duke_30 rfl 3 rfl ?_
        obtain ⟨x4, e5, hf⟩ := cl_of hf
        refine r_callVi (As := [.int y2, .int y3]) (st := [.int y1]) C 208 rfl (by decide) rfl (kX12_doesRest (xG X) e5) cw_X12_416 rfl rfl (Nat.le_of_ble_eq_true rfl) (zr2 hR rfl rfl) (zrcs hcs) dX12_duke_31 ?_
        refine r_if_eq C 41 dX12_duke_34 (by decide) (fun c6 => ?_) (fun c6 => ?_)
        · rw [if_pos c6] at hf
          refine r_iconst (v := 0) C dX12_duke_41 (by decide) ?_
          refine r_iadd C dX12_duke_42 ?_
          obtain ⟨x7, ex7, hf⟩ := lt_of hf
          refine r_top ex7 ?_
          refine r_istore_n (i := 1) (lv' := [(0, .ref (gad (xG X) 208)), (1, .int x7), (2, .int y2), (3, .int y3)]) C dX12_duke_43 rfl (by decide) [1, 0, 2, 3] rfl ?_
          obtain ⟨x8, ex8, hf⟩ := lt_of hf
          refine r_iinc (j := 3) (v := x8) (lv' := [(0, .ref (gad (xG X) 208)), (1, .int x7), (2, .int y2), (3, .int x8)]) C dX12_duke_44 rfl (by rw [ex8]; rfl) (by decide) [1, 2, 3, 0] rfl ?_
          refine r_goto C 21 dX12_duke_47 (by decide) ?_
          exact r_lv [0, 1, 2, 3] rfl (ih.2 _ _ _ _ hf)
        · rw [if_neg c6] at hf
          refine r_iconst (v := 1) C dX12_duke_37 (by decide) ?_
          refine r_goto C 42 dX12_duke_38 (by decide) ?_
          refine r_iadd C dX12_duke_42 ?_
          obtain ⟨x9, ex9, hf⟩ := lt_of hf
          refine r_top ex9 ?_
          refine r_istore_n (i := 1) (lv' := [(0, .ref (gad (xG X) 208)), (1, .int x9), (2, .int y2), (3, .int y3)]) C dX12_duke_43 rfl (by decide) [1, 0, 2, 3] rfl ?_
          obtain ⟨x10, ex10, hf⟩ := lt_of hf
          refine r_iinc (j := 3) (v := x10) (lv' := [(0, .ref (gad (xG X) 208)), (1, .int x9), (2, .int y2), (3, .int x10)]) C dX12_duke_44 rfl (by rw [ex10]; rfl) (by decide) [1, 2, 3, 0] rfl ?_
          refine r_goto C 21 dX12_duke_47 (by decide) ?_
          exact r_lv [0, 1, 2, 3] rfl (ih.2 _ _ _ _ hf)
set_option maxHeartbeats 4000000 in
set_option maxRecDepth 100000 in
theorem kX12_duke (G : Gx)  {h : Hp}  {rr : Int32} {hh : Hp} (hf : fX12_duke h = some (rr, hh)) : MC G yX12_duke cX12_duke 4 (some .int) 12 768 h [.ref (gad G 208)] (some (.int rr)) hh := by
  refine MC.of RX12 (by decide) rfl (Nat.le_of_ble_eq_true rfl) rfl (fun X C hG hR hF => ?_)
  subst hG
  have hcs : True := trivial
  unfold fX12_duke at hf
  refine r_aload_n (i := 0) C dX12_duke_0 rfl 0 rfl ?_
  refine r_iconst (v := 0) C dX12_duke_1 (by decide) ?_
  obtain ⟨h11, eh11, hf⟩ := lt_of hf
  refine p_X12_3 C eh11 dX12_duke_2 ?_
  refine r_aload_n (i := 0) C dX12_duke_5 rfl 0 rfl ?_
  obtain ⟨h12, e13, hf⟩ := cl_of hf
  refine r_callVv (As := []) (st := []) C 208 rfl (by decide) rfl (kX12_laysStands (xG X) e13) cw_X12_413 rfl rfl (Nat.le_of_ble_eq_true rfl) (zr2 hR rfl rfl) (zrcs hcs) dX12_duke_6 ?_
  refine r_iconst (v := 0) C dX12_duke_9 (by decide) ?_
  refine r_istore_n (i := 1) (lv' := [(0, .ref (gad (xG X) 208)), (1, .int (0 : Int32))]) C dX12_duke_10 rfl (by decide) [1, 0] rfl ?_
  refine r_iconst (v := 0) C dX12_duke_11 (by decide) ?_
  refine r_istore_n (i := 2) (lv' := [(0, .ref (gad (xG X) 208)), (1, .int (0 : Int32)), (2, .int (0 : Int32))]) C dX12_duke_12 rfl (by decide) [1, 2, 0] rfl ?_
  exact r_lv [0, 1, 2] rfl ((wX12_duke  C hR hcs hF big).1 _ _ _ _ hf)
def fX12_pay (h : Hp) (a1 : Int32) : Option (Int32 × Hp) := lt9 (up2 h 208 0 (0 : Int32)) (fun h1 => cl9 ((if (fX12_in a1 (0 : Int32) ((h1 209 4) - (1 : Int32))) = (0 : Int32) then some (1 : Int32) else some (0 : Int32)) : Option (Int32)) (fun v2 => cl2 (fX12_throwsIf h1 v2 (1 : Int32)) (fun x8 h6 => (if x8 = (0 : Int32) then cl2 (fX12_standingNow h6) (fun x12 h10 => cl2 (fX12_standingAt h10 (4 : Int32) ((h10 209 4) - a1)) (fun x15 h13 => some ((fJ_bitCount (x12 &&& (x15 ^^^ (-1 : Int32)))), h13))) else some ((0 : Int32), h6)))))
set_option maxHeartbeats 4000000 in
set_option maxRecDepth 100000 in
theorem kX12_pay (G : Gx)  {h : Hp} {a1 : Int32} {rr : Int32} {hh : Hp} (hf : fX12_pay h a1 = some (rr, hh)) : MC G yX12_pay cX12_pay 2 (some .int) 12 768 h [.ref (gad G 208), .int a1] (some (.int rr)) hh := by
  refine MC.of RX12 (by decide) rfl (Nat.le_of_ble_eq_true rfl) rfl (fun X C hG hR hF => ?_)
  subst hG
  have hcs : True := trivial
  unfold fX12_pay at hf
  refine r_aload_n (i := 0) C dX12_pay_0 rfl 0 rfl ?_
  refine r_iconst (v := 0) C dX12_pay_1 (by decide) ?_
  obtain ⟨h1, eh1, hf⟩ := lt_of hf
  refine p_X12_3 C eh1 dX12_pay_2 ?_
  refine r_aload_n (i := 0) C dX12_pay_5 rfl 0 rfl ?_
  refine r_iload_n (i := 1) C dX12_pay_6 rfl 1 rfl ?_
  refine r_iconst (v := 0) C dX12_pay_7 (by decide) ?_
  refine r_aload_n (i := 0) C dX12_pay_8 rfl 0 rfl ?_
  refine g_X12_13 C dX12_pay_9 ?_
  refine r_iconst (v := 4) C dX12_pay_12 (by decide) ?_
  refine r_ialdc C 209 (m := 4) rfl (by decide) (by decide) (show inb 4 2031 by decide) dX12_pay_13 ?_
  refine r_iconst (v := 1) C dX12_pay_14 (by decide) ?_
  refine r_isub C dX12_pay_15 ?_
  refine r_callSi (As := [.int a1, .int (0 : Int32), .int ((h1 209 4) - (1 : Int32))]) (st := [.ref (gad (xG X) 208)]) C (kX12_in (xG X)) cw_X12_76 rfl rfl (Nat.le_of_ble_eq_true rfl) (zr2 hR rfl rfl) (zrcs hcs) dX12_pay_16 ?_
  obtain ⟨v2, r4, hf⟩ := cl_of hf
  have k3 : VW X 2 h1 0 0 27 [(0, .ref (gad (xG X) 208)), (1, .int a1)] [.int v2, .ref (gad (xG X) 208)] := by
    refine r_iconst (v := 1) C dX12_pay_27 (by decide) ?_
    obtain ⟨x8, h6, e7, hf⟩ := cl2_of hf
    refine r_callVi (As := [.int v2, .int (1 : Int32)]) (st := []) C 208 rfl (by decide) rfl (kX12_throwsIf (xG X) e7) cw_X12_247 rfl rfl (Nat.le_of_ble_eq_true rfl) (zr2 hR rfl rfl) (zrcs hcs) dX12_pay_28 ?_
    refine r_if_eq C 36 dX12_pay_31 (by decide) (fun c9 => ?_) (fun c9 => ?_)
    · rw [if_pos c9] at hf
      refine r_aload_n (i := 0) C dX12_pay_36 rfl 0 rfl ?_
      obtain ⟨x12, h10, e11, hf⟩ := cl2_of hf
      refine r_callVi (As := []) (st := []) C 208 rfl (by decide) rfl (kX12_standingNow (xG X) e11) cw_X12_320 rfl rfl (Nat.le_of_ble_eq_true rfl) (zr2 hR rfl rfl) (zrcs hcs) dX12_pay_37 ?_
      refine r_aload_n (i := 0) C dX12_pay_40 rfl 0 rfl ?_
      refine r_iconst (v := 4) C dX12_pay_41 (by decide) ?_
      refine r_aload_n (i := 0) C dX12_pay_42 rfl 0 rfl ?_
      refine g_X12_13 C dX12_pay_43 ?_
      refine r_iconst (v := 4) C dX12_pay_46 (by decide) ?_
      refine r_ialdc C 209 (m := 4) rfl (by decide) (by decide) (show inb 4 2031 by decide) dX12_pay_47 ?_
      refine r_iload_n (i := 1) C dX12_pay_48 rfl 1 rfl ?_
      refine r_isub C dX12_pay_49 ?_
      obtain ⟨x15, h13, e14, hf⟩ := cl2_of hf
      refine r_callVi (As := [.int (4 : Int32), .int ((h10 209 4) - a1)]) (st := [.int x12]) C 208 rfl (by decide) rfl (kX12_standingAt (xG X) e14) cw_X12_419 rfl rfl (Nat.le_of_ble_eq_true rfl) (zr2 hR rfl rfl) (zrcs hcs) dX12_pay_50 ?_
      refine r_iconst (v := (-1)) C dX12_pay_53 (by decide) ?_
      refine r_ixor C dX12_pay_54 ?_
      refine r_iand C dX12_pay_55 ?_
      refine r_callSi (As := [.int (x12 &&& (x15 ^^^ (-1 : Int32)))]) (st := []) C (kJ_bitCount (xG X)) cw_X12_356 rfl rfl (Nat.le_of_ble_eq_true rfl) (zr2 hR rfl rfl) (zrcs hcs) dX12_pay_56 ?_
      cases hf
      exact r_iret C hF dX12_pay_59
    · rw [if_neg c9] at hf
      refine r_iconst (v := 0) C dX12_pay_34 (by decide) ?_
      cases hf
      exact r_iret C hF dX12_pay_35
  clear hf
  have hf := r4
  refine r_if_ne C 26 dX12_pay_19 (by decide) (fun c5 => ?_) (fun c5 => ?_)
  · rw [if_neg c5] at hf
    refine r_iconst (v := 0) C dX12_pay_26 (by decide) ?_
    cases hf
    exact k3
  · rw [if_pos c5] at hf
    refine r_iconst (v := 1) C dX12_pay_22 (by decide) ?_
    refine r_goto C 27 dX12_pay_23 (by decide) ?_
    cases hf
    exact k3
def BX12_season_0  (rec : Hp → Int32 → Int32 → Option (Int32 × Hp)) (h : Hp) (y1 : Int32) (y2 : Int32) : Option (Int32 × Hp) := (if (9 : Int32) < y2 then some (y1, h) else cl2 (fX12_standingAt h (5 : Int32) y2) (fun x4 h2 => cl2 (fX12_standingAt h2 (5 : Int32) y1) (fun x7 h5 => (if (fJ_bitCount x4) ≤ (fJ_bitCount x7) then lt9 (y2 + (1 : Int32)) (fun x9 => rec h5 y1 x9) else lt9 (y2 + (1 : Int32)) (fun x10 => rec h5 y2 x10)))))
def LX12_season  : Nat → Hp → Int32 → Int32 → Option (Int32 × Hp)
  | 0, _, _, _ => none
  | n + 1, h, y1, y2 => BX12_season_0  (LX12_season  n) h y1 y2
def fX12_season (h : Hp) : Option (Int32 × Hp) := lt9 (up2 h 208 0 (0 : Int32)) (fun h11 => LX12_season big h11 (0 : Int32) (1 : Int32))
set_option maxHeartbeats 4000000 in
set_option maxRecDepth 100000 in
theorem wX12_season {X : Cx}  {rr : Int32} {hh : Hp} (C : OK X cX12_season 3 RX12 (some .int)) (hR : xR X = { frames := 12, cells := 0, slots := 0, locals := 768 }) (hcs : True) (hF : FinR X (some (.int rr)) hh) : ∀ n : Nat, (∀ (h : Hp) (y1 : Int32) (y2 : Int32), LX12_season  n h y1 y2 = some (rr, hh) → VW X 3 h 0 0 9 [(0, .ref (gad (xG X) 208)), (1, .int y1), (2, .int y2)] []) := by
  intro n
  induction n with
  | zero => exact (fun _ _ _ hf => (by rw [LX12_season] at hf; cases hf))
  | succ n ih =>
    intro h y1 y2 hf
    rw [LX12_season] at hf
    unfold BX12_season_0 at hf
    refine r_iload_n (i := 2) C dX12_season_9 rfl 2 rfl ?_
    refine r_bipush (v := 9) C dX12_season_10 (by decide) ?_
    refine r_icmp_gt C 48 dX12_season_12 (by decide) (fun c1 => ?_) (fun c1 => ?_)
    · rw [if_pos c1] at hf
      refine r_iload_n (i := 1) C dX12_season_48 rfl 1 rfl ?_
      cases hf
      exact r_iret C hF dX12_season_49
    · rw [if_neg c1] at hf
      refine r_aload_n (i := 0) C dX12_season_15 rfl 0 rfl ?_
      refine r_iconst (v := 5) C dX12_season_16 (by decide) ?_
      refine r_iload_n (i := 2) C dX12_season_17 rfl 2 rfl ?_
      obtain ⟨x4, h2, e3, hf⟩ := cl2_of hf
      refine r_callVi (As := [.int (5 : Int32), .int y2]) (st := []) C 208 rfl (by decide) rfl (kX12_standingAt (xG X) e3) cw_X12_419 rfl rfl (Nat.le_of_ble_eq_true rfl) (zr2 hR rfl rfl) (zrcs hcs) dX12_season_18 ?_
      refine r_callSi (As := [.int x4]) (st := []) C (kJ_bitCount (xG X)) cw_X12_356 rfl rfl (Nat.le_of_ble_eq_true rfl) (zr2 hR rfl rfl) (zrcs hcs) dX12_season_21 ?_
      refine r_aload_n (i := 0) C dX12_season_24 rfl 0 rfl ?_
      refine r_iconst (v := 5) C dX12_season_25 (by decide) ?_
      refine r_iload_n (i := 1) C dX12_season_26 rfl 1 rfl ?_
      obtain ⟨x7, h5, e6, hf⟩ := cl2_of hf
      refine r_callVi (As := [.int (5 : Int32), .int y1]) (st := [.int (fJ_bitCount x4)]) C 208 rfl (by decide) rfl (kX12_standingAt (xG X) e6) cw_X12_419 rfl rfl (Nat.le_of_ble_eq_true rfl) (zr2 hR rfl rfl) (zrcs hcs) dX12_season_27 ?_
      refine r_callSi (As := [.int x7]) (st := [.int (fJ_bitCount x4)]) C (kJ_bitCount (xG X)) cw_X12_356 rfl rfl (Nat.le_of_ble_eq_true rfl) (zr2 hR rfl rfl) (zrcs hcs) dX12_season_30 ?_
      refine r_icmp_le C 40 dX12_season_33 (by decide) (fun c8 => ?_) (fun c8 => ?_)
      · rw [if_pos c8] at hf
        refine r_iload_n (i := 1) C dX12_season_40 rfl 1 rfl ?_
        refine r_istore_n (i := 1) (lv' := [(0, .ref (gad (xG X) 208)), (1, .int y1), (2, .int y2)]) C dX12_season_41 rfl (by decide) [1, 0, 2] rfl ?_
        obtain ⟨x9, ex9, hf⟩ := lt_of hf
        refine r_iinc (j := 2) (v := x9) (lv' := [(0, .ref (gad (xG X) 208)), (1, .int y1), (2, .int x9)]) C dX12_season_42 rfl (by rw [ex9]; rfl) (by decide) [1, 2, 0] rfl ?_
        refine r_goto C 9 dX12_season_45 (by decide) ?_
        exact r_lv [0, 1, 2] rfl (ih _ _ _ hf)
      · rw [if_neg c8] at hf
        refine r_iload_n (i := 2) C dX12_season_36 rfl 2 rfl ?_
        refine r_goto C 41 dX12_season_37 (by decide) ?_
        refine r_istore_n (i := 1) (lv' := [(0, .ref (gad (xG X) 208)), (1, .int y2), (2, .int y2)]) C dX12_season_41 rfl (by decide) [1, 0, 2] rfl ?_
        obtain ⟨x10, ex10, hf⟩ := lt_of hf
        refine r_iinc (j := 2) (v := x10) (lv' := [(0, .ref (gad (xG X) 208)), (1, .int y2), (2, .int x10)]) C dX12_season_42 rfl (by rw [ex10]; rfl) (by decide) [1, 2, 0] rfl ?_
        refine r_goto C 9 dX12_season_45 (by decide) ?_
        exact r_lv [0, 1, 2] rfl (ih _ _ _ hf)
set_option maxHeartbeats 4000000 in
set_option maxRecDepth 100000 in
theorem kX12_season (G : Gx)  {h : Hp}  {rr : Int32} {hh : Hp} (hf : fX12_season h = some (rr, hh)) : MC G yX12_season cX12_season 3 (some .int) 12 768 h [.ref (gad G 208)] (some (.int rr)) hh := by
  refine MC.of RX12 (by decide) rfl (Nat.le_of_ble_eq_true rfl) rfl (fun X C hG hR hF => ?_)
  subst hG
  have hcs : True := trivial
  unfold fX12_season at hf
  refine r_aload_n (i := 0) C dX12_season_0 rfl 0 rfl ?_
  refine r_iconst (v := 0) C dX12_season_1 (by decide) ?_
  obtain ⟨h11, eh11, hf⟩ := lt_of hf
  refine p_X12_3 C eh11 dX12_season_2 ?_
  refine r_iconst (v := 0) C dX12_season_5 (by decide) ?_
  refine r_istore_n (i := 1) (lv' := [(0, .ref (gad (xG X) 208)), (1, .int (0 : Int32))]) C dX12_season_6 rfl (by decide) [1, 0] rfl ?_
  refine r_iconst (v := 1) C dX12_season_7 (by decide) ?_
  refine r_istore_n (i := 2) (lv' := [(0, .ref (gad (xG X) 208)), (1, .int (0 : Int32)), (2, .int (1 : Int32))]) C dX12_season_8 rfl (by decide) [1, 2, 0] rfl ?_
  exact r_lv [0, 1, 2] rfl ((wX12_season  C hR hcs hF big) _ _ _ hf)
def BX12_odds_0  (rec : Nat → Hp → Int32 → Int32 → Int64 → Int64 → Int32 → Int64 → Int32 → Option (Int32 × Hp)) (h : Hp) (y1 : Int32) (y2 : Int32) (y3 : Int64) (y5 : Int64) (y7 : Int32) (y8 : Int64) (y10 : Int32) : Option (Int32 × Hp) := (if y1 ≤ y7 then rec 1 h y1 y2 y3 y5 (0 : Int32) 0 0 else lt9 (y5 * (100 : Int64)) (fun x2 => lt9 (y7 + (1 : Int32)) (fun x3 => rec 0 h y1 y2 y3 x2 x3 0 0)))
def BX12_odds_1  (rec : Nat → Hp → Int32 → Int32 → Int64 → Int64 → Int32 → Int64 → Int32 → Option (Int32 × Hp)) (h : Hp) (y1 : Int32) (y2 : Int32) (y3 : Int64) (y5 : Int64) (y7 : Int32) (y8 : Int64) (y10 : Int32) : Option (Int32 × Hp) := (if ((1 : Int32) <<< (y1 &&& 31)) ≤ y7 then lt9 (10000 : Int64) (fun x5 => gd (¬ y5 = 0) (some ((((x5 * y3) / y5).toInt32), h))) else (if y2 ≤ (fJ_bitCount y7) then rec 2 h y1 y2 y3 y5 y7 (1 : Int64) (0 : Int32) else lt9 (y7 + (1 : Int32)) (fun x8 => rec 1 h y1 y2 y3 y5 x8 0 0)))
def BX12_odds_2  (rec : Nat → Hp → Int32 → Int32 → Int64 → Int64 → Int32 → Int64 → Int32 → Option (Int32 × Hp)) (h : Hp) (y1 : Int32) (y2 : Int32) (y3 : Int64) (y5 : Int64) (y7 : Int32) (y8 : Int64) (y10 : Int32) : Option (Int32 × Hp) := (if y1 ≤ y10 then lt9 (y3 + y8) (fun x10 => lt9 (y7 + (1 : Int32)) (fun x11 => rec 1 h y1 y2 x10 y5 x11 0 0)) else (if (fX12_has y7 y10) = (0 : Int32) then lt9 (y8 * ((((100 : Int32) - (h 209 8))).toInt64)) (fun x13 => lt9 (y10 + (1 : Int32)) (fun x14 => rec 2 h y1 y2 y3 y5 y7 x13 x14)) else lt9 (y8 * ((h 209 8).toInt64)) (fun x15 => lt9 (y10 + (1 : Int32)) (fun x16 => rec 2 h y1 y2 y3 y5 y7 x15 x16))))
def LX12_odds  : Nat → Nat → Hp → Int32 → Int32 → Int64 → Int64 → Int32 → Int64 → Int32 → Option (Int32 × Hp)
  | 0, _, _, _, _, _, _, _, _, _ => none
  | n + 1, lab, h, y1, y2, y3, y5, y7, y8, y10 => if lab = 0 then BX12_odds_0  (LX12_odds  n) h y1 y2 y3 y5 y7 y8 y10 else if lab = 1 then BX12_odds_1  (LX12_odds  n) h y1 y2 y3 y5 y7 y8 y10 else if lab = 2 then BX12_odds_2  (LX12_odds  n) h y1 y2 y3 y5 y7 y8 y10 else none
def fX12_odds (h : Hp) (a1 : Int32) (a2 : Int32) : Option (Int32 × Hp) := lt9 (up2 h 208 0 (0 : Int32)) (fun h17 => cl9 (cl9 ((if (fX12_in a1 (0 : Int32) (6 : Int32)) = (0 : Int32) then some true else (if (fX12_in a2 (0 : Int32) (6 : Int32)) = (0 : Int32) then some true else some false)) : Option Bool) (fun q21 => if q21 = true then some (1 : Int32) else some (0 : Int32)) : Option (Int32)) (fun v18 => cl2 (fX12_throwsIf h17 v18 (1 : Int32)) (fun x29 h27 => (if x29 = (0 : Int32) then LX12_odds big 0 h27 a1 a2 (0 : Int64) (1 : Int64) (0 : Int32) 0 0 else some ((0 : Int32), h27)))))
set_option maxHeartbeats 4000000 in
set_option maxRecDepth 100000 in
theorem wX12_odds {X : Cx}  {rr : Int32} {hh : Hp} (C : OK X cX12_odds 11 RX12 (some .int)) (hR : xR X = { frames := 2, cells := 0, slots := 0, locals := 128 }) (hcs : True) (hF : FinR X (some (.int rr)) hh) : ∀ n : Nat, (∀ (h : Hp) (y1 : Int32) (y2 : Int32) (y3 : Int64) (y5 : Int64) (y7 : Int32) (y8 : Int64) (y10 : Int32), LX12_odds  n 0 h y1 y2 y3 y5 y7 y8 y10 = some (rr, hh) → VW X 11 h 0 0 48 [(0, .ref (gad (xG X) 208)), (1, .int y1), (2, .int y2), (3, .long y3), (5, .long y5), (7, .int y7)] []) ∧ (∀ (h : Hp) (y1 : Int32) (y2 : Int32) (y3 : Int64) (y5 : Int64) (y7 : Int32) (y8 : Int64) (y10 : Int32), LX12_odds  n 1 h y1 y2 y3 y5 y7 y8 y10 = some (rr, hh) → VW X 11 h 0 0 71 [(0, .ref (gad (xG X) 208)), (1, .int y1), (2, .int y2), (3, .long y3), (5, .long y5), (7, .int y7)] []) ∧ (∀ (h : Hp) (y1 : Int32) (y2 : Int32) (y3 : Int64) (y5 : Int64) (y7 : Int32) (y8 : Int64) (y10 : Int32), LX12_odds  n 2 h y1 y2 y3 y5 y7 y8 y10 = some (rr, hh) → VW X 11 h 0 0 97 [(0, .ref (gad (xG X) 208)), (1, .int y1), (2, .int y2), (3, .long y3), (5, .long y5), (7, .int y7), (8, .long y8), (10, .int y10)] []) := by
  intro n
  induction n with
  | zero => exact ⟨(fun _ _ _ _ _ _ _ _ hf => (by rw [LX12_odds] at hf; cases hf)), (fun _ _ _ _ _ _ _ _ hf => (by rw [LX12_odds] at hf; cases hf)), (fun _ _ _ _ _ _ _ _ hf => (by rw [LX12_odds] at hf; cases hf))⟩
  | succ n ih =>
    refine ⟨?_, ?_, ?_⟩
    · intro h y1 y2 y3 y5 y7 y8 y10 hf
      rw [LX12_odds, if_pos rfl] at hf
      unfold BX12_odds_0 at hf
      refine r_iload (i := 7) C dX12_odds_48 5 rfl ?_
      refine r_iload_n (i := 1) C dX12_odds_50 rfl 1 rfl ?_
      refine r_icmp_ge C 68 dX12_odds_51 (by decide) (fun c1 => ?_) (fun c1 => ?_)
      · rw [if_pos c1] at hf
        refine r_iconst (v := 0) C dX12_odds_68 (by decide) ?_
        refine r_istore (i := 7) (lv' := [(0, .ref (gad (xG X) 208)), (1, .int y1), (2, .int y2), (3, .long y3), (5, .long y5), (7, .int (0 : Int32))]) C dX12_odds_69 (by decide) [1, 2, 3, 4, 5, 0] rfl ?_
        exact r_lv [0, 1, 2, 3, 4, 5] rfl (ih.2.1 _ _ _ _ _ _ _ _ hf)
      · rw [if_neg c1] at hf
        refine r_lload (i := 5) C dX12_odds_54 4 rfl ?_
        refine r_ldc2 C dX12_odds_56 gw_2077 ?_
        refine r_lmul C dX12_odds_59 ?_
        obtain ⟨x2, ex2, hf⟩ := lt_of hf
        refine r_topl ex2 ?_
        refine r_lstore (i := 5) (lv' := [(0, .ref (gad (xG X) 208)), (1, .int y1), (2, .int y2), (3, .long y3), (5, .long x2), (7, .int y7)]) C dX12_odds_60 (by decide) [1, 2, 3, 4, 0, 5] rfl ?_
        obtain ⟨x3, ex3, hf⟩ := lt_of hf
        refine r_iinc (j := 5) (v := x3) (lv' := [(0, .ref (gad (xG X) 208)), (1, .int y1), (2, .int y2), (3, .long y3), (5, .long x2), (7, .int x3)]) C dX12_odds_62 rfl (by rw [ex3]; rfl) (by decide) [1, 2, 3, 4, 5, 0] rfl ?_
        refine r_goto C 48 dX12_odds_65 (by decide) ?_
        exact r_lv [0, 1, 2, 3, 4, 5] rfl (ih.1 _ _ _ _ _ _ _ _ hf)
    · intro h y1 y2 y3 y5 y7 y8 y10 hf
      rw [LX12_odds, if_neg (by decide), if_pos rfl] at hf
      unfold BX12_odds_1 at hf
      refine r_iload (i := 7) C dX12_odds_71 5 rfl ?_
      refine r_iconst (v := 1) C dX12_odds_73 (by decide) ?_
      refine r_iload_n (i := 1) C dX12_odds_74 rfl 1 rfl ?_
      refine r_ishl C dX12_odds_75 ?_
      refine r_icmp_ge C 157 dX12_odds_76 (by decide) (fun c4 => ?_) (fun c4 => ?_)
      · rw [if_pos c4] at hf
        refine r_ldc2 C dX12_odds_157 gw_2078 ?_
        obtain ⟨x5, ex5, hf⟩ := lt_of hf
        refine r_topl ex5 ?_
        refine r_lload_n (i := 3) C dX12_odds_160 rfl 3 rfl ?_
        refine r_lmul C dX12_odds_161 ?_
        refine r_lload (i := 5) C dX12_odds_162 4 rfl ?_
        obtain ⟨g6, hf⟩ := gd_of hf
        refine r_ldiv C dX12_odds_164 g6 ?_
        refine r_l2i C dX12_odds_165 ?_
        cases hf
        exact r_iret C hF dX12_odds_166
      · rw [if_neg c4] at hf
        refine r_iload (i := 7) C dX12_odds_79 5 rfl ?_
        refine r_callSi (As := [.int y7]) (st := []) C (kJ_bitCount (xG X)) cw_X12_356 rfl rfl (Nat.le_of_ble_eq_true rfl) (zr2 hR rfl rfl) (zrcs hcs) dX12_odds_81 ?_
        refine r_iload_n (i := 2) C dX12_odds_84 rfl 2 rfl ?_
        refine r_icmp_ge C 91 dX12_odds_85 (by decide) (fun c7 => ?_) (fun c7 => ?_)
        · rw [if_pos c7] at hf
          refine r_lconst (v := 1) C dX12_odds_91 (by decide) ?_
          refine r_lstore (i := 8) (lv' := [(0, .ref (gad (xG X) 208)), (1, .int y1), (2, .int y2), (3, .long y3), (5, .long y5), (7, .int y7), (8, .long (1 : Int64))]) C dX12_odds_92 (by decide) [1, 2, 3, 4, 5, 6, 0] rfl ?_
          refine r_iconst (v := 0) C dX12_odds_94 (by decide) ?_
          refine r_istore (i := 10) (lv' := [(0, .ref (gad (xG X) 208)), (1, .int y1), (2, .int y2), (3, .long y3), (5, .long y5), (7, .int y7), (8, .long (1 : Int64)), (10, .int (0 : Int32))]) C dX12_odds_95 (by decide) [1, 2, 3, 4, 5, 6, 7, 0] rfl ?_
          exact r_lv [0, 1, 2, 3, 4, 5, 6, 7] rfl (ih.2.2 _ _ _ _ _ _ _ _ hf)
        · rw [if_neg c7] at hf
          refine r_goto C 151 dX12_odds_88 (by decide) ?_
          obtain ⟨x8, ex8, hf⟩ := lt_of hf
          refine r_iinc (j := 5) (v := x8) (lv' := [(0, .ref (gad (xG X) 208)), (1, .int y1), (2, .int y2), (3, .long y3), (5, .long y5), (7, .int x8)]) C dX12_odds_151 rfl (by rw [ex8]; rfl) (by decide) [1, 2, 3, 4, 5, 0] rfl ?_
          refine r_goto C 71 dX12_odds_154 (by decide) ?_
          exact r_lv [0, 1, 2, 3, 4, 5] rfl (ih.2.1 _ _ _ _ _ _ _ _ hf)
    · intro h y1 y2 y3 y5 y7 y8 y10 hf
      rw [LX12_odds, if_neg (by decide), if_neg (by decide), if_pos rfl] at hf
      unfold BX12_odds_2 at hf
      refine r_iload (i := 10) C dX12_odds_97 7 rfl ?_
      refine r_iload_n (i := 1) C dX12_odds_99 rfl 1 rfl ?_
      refine r_icmp_ge C 146 dX12_odds_100 (by decide) (fun c9 => ?_) (fun c9 => ?_)
      · rw [if_pos c9] at hf
        refine r_lload_n (i := 3) C dX12_odds_146 rfl 3 rfl ?_
        refine r_lload (i := 8) C dX12_odds_147 6 rfl ?_
        refine r_ladd C dX12_odds_149 ?_
        obtain ⟨x10, ex10, hf⟩ := lt_of hf
        refine r_topl ex10 ?_
        refine r_lstore_n (i := 3) (lv' := [(0, .ref (gad (xG X) 208)), (1, .int y1), (2, .int y2), (3, .long x10), (5, .long y5), (7, .int y7), (8, .long y8), (10, .int y10)]) C dX12_odds_150 rfl (by decide) [1, 2, 3, 0, 4, 5, 6, 7] rfl ?_
        obtain ⟨x11, ex11, hf⟩ := lt_of hf
        refine r_iinc (j := 5) (v := x11) (lv' := [(0, .ref (gad (xG X) 208)), (1, .int y1), (2, .int y2), (3, .long x10), (5, .long y5), (7, .int x11), (8, .long y8), (10, .int y10)]) C dX12_odds_151 rfl (by rw [ex11]; rfl) (by decide) [1, 2, 3, 4, 5, 0, 6, 7] rfl ?_
        refine r_goto C 71 dX12_odds_154 (by decide) ?_
        exact r_lv [0, 1, 2, 3, 4, 5] rfl (ih.2.1 _ _ _ _ _ _ _ _ hf)
      · rw [if_neg c9] at hf
        refine r_lload (i := 8) C dX12_odds_103 6 rfl ?_
        refine r_iload (i := 7) C dX12_odds_105 5 rfl ?_
        refine r_iload (i := 10) C dX12_odds_107 7 rfl ?_
        refine r_callSi (As := [.int y7, .int y10]) (st := [.long y8]) C (kX12_has (xG X)) cw_X12_69 rfl rfl (Nat.le_of_ble_eq_true rfl) (zr2 hR rfl rfl) (zrcs hcs) dX12_odds_109 ?_
        refine r_if_eq C 126 dX12_odds_112 (by decide) (fun c12 => ?_) (fun c12 => ?_)
        · rw [if_pos c12] at hf
          refine r_bipush (v := 100) C dX12_odds_126 (by decide) ?_
          refine r_aload_n (i := 0) C dX12_odds_128 rfl 0 rfl ?_
          refine g_X12_13 C dX12_odds_129 ?_
          refine r_bipush (v := 8) C dX12_odds_132 (by decide) ?_
          refine r_ialdc C 209 (m := 8) rfl (by decide) (by decide) (show inb 8 2031 by decide) dX12_odds_134 ?_
          refine r_isub C dX12_odds_135 ?_
          refine r_i2l C dX12_odds_136 ?_
          refine r_lmul C dX12_odds_137 ?_
          obtain ⟨x13, ex13, hf⟩ := lt_of hf
          refine r_topl ex13 ?_
          refine r_lstore (i := 8) (lv' := [(0, .ref (gad (xG X) 208)), (1, .int y1), (2, .int y2), (3, .long y3), (5, .long y5), (7, .int y7), (8, .long x13), (10, .int y10)]) C dX12_odds_138 (by decide) [1, 2, 3, 4, 5, 6, 0, 7] rfl ?_
          obtain ⟨x14, ex14, hf⟩ := lt_of hf
          refine r_iinc (j := 7) (v := x14) (lv' := [(0, .ref (gad (xG X) 208)), (1, .int y1), (2, .int y2), (3, .long y3), (5, .long y5), (7, .int y7), (8, .long x13), (10, .int x14)]) C dX12_odds_140 rfl (by rw [ex14]; rfl) (by decide) [1, 2, 3, 4, 5, 6, 7, 0] rfl ?_
          refine r_goto C 97 dX12_odds_143 (by decide) ?_
          exact r_lv [0, 1, 2, 3, 4, 5, 6, 7] rfl (ih.2.2 _ _ _ _ _ _ _ _ hf)
        · rw [if_neg c12] at hf
          refine r_aload_n (i := 0) C dX12_odds_115 rfl 0 rfl ?_
          refine g_X12_13 C dX12_odds_116 ?_
          refine r_bipush (v := 8) C dX12_odds_119 (by decide) ?_
          refine r_ialdc C 209 (m := 8) rfl (by decide) (by decide) (show inb 8 2031 by decide) dX12_odds_121 ?_
          refine r_i2l C dX12_odds_122 ?_
          refine r_goto C 137 dX12_odds_123 (by decide) ?_
          refine r_lmul C dX12_odds_137 ?_
          obtain ⟨x15, ex15, hf⟩ := lt_of hf
          refine r_topl ex15 ?_
          refine r_lstore (i := 8) (lv' := [(0, .ref (gad (xG X) 208)), (1, .int y1), (2, .int y2), (3, .long y3), (5, .long y5), (7, .int y7), (8, .long x15), (10, .int y10)]) C dX12_odds_138 (by decide) [1, 2, 3, 4, 5, 6, 0, 7] rfl ?_
          obtain ⟨x16, ex16, hf⟩ := lt_of hf
          refine r_iinc (j := 7) (v := x16) (lv' := [(0, .ref (gad (xG X) 208)), (1, .int y1), (2, .int y2), (3, .long y3), (5, .long y5), (7, .int y7), (8, .long x15), (10, .int x16)]) C dX12_odds_140 rfl (by rw [ex16]; rfl) (by decide) [1, 2, 3, 4, 5, 6, 7, 0] rfl ?_
          refine r_goto C 97 dX12_odds_143 (by decide) ?_
          exact r_lv [0, 1, 2, 3, 4, 5, 6, 7] rfl (ih.2.2 _ _ _ _ _ _ _ _ hf)
set_option maxHeartbeats 4000000 in
set_option maxRecDepth 100000 in
theorem kX12_odds (G : Gx)  {h : Hp} {a1 : Int32} {a2 : Int32} {rr : Int32} {hh : Hp} (hf : fX12_odds h a1 a2 = some (rr, hh)) : MC G yX12_odds cX12_odds 11 (some .int) 2 128 h [.ref (gad G 208), .int a1, .int a2] (some (.int rr)) hh := by
  refine MC.of RX12 (by decide) rfl (Nat.le_of_ble_eq_true rfl) rfl (fun X C hG hR hF => ?_)
  subst hG
  have hcs : True := trivial
  unfold fX12_odds at hf
  refine r_aload_n (i := 0) C dX12_odds_0 rfl 0 rfl ?_
  refine r_iconst (v := 0) C dX12_odds_1 (by decide) ?_
  obtain ⟨h17, eh17, hf⟩ := lt_of hf
  refine p_X12_3 C eh17 dX12_odds_2 ?_
  refine r_aload_n (i := 0) C dX12_odds_5 rfl 0 rfl ?_
  refine r_iload_n (i := 1) C dX12_odds_6 rfl 1 rfl ?_
  refine r_iconst (v := 0) C dX12_odds_7 (by decide) ?_
  refine r_bipush (v := 6) C dX12_odds_8 (by decide) ?_
  refine r_callSi (As := [.int a1, .int (0 : Int32), .int (6 : Int32)]) (st := [.ref (gad (xG X) 208)]) C (kX12_in (xG X)) cw_X12_76 rfl rfl (Nat.le_of_ble_eq_true rfl) (zr2 hR rfl rfl) (zrcs hcs) dX12_odds_10 ?_
  obtain ⟨v18, r20, hf⟩ := cl_of hf
  have k19 : VW X 11 h17 0 0 31 [(0, .ref (gad (xG X) 208)), (1, .int a1), (2, .int a2)] [.int v18, .ref (gad (xG X) 208)] := by
    refine r_iconst (v := 1) C dX12_odds_31 (by decide) ?_
    obtain ⟨x29, h27, e28, hf⟩ := cl2_of hf
    refine r_callVi (As := [.int v18, .int (1 : Int32)]) (st := []) C 208 rfl (by decide) rfl (kX12_throwsIf (xG X) e28) cw_X12_247 rfl rfl (Nat.le_of_ble_eq_true rfl) (zr2 hR rfl rfl) (zrcs hcs) dX12_odds_32 ?_
    refine r_if_eq C 40 dX12_odds_35 (by decide) (fun c30 => ?_) (fun c30 => ?_)
    · rw [if_pos c30] at hf
      refine r_lconst (v := 0) C dX12_odds_40 (by decide) ?_
      refine r_lstore_n (i := 3) (lv' := [(0, .ref (gad (xG X) 208)), (1, .int a1), (2, .int a2), (3, .long (0 : Int64))]) C dX12_odds_41 rfl (by decide) [1, 2, 3, 0] rfl ?_
      refine r_lconst (v := 1) C dX12_odds_42 (by decide) ?_
      refine r_lstore (i := 5) (lv' := [(0, .ref (gad (xG X) 208)), (1, .int a1), (2, .int a2), (3, .long (0 : Int64)), (5, .long (1 : Int64))]) C dX12_odds_43 (by decide) [1, 2, 3, 4, 0] rfl ?_
      refine r_iconst (v := 0) C dX12_odds_45 (by decide) ?_
      refine r_istore (i := 7) (lv' := [(0, .ref (gad (xG X) 208)), (1, .int a1), (2, .int a2), (3, .long (0 : Int64)), (5, .long (1 : Int64)), (7, .int (0 : Int32))]) C dX12_odds_46 (by decide) [1, 2, 3, 4, 5, 0] rfl ?_
      exact r_lv [0, 1, 2, 3, 4, 5] rfl ((wX12_odds  C hR hcs hF big).1 _ _ _ _ _ _ _ _ hf)
    · rw [if_neg c30] at hf
      refine r_iconst (v := 0) C dX12_odds_38 (by decide) ?_
      cases hf
      exact r_iret C hF dX12_odds_39
  clear hf
  have hf := r20
  obtain ⟨q21, r24, hf⟩ := cl_of hf
  have k22 : q21 = true → VW X 11 h17 0 0 26 [(0, .ref (gad (xG X) 208)), (1, .int a1), (2, .int a2)] [.ref (gad (xG X) 208)] := fun qq => by
    rw [if_pos qq] at hf
    refine r_iconst (v := 1) C dX12_odds_26 (by decide) ?_
    refine r_goto C 31 dX12_odds_27 (by decide) ?_
    cases hf
    exact k19
  have k23 : q21 = false → VW X 11 h17 0 0 30 [(0, .ref (gad (xG X) 208)), (1, .int a1), (2, .int a2)] [.ref (gad (xG X) 208)] := fun qq => by
    rw [if_neg (by rw [qq]; decide)] at hf
    refine r_iconst (v := 0) C dX12_odds_30 (by decide) ?_
    cases hf
    exact k19
  clear hf
  have hf := r24
  refine r_if_eq C 26 dX12_odds_13 (by decide) (fun c25 => ?_) (fun c25 => ?_)
  · rw [if_pos c25] at hf
    exact k22 (Option.some.inj hf).symm
  · rw [if_neg c25] at hf
    refine r_iload_n (i := 2) C dX12_odds_16 rfl 2 rfl ?_
    refine r_iconst (v := 0) C dX12_odds_17 (by decide) ?_
    refine r_bipush (v := 6) C dX12_odds_18 (by decide) ?_
    refine r_callSi (As := [.int a2, .int (0 : Int32), .int (6 : Int32)]) (st := [.ref (gad (xG X) 208)]) C (kX12_in (xG X)) cw_X12_76 rfl rfl (Nat.le_of_ble_eq_true rfl) (zr2 hR rfl rfl) (zrcs hcs) dX12_odds_20 ?_
    refine r_if_ne C 30 dX12_odds_23 (by decide) (fun c26 => ?_) (fun c26 => ?_)
    · rw [if_neg c26] at hf
      exact k23 (Option.some.inj hf).symm
    · rw [if_pos c26] at hf
      exact k22 (Option.some.inj hf).symm
def BX12_trial_0  (rec : Hp → Int32 → Int32 → Int32 → Option (Int32 × Hp)) (h : Hp) (y1 : Int32) (y2 : Int32) (y3 : Int32) : Option (Int32 × Hp) := (if y1 ≤ y3 then cl2 ((if y2 = (0 : Int32) then some (((h 209 10) - (h 212 10)), h) else cl2 (fX12_standingNow h) (fun x9 h7 => some ((fJ_bitCount x9), h7))) : Option (Int32 × Hp)) (fun v2 h3 => cl9 (fX12_bringsBack h3) (fun h10 => some (v2, h10))) else cl9 (fX12_oneDay h (0 : Int32)) (fun h12 => lt9 (y3 + (1 : Int32)) (fun x14 => rec h12 y1 y2 x14)))
def LX12_trial  : Nat → Hp → Int32 → Int32 → Int32 → Option (Int32 × Hp)
  | 0, _, _, _, _ => none
  | n + 1, h, y1, y2, y3 => BX12_trial_0  (LX12_trial  n) h y1 y2 y3
def fX12_trial (h : Hp) (a1 : Int32) (a2 : Int32) : Option (Int32 × Hp) := lt9 (up2 h 208 0 (0 : Int32)) (fun h15 => cl9 ((if (fX12_in a1 (0 : Int32) (60 : Int32)) = (0 : Int32) then some (1 : Int32) else some (0 : Int32)) : Option (Int32)) (fun v16 => cl2 (fX12_throwsIf h15 v16 (1 : Int32)) (fun x22 h20 => (if x22 = (0 : Int32) then cl9 (fX12_keepsAll h20) (fun h24 => LX12_trial big h24 a1 a2 (0 : Int32)) else some ((0 : Int32), h20)))))
set_option maxHeartbeats 4000000 in
set_option maxRecDepth 100000 in
theorem wX12_trial {X : Cx}  {rr : Int32} {hh : Hp} (C : OK X cX12_trial 4 RX12 (some .int)) (hR : xR X = { frames := 13, cells := 0, slots := 0, locals := 832 }) (hcs : True) (hF : FinR X (some (.int rr)) hh) : ∀ n : Nat, (∀ (h : Hp) (y1 : Int32) (y2 : Int32) (y3 : Int32), LX12_trial  n h y1 y2 y3 = some (rr, hh) → VW X 4 h 0 0 36 [(0, .ref (gad (xG X) 208)), (1, .int y1), (2, .int y2), (3, .int y3)] []) := by
  intro n
  induction n with
  | zero => exact (fun _ _ _ _ hf => (by rw [LX12_trial] at hf; cases hf))
  | succ n ih =>
    intro h y1 y2 y3 hf
    rw [LX12_trial] at hf
    unfold BX12_trial_0 at hf
    refine r_iload_n (i := 3) C dX12_trial_36 rfl 3 rfl ?_
    refine r_iload_n (i := 1) C dX12_trial_37 rfl 1 rfl ?_
    refine r_icmp_ge C 52 dX12_trial_38 (by decide) (fun c1 => ?_) (fun c1 => ?_)
    · rw [if_pos c1] at hf
      refine r_iload_n (i := 2) C dX12_trial_52 rfl 2 rfl ?_
      obtain ⟨v2, h3, r5, hf⟩ := cl2_of hf
      have k4 : VW X 4 h3 0 0 81 [(0, .ref (gad (xG X) 208))] [.int v2] := by
        refine r_istore_n (i := 3) (lv' := [(0, .ref (gad (xG X) 208)), (3, .int v2)]) C dX12_trial_81 rfl (by decide) [1, 0] rfl ?_
        refine r_aload_n (i := 0) C dX12_trial_82 rfl 0 rfl ?_
        obtain ⟨h10, e11, hf⟩ := cl_of hf
        refine r_callVv (As := []) (st := []) C 208 rfl (by decide) rfl (kX12_bringsBack (xG X) e11) cw_X12_353 rfl rfl (Nat.le_of_ble_eq_true rfl) (zr2 hR rfl rfl) (zrcs hcs) dX12_trial_83 ?_
        refine r_iload_n (i := 3) C dX12_trial_86 rfl 1 rfl ?_
        cases hf
        exact r_iret C hF dX12_trial_87
      clear hf
      have hf := r5
      refine r_if_eq C 66 dX12_trial_53 (by decide) (fun c6 => ?_) (fun c6 => ?_)
      · rw [if_pos c6] at hf
        refine r_aload_n (i := 0) C dX12_trial_66 rfl 0 rfl ?_
        refine g_X12_13 C dX12_trial_67 ?_
        refine r_bipush (v := 10) C dX12_trial_70 (by decide) ?_
        refine r_ialdc C 209 (m := 10) rfl (by decide) (by decide) (show inb 10 2031 by decide) dX12_trial_72 ?_
        refine r_aload_n (i := 0) C dX12_trial_73 rfl 0 rfl ?_
        refine g_X12_23 C dX12_trial_74 ?_
        refine r_bipush (v := 10) C dX12_trial_77 (by decide) ?_
        refine r_ialdc C 212 (m := 10) rfl (by decide) (by decide) (show inb 10 333 by decide) dX12_trial_79 ?_
        refine r_isub C dX12_trial_80 ?_
        cases hf
        exact r_lv [0] rfl k4
      · rw [if_neg c6] at hf
        refine r_aload_n (i := 0) C dX12_trial_56 rfl 0 rfl ?_
        obtain ⟨x9, h7, e8, hf⟩ := cl2_of hf
        refine r_callVi (As := []) (st := []) C 208 rfl (by decide) rfl (kX12_standingNow (xG X) e8) cw_X12_320 rfl rfl (Nat.le_of_ble_eq_true rfl) (zr2 hR rfl rfl) (zrcs hcs) dX12_trial_57 ?_
        refine r_callSi (As := [.int x9]) (st := []) C (kJ_bitCount (xG X)) cw_X12_356 rfl rfl (Nat.le_of_ble_eq_true rfl) (zr2 hR rfl rfl) (zrcs hcs) dX12_trial_60 ?_
        refine r_goto C 81 dX12_trial_63 (by decide) ?_
        cases hf
        exact r_lv [0] rfl k4
    · rw [if_neg c1] at hf
      refine r_aload_n (i := 0) C dX12_trial_41 rfl 0 rfl ?_
      refine r_iconst (v := 0) C dX12_trial_42 (by decide) ?_
      obtain ⟨h12, e13, hf⟩ := cl_of hf
      refine r_callVv (As := [.int (0 : Int32)]) (st := []) C 208 rfl (by decide) rfl (kX12_oneDay (xG X) e13) cw_X12_346 rfl rfl (Nat.le_of_ble_eq_true rfl) (zr2 hR rfl rfl) (zrcs hcs) dX12_trial_43 ?_
      obtain ⟨x14, ex14, hf⟩ := lt_of hf
      refine r_iinc (j := 3) (v := x14) (lv' := [(0, .ref (gad (xG X) 208)), (1, .int y1), (2, .int y2), (3, .int x14)]) C dX12_trial_46 rfl (by rw [ex14]; rfl) (by decide) [1, 2, 3, 0] rfl ?_
      refine r_goto C 36 dX12_trial_49 (by decide) ?_
      exact r_lv [0, 1, 2, 3] rfl (ih _ _ _ _ hf)
set_option maxHeartbeats 4000000 in
set_option maxRecDepth 100000 in
theorem kX12_trial (G : Gx)  {h : Hp} {a1 : Int32} {a2 : Int32} {rr : Int32} {hh : Hp} (hf : fX12_trial h a1 a2 = some (rr, hh)) : MC G yX12_trial cX12_trial 4 (some .int) 13 832 h [.ref (gad G 208), .int a1, .int a2] (some (.int rr)) hh := by
  refine MC.of RX12 (by decide) rfl (Nat.le_of_ble_eq_true rfl) rfl (fun X C hG hR hF => ?_)
  subst hG
  have hcs : True := trivial
  unfold fX12_trial at hf
  refine r_aload_n (i := 0) C dX12_trial_0 rfl 0 rfl ?_
  refine r_iconst (v := 0) C dX12_trial_1 (by decide) ?_
  obtain ⟨h15, eh15, hf⟩ := lt_of hf
  refine p_X12_3 C eh15 dX12_trial_2 ?_
  refine r_aload_n (i := 0) C dX12_trial_5 rfl 0 rfl ?_
  refine r_iload_n (i := 1) C dX12_trial_6 rfl 1 rfl ?_
  refine r_iconst (v := 0) C dX12_trial_7 (by decide) ?_
  refine r_bipush (v := 60) C dX12_trial_8 (by decide) ?_
  refine r_callSi (As := [.int a1, .int (0 : Int32), .int (60 : Int32)]) (st := [.ref (gad (xG X) 208)]) C (kX12_in (xG X)) cw_X12_76 rfl rfl (Nat.le_of_ble_eq_true rfl) (zr2 hR rfl rfl) (zrcs hcs) dX12_trial_10 ?_
  obtain ⟨v16, r18, hf⟩ := cl_of hf
  have k17 : VW X 4 h15 0 0 21 [(0, .ref (gad (xG X) 208)), (1, .int a1), (2, .int a2)] [.int v16, .ref (gad (xG X) 208)] := by
    refine r_iconst (v := 1) C dX12_trial_21 (by decide) ?_
    obtain ⟨x22, h20, e21, hf⟩ := cl2_of hf
    refine r_callVi (As := [.int v16, .int (1 : Int32)]) (st := []) C 208 rfl (by decide) rfl (kX12_throwsIf (xG X) e21) cw_X12_247 rfl rfl (Nat.le_of_ble_eq_true rfl) (zr2 hR rfl rfl) (zrcs hcs) dX12_trial_22 ?_
    refine r_if_eq C 30 dX12_trial_25 (by decide) (fun c23 => ?_) (fun c23 => ?_)
    · rw [if_pos c23] at hf
      refine r_aload_n (i := 0) C dX12_trial_30 rfl 0 rfl ?_
      obtain ⟨h24, e25, hf⟩ := cl_of hf
      refine r_callVv (As := []) (st := []) C 208 rfl (by decide) rfl (kX12_keepsAll (xG X) e25) cw_X12_343 rfl rfl (Nat.le_of_ble_eq_true rfl) (zr2 hR rfl rfl) (zrcs hcs) dX12_trial_31 ?_
      refine r_iconst (v := 0) C dX12_trial_34 (by decide) ?_
      refine r_istore_n (i := 3) (lv' := [(0, .ref (gad (xG X) 208)), (1, .int a1), (2, .int a2), (3, .int (0 : Int32))]) C dX12_trial_35 rfl (by decide) [1, 2, 3, 0] rfl ?_
      exact r_lv [0, 1, 2, 3] rfl ((wX12_trial  C hR hcs hF big) _ _ _ _ hf)
    · rw [if_neg c23] at hf
      refine r_iconst (v := 0) C dX12_trial_28 (by decide) ?_
      cases hf
      exact r_iret C hF dX12_trial_29
  clear hf
  have hf := r18
  refine r_if_ne C 20 dX12_trial_13 (by decide) (fun c19 => ?_) (fun c19 => ?_)
  · rw [if_neg c19] at hf
    refine r_iconst (v := 0) C dX12_trial_20 (by decide) ?_
    cases hf
    exact k17
  · rw [if_pos c19] at hf
    refine r_iconst (v := 1) C dX12_trial_16 (by decide) ?_
    refine r_goto C 21 dX12_trial_17 (by decide) ?_
    cases hf
    exact k17
def fX1_blow (h : Hp) (b : Nat) : Option (Hp) := cl2 (fX7_draw h b) (fun x3 h1 => (if (h1 b 10) ≤ (irem x3 (100 : Int32)) then some h1 else cl2 (fX7_draw h1 b) (fun x7 h5 => lt9 (irem x7 (16 : Int32)) (fun x8 => cl9 (fX7_losePins h5 b ((h5 b 5) &&& ((1 : Int32) <<< (x8 &&& 31)))) (fun h9 => some h9)))))
set_option maxHeartbeats 4000000 in
set_option maxRecDepth 100000 in
theorem kX1_blow (G : Gx) {b : Nat} (hb : isSky b) {h : Hp}  {hh : Hp} (hf : fX1_blow h b = some hh) : MC G yX1_blow cX1_blow 2 none 4 256 h [.ref (gad G b)] none hh := by
  refine MC.of RX1 (by decide) rfl (Nat.le_of_ble_eq_true rfl) rfl (fun X C hG hR hF => ?_)
  subst hG
  have hcs : True := trivial
  unfold fX1_blow at hf
  refine r_aload_n (i := 0) C dX1_blow_0 rfl 0 rfl ?_
  obtain ⟨x3, h1, e2, hf⟩ := cl2_of hf
  refine r_callNVi (As := []) (st := []) C b (sky_d0 hb) (sky_l0 hb) rfl (kX7_draw (xG X) hb e2) cw_X1_125 rfl rfl (Nat.le_of_ble_eq_true rfl) (zr2 hR rfl rfl) (zrcs hcs) dX1_blow_1 ?_
  refine r_bipush (v := 100) C dX1_blow_4 (by decide) ?_
  refine r_irem C dX1_blow_6 (by decide) ?_
  refine r_aload_n (i := 0) C dX1_blow_7 rfl 0 rfl ?_
  refine g_X1_129 hb C dX1_blow_8 ?_
  refine r_icmp_ge C 34 dX1_blow_11 (by decide) (fun c4 => ?_) (fun c4 => ?_)
  · rw [if_pos c4] at hf
    cases hf
    exact r_vret C hF dX1_blow_34
  · rw [if_neg c4] at hf
    refine r_aload_n (i := 0) C dX1_blow_14 rfl 0 rfl ?_
    obtain ⟨x7, h5, e6, hf⟩ := cl2_of hf
    refine r_callNVi (As := []) (st := []) C b (sky_d0 hb) (sky_l0 hb) rfl (kX7_draw (xG X) hb e6) cw_X1_125 rfl rfl (Nat.le_of_ble_eq_true rfl) (zr2 hR rfl rfl) (zrcs hcs) dX1_blow_15 ?_
    refine r_bipush (v := 16) C dX1_blow_18 (by decide) ?_
    refine r_irem C dX1_blow_20 (by decide) ?_
    obtain ⟨x8, ex8, hf⟩ := lt_of hf
    refine r_top ex8 ?_
    refine r_istore_n (i := 1) (lv' := [(0, .ref (gad (xG X) b)), (1, .int x8)]) C dX1_blow_21 rfl (by decide) [1, 0] rfl ?_
    refine r_aload_n (i := 0) C dX1_blow_22 rfl 0 rfl ?_
    refine r_aload_n (i := 0) C dX1_blow_23 rfl 0 rfl ?_
    refine g_X1_30 hb C dX1_blow_24 ?_
    refine r_iconst (v := 1) C dX1_blow_27 (by decide) ?_
    refine r_iload_n (i := 1) C dX1_blow_28 rfl 1 rfl ?_
    refine r_ishl C dX1_blow_29 ?_
    refine r_iand C dX1_blow_30 ?_
    obtain ⟨h9, e10, hf⟩ := cl_of hf
    refine r_callNVv (As := [.int ((h5 b 5) &&& ((1 : Int32) <<< (x8 &&& 31)))]) (st := []) C b (sky_d0 hb) (sky_l0 hb) rfl (kX7_losePins (xG X) hb e10) cw_X1_118 rfl rfl (Nat.le_of_ble_eq_true rfl) (zr2 hR rfl rfl) (zrcs hcs) dX1_blow_31 ?_
    cases hf
    exact r_vret C hF dX1_blow_34
def fX1_gnaw (h : Hp) (b : Nat) : Option (Hp) := cl2 (fX7_draw h b) (fun x3 h1 => (if (h1 b 11) ≤ (irem x3 (100 : Int32)) then some h1 else cl2 (fX7_draw h1 b) (fun x7 h5 => lt9 (irem x7 (16 : Int32)) (fun x8 => (if (fX7_hasPin h5 b x8) = (0 : Int32) then some h5 else cl9 (fX7_rustMore h5 b x8 (20 : Int32)) (fun h10 => some h10))))))
set_option maxHeartbeats 4000000 in
set_option maxRecDepth 100000 in
theorem kX1_gnaw (G : Gx) {b : Nat} (hb : isSky b) {h : Hp}  {hh : Hp} (hf : fX1_gnaw h b = some hh) : MC G yX1_gnaw cX1_gnaw 2 none 3 192 h [.ref (gad G b)] none hh := by
  refine MC.of RX1 (by decide) rfl (Nat.le_of_ble_eq_true rfl) rfl (fun X C hG hR hF => ?_)
  subst hG
  have hcs : True := trivial
  unfold fX1_gnaw at hf
  refine r_aload_n (i := 0) C dX1_gnaw_0 rfl 0 rfl ?_
  obtain ⟨x3, h1, e2, hf⟩ := cl2_of hf
  refine r_callNVi (As := []) (st := []) C b (sky_d0 hb) (sky_l0 hb) rfl (kX7_draw (xG X) hb e2) cw_X1_125 rfl rfl (Nat.le_of_ble_eq_true rfl) (zr2 hR rfl rfl) (zrcs hcs) dX1_gnaw_1 ?_
  refine r_bipush (v := 100) C dX1_gnaw_4 (by decide) ?_
  refine r_irem C dX1_gnaw_6 (by decide) ?_
  refine r_aload_n (i := 0) C dX1_gnaw_7 rfl 0 rfl ?_
  refine g_X1_132 hb C dX1_gnaw_8 ?_
  refine r_icmp_ge C 37 dX1_gnaw_11 (by decide) (fun c4 => ?_) (fun c4 => ?_)
  · rw [if_pos c4] at hf
    cases hf
    exact r_vret C hF dX1_gnaw_37
  · rw [if_neg c4] at hf
    refine r_aload_n (i := 0) C dX1_gnaw_14 rfl 0 rfl ?_
    obtain ⟨x7, h5, e6, hf⟩ := cl2_of hf
    refine r_callNVi (As := []) (st := []) C b (sky_d0 hb) (sky_l0 hb) rfl (kX7_draw (xG X) hb e6) cw_X1_125 rfl rfl (Nat.le_of_ble_eq_true rfl) (zr2 hR rfl rfl) (zrcs hcs) dX1_gnaw_15 ?_
    refine r_bipush (v := 16) C dX1_gnaw_18 (by decide) ?_
    refine r_irem C dX1_gnaw_20 (by decide) ?_
    obtain ⟨x8, ex8, hf⟩ := lt_of hf
    refine r_top ex8 ?_
    refine r_istore_n (i := 1) (lv' := [(0, .ref (gad (xG X) b)), (1, .int x8)]) C dX1_gnaw_21 rfl (by decide) [1, 0] rfl ?_
    refine r_aload_n (i := 0) C dX1_gnaw_22 rfl 0 rfl ?_
    refine r_iload_n (i := 1) C dX1_gnaw_23 rfl 1 rfl ?_
    refine r_callNVi (As := [.int x8]) (st := []) C b (sky_d0 hb) (sky_l0 hb) rfl (kX7_hasPin (xG X) hb) cw_X1_38 rfl rfl (Nat.le_of_ble_eq_true rfl) (zr2 hR rfl rfl) (zrcs hcs) dX1_gnaw_24 ?_
    refine r_if_eq C 37 dX1_gnaw_27 (by decide) (fun c9 => ?_) (fun c9 => ?_)
    · rw [if_pos c9] at hf
      cases hf
      exact r_vret C hF dX1_gnaw_37
    · rw [if_neg c9] at hf
      refine r_aload_n (i := 0) C dX1_gnaw_30 rfl 0 rfl ?_
      refine r_iload_n (i := 1) C dX1_gnaw_31 rfl 1 rfl ?_
      refine r_bipush (v := 20) C dX1_gnaw_32 (by decide) ?_
      obtain ⟨h10, e11, hf⟩ := cl_of hf
      refine r_callNVv (As := [.int x8, .int (20 : Int32)]) (st := []) C b (sky_d0 hb) (sky_l0 hb) rfl (kX7_rustMore (xG X) hb e11) cw_X1_107 rfl rfl (Nat.le_of_ble_eq_true rfl) (zr2 hR rfl rfl) (zrcs hcs) dX1_gnaw_34 ?_
      cases hf
      exact r_vret C hF dX1_gnaw_37
def BX2_total_0 (h : Hp) (b : Nat) (b2 : Nat) (rec : Int32 → Int32 → Int32 → Int32 → Int32 → Int32 → Option (Int32)) (y1 : Int32) (y3 : Int32) (y4 : Int32) (y5 : Int32) (y6 : Int32) (y7 : Int32) : Option (Int32) := (if (h b 0) ≤ y7 then some y6 else gd (inb y7 12) (cl9 ((if (h (b + 1) y7.toNatClampNeg) = y1 then cl9 (fX2_lineHolds h b b2 y7 y3 y4 y5) (fun x8 => (if x8 = (0 : Int32) then some false else some true)) else some false) : Option Bool) (fun q3 => if q3 = true then gd (inb y7 12) (lt9 (y6 + (h (b + 2) y7.toNatClampNeg)) (fun x12 => lt9 (y7 + (1 : Int32)) (fun x13 => rec y1 y3 y4 y5 x12 x13))) else lt9 (y7 + (1 : Int32)) (fun x14 => rec y1 y3 y4 y5 y6 x14))))
def LX2_total (h : Hp) (b : Nat) (b2 : Nat) : Nat → Int32 → Int32 → Int32 → Int32 → Int32 → Int32 → Option (Int32)
  | 0, _, _, _, _, _, _ => none
  | n + 1, y1, y3, y4, y5, y6, y7 => BX2_total_0 h b b2 (LX2_total h b b2 n) y1 y3 y4 y5 y6 y7
def fX2_total (h : Hp) (b : Nat) (b2 : Nat) (a1 : Int32) (a2 : Int32) (a3 : Int32) (a4 : Int32) : Option (Int32) := LX2_total h b b2 big a1 a2 a3 a4 (0 : Int32) (0 : Int32)
set_option maxHeartbeats 4000000 in
set_option maxRecDepth 100000 in
theorem wX2_total {X : Cx} {h : Hp} {b : Nat} (hb : isLaw b) {b2 : Nat} (hb2 : isSky b2) {rr : Int32} (C : OK X cX2_total 8 RX2 (some .int)) (hR : xR X = { frames := 3, cells := 0, slots := 0, locals := 192 }) (hcs : True) (hF : FinR X (some (.int rr)) h) : ∀ n : Nat, (∀ (y1 : Int32) (y3 : Int32) (y4 : Int32) (y5 : Int32) (y6 : Int32) (y7 : Int32), LX2_total h b b2 n y1 y3 y4 y5 y6 y7 = some rr → VW X 8 h 0 0 6 [(0, .ref (gad (xG X) b)), (1, .int y1), (2, .ref (gad (xG X) b2)), (3, .int y3), (4, .int y4), (5, .int y5), (6, .int y6), (7, .int y7)] []) := by
  intro n
  induction n with
  | zero => exact (fun _ _ _ _ _ _ hf => (by rw [LX2_total] at hf; cases hf))
  | succ n ih =>
    intro y1 y3 y4 y5 y6 y7 hf
    rw [LX2_total] at hf
    unfold BX2_total_0 at hf
    refine r_iload (i := 7) C dX2_total_6 7 rfl ?_
    refine r_aload_n (i := 0) C dX2_total_8 rfl 0 rfl ?_
    refine g_X2_9 hb C dX2_total_9 ?_
    refine r_icmp_ge C 59 dX2_total_12 (by decide) (fun c1 => ?_) (fun c1 => ?_)
    · rw [if_pos c1] at hf
      refine r_iload (i := 6) C dX2_total_59 6 rfl ?_
      cases hf
      exact r_iret C hF dX2_total_61
    · rw [if_neg c1] at hf
      refine r_aload_n (i := 0) C dX2_total_15 rfl 0 rfl ?_
      refine g_X2_15 hb C dX2_total_16 ?_
      refine r_iload (i := 7) C dX2_total_19 7 rfl ?_
      obtain ⟨g2, hf⟩ := gd_of hf
      refine r_iald C (b + 1) (law_dsc hb 1 (by decide)) (law_lt hb 1 (by decide)) g2 dX2_total_21 ?_
      refine r_iload_n (i := 1) C dX2_total_22 rfl 1 rfl ?_
      obtain ⟨q3, r6, hf⟩ := cl_of hf
      have k4 : q3 = true → VW X 8 h 0 0 41 [(0, .ref (gad (xG X) b)), (1, .int y1), (2, .ref (gad (xG X) b2)), (3, .int y3), (4, .int y4), (5, .int y5), (6, .int y6), (7, .int y7)] [] := fun qq => by
        rw [if_pos qq] at hf
        refine r_iload (i := 6) C dX2_total_41 6 rfl ?_
        refine r_aload_n (i := 0) C dX2_total_43 rfl 0 rfl ?_
        refine g_X2_19 hb C dX2_total_44 ?_
        refine r_iload (i := 7) C dX2_total_47 7 rfl ?_
        obtain ⟨g11, hf⟩ := gd_of hf
        refine r_iald C (b + 2) (law_dsc hb 2 (by decide)) (law_lt hb 2 (by decide)) g11 dX2_total_49 ?_
        refine r_iadd C dX2_total_50 ?_
        obtain ⟨x12, ex12, hf⟩ := lt_of hf
        refine r_top ex12 ?_
        refine r_istore (i := 6) (lv' := [(0, .ref (gad (xG X) b)), (1, .int y1), (2, .ref (gad (xG X) b2)), (3, .int y3), (4, .int y4), (5, .int y5), (6, .int x12), (7, .int y7)]) C dX2_total_51 (by decide) [1, 2, 3, 4, 5, 6, 0, 7] rfl ?_
        obtain ⟨x13, ex13, hf⟩ := lt_of hf
        refine r_iinc (j := 7) (v := x13) (lv' := [(0, .ref (gad (xG X) b)), (1, .int y1), (2, .ref (gad (xG X) b2)), (3, .int y3), (4, .int y4), (5, .int y5), (6, .int x12), (7, .int x13)]) C dX2_total_53 rfl (by rw [ex13]; rfl) (by decide) [1, 2, 3, 4, 5, 6, 7, 0] rfl ?_
        refine r_goto C 6 dX2_total_56 (by decide) ?_
        exact r_lv [0, 1, 2, 3, 4, 5, 6, 7] rfl (ih _ _ _ _ _ _ hf)
      have k5 : q3 = false → VW X 8 h 0 0 53 [(0, .ref (gad (xG X) b)), (1, .int y1), (2, .ref (gad (xG X) b2)), (3, .int y3), (4, .int y4), (5, .int y5), (6, .int y6), (7, .int y7)] [] := fun qq => by
        rw [if_neg (by rw [qq]; decide)] at hf
        obtain ⟨x14, ex14, hf⟩ := lt_of hf
        refine r_iinc (j := 7) (v := x14) (lv' := [(0, .ref (gad (xG X) b)), (1, .int y1), (2, .ref (gad (xG X) b2)), (3, .int y3), (4, .int y4), (5, .int y5), (6, .int y6), (7, .int x14)]) C dX2_total_53 rfl (by rw [ex14]; rfl) (by decide) [1, 2, 3, 4, 5, 6, 7, 0] rfl ?_
        refine r_goto C 6 dX2_total_56 (by decide) ?_
        exact r_lv [0, 1, 2, 3, 4, 5, 6, 7] rfl (ih _ _ _ _ _ _ hf)
      clear hf
      have hf := r6
      refine r_icmp_ne C 53 dX2_total_23 (by decide) (fun c7 => ?_) (fun c7 => ?_)
      · rw [if_neg c7] at hf
        exact k5 (Option.some.inj hf).symm
      · rw [if_pos c7] at hf
        refine r_aload_n (i := 0) C dX2_total_26 rfl 0 rfl ?_
        refine r_iload (i := 7) C dX2_total_27 7 rfl ?_
        refine r_aload_n (i := 2) C dX2_total_29 rfl 2 rfl ?_
        refine r_iload_n (i := 3) C dX2_total_30 rfl 3 rfl ?_
        refine r_iload (i := 4) C dX2_total_31 4 rfl ?_
        refine r_iload (i := 5) C dX2_total_33 5 rfl ?_
        obtain ⟨x8, e9, hf⟩ := cl_of hf
        refine r_callVi (As := [.int y7, .ref (gad (xG X) b2), .int y3, .int y4, .int y5]) (st := []) C b (law_d0 hb) (law_l0 hb) rfl (kX2_lineHolds (xG X) hb hb2 e9) cw_X2_39 rfl rfl (Nat.le_of_ble_eq_true rfl) (zr2 hR rfl rfl) (zrcs hcs) dX2_total_35 ?_
        refine r_if_eq C 53 dX2_total_38 (by decide) (fun c10 => ?_) (fun c10 => ?_)
        · rw [if_pos c10] at hf
          exact k5 (Option.some.inj hf).symm
        · rw [if_neg c10] at hf
          exact k4 (Option.some.inj hf).symm
set_option maxHeartbeats 4000000 in
set_option maxRecDepth 100000 in
theorem kX2_total (G : Gx) {b : Nat} (hb : isLaw b) {b2 : Nat} (hb2 : isSky b2) {h : Hp} {a1 : Int32} {a2 : Int32} {a3 : Int32} {a4 : Int32} {rr : Int32} (hf : fX2_total h b b2 a1 a2 a3 a4 = some rr) : MC G yX2_total cX2_total 8 (some .int) 3 192 h [.ref (gad G b), .int a1, .ref (gad G b2), .int a2, .int a3, .int a4] (some (.int rr)) h := by
  refine MC.of RX2 (by decide) rfl (Nat.le_of_ble_eq_true rfl) rfl (fun X C hG hR hF => ?_)
  subst hG
  have hcs : True := trivial
  unfold fX2_total at hf
  refine r_iconst (v := 0) C dX2_total_0 (by decide) ?_
  refine r_istore (i := 6) (lv' := [(0, .ref (gad (xG X) b)), (1, .int a1), (2, .ref (gad (xG X) b2)), (3, .int a2), (4, .int a3), (5, .int a4), (6, .int (0 : Int32))]) C dX2_total_1 (by decide) [1, 2, 3, 4, 5, 6, 0] rfl ?_
  refine r_iconst (v := 0) C dX2_total_3 (by decide) ?_
  refine r_istore (i := 7) (lv' := [(0, .ref (gad (xG X) b)), (1, .int a1), (2, .ref (gad (xG X) b2)), (3, .int a2), (4, .int a3), (5, .int a4), (6, .int (0 : Int32)), (7, .int (0 : Int32))]) C dX2_total_4 (by decide) [1, 2, 3, 4, 5, 6, 7, 0] rfl ?_
  exact r_lv [0, 1, 2, 3, 4, 5, 6, 7] rfl ((wX2_total hb hb2 C hR hcs hF big) _ _ _ _ _ _ hf)
def BX2_some_0 (h : Hp) (b : Nat) (b2 : Nat) (rec : Int32 → Int32 → Int32 → Int32 → Int32 → Option (Int32)) (y1 : Int32) (y3 : Int32) (y4 : Int32) (y5 : Int32) (y6 : Int32) : Option (Int32) := (if (h b 0) ≤ y6 then some (0 : Int32) else gd (inb y6 12) ((if (h (b + 1) y6.toNatClampNeg) = y1 then cl9 (fX2_lineHolds h b b2 y6 y3 y4 y5) (fun x5 => (if x5 = (0 : Int32) then lt9 (y6 + (1 : Int32)) (fun x8 => rec y1 y3 y4 y5 x8) else some (1 : Int32))) else lt9 (y6 + (1 : Int32)) (fun x4 => rec y1 y3 y4 y5 x4))))
def LX2_some (h : Hp) (b : Nat) (b2 : Nat) : Nat → Int32 → Int32 → Int32 → Int32 → Int32 → Option (Int32)
  | 0, _, _, _, _, _ => none
  | n + 1, y1, y3, y4, y5, y6 => BX2_some_0 h b b2 (LX2_some h b b2 n) y1 y3 y4 y5 y6
def fX2_some (h : Hp) (b : Nat) (b2 : Nat) (a1 : Int32) (a2 : Int32) (a3 : Int32) (a4 : Int32) : Option (Int32) := LX2_some h b b2 big a1 a2 a3 a4 (0 : Int32)
set_option maxHeartbeats 4000000 in
set_option maxRecDepth 100000 in
theorem wX2_some {X : Cx} {h : Hp} {b : Nat} (hb : isLaw b) {b2 : Nat} (hb2 : isSky b2) {rr : Int32} (C : OK X cX2_some 7 RX2 (some .boolean)) (hR : xR X = { frames := 3, cells := 0, slots := 0, locals := 192 }) (hcs : True) (hF : FinR X (some (.int rr)) h) : ∀ n : Nat, (∀ (y1 : Int32) (y3 : Int32) (y4 : Int32) (y5 : Int32) (y6 : Int32), LX2_some h b b2 n y1 y3 y4 y5 y6 = some rr → VW X 7 h 0 0 3 [(0, .ref (gad (xG X) b)), (1, .int y1), (2, .ref (gad (xG X) b2)), (3, .int y3), (4, .int y4), (5, .int y5), (6, .int y6)] []) := by
  intro n
  induction n with
  | zero => exact (fun _ _ _ _ _ hf => (by rw [LX2_some] at hf; cases hf))
  | succ n ih =>
    intro y1 y3 y4 y5 y6 hf
    rw [LX2_some] at hf
    unfold BX2_some_0 at hf
    refine r_iload (i := 6) C dX2_some_3 6 rfl ?_
    refine r_aload_n (i := 0) C dX2_some_5 rfl 0 rfl ?_
    refine g_X2_9 hb C dX2_some_6 ?_
    refine r_icmp_ge C 46 dX2_some_9 (by decide) (fun c1 => ?_) (fun c1 => ?_)
    · rw [if_pos c1] at hf
      refine r_iconst (v := 0) C dX2_some_46 (by decide) ?_
      have zz : (0 : Int32) = 0 ∨ (0 : Int32) = 1 := (Or.inl rfl)
      cases hf
      exact r_zret C zz hF dX2_some_47
    · rw [if_neg c1] at hf
      refine r_aload_n (i := 0) C dX2_some_12 rfl 0 rfl ?_
      refine g_X2_15 hb C dX2_some_13 ?_
      refine r_iload (i := 6) C dX2_some_16 6 rfl ?_
      obtain ⟨g2, hf⟩ := gd_of hf
      refine r_iald C (b + 1) (law_dsc hb 1 (by decide)) (law_lt hb 1 (by decide)) g2 dX2_some_18 ?_
      refine r_iload_n (i := 1) C dX2_some_19 rfl 1 rfl ?_
      refine r_icmp_ne C 40 dX2_some_20 (by decide) (fun c3 => ?_) (fun c3 => ?_)
      · rw [if_neg c3] at hf
        obtain ⟨x4, ex4, hf⟩ := lt_of hf
        refine r_iinc (j := 6) (v := x4) (lv' := [(0, .ref (gad (xG X) b)), (1, .int y1), (2, .ref (gad (xG X) b2)), (3, .int y3), (4, .int y4), (5, .int y5), (6, .int x4)]) C dX2_some_40 rfl (by rw [ex4]; rfl) (by decide) [1, 2, 3, 4, 5, 6, 0] rfl ?_
        refine r_goto C 3 dX2_some_43 (by decide) ?_
        exact r_lv [0, 1, 2, 3, 4, 5, 6] rfl (ih _ _ _ _ _ hf)
      · rw [if_pos c3] at hf
        refine r_aload_n (i := 0) C dX2_some_23 rfl 0 rfl ?_
        refine r_iload (i := 6) C dX2_some_24 6 rfl ?_
        refine r_aload_n (i := 2) C dX2_some_26 rfl 2 rfl ?_
        refine r_iload_n (i := 3) C dX2_some_27 rfl 3 rfl ?_
        refine r_iload (i := 4) C dX2_some_28 4 rfl ?_
        refine r_iload (i := 5) C dX2_some_30 5 rfl ?_
        obtain ⟨x5, e6, hf⟩ := cl_of hf
        refine r_callVi (As := [.int y6, .ref (gad (xG X) b2), .int y3, .int y4, .int y5]) (st := []) C b (law_d0 hb) (law_l0 hb) rfl (kX2_lineHolds (xG X) hb hb2 e6) cw_X2_39 rfl rfl (Nat.le_of_ble_eq_true rfl) (zr2 hR rfl rfl) (zrcs hcs) dX2_some_32 ?_
        refine r_if_eq C 40 dX2_some_35 (by decide) (fun c7 => ?_) (fun c7 => ?_)
        · rw [if_pos c7] at hf
          obtain ⟨x8, ex8, hf⟩ := lt_of hf
          refine r_iinc (j := 6) (v := x8) (lv' := [(0, .ref (gad (xG X) b)), (1, .int y1), (2, .ref (gad (xG X) b2)), (3, .int y3), (4, .int y4), (5, .int y5), (6, .int x8)]) C dX2_some_40 rfl (by rw [ex8]; rfl) (by decide) [1, 2, 3, 4, 5, 6, 0] rfl ?_
          refine r_goto C 3 dX2_some_43 (by decide) ?_
          exact r_lv [0, 1, 2, 3, 4, 5, 6] rfl (ih _ _ _ _ _ hf)
        · rw [if_neg c7] at hf
          refine r_iconst (v := 1) C dX2_some_38 (by decide) ?_
          have zz : (1 : Int32) = 0 ∨ (1 : Int32) = 1 := (Or.inr rfl)
          cases hf
          exact r_zret C zz hF dX2_some_39
set_option maxHeartbeats 4000000 in
set_option maxRecDepth 100000 in
theorem kX2_some (G : Gx) {b : Nat} (hb : isLaw b) {b2 : Nat} (hb2 : isSky b2) {h : Hp} {a1 : Int32} {a2 : Int32} {a3 : Int32} {a4 : Int32} {rr : Int32} (hf : fX2_some h b b2 a1 a2 a3 a4 = some rr) : MC G yX2_some cX2_some 7 (some .boolean) 3 192 h [.ref (gad G b), .int a1, .ref (gad G b2), .int a2, .int a3, .int a4] (some (.int rr)) h := by
  refine MC.of RX2 (by decide) rfl (Nat.le_of_ble_eq_true rfl) rfl (fun X C hG hR hF => ?_)
  subst hG
  have hcs : True := trivial
  unfold fX2_some at hf
  refine r_iconst (v := 0) C dX2_some_0 (by decide) ?_
  refine r_istore (i := 6) (lv' := [(0, .ref (gad (xG X) b)), (1, .int a1), (2, .ref (gad (xG X) b2)), (3, .int a2), (4, .int a3), (5, .int a4), (6, .int (0 : Int32))]) C dX2_some_1 (by decide) [1, 2, 3, 4, 5, 6, 0] rfl ?_
  exact r_lv [0, 1, 2, 3, 4, 5, 6] rfl ((wX2_some hb hb2 C hR hcs hF big) _ _ _ _ _ hf)
def fX3_takeKind (h : Hp) : Option (Int32 × Hp) := cl2 (fX9_takeWord h sw0) (fun x3 h1 => (if x3 = (0 : Int32) then cl2 (fX9_takeWord h1 sw1) (fun x7 h5 => (if x7 = (0 : Int32) then cl2 (fX9_takeWord h5 sw2) (fun x11 h9 => (if x11 = (0 : Int32) then cl9 (fX9_failNext h9) (fun h13 => some ((-1 : Int32), h13)) else some ((2 : Int32), h9))) else some ((1 : Int32), h5))) else some ((0 : Int32), h1)))
set_option maxHeartbeats 4000000 in
set_option maxRecDepth 100000 in
theorem kX3_takeKind (G : Gx)  {h : Hp}  {rr : Int32} {hh : Hp} (hf : fX3_takeKind h = some (rr, hh)) : MC G yX3_takeKind cX3_takeKind 2 (some .int) 6 384 h [.ref (gad G 12), .ref (gad G 1)] (some (.int rr)) hh := by
  refine MC.of RX3 (by decide) rfl (Nat.le_of_ble_eq_true rfl) rfl (fun X C hG hR hF => ?_)
  subst hG
  have hcs : True := trivial
  unfold fX3_takeKind at hf
  refine r_aload_n (i := 1) C dX3_takeKind_0 rfl 1 rfl ?_
  refine r_ldcS (e := 0) C st0 dX3_takeKind_1 ?_
  obtain ⟨x3, h1, e2, hf⟩ := cl2_of hf
  refine r_callNVi (As := [.ref (gsK (xG X) 0)]) (st := []) C 1 rfl (by decide) rfl (kX9_takeWord (xG X) st0 e2) cw_X3_30 rfl rfl (Nat.le_of_ble_eq_true rfl) (zr2 hR rfl rfl) (zrcs hcs) dX3_takeKind_3 ?_
  refine r_if_eq C 11 dX3_takeKind_6 (by decide) (fun c4 => ?_) (fun c4 => ?_)
  · rw [if_pos c4] at hf
    refine r_aload_n (i := 1) C dX3_takeKind_11 rfl 1 rfl ?_
    refine r_ldcS (e := 1) C st1 dX3_takeKind_12 ?_
    obtain ⟨x7, h5, e6, hf⟩ := cl2_of hf
    refine r_callNVi (As := [.ref (gsK (xG X) 1)]) (st := []) C 1 rfl (by decide) rfl (kX9_takeWord (xG X) st1 e6) cw_X3_30 rfl rfl (Nat.le_of_ble_eq_true rfl) (zr2 hR rfl rfl) (zrcs hcs) dX3_takeKind_14 ?_
    refine r_if_eq C 22 dX3_takeKind_17 (by decide) (fun c8 => ?_) (fun c8 => ?_)
    · rw [if_pos c8] at hf
      refine r_aload_n (i := 1) C dX3_takeKind_22 rfl 1 rfl ?_
      refine r_ldcS (e := 2) C st2 dX3_takeKind_23 ?_
      obtain ⟨x11, h9, e10, hf⟩ := cl2_of hf
      refine r_callNVi (As := [.ref (gsK (xG X) 2)]) (st := []) C 1 rfl (by decide) rfl (kX9_takeWord (xG X) st2 e10) cw_X3_30 rfl rfl (Nat.le_of_ble_eq_true rfl) (zr2 hR rfl rfl) (zrcs hcs) dX3_takeKind_25 ?_
      refine r_if_eq C 33 dX3_takeKind_28 (by decide) (fun c12 => ?_) (fun c12 => ?_)
      · rw [if_pos c12] at hf
        refine r_aload_n (i := 1) C dX3_takeKind_33 rfl 1 rfl ?_
        obtain ⟨h13, e14, hf⟩ := cl_of hf
        refine r_callNVv (As := []) (st := []) C 1 rfl (by decide) rfl (kX9_failNext (xG X) e14) cw_X3_48 rfl rfl (Nat.le_of_ble_eq_true rfl) (zr2 hR rfl rfl) (zrcs hcs) dX3_takeKind_34 ?_
        refine r_iconst (v := (-1)) C dX3_takeKind_37 (by decide) ?_
        cases hf
        exact r_iret C hF dX3_takeKind_38
      · rw [if_neg c12] at hf
        refine r_iconst (v := 2) C dX3_takeKind_31 (by decide) ?_
        cases hf
        exact r_iret C hF dX3_takeKind_32
    · rw [if_neg c8] at hf
      refine r_iconst (v := 1) C dX3_takeKind_20 (by decide) ?_
      cases hf
      exact r_iret C hF dX3_takeKind_21
  · rw [if_neg c4] at hf
    refine r_iconst (v := 0) C dX3_takeKind_9 (by decide) ?_
    cases hf
    exact r_iret C hF dX3_takeKind_10
def fX3_takeComparison (h : Hp) : Option (Int32 × Hp) := cl2 (fX9_takeSign h (60 : Int32)) (fun x3 h1 => (if x3 = (0 : Int32) then cl2 (fX9_takeSign h1 (62 : Int32)) (fun x7 h5 => (if x7 = (0 : Int32) then cl9 (fX9_failNext h5) (fun h9 => some ((-10 : Int32), h9)) else some ((-10 : Int32), h5))) else some ((-9 : Int32), h1)))
set_option maxHeartbeats 4000000 in
set_option maxRecDepth 100000 in
theorem kX3_takeComparison (G : Gx)  {h : Hp}  {rr : Int32} {hh : Hp} (hf : fX3_takeComparison h = some (rr, hh)) : MC G yX3_takeComparison cX3_takeComparison 1 (some .int) 3 192 h [.ref (gad G 1)] (some (.int rr)) hh := by
  refine MC.of RX3 (by decide) rfl (Nat.le_of_ble_eq_true rfl) rfl (fun X C hG hR hF => ?_)
  subst hG
  have hcs : True := trivial
  unfold fX3_takeComparison at hf
  refine r_aload_n (i := 0) C dX3_takeComparison_0 rfl 0 rfl ?_
  refine r_bipush (v := 60) C dX3_takeComparison_1 (by decide) ?_
  obtain ⟨x3, h1, e2, hf⟩ := cl2_of hf
  refine r_callNVi (As := [.int (60 : Int32)]) (st := []) C 1 rfl (by decide) rfl (kX9_takeSign (xG X) e2) cw_X3_72 rfl rfl (Nat.le_of_ble_eq_true rfl) (zr2 hR rfl rfl) (zrcs hcs) dX3_takeComparison_3 ?_
  refine r_if_eq C 12 dX3_takeComparison_6 (by decide) (fun c4 => ?_) (fun c4 => ?_)
  · rw [if_pos c4] at hf
    refine r_aload_n (i := 0) C dX3_takeComparison_12 rfl 0 rfl ?_
    refine r_bipush (v := 62) C dX3_takeComparison_13 (by decide) ?_
    obtain ⟨x7, h5, e6, hf⟩ := cl2_of hf
    refine r_callNVi (As := [.int (62 : Int32)]) (st := []) C 1 rfl (by decide) rfl (kX9_takeSign (xG X) e6) cw_X3_72 rfl rfl (Nat.le_of_ble_eq_true rfl) (zr2 hR rfl rfl) (zrcs hcs) dX3_takeComparison_15 ?_
    refine r_if_ne C 25 dX3_takeComparison_18 (by decide) (fun c8 => ?_) (fun c8 => ?_)
    · rw [if_neg c8] at hf
      refine r_bipush (v := (-10)) C dX3_takeComparison_25 (by decide) ?_
      cases hf
      exact r_iret C hF dX3_takeComparison_27
    · rw [if_pos c8] at hf
      refine r_aload_n (i := 0) C dX3_takeComparison_21 rfl 0 rfl ?_
      obtain ⟨h9, e10, hf⟩ := cl_of hf
      refine r_callNVv (As := []) (st := []) C 1 rfl (by decide) rfl (kX9_failNext (xG X) e10) cw_X3_48 rfl rfl (Nat.le_of_ble_eq_true rfl) (zr2 hR rfl rfl) (zrcs hcs) dX3_takeComparison_22 ?_
      refine r_bipush (v := (-10)) C dX3_takeComparison_25 (by decide) ?_
      cases hf
      exact r_iret C hF dX3_takeComparison_27
  · rw [if_neg c4] at hf
    refine r_bipush (v := (-9)) C dX3_takeComparison_9 (by decide) ?_
    cases hf
    exact r_iret C hF dX3_takeComparison_11
def BX3_takeSum_0  (rec : Hp → Int32 → Option (Hp)) (h : Hp) (y2 : Int32) : Option (Hp) := (if (400 : Int32) ≤ y2 then some h else cl2 (fX9_atDigit h) (fun x4 h2 => cl9 ((if x4 = (0 : Int32) then cl2 (fX9_takeWord h2 sw7) (fun x11 h9 => (if x11 = (0 : Int32) then cl2 (fX9_takeWord h9 sw8) (fun x15 h13 => (if x15 = (0 : Int32) then cl2 (fX9_takeWord h13 sw1) (fun x19 h17 => (if x19 = (0 : Int32) then cl2 (fX9_takeWord h17 sw9) (fun x23 h21 => (if x23 = (0 : Int32) then cl2 (fX9_takeWord h21 sw10) (fun x27 h25 => (if x27 = (0 : Int32) then cl2 (fX9_takeWord h25 sw11) (fun x31 h29 => (if x31 = (0 : Int32) then cl9 (fX9_failNext h29) (fun h33 => some h33) else cl9 (fX2_put h29 13 (-7 : Int32)) (fun h35 => some h35))) else cl9 (fX2_put h25 13 (-6 : Int32)) (fun h37 => some h37))) else cl9 (fX2_put h21 13 (-5 : Int32)) (fun h39 => some h39))) else cl9 (fX2_put h17 13 (-4 : Int32)) (fun h41 => some h41))) else cl9 (fX2_put h13 13 (-3 : Int32)) (fun h43 => some h43))) else cl9 (fX2_put h9 13 (-2 : Int32)) (fun h45 => some h45))) else cl2 (fX9_takeNumber h2 (0 : Int32) (999 : Int32)) (fun x49 h47 => cl9 (fX2_put h47 13 x49) (fun h50 => some h50))) : Option (Hp)) (fun h5 => cl2 (fX9_takeSign h5 (43 : Int32)) (fun x54 h52 => (if x54 = (0 : Int32) then some h52 else lt9 (y2 + (1 : Int32)) (fun x56 => rec h52 x56))))))
def LX3_takeSum  : Nat → Hp → Int32 → Option (Hp)
  | 0, _, _ => none
  | n + 1, h, y2 => BX3_takeSum_0  (LX3_takeSum  n) h y2
def fX3_takeSum (h : Hp) : Option (Hp) := LX3_takeSum big h (0 : Int32)
set_option maxHeartbeats 4000000 in
set_option maxRecDepth 100000 in
theorem wX3_takeSum {X : Cx}  {hh : Hp} (C : OK X cX3_takeSum 3 RX3 none) (hR : xR X = { frames := 6, cells := 0, slots := 0, locals := 384 }) (hcs : True) (hF : FinR X none hh) : ∀ n : Nat, (∀ (h : Hp) (y2 : Int32), LX3_takeSum  n h y2 = some hh → VW X 3 h 0 0 2 [(0, .ref (gad (xG X) 12)), (1, .ref (gad (xG X) 1)), (2, .int y2)] []) := by
  intro n
  induction n with
  | zero => exact (fun _ _ hf => (by rw [LX3_takeSum] at hf; cases hf))
  | succ n ih =>
    intro h y2 hf
    rw [LX3_takeSum] at hf
    unfold BX3_takeSum_0 at hf
    refine r_iload_n (i := 2) C dX3_takeSum_2 rfl 2 rfl ?_
    refine r_sipush (v := 400) C dX3_takeSum_3 (by decide) ?_
    refine r_icmp_ge C 180 dX3_takeSum_6 (by decide) (fun c1 => ?_) (fun c1 => ?_)
    · rw [if_pos c1] at hf
      cases hf
      exact r_vret C hF dX3_takeSum_180
    · rw [if_neg c1] at hf
      refine r_aload_n (i := 1) C dX3_takeSum_9 rfl 1 rfl ?_
      obtain ⟨x4, h2, e3, hf⟩ := cl2_of hf
      refine r_callNVi (As := []) (st := []) C 1 rfl (by decide) rfl (kX9_atDigit (xG X) e3) cw_X3_86 rfl rfl (Nat.le_of_ble_eq_true rfl) (zr2 hR rfl rfl) (zrcs hcs) dX3_takeSum_10 ?_
      obtain ⟨h5, r7, hf⟩ := cl_of hf
      have k6 : VW X 3 h5 0 0 164 [(0, .ref (gad (xG X) 12)), (1, .ref (gad (xG X) 1)), (2, .int y2)] [] := by
        refine r_aload_n (i := 1) C dX3_takeSum_164 rfl 1 rfl ?_
        refine r_bipush (v := 43) C dX3_takeSum_165 (by decide) ?_
        obtain ⟨x54, h52, e53, hf⟩ := cl2_of hf
        refine r_callNVi (As := [.int (43 : Int32)]) (st := []) C 1 rfl (by decide) rfl (kX9_takeSign (xG X) e53) cw_X3_72 rfl rfl (Nat.le_of_ble_eq_true rfl) (zr2 hR rfl rfl) (zrcs hcs) dX3_takeSum_167 ?_
        refine r_if_ne C 174 dX3_takeSum_170 (by decide) (fun c55 => ?_) (fun c55 => ?_)
        · rw [if_neg c55] at hf
          obtain ⟨x56, ex56, hf⟩ := lt_of hf
          refine r_iinc (j := 2) (v := x56) (lv' := [(0, .ref (gad (xG X) 12)), (1, .ref (gad (xG X) 1)), (2, .int x56)]) C dX3_takeSum_174 rfl (by rw [ex56]; rfl) (by decide) [1, 2, 0] rfl ?_
          refine r_goto C 2 dX3_takeSum_177 (by decide) ?_
          exact r_lv [0, 1, 2] rfl (ih _ _ hf)
        · rw [if_pos c55] at hf
          cases hf
          exact r_vret C hF dX3_takeSum_173
      clear hf
      have hf := r7
      refine r_if_eq C 34 dX3_takeSum_13 (by decide) (fun c8 => ?_) (fun c8 => ?_)
      · rw [if_pos c8] at hf
        refine r_aload_n (i := 1) C dX3_takeSum_34 rfl 1 rfl ?_
        refine r_ldcS (e := 7) C st7 dX3_takeSum_35 ?_
        obtain ⟨x11, h9, e10, hf⟩ := cl2_of hf
        refine r_callNVi (As := [.ref (gsK (xG X) 7)]) (st := []) C 1 rfl (by decide) rfl (kX9_takeWord (xG X) st7 e10) cw_X3_30 rfl rfl (Nat.le_of_ble_eq_true rfl) (zr2 hR rfl rfl) (zrcs hcs) dX3_takeSum_37 ?_
        refine r_if_eq C 55 dX3_takeSum_40 (by decide) (fun c12 => ?_) (fun c12 => ?_)
        · rw [if_pos c12] at hf
          refine r_aload_n (i := 1) C dX3_takeSum_55 rfl 1 rfl ?_
          refine r_ldcS (e := 8) C st8 dX3_takeSum_56 ?_
          obtain ⟨x15, h13, e14, hf⟩ := cl2_of hf
          refine r_callNVi (As := [.ref (gsK (xG X) 8)]) (st := []) C 1 rfl (by decide) rfl (kX9_takeWord (xG X) st8 e14) cw_X3_30 rfl rfl (Nat.le_of_ble_eq_true rfl) (zr2 hR rfl rfl) (zrcs hcs) dX3_takeSum_58 ?_
          refine r_if_eq C 76 dX3_takeSum_61 (by decide) (fun c16 => ?_) (fun c16 => ?_)
          · rw [if_pos c16] at hf
            refine r_aload_n (i := 1) C dX3_takeSum_76 rfl 1 rfl ?_
            refine r_ldcS (e := 1) C st1 dX3_takeSum_77 ?_
            obtain ⟨x19, h17, e18, hf⟩ := cl2_of hf
            refine r_callNVi (As := [.ref (gsK (xG X) 1)]) (st := []) C 1 rfl (by decide) rfl (kX9_takeWord (xG X) st1 e18) cw_X3_30 rfl rfl (Nat.le_of_ble_eq_true rfl) (zr2 hR rfl rfl) (zrcs hcs) dX3_takeSum_79 ?_
            refine r_if_eq C 97 dX3_takeSum_82 (by decide) (fun c20 => ?_) (fun c20 => ?_)
            · rw [if_pos c20] at hf
              refine r_aload_n (i := 1) C dX3_takeSum_97 rfl 1 rfl ?_
              refine r_ldcS (e := 9) C st9 dX3_takeSum_98 ?_
              obtain ⟨x23, h21, e22, hf⟩ := cl2_of hf
              refine r_callNVi (As := [.ref (gsK (xG X) 9)]) (st := []) C 1 rfl (by decide) rfl (kX9_takeWord (xG X) st9 e22) cw_X3_30 rfl rfl (Nat.le_of_ble_eq_true rfl) (zr2 hR rfl rfl) (zrcs hcs) dX3_takeSum_100 ?_
              refine r_if_eq C 118 dX3_takeSum_103 (by decide) (fun c24 => ?_) (fun c24 => ?_)
              · rw [if_pos c24] at hf
                refine r_aload_n (i := 1) C dX3_takeSum_118 rfl 1 rfl ?_
                refine r_ldcS (e := 10) C st10 dX3_takeSum_119 ?_
                obtain ⟨x27, h25, e26, hf⟩ := cl2_of hf
                refine r_callNVi (As := [.ref (gsK (xG X) 10)]) (st := []) C 1 rfl (by decide) rfl (kX9_takeWord (xG X) st10 e26) cw_X3_30 rfl rfl (Nat.le_of_ble_eq_true rfl) (zr2 hR rfl rfl) (zrcs hcs) dX3_takeSum_121 ?_
                refine r_if_eq C 139 dX3_takeSum_124 (by decide) (fun c28 => ?_) (fun c28 => ?_)
                · rw [if_pos c28] at hf
                  refine r_aload_n (i := 1) C dX3_takeSum_139 rfl 1 rfl ?_
                  refine r_ldcS (e := 11) C st11 dX3_takeSum_140 ?_
                  obtain ⟨x31, h29, e30, hf⟩ := cl2_of hf
                  refine r_callNVi (As := [.ref (gsK (xG X) 11)]) (st := []) C 1 rfl (by decide) rfl (kX9_takeWord (xG X) st11 e30) cw_X3_30 rfl rfl (Nat.le_of_ble_eq_true rfl) (zr2 hR rfl rfl) (zrcs hcs) dX3_takeSum_142 ?_
                  refine r_if_eq C 160 dX3_takeSum_145 (by decide) (fun c32 => ?_) (fun c32 => ?_)
                  · rw [if_pos c32] at hf
                    refine r_aload_n (i := 1) C dX3_takeSum_160 rfl 1 rfl ?_
                    obtain ⟨h33, e34, hf⟩ := cl_of hf
                    refine r_callNVv (As := []) (st := []) C 1 rfl (by decide) rfl (kX9_failNext (xG X) e34) cw_X3_48 rfl rfl (Nat.le_of_ble_eq_true rfl) (zr2 hR rfl rfl) (zrcs hcs) dX3_takeSum_161 ?_
                    cases hf
                    exact k6
                  · rw [if_neg c32] at hf
                    refine r_aload_n (i := 0) C dX3_takeSum_148 rfl 0 rfl ?_
                    refine g_X3_12 C dX3_takeSum_149 ?_
                    refine r_bipush (v := (-7)) C dX3_takeSum_152 (by decide) ?_
                    obtain ⟨h35, e36, hf⟩ := cl_of hf
                    refine r_callNVv (As := [.int (-7 : Int32)]) (st := []) C 13 (law_d0 lk13) (law_l0 lk13) rfl (kX2_put (xG X) lk13 e36) cw_X3_56 rfl rfl (Nat.le_of_ble_eq_true rfl) (zr2 hR rfl rfl) (zrcs hcs) dX3_takeSum_154 ?_
                    refine r_goto C 164 dX3_takeSum_157 (by decide) ?_
                    cases hf
                    exact k6
                · rw [if_neg c28] at hf
                  refine r_aload_n (i := 0) C dX3_takeSum_127 rfl 0 rfl ?_
                  refine g_X3_12 C dX3_takeSum_128 ?_
                  refine r_bipush (v := (-6)) C dX3_takeSum_131 (by decide) ?_
                  obtain ⟨h37, e38, hf⟩ := cl_of hf
                  refine r_callNVv (As := [.int (-6 : Int32)]) (st := []) C 13 (law_d0 lk13) (law_l0 lk13) rfl (kX2_put (xG X) lk13 e38) cw_X3_56 rfl rfl (Nat.le_of_ble_eq_true rfl) (zr2 hR rfl rfl) (zrcs hcs) dX3_takeSum_133 ?_
                  refine r_goto C 164 dX3_takeSum_136 (by decide) ?_
                  cases hf
                  exact k6
              · rw [if_neg c24] at hf
                refine r_aload_n (i := 0) C dX3_takeSum_106 rfl 0 rfl ?_
                refine g_X3_12 C dX3_takeSum_107 ?_
                refine r_bipush (v := (-5)) C dX3_takeSum_110 (by decide) ?_
                obtain ⟨h39, e40, hf⟩ := cl_of hf
                refine r_callNVv (As := [.int (-5 : Int32)]) (st := []) C 13 (law_d0 lk13) (law_l0 lk13) rfl (kX2_put (xG X) lk13 e40) cw_X3_56 rfl rfl (Nat.le_of_ble_eq_true rfl) (zr2 hR rfl rfl) (zrcs hcs) dX3_takeSum_112 ?_
                refine r_goto C 164 dX3_takeSum_115 (by decide) ?_
                cases hf
                exact k6
            · rw [if_neg c20] at hf
              refine r_aload_n (i := 0) C dX3_takeSum_85 rfl 0 rfl ?_
              refine g_X3_12 C dX3_takeSum_86 ?_
              refine r_bipush (v := (-4)) C dX3_takeSum_89 (by decide) ?_
              obtain ⟨h41, e42, hf⟩ := cl_of hf
              refine r_callNVv (As := [.int (-4 : Int32)]) (st := []) C 13 (law_d0 lk13) (law_l0 lk13) rfl (kX2_put (xG X) lk13 e42) cw_X3_56 rfl rfl (Nat.le_of_ble_eq_true rfl) (zr2 hR rfl rfl) (zrcs hcs) dX3_takeSum_91 ?_
              refine r_goto C 164 dX3_takeSum_94 (by decide) ?_
              cases hf
              exact k6
          · rw [if_neg c16] at hf
            refine r_aload_n (i := 0) C dX3_takeSum_64 rfl 0 rfl ?_
            refine g_X3_12 C dX3_takeSum_65 ?_
            refine r_bipush (v := (-3)) C dX3_takeSum_68 (by decide) ?_
            obtain ⟨h43, e44, hf⟩ := cl_of hf
            refine r_callNVv (As := [.int (-3 : Int32)]) (st := []) C 13 (law_d0 lk13) (law_l0 lk13) rfl (kX2_put (xG X) lk13 e44) cw_X3_56 rfl rfl (Nat.le_of_ble_eq_true rfl) (zr2 hR rfl rfl) (zrcs hcs) dX3_takeSum_70 ?_
            refine r_goto C 164 dX3_takeSum_73 (by decide) ?_
            cases hf
            exact k6
        · rw [if_neg c12] at hf
          refine r_aload_n (i := 0) C dX3_takeSum_43 rfl 0 rfl ?_
          refine g_X3_12 C dX3_takeSum_44 ?_
          refine r_bipush (v := (-2)) C dX3_takeSum_47 (by decide) ?_
          obtain ⟨h45, e46, hf⟩ := cl_of hf
          refine r_callNVv (As := [.int (-2 : Int32)]) (st := []) C 13 (law_d0 lk13) (law_l0 lk13) rfl (kX2_put (xG X) lk13 e46) cw_X3_56 rfl rfl (Nat.le_of_ble_eq_true rfl) (zr2 hR rfl rfl) (zrcs hcs) dX3_takeSum_49 ?_
          refine r_goto C 164 dX3_takeSum_52 (by decide) ?_
          cases hf
          exact k6
      · rw [if_neg c8] at hf
        refine r_aload_n (i := 0) C dX3_takeSum_16 rfl 0 rfl ?_
        refine g_X3_12 C dX3_takeSum_17 ?_
        refine r_aload_n (i := 1) C dX3_takeSum_20 rfl 1 rfl ?_
        refine r_iconst (v := 0) C dX3_takeSum_21 (by decide) ?_
        refine r_sipush (v := 999) C dX3_takeSum_22 (by decide) ?_
        obtain ⟨x49, h47, e48, hf⟩ := cl2_of hf
        refine r_callNVi (As := [.int (0 : Int32), .int (999 : Int32)]) (st := [.ref (gad (xG X) 13)]) C 1 rfl (by decide) rfl (kX9_takeNumber (xG X) e48) cw_X3_22 rfl rfl (Nat.le_of_ble_eq_true rfl) (zr2 hR rfl rfl) (zrcs hcs) dX3_takeSum_25 ?_
        obtain ⟨h50, e51, hf⟩ := cl_of hf
        refine r_callNVv (As := [.int x49]) (st := []) C 13 (law_d0 lk13) (law_l0 lk13) rfl (kX2_put (xG X) lk13 e51) cw_X3_56 rfl rfl (Nat.le_of_ble_eq_true rfl) (zr2 hR rfl rfl) (zrcs hcs) dX3_takeSum_28 ?_
        refine r_goto C 164 dX3_takeSum_31 (by decide) ?_
        cases hf
        exact k6
set_option maxHeartbeats 4000000 in
set_option maxRecDepth 100000 in
theorem kX3_takeSum (G : Gx)  {h : Hp}  {hh : Hp} (hf : fX3_takeSum h = some hh) : MC G yX3_takeSum cX3_takeSum 3 none 6 384 h [.ref (gad G 12), .ref (gad G 1)] none hh := by
  refine MC.of RX3 (by decide) rfl (Nat.le_of_ble_eq_true rfl) rfl (fun X C hG hR hF => ?_)
  subst hG
  have hcs : True := trivial
  unfold fX3_takeSum at hf
  refine r_iconst (v := 0) C dX3_takeSum_0 (by decide) ?_
  refine r_istore_n (i := 2) (lv' := [(0, .ref (gad (xG X) 12)), (1, .ref (gad (xG X) 1)), (2, .int (0 : Int32))]) C dX3_takeSum_1 rfl (by decide) [1, 2, 0] rfl ?_
  exact r_lv [0, 1, 2] rfl ((wX3_takeSum  C hR hcs hF big) _ _ hf)
def fX8_takeSkyValue (h : Hp) : Option (Hp) := cl2 (fX9_takeWord h sw23) (fun x3 h1 => (if x3 = (0 : Int32) then cl2 (fX9_takeWord h1 sw24) (fun x7 h5 => (if x7 = (0 : Int32) then cl2 (fX9_takeWord h5 sw25) (fun x11 h9 => (if x11 = (0 : Int32) then cl2 (fX9_takeWord h9 sw26) (fun x15 h13 => (if x15 = (0 : Int32) then cl2 (fX9_takeWord h13 sw27) (fun x19 h17 => (if x19 = (0 : Int32) then cl9 (fX9_failNext h17) (fun h21 => some h21) else cl2 (fX9_takeNumber h17 (0 : Int32) (999 : Int32)) (fun x25 h23 => lt9 (up2 h23 65 12 x25) (fun h26 => some h26)))) else cl2 (fX9_takeNumber h13 (0 : Int32) (100 : Int32)) (fun x29 h27 => lt9 (up2 h27 65 11 x29) (fun h30 => some h30)))) else cl2 (fX9_takeNumber h9 (0 : Int32) (100 : Int32)) (fun x33 h31 => lt9 (up2 h31 65 10 x33) (fun h34 => some h34)))) else cl2 (fX9_takeNumber h5 (0 : Int32) (9 : Int32)) (fun x37 h35 => lt9 (up2 h35 65 9 x37) (fun h38 => some h38)))) else cl2 (fX9_takeNumber h1 (1 : Int32) (40 : Int32)) (fun x41 h39 => lt9 (up2 h39 65 8 x41) (fun h42 => some h42))))
set_option maxHeartbeats 4000000 in
set_option maxRecDepth 100000 in
theorem kX8_takeSkyValue (G : Gx)  {h : Hp}  {hh : Hp} (hf : fX8_takeSkyValue h = some hh) : MC G yX8_takeSkyValue cX8_takeSkyValue 2 none 6 384 h [.ref (gad G 11), .ref (gad G 1)] none hh := by
  refine MC.of RX8 (by decide) rfl (Nat.le_of_ble_eq_true rfl) rfl (fun X C hG hR hF => ?_)
  subst hG
  have hcs : True := trivial
  unfold fX8_takeSkyValue at hf
  refine r_aload_n (i := 1) C dX8_takeSkyValue_0 rfl 1 rfl ?_
  refine r_ldcS (e := 23) C st23 dX8_takeSkyValue_1 ?_
  obtain ⟨x3, h1, e2, hf⟩ := cl2_of hf
  refine r_callNVi (As := [.ref (gsK (xG X) 23)]) (st := []) C 1 rfl (by decide) rfl (kX9_takeWord (xG X) st23 e2) cw_X8_20 rfl rfl (Nat.le_of_ble_eq_true rfl) (zr2 hR rfl rfl) (zrcs hcs) dX8_takeSkyValue_3 ?_
  refine r_if_eq C 26 dX8_takeSkyValue_6 (by decide) (fun c4 => ?_) (fun c4 => ?_)
  · rw [if_pos c4] at hf
    refine r_aload_n (i := 1) C dX8_takeSkyValue_26 rfl 1 rfl ?_
    refine r_ldcS (e := 24) C st24 dX8_takeSkyValue_27 ?_
    obtain ⟨x7, h5, e6, hf⟩ := cl2_of hf
    refine r_callNVi (As := [.ref (gsK (xG X) 24)]) (st := []) C 1 rfl (by decide) rfl (kX9_takeWord (xG X) st24 e6) cw_X8_20 rfl rfl (Nat.le_of_ble_eq_true rfl) (zr2 hR rfl rfl) (zrcs hcs) dX8_takeSkyValue_29 ?_
    refine r_if_eq C 52 dX8_takeSkyValue_32 (by decide) (fun c8 => ?_) (fun c8 => ?_)
    · rw [if_pos c8] at hf
      refine r_aload_n (i := 1) C dX8_takeSkyValue_52 rfl 1 rfl ?_
      refine r_ldcS (e := 25) C st25 dX8_takeSkyValue_53 ?_
      obtain ⟨x11, h9, e10, hf⟩ := cl2_of hf
      refine r_callNVi (As := [.ref (gsK (xG X) 25)]) (st := []) C 1 rfl (by decide) rfl (kX9_takeWord (xG X) st25 e10) cw_X8_20 rfl rfl (Nat.le_of_ble_eq_true rfl) (zr2 hR rfl rfl) (zrcs hcs) dX8_takeSkyValue_55 ?_
      refine r_if_eq C 78 dX8_takeSkyValue_58 (by decide) (fun c12 => ?_) (fun c12 => ?_)
      · rw [if_pos c12] at hf
        refine r_aload_n (i := 1) C dX8_takeSkyValue_78 rfl 1 rfl ?_
        refine r_ldcS (e := 26) C st26 dX8_takeSkyValue_79 ?_
        obtain ⟨x15, h13, e14, hf⟩ := cl2_of hf
        refine r_callNVi (As := [.ref (gsK (xG X) 26)]) (st := []) C 1 rfl (by decide) rfl (kX9_takeWord (xG X) st26 e14) cw_X8_20 rfl rfl (Nat.le_of_ble_eq_true rfl) (zr2 hR rfl rfl) (zrcs hcs) dX8_takeSkyValue_81 ?_
        refine r_if_eq C 104 dX8_takeSkyValue_84 (by decide) (fun c16 => ?_) (fun c16 => ?_)
        · rw [if_pos c16] at hf
          refine r_aload_n (i := 1) C dX8_takeSkyValue_104 rfl 1 rfl ?_
          refine r_ldcS (e := 27) C st27 dX8_takeSkyValue_105 ?_
          obtain ⟨x19, h17, e18, hf⟩ := cl2_of hf
          refine r_callNVi (As := [.ref (gsK (xG X) 27)]) (st := []) C 1 rfl (by decide) rfl (kX9_takeWord (xG X) st27 e18) cw_X8_20 rfl rfl (Nat.le_of_ble_eq_true rfl) (zr2 hR rfl rfl) (zrcs hcs) dX8_takeSkyValue_107 ?_
          refine r_if_eq C 131 dX8_takeSkyValue_110 (by decide) (fun c20 => ?_) (fun c20 => ?_)
          · rw [if_pos c20] at hf
            refine r_aload_n (i := 1) C dX8_takeSkyValue_131 rfl 1 rfl ?_
            obtain ⟨h21, e22, hf⟩ := cl_of hf
            refine r_callNVv (As := []) (st := []) C 1 rfl (by decide) rfl (kX9_failNext (xG X) e22) cw_X8_85 rfl rfl (Nat.le_of_ble_eq_true rfl) (zr2 hR rfl rfl) (zrcs hcs) dX8_takeSkyValue_132 ?_
            cases hf
            exact r_vret C hF dX8_takeSkyValue_135
          · rw [if_neg c20] at hf
            refine r_aload_n (i := 0) C dX8_takeSkyValue_113 rfl 0 rfl ?_
            refine g_X8_12 C dX8_takeSkyValue_114 ?_
            refine r_aload_n (i := 1) C dX8_takeSkyValue_117 rfl 1 rfl ?_
            refine r_iconst (v := 0) C dX8_takeSkyValue_118 (by decide) ?_
            refine r_sipush (v := 999) C dX8_takeSkyValue_119 (by decide) ?_
            obtain ⟨x25, h23, e24, hf⟩ := cl2_of hf
            refine r_callNVi (As := [.int (0 : Int32), .int (999 : Int32)]) (st := [.ref (gad (xG X) 65)]) C 1 rfl (by decide) rfl (kX9_takeNumber (xG X) e24) cw_X8_62 rfl rfl (Nat.le_of_ble_eq_true rfl) (zr2 hR rfl rfl) (zrcs hcs) dX8_takeSkyValue_122 ?_
            obtain ⟨h26, eh26, hf⟩ := lt_of hf
            refine p_X8_83 sk65 C eh26 dX8_takeSkyValue_125 ?_
            refine r_goto C 135 dX8_takeSkyValue_128 (by decide) ?_
            cases hf
            exact r_vret C hF dX8_takeSkyValue_135
        · rw [if_neg c16] at hf
          refine r_aload_n (i := 0) C dX8_takeSkyValue_87 rfl 0 rfl ?_
          refine g_X8_12 C dX8_takeSkyValue_88 ?_
          refine r_aload_n (i := 1) C dX8_takeSkyValue_91 rfl 1 rfl ?_
          refine r_iconst (v := 0) C dX8_takeSkyValue_92 (by decide) ?_
          refine r_bipush (v := 100) C dX8_takeSkyValue_93 (by decide) ?_
          obtain ⟨x29, h27, e28, hf⟩ := cl2_of hf
          refine r_callNVi (As := [.int (0 : Int32), .int (100 : Int32)]) (st := [.ref (gad (xG X) 65)]) C 1 rfl (by decide) rfl (kX9_takeNumber (xG X) e28) cw_X8_62 rfl rfl (Nat.le_of_ble_eq_true rfl) (zr2 hR rfl rfl) (zrcs hcs) dX8_takeSkyValue_95 ?_
          obtain ⟨h30, eh30, hf⟩ := lt_of hf
          refine p_X8_79 sk65 C eh30 dX8_takeSkyValue_98 ?_
          refine r_goto C 135 dX8_takeSkyValue_101 (by decide) ?_
          cases hf
          exact r_vret C hF dX8_takeSkyValue_135
      · rw [if_neg c12] at hf
        refine r_aload_n (i := 0) C dX8_takeSkyValue_61 rfl 0 rfl ?_
        refine g_X8_12 C dX8_takeSkyValue_62 ?_
        refine r_aload_n (i := 1) C dX8_takeSkyValue_65 rfl 1 rfl ?_
        refine r_iconst (v := 0) C dX8_takeSkyValue_66 (by decide) ?_
        refine r_bipush (v := 100) C dX8_takeSkyValue_67 (by decide) ?_
        obtain ⟨x33, h31, e32, hf⟩ := cl2_of hf
        refine r_callNVi (As := [.int (0 : Int32), .int (100 : Int32)]) (st := [.ref (gad (xG X) 65)]) C 1 rfl (by decide) rfl (kX9_takeNumber (xG X) e32) cw_X8_62 rfl rfl (Nat.le_of_ble_eq_true rfl) (zr2 hR rfl rfl) (zrcs hcs) dX8_takeSkyValue_69 ?_
        obtain ⟨h34, eh34, hf⟩ := lt_of hf
        refine p_X8_75 sk65 C eh34 dX8_takeSkyValue_72 ?_
        refine r_goto C 135 dX8_takeSkyValue_75 (by decide) ?_
        cases hf
        exact r_vret C hF dX8_takeSkyValue_135
    · rw [if_neg c8] at hf
      refine r_aload_n (i := 0) C dX8_takeSkyValue_35 rfl 0 rfl ?_
      refine g_X8_12 C dX8_takeSkyValue_36 ?_
      refine r_aload_n (i := 1) C dX8_takeSkyValue_39 rfl 1 rfl ?_
      refine r_iconst (v := 0) C dX8_takeSkyValue_40 (by decide) ?_
      refine r_bipush (v := 9) C dX8_takeSkyValue_41 (by decide) ?_
      obtain ⟨x37, h35, e36, hf⟩ := cl2_of hf
      refine r_callNVi (As := [.int (0 : Int32), .int (9 : Int32)]) (st := [.ref (gad (xG X) 65)]) C 1 rfl (by decide) rfl (kX9_takeNumber (xG X) e36) cw_X8_62 rfl rfl (Nat.le_of_ble_eq_true rfl) (zr2 hR rfl rfl) (zrcs hcs) dX8_takeSkyValue_43 ?_
      obtain ⟨h38, eh38, hf⟩ := lt_of hf
      refine p_X8_71 sk65 C eh38 dX8_takeSkyValue_46 ?_
      refine r_goto C 135 dX8_takeSkyValue_49 (by decide) ?_
      cases hf
      exact r_vret C hF dX8_takeSkyValue_135
  · rw [if_neg c4] at hf
    refine r_aload_n (i := 0) C dX8_takeSkyValue_9 rfl 0 rfl ?_
    refine g_X8_12 C dX8_takeSkyValue_10 ?_
    refine r_aload_n (i := 1) C dX8_takeSkyValue_13 rfl 1 rfl ?_
    refine r_iconst (v := 1) C dX8_takeSkyValue_14 (by decide) ?_
    refine r_bipush (v := 40) C dX8_takeSkyValue_15 (by decide) ?_
    obtain ⟨x41, h39, e40, hf⟩ := cl2_of hf
    refine r_callNVi (As := [.int (1 : Int32), .int (40 : Int32)]) (st := [.ref (gad (xG X) 65)]) C 1 rfl (by decide) rfl (kX9_takeNumber (xG X) e40) cw_X8_62 rfl rfl (Nat.le_of_ble_eq_true rfl) (zr2 hR rfl rfl) (zrcs hcs) dX8_takeSkyValue_17 ?_
    obtain ⟨h42, eh42, hf⟩ := lt_of hf
    refine p_X8_66 sk65 C eh42 dX8_takeSkyValue_20 ?_
    refine r_goto C 135 dX8_takeSkyValue_23 (by decide) ?_
    cases hf
    exact r_vret C hF dX8_takeSkyValue_135

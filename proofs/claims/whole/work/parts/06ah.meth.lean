def BX12_best_0  (rec : Hp → Int32 → Int32 → Option (Int32 × Hp)) (h : Hp) (y1 : Int32) (y2 : Int32) : Option (Int32 × Hp) := cl2 (fX12_standingAt h (4 : Int32) y2) (fun x3 h1 => (if (y1 &&& (x3 ^^^ (-1 : Int32))) = (0 : Int32) then some (y2, h1) else lt9 (y2 + (1 : Int32)) (fun x5 => rec h1 y1 x5)))
def LX12_best  : Nat → Hp → Int32 → Int32 → Option (Int32 × Hp)
  | 0, _, _, _ => none
  | n + 1, h, y1, y2 => BX12_best_0  (LX12_best  n) h y1 y2
def fX12_best (h : Hp) : Option (Int32 × Hp) := lt9 (up2 h 208 0 (0 : Int32)) (fun h6 => cl2 (fX12_standingAt h6 (4 : Int32) (40 : Int32)) (fun x9 h7 => LX12_best big h7 x9 (1 : Int32)))
set_option maxHeartbeats 4000000 in
set_option maxRecDepth 100000 in
theorem wX12_best {X : Cx}  {rr : Int32} {hh : Hp} (C : OK X cX12_best 3 RX12 (some .int)) (hR : xR X = { frames := 12, cells := 0, slots := 0, locals := 768 }) (hcs : True) (hF : FinR X (some (.int rr)) hh) : ∀ n : Nat, (∀ (h : Hp) (y1 : Int32) (y2 : Int32), LX12_best  n h y1 y2 = some (rr, hh) → VW X 3 h 0 0 15 [(0, .ref (gad (xG X) 208)), (1, .int y1), (2, .int y2)] []) := by
  intro n
  induction n with
  | zero => exact (fun _ _ _ hf => (by rw [LX12_best] at hf; cases hf))
  | succ n ih =>
    intro h y1 y2 hf
    rw [LX12_best] at hf
    unfold BX12_best_0 at hf
    refine r_iload_n (i := 1) C dX12_best_15 rfl 1 rfl ?_
    refine r_aload_n (i := 0) C dX12_best_16 rfl 0 rfl ?_
    refine r_iconst (v := 4) C dX12_best_17 (by decide) ?_
    refine r_iload_n (i := 2) C dX12_best_18 rfl 2 rfl ?_
    obtain ⟨x3, h1, e2, hf⟩ := cl2_of hf
    refine r_callVi (As := [.int (4 : Int32), .int y2]) (st := [.int y1]) C 208 rfl (by decide) rfl (kX12_standingAt (xG X) e2) cw_X12_419 rfl rfl (Nat.le_of_ble_eq_true rfl) (zr2 hR rfl rfl) (zrcs hcs) dX12_best_19 ?_
    refine r_iconst (v := (-1)) C dX12_best_22 (by decide) ?_
    refine r_ixor C dX12_best_23 ?_
    refine r_iand C dX12_best_24 ?_
    refine r_if_eq C 34 dX12_best_25 (by decide) (fun c4 => ?_) (fun c4 => ?_)
    · rw [if_pos c4] at hf
      refine r_iload_n (i := 2) C dX12_best_34 rfl 2 rfl ?_
      cases hf
      exact r_iret C hF dX12_best_35
    · rw [if_neg c4] at hf
      obtain ⟨x5, ex5, hf⟩ := lt_of hf
      refine r_iinc (j := 2) (v := x5) (lv' := [(0, .ref (gad (xG X) 208)), (1, .int y1), (2, .int x5)]) C dX12_best_28 rfl (by rw [ex5]; rfl) (by decide) [1, 2, 0] rfl ?_
      refine r_goto C 15 dX12_best_31 (by decide) ?_
      exact r_lv [0, 1, 2] rfl (ih _ _ _ hf)
set_option maxHeartbeats 4000000 in
set_option maxRecDepth 100000 in
theorem kX12_best (G : Gx)  {h : Hp}  {rr : Int32} {hh : Hp} (hf : fX12_best h = some (rr, hh)) : MC G yX12_best cX12_best 3 (some .int) 12 768 h [.ref (gad G 208)] (some (.int rr)) hh := by
  refine MC.of RX12 (by decide) rfl (Nat.le_of_ble_eq_true rfl) rfl (fun X C hG hR hF => ?_)
  subst hG
  have hcs : True := trivial
  unfold fX12_best at hf
  refine r_aload_n (i := 0) C dX12_best_0 rfl 0 rfl ?_
  refine r_iconst (v := 0) C dX12_best_1 (by decide) ?_
  obtain ⟨h6, eh6, hf⟩ := lt_of hf
  refine p_X12_3 C eh6 dX12_best_2 ?_
  refine r_aload_n (i := 0) C dX12_best_5 rfl 0 rfl ?_
  refine r_iconst (v := 4) C dX12_best_6 (by decide) ?_
  refine r_bipush (v := 40) C dX12_best_7 (by decide) ?_
  obtain ⟨x9, h7, e8, hf⟩ := cl2_of hf
  refine r_callVi (As := [.int (4 : Int32), .int (40 : Int32)]) (st := []) C 208 rfl (by decide) rfl (kX12_standingAt (xG X) e8) cw_X12_419 rfl rfl (Nat.le_of_ble_eq_true rfl) (zr2 hR rfl rfl) (zrcs hcs) dX12_best_9 ?_
  refine r_istore_n (i := 1) (lv' := [(0, .ref (gad (xG X) 208)), (1, .int x9)]) C dX12_best_12 rfl (by decide) [1, 0] rfl ?_
  refine r_iconst (v := 1) C dX12_best_13 (by decide) ?_
  refine r_istore_n (i := 2) (lv' := [(0, .ref (gad (xG X) 208)), (1, .int x9), (2, .int (1 : Int32))]) C dX12_best_14 rfl (by decide) [1, 2, 0] rfl ?_
  exact r_lv [0, 1, 2] rfl ((wX12_best  C hR hcs hF big) _ _ _ hf)
def BX12_stars_0  (rec : Hp → Int32 → Int32 → Int32 → Int32 → Option (Int32 × Hp)) (h : Hp) (y2 : Int32) (y3 : Int32) (y4 : Int32) (y5 : Int32) : Option (Int32 × Hp) := (if y2 < y5 then some (y3, h) else lt9 (y3 + ((y4 >>> (y5 &&& 31)) &&& (1 : Int32))) (fun x2 => lt9 (y5 + (1 : Int32)) (fun x3 => rec h y2 x2 y4 x3)))
def LX12_stars  : Nat → Hp → Int32 → Int32 → Int32 → Int32 → Option (Int32 × Hp)
  | 0, _, _, _, _, _ => none
  | n + 1, h, y2, y3, y4, y5 => BX12_stars_0  (LX12_stars  n) h y2 y3 y4 y5
def fX12_stars (h : Hp) (a1 : Int32) (a2 : Int32) : Option (Int32 × Hp) := lt9 (up2 h 208 0 (0 : Int32)) (fun h4 => cl9 (cl9 ((if (fX12_noPlace a1) = (0 : Int32) then (if (fX12_noPlace a2) = (0 : Int32) then some false else some true) else some true) : Option Bool) (fun q8 => if q8 = true then some (1 : Int32) else some (0 : Int32)) : Option (Int32)) (fun v5 => cl2 (fX12_throwsIf h4 v5 (1 : Int32)) (fun x16 h14 => (if x16 = (0 : Int32) then cl9 ((if a1 ≤ a2 then some (0 : Int32) else some (1 : Int32)) : Option (Int32)) (fun v18 => cl2 (fX12_throwsIf h14 v18 (2 : Int32)) (fun x24 h22 => (if x24 = (0 : Int32) then cl2 (fX12_holdingNow h22) (fun x28 h26 => LX12_stars big h26 a2 (0 : Int32) x28 a1) else some ((0 : Int32), h22)))) else some ((0 : Int32), h14)))))
set_option maxHeartbeats 4000000 in
set_option maxRecDepth 100000 in
theorem wX12_stars {X : Cx}  {rr : Int32} {hh : Hp} (C : OK X cX12_stars 6 RX12 (some .int)) (hR : xR X = { frames := 11, cells := 0, slots := 0, locals := 704 }) (hcs : True) (hF : FinR X (some (.int rr)) hh) : ∀ n : Nat, (∀ (h : Hp) (y2 : Int32) (y3 : Int32) (y4 : Int32) (y5 : Int32), LX12_stars  n h y2 y3 y4 y5 = some (rr, hh) → VW X 6 h 0 0 63 [(0, .ref (gad (xG X) 208)), (2, .int y2), (3, .int y3), (4, .int y4), (5, .int y5)] []) := by
  intro n
  induction n with
  | zero => exact (fun _ _ _ _ _ hf => (by rw [LX12_stars] at hf; cases hf))
  | succ n ih =>
    intro h y2 y3 y4 y5 hf
    rw [LX12_stars] at hf
    unfold BX12_stars_0 at hf
    refine r_iload (i := 5) C dX12_stars_63 4 rfl ?_
    refine r_iload_n (i := 2) C dX12_stars_65 rfl 1 rfl ?_
    refine r_icmp_gt C 85 dX12_stars_66 (by decide) (fun c1 => ?_) (fun c1 => ?_)
    · rw [if_pos c1] at hf
      refine r_iload_n (i := 3) C dX12_stars_85 rfl 2 rfl ?_
      cases hf
      exact r_iret C hF dX12_stars_86
    · rw [if_neg c1] at hf
      refine r_iload_n (i := 3) C dX12_stars_69 rfl 2 rfl ?_
      refine r_iload (i := 4) C dX12_stars_70 3 rfl ?_
      refine r_iload (i := 5) C dX12_stars_72 4 rfl ?_
      refine r_ishr C dX12_stars_74 ?_
      refine r_iconst (v := 1) C dX12_stars_75 (by decide) ?_
      refine r_iand C dX12_stars_76 ?_
      refine r_iadd C dX12_stars_77 ?_
      obtain ⟨x2, ex2, hf⟩ := lt_of hf
      refine r_top ex2 ?_
      refine r_istore_n (i := 3) (lv' := [(0, .ref (gad (xG X) 208)), (2, .int y2), (3, .int x2), (4, .int y4), (5, .int y5)]) C dX12_stars_78 rfl (by decide) [1, 2, 0, 3, 4] rfl ?_
      obtain ⟨x3, ex3, hf⟩ := lt_of hf
      refine r_iinc (j := 4) (v := x3) (lv' := [(0, .ref (gad (xG X) 208)), (2, .int y2), (3, .int x2), (4, .int y4), (5, .int x3)]) C dX12_stars_79 rfl (by rw [ex3]; rfl) (by decide) [1, 2, 3, 4, 0] rfl ?_
      refine r_goto C 63 dX12_stars_82 (by decide) ?_
      exact r_lv [0, 1, 2, 3, 4] rfl (ih _ _ _ _ _ hf)
set_option maxHeartbeats 4000000 in
set_option maxRecDepth 100000 in
theorem kX12_stars (G : Gx)  {h : Hp} {a1 : Int32} {a2 : Int32} {rr : Int32} {hh : Hp} (hf : fX12_stars h a1 a2 = some (rr, hh)) : MC G yX12_stars cX12_stars 6 (some .int) 11 704 h [.ref (gad G 208), .int a1, .int a2] (some (.int rr)) hh := by
  refine MC.of RX12 (by decide) rfl (Nat.le_of_ble_eq_true rfl) rfl (fun X C hG hR hF => ?_)
  subst hG
  have hcs : True := trivial
  unfold fX12_stars at hf
  refine r_aload_n (i := 0) C dX12_stars_0 rfl 0 rfl ?_
  refine r_iconst (v := 0) C dX12_stars_1 (by decide) ?_
  obtain ⟨h4, eh4, hf⟩ := lt_of hf
  refine p_X12_3 C eh4 dX12_stars_2 ?_
  refine r_aload_n (i := 0) C dX12_stars_5 rfl 0 rfl ?_
  refine r_iload_n (i := 1) C dX12_stars_6 rfl 1 rfl ?_
  refine r_callSi (As := [.int a1]) (st := [.ref (gad (xG X) 208)]) C (kX12_noPlace (xG X)) cw_X12_305 rfl rfl (Nat.le_of_ble_eq_true rfl) (zr2 hR rfl rfl) (zrcs hcs) dX12_stars_7 ?_
  obtain ⟨v5, r7, hf⟩ := cl_of hf
  have k6 : VW X 6 h4 0 0 25 [(0, .ref (gad (xG X) 208)), (1, .int a1), (2, .int a2)] [.int v5, .ref (gad (xG X) 208)] := by
    refine r_iconst (v := 1) C dX12_stars_25 (by decide) ?_
    obtain ⟨x16, h14, e15, hf⟩ := cl2_of hf
    refine r_callVi (As := [.int v5, .int (1 : Int32)]) (st := []) C 208 rfl (by decide) rfl (kX12_throwsIf (xG X) e15) cw_X12_247 rfl rfl (Nat.le_of_ble_eq_true rfl) (zr2 hR rfl rfl) (zrcs hcs) dX12_stars_26 ?_
    refine r_if_ne C 50 dX12_stars_29 (by decide) (fun c17 => ?_) (fun c17 => ?_)
    · rw [if_neg c17] at hf
      refine r_iconst (v := 0) C dX12_stars_50 (by decide) ?_
      cases hf
      exact r_iret C hF dX12_stars_51
    · rw [if_pos c17] at hf
      refine r_aload_n (i := 0) C dX12_stars_32 rfl 0 rfl ?_
      refine r_iload_n (i := 1) C dX12_stars_33 rfl 1 rfl ?_
      refine r_iload_n (i := 2) C dX12_stars_34 rfl 2 rfl ?_
      obtain ⟨v18, r20, hf⟩ := cl_of hf
      have k19 : VW X 6 h14 0 0 43 [(0, .ref (gad (xG X) 208)), (1, .int a1), (2, .int a2)] [.int v18, .ref (gad (xG X) 208)] := by
        refine r_iconst (v := 2) C dX12_stars_43 (by decide) ?_
        obtain ⟨x24, h22, e23, hf⟩ := cl2_of hf
        refine r_callVi (As := [.int v18, .int (2 : Int32)]) (st := []) C 208 rfl (by decide) rfl (kX12_throwsIf (xG X) e23) cw_X12_247 rfl rfl (Nat.le_of_ble_eq_true rfl) (zr2 hR rfl rfl) (zrcs hcs) dX12_stars_44 ?_
        refine r_if_eq C 52 dX12_stars_47 (by decide) (fun c25 => ?_) (fun c25 => ?_)
        · rw [if_pos c25] at hf
          refine r_iconst (v := 0) C dX12_stars_52 (by decide) ?_
          refine r_istore_n (i := 3) (lv' := [(0, .ref (gad (xG X) 208)), (1, .int a1), (2, .int a2), (3, .int (0 : Int32))]) C dX12_stars_53 rfl (by decide) [1, 2, 3, 0] rfl ?_
          refine r_aload_n (i := 0) C dX12_stars_54 rfl 0 rfl ?_
          obtain ⟨x28, h26, e27, hf⟩ := cl2_of hf
          refine r_callVi (As := []) (st := []) C 208 rfl (by decide) rfl (kX12_holdingNow (xG X) e27) cw_X12_308 rfl rfl (Nat.le_of_ble_eq_true rfl) (zr2 hR rfl rfl) (zrcs hcs) dX12_stars_55 ?_
          refine r_istore (i := 4) (lv' := [(0, .ref (gad (xG X) 208)), (1, .int a1), (2, .int a2), (3, .int (0 : Int32)), (4, .int x28)]) C dX12_stars_58 (by decide) [1, 2, 3, 4, 0] rfl ?_
          refine r_iload_n (i := 1) C dX12_stars_60 rfl 1 rfl ?_
          refine r_istore (i := 5) (lv' := [(0, .ref (gad (xG X) 208)), (1, .int a1), (2, .int a2), (3, .int (0 : Int32)), (4, .int x28), (5, .int a1)]) C dX12_stars_61 (by decide) [1, 2, 3, 4, 5, 0] rfl ?_
          exact r_lv [0, 2, 3, 4, 5] rfl ((wX12_stars  C hR hcs hF big) _ _ _ _ _ hf)
        · rw [if_neg c25] at hf
          refine r_iconst (v := 0) C dX12_stars_50 (by decide) ?_
          cases hf
          exact r_iret C hF dX12_stars_51
      clear hf
      have hf := r20
      refine r_icmp_le C 42 dX12_stars_35 (by decide) (fun c21 => ?_) (fun c21 => ?_)
      · rw [if_pos c21] at hf
        refine r_iconst (v := 0) C dX12_stars_42 (by decide) ?_
        cases hf
        exact k19
      · rw [if_neg c21] at hf
        refine r_iconst (v := 1) C dX12_stars_38 (by decide) ?_
        refine r_goto C 43 dX12_stars_39 (by decide) ?_
        cases hf
        exact k19
  clear hf
  have hf := r7
  obtain ⟨q8, r11, hf⟩ := cl_of hf
  have k9 : q8 = true → VW X 6 h4 0 0 20 [(0, .ref (gad (xG X) 208)), (1, .int a1), (2, .int a2)] [.ref (gad (xG X) 208)] := fun qq => by
    rw [if_pos qq] at hf
    refine r_iconst (v := 1) C dX12_stars_20 (by decide) ?_
    refine r_goto C 25 dX12_stars_21 (by decide) ?_
    cases hf
    exact k6
  have k10 : q8 = false → VW X 6 h4 0 0 24 [(0, .ref (gad (xG X) 208)), (1, .int a1), (2, .int a2)] [.ref (gad (xG X) 208)] := fun qq => by
    rw [if_neg (by rw [qq]; decide)] at hf
    refine r_iconst (v := 0) C dX12_stars_24 (by decide) ?_
    cases hf
    exact k6
  clear hf
  have hf := r11
  refine r_if_ne C 20 dX12_stars_10 (by decide) (fun c12 => ?_) (fun c12 => ?_)
  · rw [if_neg c12] at hf
    exact k9 (Option.some.inj hf).symm
  · rw [if_pos c12] at hf
    refine r_iload_n (i := 2) C dX12_stars_13 rfl 2 rfl ?_
    refine r_callSi (As := [.int a2]) (st := [.ref (gad (xG X) 208)]) C (kX12_noPlace (xG X)) cw_X12_305 rfl rfl (Nat.le_of_ble_eq_true rfl) (zr2 hR rfl rfl) (zrcs hcs) dX12_stars_14 ?_
    refine r_if_eq C 24 dX12_stars_17 (by decide) (fun c13 => ?_) (fun c13 => ?_)
    · rw [if_pos c13] at hf
      exact k10 (Option.some.inj hf).symm
    · rw [if_neg c13] at hf
      exact k9 (Option.some.inj hf).symm
def BX12_longest_0  (rec : Hp → Int32 → Int32 → Int32 → Int32 → Option (Int32 × Hp)) (h : Hp) (y1 : Int32) (y2 : Int32) (y3 : Int32) (y4 : Int32) : Option (Int32 × Hp) := (if (16 : Int32) ≤ y4 then some (y2, h) else cl9 ((if (fX12_has y1 y4) = (0 : Int32) then some (y3 + (1 : Int32)) else some (0 : Int32)) : Option (Int32)) (fun v2 => lt9 (jmax y2 v2) (fun x6 => lt9 (y4 + (1 : Int32)) (fun x7 => rec h y1 x6 v2 x7))))
def LX12_longest  : Nat → Hp → Int32 → Int32 → Int32 → Int32 → Option (Int32 × Hp)
  | 0, _, _, _, _, _ => none
  | n + 1, h, y1, y2, y3, y4 => BX12_longest_0  (LX12_longest  n) h y1 y2 y3 y4
def fX12_longest (h : Hp) : Option (Int32 × Hp) := lt9 (up2 h 208 0 (0 : Int32)) (fun h8 => cl2 (fX12_holdingNow h8) (fun x11 h9 => LX12_longest big h9 x11 (0 : Int32) (0 : Int32) (0 : Int32)))
set_option maxHeartbeats 4000000 in
set_option maxRecDepth 100000 in
theorem wX12_longest {X : Cx}  {rr : Int32} {hh : Hp} (C : OK X cX12_longest 5 RX12 (some .int)) (hR : xR X = { frames := 12, cells := 0, slots := 0, locals := 768 }) (hcs : True) (hF : FinR X (some (.int rr)) hh) : ∀ n : Nat, (∀ (h : Hp) (y1 : Int32) (y2 : Int32) (y3 : Int32) (y4 : Int32), LX12_longest  n h y1 y2 y3 y4 = some (rr, hh) → VW X 5 h 0 0 17 [(0, .ref (gad (xG X) 208)), (1, .int y1), (2, .int y2), (3, .int y3), (4, .int y4)] []) := by
  intro n
  induction n with
  | zero => exact (fun _ _ _ _ _ hf => (by rw [LX12_longest] at hf; cases hf))
  | succ n ih =>
    intro h y1 y2 y3 y4 hf
    rw [LX12_longest] at hf
    unfold BX12_longest_0 at hf
    refine r_iload (i := 4) C dX12_longest_17 4 rfl ?_
    refine r_bipush (v := 16) C dX12_longest_19 (by decide) ?_
    refine r_icmp_ge C 53 dX12_longest_21 (by decide) (fun c1 => ?_) (fun c1 => ?_)
    · rw [if_pos c1] at hf
      refine r_iload_n (i := 2) C dX12_longest_53 rfl 2 rfl ?_
      cases hf
      exact r_iret C hF dX12_longest_54
    · rw [if_neg c1] at hf
      refine r_iload_n (i := 1) C dX12_longest_24 rfl 1 rfl ?_
      refine r_iload (i := 4) C dX12_longest_25 4 rfl ?_
      refine r_callSi (As := [.int y1, .int y4]) (st := []) C (kX12_has (xG X)) cw_X12_69 rfl rfl (Nat.le_of_ble_eq_true rfl) (zr2 hR rfl rfl) (zrcs hcs) dX12_longest_27 ?_
      obtain ⟨v2, r4, hf⟩ := cl_of hf
      have k3 : VW X 5 h 0 0 40 [(0, .ref (gad (xG X) 208)), (1, .int y1), (2, .int y2), (4, .int y4)] [.int v2] := by
        refine r_istore_n (i := 3) (lv' := [(0, .ref (gad (xG X) 208)), (1, .int y1), (2, .int y2), (3, .int v2), (4, .int y4)]) C dX12_longest_40 rfl (by decide) [1, 2, 3, 0, 4] rfl ?_
        refine r_iload_n (i := 2) C dX12_longest_41 rfl 2 rfl ?_
        refine r_iload_n (i := 3) C dX12_longest_42 rfl 3 rfl ?_
        refine r_mmax9 C gw_1806 gm_max_s gm_i gm_max_c (zr1 hR rfl) (zr0 hR (Nat.le_of_ble_eq_true rfl)) (zrcs hcs) dX12_longest_43 ?_
        obtain ⟨x6, ex6, hf⟩ := lt_of hf
        refine r_top ex6 ?_
        refine r_istore_n (i := 2) (lv' := [(0, .ref (gad (xG X) 208)), (1, .int y1), (2, .int x6), (3, .int v2), (4, .int y4)]) C dX12_longest_46 rfl (by decide) [1, 2, 0, 3, 4] rfl ?_
        obtain ⟨x7, ex7, hf⟩ := lt_of hf
        refine r_iinc (j := 4) (v := x7) (lv' := [(0, .ref (gad (xG X) 208)), (1, .int y1), (2, .int x6), (3, .int v2), (4, .int x7)]) C dX12_longest_47 rfl (by rw [ex7]; rfl) (by decide) [1, 2, 3, 4, 0] rfl ?_
        refine r_goto C 17 dX12_longest_50 (by decide) ?_
        exact r_lv [0, 1, 2, 3, 4] rfl (ih _ _ _ _ _ hf)
      clear hf
      have hf := r4
      refine r_if_eq C 37 dX12_longest_30 (by decide) (fun c5 => ?_) (fun c5 => ?_)
      · rw [if_pos c5] at hf
        refine r_iload_n (i := 3) C dX12_longest_37 rfl 3 rfl ?_
        refine r_iconst (v := 1) C dX12_longest_38 (by decide) ?_
        refine r_iadd C dX12_longest_39 ?_
        cases hf
        exact r_lv [0, 1, 2, 4] rfl k3
      · rw [if_neg c5] at hf
        refine r_iconst (v := 0) C dX12_longest_33 (by decide) ?_
        refine r_goto C 40 dX12_longest_34 (by decide) ?_
        cases hf
        exact r_lv [0, 1, 2, 4] rfl k3
set_option maxHeartbeats 4000000 in
set_option maxRecDepth 100000 in
theorem kX12_longest (G : Gx)  {h : Hp}  {rr : Int32} {hh : Hp} (hf : fX12_longest h = some (rr, hh)) : MC G yX12_longest cX12_longest 5 (some .int) 12 768 h [.ref (gad G 208)] (some (.int rr)) hh := by
  refine MC.of RX12 (by decide) rfl (Nat.le_of_ble_eq_true rfl) rfl (fun X C hG hR hF => ?_)
  subst hG
  have hcs : True := trivial
  unfold fX12_longest at hf
  refine r_aload_n (i := 0) C dX12_longest_0 rfl 0 rfl ?_
  refine r_iconst (v := 0) C dX12_longest_1 (by decide) ?_
  obtain ⟨h8, eh8, hf⟩ := lt_of hf
  refine p_X12_3 C eh8 dX12_longest_2 ?_
  refine r_aload_n (i := 0) C dX12_longest_5 rfl 0 rfl ?_
  obtain ⟨x11, h9, e10, hf⟩ := cl2_of hf
  refine r_callVi (As := []) (st := []) C 208 rfl (by decide) rfl (kX12_holdingNow (xG X) e10) cw_X12_308 rfl rfl (Nat.le_of_ble_eq_true rfl) (zr2 hR rfl rfl) (zrcs hcs) dX12_longest_6 ?_
  refine r_istore_n (i := 1) (lv' := [(0, .ref (gad (xG X) 208)), (1, .int x11)]) C dX12_longest_9 rfl (by decide) [1, 0] rfl ?_
  refine r_iconst (v := 0) C dX12_longest_10 (by decide) ?_
  refine r_istore_n (i := 2) (lv' := [(0, .ref (gad (xG X) 208)), (1, .int x11), (2, .int (0 : Int32))]) C dX12_longest_11 rfl (by decide) [1, 2, 0] rfl ?_
  refine r_iconst (v := 0) C dX12_longest_12 (by decide) ?_
  refine r_istore_n (i := 3) (lv' := [(0, .ref (gad (xG X) 208)), (1, .int x11), (2, .int (0 : Int32)), (3, .int (0 : Int32))]) C dX12_longest_13 rfl (by decide) [1, 2, 3, 0] rfl ?_
  refine r_iconst (v := 0) C dX12_longest_14 (by decide) ?_
  refine r_istore (i := 4) (lv' := [(0, .ref (gad (xG X) 208)), (1, .int x11), (2, .int (0 : Int32)), (3, .int (0 : Int32)), (4, .int (0 : Int32))]) C dX12_longest_15 (by decide) [1, 2, 3, 4, 0] rfl ?_
  exact r_lv [0, 1, 2, 3, 4] rfl ((wX12_longest  C hR hcs hF big) _ _ _ _ _ hf)
def BX12_span_0  (rec : Nat → Hp → Int32 → Int32 → Int32 → Int32 → Int32 → Option (Int32 × Hp)) (h : Hp) (y1 : Int32) (y2 : Int32) (y3 : Int32) (y4 : Int32) (y5 : Int32) : Option (Int32 × Hp) := (if (6 : Int32) < y4 then some (y3, h) else gd (inb (12 : Int32) 2031) (lt9 (up2 h 209 (12 : Int32).toNatClampNeg y4) (fun h3 => rec 1 h3 y1 y2 y3 y4 (0 : Int32))))
def BX12_span_1  (rec : Nat → Hp → Int32 → Int32 → Int32 → Int32 → Int32 → Option (Int32 × Hp)) (h : Hp) (y1 : Int32) (y2 : Int32) (y3 : Int32) (y4 : Int32) (y5 : Int32) : Option (Int32 × Hp) := (if y1 ≤ y5 then lt9 ((h 209 10) - (h 212 10)) (fun x5 => cl9 (fX12_bringsBack h) (fun h6 => (if (0 : Int32) ≤ y3 then (if y2 = (0 : Int32) then lt9 (jmin y3 x5) (fun x10 => lt9 (y4 + (1 : Int32)) (fun x11 => rec 0 h6 y1 y2 x10 x11 0)) else lt9 (jmax y3 x5) (fun x12 => lt9 (y4 + (1 : Int32)) (fun x13 => rec 0 h6 y1 y2 x12 x13 0))) else lt9 (y4 + (1 : Int32)) (fun x14 => rec 0 h6 y1 y2 x5 x14 0)))) else cl9 (fX12_oneDay h (0 : Int32)) (fun h15 => lt9 (y5 + (1 : Int32)) (fun x17 => rec 1 h15 y1 y2 y3 y4 x17)))
def LX12_span  : Nat → Nat → Hp → Int32 → Int32 → Int32 → Int32 → Int32 → Option (Int32 × Hp)
  | 0, _, _, _, _, _, _, _ => none
  | n + 1, lab, h, y1, y2, y3, y4, y5 => if lab = 0 then BX12_span_0  (LX12_span  n) h y1 y2 y3 y4 y5 else if lab = 1 then BX12_span_1  (LX12_span  n) h y1 y2 y3 y4 y5 else none
def fX12_span (h : Hp) (a1 : Int32) (a2 : Int32) : Option (Int32 × Hp) := lt9 (up2 h 208 0 (0 : Int32)) (fun h18 => cl9 ((if (fX12_in a1 (0 : Int32) (60 : Int32)) = (0 : Int32) then some (1 : Int32) else some (0 : Int32)) : Option (Int32)) (fun v19 => cl2 (fX12_throwsIf h18 v19 (1 : Int32)) (fun x25 h23 => (if x25 = (0 : Int32) then cl9 (fX12_keepsAll h23) (fun h27 => LX12_span big 0 h27 a1 a2 (-1 : Int32) (1 : Int32) 0) else some ((0 : Int32), h23)))))
set_option maxHeartbeats 4000000 in
set_option maxRecDepth 100000 in
theorem wX12_span {X : Cx}  {rr : Int32} {hh : Hp} (C : OK X cX12_span 6 RX12 (some .int)) (hR : xR X = { frames := 14, cells := 0, slots := 0, locals := 896 }) (hcs : True) (hF : FinR X (some (.int rr)) hh) : ∀ n : Nat, (∀ (h : Hp) (y1 : Int32) (y2 : Int32) (y3 : Int32) (y4 : Int32) (y5 : Int32), LX12_span  n 0 h y1 y2 y3 y4 y5 = some (rr, hh) → VW X 6 h 0 0 39 [(0, .ref (gad (xG X) 208)), (1, .int y1), (2, .int y2), (3, .int y3), (4, .int y4)] []) ∧ (∀ (h : Hp) (y1 : Int32) (y2 : Int32) (y3 : Int32) (y4 : Int32) (y5 : Int32), LX12_span  n 1 h y1 y2 y3 y4 y5 = some (rr, hh) → VW X 6 h 0 0 58 [(0, .ref (gad (xG X) 208)), (1, .int y1), (2, .int y2), (3, .int y3), (4, .int y4), (5, .int y5)] []) := by
  intro n
  induction n with
  | zero => exact ⟨(fun _ _ _ _ _ _ hf => (by rw [LX12_span] at hf; cases hf)), (fun _ _ _ _ _ _ hf => (by rw [LX12_span] at hf; cases hf))⟩
  | succ n ih =>
    refine ⟨?_, ?_⟩
    · intro h y1 y2 y3 y4 y5 hf
      rw [LX12_span, if_pos rfl] at hf
      unfold BX12_span_0 at hf
      refine r_iload (i := 4) C dX12_span_39 4 rfl ?_
      refine r_bipush (v := 6) C dX12_span_41 (by decide) ?_
      refine r_icmp_gt C 131 dX12_span_43 (by decide) (fun c1 => ?_) (fun c1 => ?_)
      · rw [if_pos c1] at hf
        refine r_iload_n (i := 3) C dX12_span_131 rfl 3 rfl ?_
        cases hf
        exact r_iret C hF dX12_span_132
      · rw [if_neg c1] at hf
        refine r_aload_n (i := 0) C dX12_span_46 rfl 0 rfl ?_
        refine g_X12_13 C dX12_span_47 ?_
        refine r_bipush (v := 12) C dX12_span_50 (by decide) ?_
        refine r_iload (i := 4) C dX12_span_52 4 rfl ?_
        obtain ⟨g2, hf⟩ := gd_of hf
        obtain ⟨h3, eh3, hf⟩ := lt_of hf
        refine r_iast C 209 eh3 rfl (by decide) g2 dX12_span_54 ?_
        refine r_iconst (v := 0) C dX12_span_55 (by decide) ?_
        refine r_istore (i := 5) (lv' := [(0, .ref (gad (xG X) 208)), (1, .int y1), (2, .int y2), (3, .int y3), (4, .int y4), (5, .int (0 : Int32))]) C dX12_span_56 (by decide) [1, 2, 3, 4, 5, 0] rfl ?_
        exact r_lv [0, 1, 2, 3, 4, 5] rfl (ih.2 _ _ _ _ _ _ hf)
    · intro h y1 y2 y3 y4 y5 hf
      rw [LX12_span, if_neg (by decide), if_pos rfl] at hf
      unfold BX12_span_1 at hf
      refine r_iload (i := 5) C dX12_span_58 5 rfl ?_
      refine r_iload_n (i := 1) C dX12_span_60 rfl 1 rfl ?_
      refine r_icmp_ge C 75 dX12_span_61 (by decide) (fun c4 => ?_) (fun c4 => ?_)
      · rw [if_pos c4] at hf
        refine r_aload_n (i := 0) C dX12_span_75 rfl 0 rfl ?_
        refine g_X12_13 C dX12_span_76 ?_
        refine r_bipush (v := 10) C dX12_span_79 (by decide) ?_
        refine r_ialdc C 209 (m := 10) rfl (by decide) (by decide) (show inb 10 2031 by decide) dX12_span_81 ?_
        refine r_aload_n (i := 0) C dX12_span_82 rfl 0 rfl ?_
        refine g_X12_23 C dX12_span_83 ?_
        refine r_bipush (v := 10) C dX12_span_86 (by decide) ?_
        refine r_ialdc C 212 (m := 10) rfl (by decide) (by decide) (show inb 10 333 by decide) dX12_span_88 ?_
        refine r_isub C dX12_span_89 ?_
        obtain ⟨x5, ex5, hf⟩ := lt_of hf
        refine r_top ex5 ?_
        refine r_istore (i := 5) (lv' := [(0, .ref (gad (xG X) 208)), (1, .int y1), (2, .int y2), (3, .int y3), (4, .int y4), (5, .int x5)]) C dX12_span_90 (by decide) [1, 2, 3, 4, 5, 0] rfl ?_
        refine r_aload_n (i := 0) C dX12_span_92 rfl 0 rfl ?_
        obtain ⟨h6, e7, hf⟩ := cl_of hf
        refine r_callVv (As := []) (st := []) C 208 rfl (by decide) rfl (kX12_bringsBack (xG X) e7) cw_X12_353 rfl rfl (Nat.le_of_ble_eq_true rfl) (zr2 hR rfl rfl) (zrcs hcs) dX12_span_93 ?_
        refine r_iload_n (i := 3) C dX12_span_96 rfl 3 rfl ?_
        refine r_if_ge C 105 dX12_span_97 (by decide) (fun c8 => ?_) (fun c8 => ?_)
        · rw [if_pos c8] at hf
          refine r_iload_n (i := 2) C dX12_span_105 rfl 2 rfl ?_
          refine r_if_eq C 118 dX12_span_106 (by decide) (fun c9 => ?_) (fun c9 => ?_)
          · rw [if_pos c9] at hf
            refine r_iload_n (i := 3) C dX12_span_118 rfl 3 rfl ?_
            refine r_iload (i := 5) C dX12_span_119 5 rfl ?_
            refine r_mmin9 C gw_1797 gm_min_s gm_i gm_min_c (zr1 hR rfl) (zr0 hR (Nat.le_of_ble_eq_true rfl)) (zrcs hcs) dX12_span_121 ?_
            obtain ⟨x10, ex10, hf⟩ := lt_of hf
            refine r_top ex10 ?_
            refine r_istore_n (i := 3) (lv' := [(0, .ref (gad (xG X) 208)), (1, .int y1), (2, .int y2), (3, .int x10), (4, .int y4), (5, .int x5)]) C dX12_span_124 rfl (by decide) [1, 2, 3, 0, 4, 5] rfl ?_
            obtain ⟨x11, ex11, hf⟩ := lt_of hf
            refine r_iinc (j := 4) (v := x11) (lv' := [(0, .ref (gad (xG X) 208)), (1, .int y1), (2, .int y2), (3, .int x10), (4, .int x11), (5, .int x5)]) C dX12_span_125 rfl (by rw [ex11]; rfl) (by decide) [1, 2, 3, 4, 0, 5] rfl ?_
            refine r_goto C 39 dX12_span_128 (by decide) ?_
            exact r_lv [0, 1, 2, 3, 4] rfl (ih.1 _ _ _ _ _ _ hf)
          · rw [if_neg c9] at hf
            refine r_iload_n (i := 3) C dX12_span_109 rfl 3 rfl ?_
            refine r_iload (i := 5) C dX12_span_110 5 rfl ?_
            refine r_mmax9 C gw_1806 gm_max_s gm_i gm_max_c (zr1 hR rfl) (zr0 hR (Nat.le_of_ble_eq_true rfl)) (zrcs hcs) dX12_span_112 ?_
            refine r_goto C 124 dX12_span_115 (by decide) ?_
            obtain ⟨x12, ex12, hf⟩ := lt_of hf
            refine r_top ex12 ?_
            refine r_istore_n (i := 3) (lv' := [(0, .ref (gad (xG X) 208)), (1, .int y1), (2, .int y2), (3, .int x12), (4, .int y4), (5, .int x5)]) C dX12_span_124 rfl (by decide) [1, 2, 3, 0, 4, 5] rfl ?_
            obtain ⟨x13, ex13, hf⟩ := lt_of hf
            refine r_iinc (j := 4) (v := x13) (lv' := [(0, .ref (gad (xG X) 208)), (1, .int y1), (2, .int y2), (3, .int x12), (4, .int x13), (5, .int x5)]) C dX12_span_125 rfl (by rw [ex13]; rfl) (by decide) [1, 2, 3, 4, 0, 5] rfl ?_
            refine r_goto C 39 dX12_span_128 (by decide) ?_
            exact r_lv [0, 1, 2, 3, 4] rfl (ih.1 _ _ _ _ _ _ hf)
        · rw [if_neg c8] at hf
          refine r_iload (i := 5) C dX12_span_100 5 rfl ?_
          refine r_goto C 124 dX12_span_102 (by decide) ?_
          refine r_istore_n (i := 3) (lv' := [(0, .ref (gad (xG X) 208)), (1, .int y1), (2, .int y2), (3, .int x5), (4, .int y4), (5, .int x5)]) C dX12_span_124 rfl (by decide) [1, 2, 3, 0, 4, 5] rfl ?_
          obtain ⟨x14, ex14, hf⟩ := lt_of hf
          refine r_iinc (j := 4) (v := x14) (lv' := [(0, .ref (gad (xG X) 208)), (1, .int y1), (2, .int y2), (3, .int x5), (4, .int x14), (5, .int x5)]) C dX12_span_125 rfl (by rw [ex14]; rfl) (by decide) [1, 2, 3, 4, 0, 5] rfl ?_
          refine r_goto C 39 dX12_span_128 (by decide) ?_
          exact r_lv [0, 1, 2, 3, 4] rfl (ih.1 _ _ _ _ _ _ hf)
      · rw [if_neg c4] at hf
        refine r_aload_n (i := 0) C dX12_span_64 rfl 0 rfl ?_
        refine r_iconst (v := 0) C dX12_span_65 (by decide) ?_
        obtain ⟨h15, e16, hf⟩ := cl_of hf
        refine r_callVv (As := [.int (0 : Int32)]) (st := []) C 208 rfl (by decide) rfl (kX12_oneDay (xG X) e16) cw_X12_346 rfl rfl (Nat.le_of_ble_eq_true rfl) (zr2 hR rfl rfl) (zrcs hcs) dX12_span_66 ?_
        obtain ⟨x17, ex17, hf⟩ := lt_of hf
        refine r_iinc (j := 5) (v := x17) (lv' := [(0, .ref (gad (xG X) 208)), (1, .int y1), (2, .int y2), (3, .int y3), (4, .int y4), (5, .int x17)]) C dX12_span_69 rfl (by rw [ex17]; rfl) (by decide) [1, 2, 3, 4, 5, 0] rfl ?_
        refine r_goto C 58 dX12_span_72 (by decide) ?_
        exact r_lv [0, 1, 2, 3, 4, 5] rfl (ih.2 _ _ _ _ _ _ hf)
set_option maxHeartbeats 4000000 in
set_option maxRecDepth 100000 in
theorem kX12_span (G : Gx)  {h : Hp} {a1 : Int32} {a2 : Int32} {rr : Int32} {hh : Hp} (hf : fX12_span h a1 a2 = some (rr, hh)) : MC G yX12_span cX12_span 6 (some .int) 14 896 h [.ref (gad G 208), .int a1, .int a2] (some (.int rr)) hh := by
  refine MC.of RX12 (by decide) rfl (Nat.le_of_ble_eq_true rfl) rfl (fun X C hG hR hF => ?_)
  subst hG
  have hcs : True := trivial
  unfold fX12_span at hf
  refine r_aload_n (i := 0) C dX12_span_0 rfl 0 rfl ?_
  refine r_iconst (v := 0) C dX12_span_1 (by decide) ?_
  obtain ⟨h18, eh18, hf⟩ := lt_of hf
  refine p_X12_3 C eh18 dX12_span_2 ?_
  refine r_aload_n (i := 0) C dX12_span_5 rfl 0 rfl ?_
  refine r_iload_n (i := 1) C dX12_span_6 rfl 1 rfl ?_
  refine r_iconst (v := 0) C dX12_span_7 (by decide) ?_
  refine r_bipush (v := 60) C dX12_span_8 (by decide) ?_
  refine r_callSi (As := [.int a1, .int (0 : Int32), .int (60 : Int32)]) (st := [.ref (gad (xG X) 208)]) C (kX12_in (xG X)) cw_X12_76 rfl rfl (Nat.le_of_ble_eq_true rfl) (zr2 hR rfl rfl) (zrcs hcs) dX12_span_10 ?_
  obtain ⟨v19, r21, hf⟩ := cl_of hf
  have k20 : VW X 6 h18 0 0 21 [(0, .ref (gad (xG X) 208)), (1, .int a1), (2, .int a2)] [.int v19, .ref (gad (xG X) 208)] := by
    refine r_iconst (v := 1) C dX12_span_21 (by decide) ?_
    obtain ⟨x25, h23, e24, hf⟩ := cl2_of hf
    refine r_callVi (As := [.int v19, .int (1 : Int32)]) (st := []) C 208 rfl (by decide) rfl (kX12_throwsIf (xG X) e24) cw_X12_247 rfl rfl (Nat.le_of_ble_eq_true rfl) (zr2 hR rfl rfl) (zrcs hcs) dX12_span_22 ?_
    refine r_if_eq C 30 dX12_span_25 (by decide) (fun c26 => ?_) (fun c26 => ?_)
    · rw [if_pos c26] at hf
      refine r_aload_n (i := 0) C dX12_span_30 rfl 0 rfl ?_
      obtain ⟨h27, e28, hf⟩ := cl_of hf
      refine r_callVv (As := []) (st := []) C 208 rfl (by decide) rfl (kX12_keepsAll (xG X) e28) cw_X12_343 rfl rfl (Nat.le_of_ble_eq_true rfl) (zr2 hR rfl rfl) (zrcs hcs) dX12_span_31 ?_
      refine r_iconst (v := (-1)) C dX12_span_34 (by decide) ?_
      refine r_istore_n (i := 3) (lv' := [(0, .ref (gad (xG X) 208)), (1, .int a1), (2, .int a2), (3, .int (-1 : Int32))]) C dX12_span_35 rfl (by decide) [1, 2, 3, 0] rfl ?_
      refine r_iconst (v := 1) C dX12_span_36 (by decide) ?_
      refine r_istore (i := 4) (lv' := [(0, .ref (gad (xG X) 208)), (1, .int a1), (2, .int a2), (3, .int (-1 : Int32)), (4, .int (1 : Int32))]) C dX12_span_37 (by decide) [1, 2, 3, 4, 0] rfl ?_
      exact r_lv [0, 1, 2, 3, 4] rfl ((wX12_span  C hR hcs hF big).1 _ _ _ _ _ _ hf)
    · rw [if_neg c26] at hf
      refine r_iconst (v := 0) C dX12_span_28 (by decide) ?_
      cases hf
      exact r_iret C hF dX12_span_29
  clear hf
  have hf := r21
  refine r_if_ne C 20 dX12_span_13 (by decide) (fun c22 => ?_) (fun c22 => ?_)
  · rw [if_neg c22] at hf
    refine r_iconst (v := 0) C dX12_span_20 (by decide) ?_
    cases hf
    exact k20
  · rw [if_pos c22] at hf
    refine r_iconst (v := 1) C dX12_span_16 (by decide) ?_
    refine r_goto C 21 dX12_span_17 (by decide) ?_
    cases hf
    exact k20
def fX12_ofLog (h : Hp) (a1 : Int32) (a2 : Int32) : Option (Int32) := gd (inb (((93 : Int32) + ((4 : Int32) * a1)) + a2) 2031) (some (h 209 (((93 : Int32) + ((4 : Int32) * a1)) + a2).toNatClampNeg))
set_option maxHeartbeats 4000000 in
set_option maxRecDepth 100000 in
theorem kX12_ofLog (G : Gx)  {h : Hp} {a1 : Int32} {a2 : Int32} {rr : Int32} (hf : fX12_ofLog h a1 a2 = some rr) : MC G yX12_ofLog cX12_ofLog 3 (some .int) 1 64 h [.ref (gad G 208), .int a1, .int a2] (some (.int rr)) h := by
  refine MC.of RX12 (by decide) rfl (Nat.le_of_ble_eq_true rfl) rfl (fun X C hG hR hF => ?_)
  subst hG
  have hcs : True := trivial
  unfold fX12_ofLog at hf
  refine r_aload_n (i := 0) C dX12_ofLog_0 rfl 0 rfl ?_
  refine g_X12_13 C dX12_ofLog_1 ?_
  refine r_bipush (v := 93) C dX12_ofLog_4 (by decide) ?_
  refine r_iconst (v := 4) C dX12_ofLog_6 (by decide) ?_
  refine r_iload_n (i := 1) C dX12_ofLog_7 rfl 1 rfl ?_
  refine r_imul C dX12_ofLog_8 ?_
  refine r_iadd C dX12_ofLog_9 ?_
  refine r_iload_n (i := 2) C dX12_ofLog_10 rfl 2 rfl ?_
  refine r_iadd C dX12_ofLog_11 ?_
  obtain ⟨g1, hf⟩ := gd_of hf
  refine r_iald C 209 rfl (by decide) g1 dX12_ofLog_12 ?_
  cases hf
  exact r_iret C hF dX12_ofLog_13
def BX12_led_0  (rec : Hp → Int32 → Int32 → Int32 → Int32 → Int32 → Option (Int32 × Hp)) (h : Hp) (y1 : Int32) (y2 : Int32) (y3 : Int32) (y4 : Int32) (y5 : Int32) : Option (Int32 × Hp) := (if y5 < (0 : Int32) then (if y2 = (0 : Int32) then some (y3, h) else some (y4, h)) else cl9 (fX12_ofLog h y5 (1 : Int32)) (fun x3 => (if x3 = y1 then lt9 (y3 + (1 : Int32)) (fun x6 => cl9 (fX12_ofLog h y5 (0 : Int32)) (fun x7 => lt9 (y5 + (-1 : Int32)) (fun x9 => rec h y1 y2 x6 x7 x9))) else lt9 (y5 + (-1 : Int32)) (fun x10 => rec h y1 y2 y3 y4 x10))))
def LX12_led  : Nat → Hp → Int32 → Int32 → Int32 → Int32 → Int32 → Option (Int32 × Hp)
  | 0, _, _, _, _, _, _ => none
  | n + 1, h, y1, y2, y3, y4, y5 => BX12_led_0  (LX12_led  n) h y1 y2 y3 y4 y5
def fX12_led (h : Hp) (a1 : Int32) (a2 : Int32) : Option (Int32 × Hp) := lt9 (up2 h 208 0 (0 : Int32)) (fun h11 => cl2 (fX12_throwsIf h11 (fX12_noPlace a1) (1 : Int32)) (fun x14 h12 => (if x14 = (0 : Int32) then lt9 ((h12 209 11) - (1 : Int32)) (fun x16 => LX12_led big h12 a1 a2 (0 : Int32) (-1 : Int32) x16) else some ((0 : Int32), h12))))
set_option maxHeartbeats 4000000 in
set_option maxRecDepth 100000 in
theorem wX12_led {X : Cx}  {rr : Int32} {hh : Hp} (C : OK X cX12_led 6 RX12 (some .int)) (hR : xR X = { frames := 3, cells := 0, slots := 0, locals := 192 }) (hcs : True) (hF : FinR X (some (.int rr)) hh) : ∀ n : Nat, (∀ (h : Hp) (y1 : Int32) (y2 : Int32) (y3 : Int32) (y4 : Int32) (y5 : Int32), LX12_led  n h y1 y2 y3 y4 y5 = some (rr, hh) → VW X 6 h 0 0 35 [(0, .ref (gad (xG X) 208)), (1, .int y1), (2, .int y2), (3, .int y3), (4, .int y4), (5, .int y5)] []) := by
  intro n
  induction n with
  | zero => exact (fun _ _ _ _ _ _ hf => (by rw [LX12_led] at hf; cases hf))
  | succ n ih =>
    intro h y1 y2 y3 y4 y5 hf
    rw [LX12_led] at hf
    unfold BX12_led_0 at hf
    refine r_iload (i := 5) C dX12_led_35 5 rfl ?_
    refine r_if_lt C 72 dX12_led_37 (by decide) (fun c1 => ?_) (fun c1 => ?_)
    · rw [if_pos c1] at hf
      refine r_iload_n (i := 2) C dX12_led_72 rfl 2 rfl ?_
      refine r_if_eq C 81 dX12_led_73 (by decide) (fun c2 => ?_) (fun c2 => ?_)
      · rw [if_pos c2] at hf
        refine r_iload_n (i := 3) C dX12_led_81 rfl 3 rfl ?_
        cases hf
        exact r_iret C hF dX12_led_82
      · rw [if_neg c2] at hf
        refine r_iload (i := 4) C dX12_led_76 4 rfl ?_
        refine r_goto C 82 dX12_led_78 (by decide) ?_
        cases hf
        exact r_iret C hF dX12_led_82
    · rw [if_neg c1] at hf
      refine r_aload_n (i := 0) C dX12_led_40 rfl 0 rfl ?_
      refine r_iload (i := 5) C dX12_led_41 5 rfl ?_
      refine r_iconst (v := 1) C dX12_led_43 (by decide) ?_
      obtain ⟨x3, e4, hf⟩ := cl_of hf
      refine r_callVi (As := [.int y5, .int (1 : Int32)]) (st := []) C 208 rfl (by decide) rfl (kX12_ofLog (xG X) e4) cw_X12_426 rfl rfl (Nat.le_of_ble_eq_true rfl) (zr2 hR rfl rfl) (zrcs hcs) dX12_led_44 ?_
      refine r_iload_n (i := 1) C dX12_led_47 rfl 1 rfl ?_
      refine r_icmp_eq C 54 dX12_led_48 (by decide) (fun c5 => ?_) (fun c5 => ?_)
      · rw [if_pos c5] at hf
        obtain ⟨x6, ex6, hf⟩ := lt_of hf
        refine r_iinc (j := 3) (v := x6) (lv' := [(0, .ref (gad (xG X) 208)), (1, .int y1), (2, .int y2), (3, .int x6), (4, .int y4), (5, .int y5)]) C dX12_led_54 rfl (by rw [ex6]; rfl) (by decide) [1, 2, 3, 0, 4, 5] rfl ?_
        refine r_aload_n (i := 0) C dX12_led_57 rfl 0 rfl ?_
        refine r_iload (i := 5) C dX12_led_58 5 rfl ?_
        refine r_iconst (v := 0) C dX12_led_60 (by decide) ?_
        obtain ⟨x7, e8, hf⟩ := cl_of hf
        refine r_callVi (As := [.int y5, .int (0 : Int32)]) (st := []) C 208 rfl (by decide) rfl (kX12_ofLog (xG X) e8) cw_X12_426 rfl rfl (Nat.le_of_ble_eq_true rfl) (zr2 hR rfl rfl) (zrcs hcs) dX12_led_61 ?_
        refine r_istore (i := 4) (lv' := [(0, .ref (gad (xG X) 208)), (1, .int y1), (2, .int y2), (3, .int x6), (4, .int x7), (5, .int y5)]) C dX12_led_64 (by decide) [1, 2, 3, 4, 0, 5] rfl ?_
        obtain ⟨x9, ex9, hf⟩ := lt_of hf
        refine r_iinc (j := 5) (v := x9) (lv' := [(0, .ref (gad (xG X) 208)), (1, .int y1), (2, .int y2), (3, .int x6), (4, .int x7), (5, .int x9)]) C dX12_led_66 rfl (by rw [ex9]; rfl) (by decide) [1, 2, 3, 4, 5, 0] rfl ?_
        refine r_goto C 35 dX12_led_69 (by decide) ?_
        exact r_lv [0, 1, 2, 3, 4, 5] rfl (ih _ _ _ _ _ _ hf)
      · rw [if_neg c5] at hf
        refine r_goto C 66 dX12_led_51 (by decide) ?_
        obtain ⟨x10, ex10, hf⟩ := lt_of hf
        refine r_iinc (j := 5) (v := x10) (lv' := [(0, .ref (gad (xG X) 208)), (1, .int y1), (2, .int y2), (3, .int y3), (4, .int y4), (5, .int x10)]) C dX12_led_66 rfl (by rw [ex10]; rfl) (by decide) [1, 2, 3, 4, 5, 0] rfl ?_
        refine r_goto C 35 dX12_led_69 (by decide) ?_
        exact r_lv [0, 1, 2, 3, 4, 5] rfl (ih _ _ _ _ _ _ hf)
set_option maxHeartbeats 4000000 in
set_option maxRecDepth 100000 in
theorem kX12_led (G : Gx)  {h : Hp} {a1 : Int32} {a2 : Int32} {rr : Int32} {hh : Hp} (hf : fX12_led h a1 a2 = some (rr, hh)) : MC G yX12_led cX12_led 6 (some .int) 3 192 h [.ref (gad G 208), .int a1, .int a2] (some (.int rr)) hh := by
  refine MC.of RX12 (by decide) rfl (Nat.le_of_ble_eq_true rfl) rfl (fun X C hG hR hF => ?_)
  subst hG
  have hcs : True := trivial
  unfold fX12_led at hf
  refine r_aload_n (i := 0) C dX12_led_0 rfl 0 rfl ?_
  refine r_iconst (v := 0) C dX12_led_1 (by decide) ?_
  obtain ⟨h11, eh11, hf⟩ := lt_of hf
  refine p_X12_3 C eh11 dX12_led_2 ?_
  refine r_aload_n (i := 0) C dX12_led_5 rfl 0 rfl ?_
  refine r_iload_n (i := 1) C dX12_led_6 rfl 1 rfl ?_
  refine r_callSi (As := [.int a1]) (st := [.ref (gad (xG X) 208)]) C (kX12_noPlace (xG X)) cw_X12_305 rfl rfl (Nat.le_of_ble_eq_true rfl) (zr2 hR rfl rfl) (zrcs hcs) dX12_led_7 ?_
  refine r_iconst (v := 1) C dX12_led_10 (by decide) ?_
  obtain ⟨x14, h12, e13, hf⟩ := cl2_of hf
  refine r_callVi (As := [.int (fX12_noPlace a1), .int (1 : Int32)]) (st := []) C 208 rfl (by decide) rfl (kX12_throwsIf (xG X) e13) cw_X12_247 rfl rfl (Nat.le_of_ble_eq_true rfl) (zr2 hR rfl rfl) (zrcs hcs) dX12_led_11 ?_
  refine r_if_eq C 19 dX12_led_14 (by decide) (fun c15 => ?_) (fun c15 => ?_)
  · rw [if_pos c15] at hf
    refine r_iconst (v := 0) C dX12_led_19 (by decide) ?_
    refine r_istore_n (i := 3) (lv' := [(0, .ref (gad (xG X) 208)), (1, .int a1), (2, .int a2), (3, .int (0 : Int32))]) C dX12_led_20 rfl (by decide) [1, 2, 3, 0] rfl ?_
    refine r_iconst (v := (-1)) C dX12_led_21 (by decide) ?_
    refine r_istore (i := 4) (lv' := [(0, .ref (gad (xG X) 208)), (1, .int a1), (2, .int a2), (3, .int (0 : Int32)), (4, .int (-1 : Int32))]) C dX12_led_22 (by decide) [1, 2, 3, 4, 0] rfl ?_
    refine r_aload_n (i := 0) C dX12_led_24 rfl 0 rfl ?_
    refine g_X12_13 C dX12_led_25 ?_
    refine r_bipush (v := 11) C dX12_led_28 (by decide) ?_
    refine r_ialdc C 209 (m := 11) rfl (by decide) (by decide) (show inb 11 2031 by decide) dX12_led_30 ?_
    refine r_iconst (v := 1) C dX12_led_31 (by decide) ?_
    refine r_isub C dX12_led_32 ?_
    obtain ⟨x16, ex16, hf⟩ := lt_of hf
    refine r_top ex16 ?_
    refine r_istore (i := 5) (lv' := [(0, .ref (gad (xG X) 208)), (1, .int a1), (2, .int a2), (3, .int (0 : Int32)), (4, .int (-1 : Int32)), (5, .int x16)]) C dX12_led_33 (by decide) [1, 2, 3, 4, 5, 0] rfl ?_
    exact r_lv [0, 1, 2, 3, 4, 5] rfl ((wX12_led  C hR hcs hF big) _ _ _ _ _ _ hf)
  · rw [if_neg c15] at hf
    refine r_iconst (v := 0) C dX12_led_17 (by decide) ?_
    cases hf
    exact r_iret C hF dX12_led_18
def fX12_log (h : Hp) (a1 : Int32) (a2 : Int32) : Option (Int32 × Hp) := lt9 (up2 h 208 0 (0 : Int32)) (fun h1 => cl9 ((if (fX12_in a2 (0 : Int32) (3 : Int32)) = (0 : Int32) then some (1 : Int32) else some (0 : Int32)) : Option (Int32)) (fun v2 => cl2 (fX12_throwsIf h1 v2 (1 : Int32)) (fun x8 h6 => (if x8 = (0 : Int32) then (if (fX12_in a1 (0 : Int32) ((h6 209 11) - (1 : Int32))) = (0 : Int32) then some ((-1 : Int32), h6) else cl9 (fX12_ofLog h6 a1 a2) (fun x11 => some (x11, h6))) else some ((0 : Int32), h6)))))
set_option maxHeartbeats 4000000 in
set_option maxRecDepth 100000 in
theorem kX12_log (G : Gx)  {h : Hp} {a1 : Int32} {a2 : Int32} {rr : Int32} {hh : Hp} (hf : fX12_log h a1 a2 = some (rr, hh)) : MC G yX12_log cX12_log 3 (some .int) 2 128 h [.ref (gad G 208), .int a1, .int a2] (some (.int rr)) hh := by
  refine MC.of RX12 (by decide) rfl (Nat.le_of_ble_eq_true rfl) rfl (fun X C hG hR hF => ?_)
  subst hG
  have hcs : True := trivial
  unfold fX12_log at hf
  refine r_aload_n (i := 0) C dX12_log_0 rfl 0 rfl ?_
  refine r_iconst (v := 0) C dX12_log_1 (by decide) ?_
  obtain ⟨h1, eh1, hf⟩ := lt_of hf
  refine p_X12_3 C eh1 dX12_log_2 ?_
  refine r_aload_n (i := 0) C dX12_log_5 rfl 0 rfl ?_
  refine r_iload_n (i := 2) C dX12_log_6 rfl 2 rfl ?_
  refine r_iconst (v := 0) C dX12_log_7 (by decide) ?_
  refine r_iconst (v := 3) C dX12_log_8 (by decide) ?_
  refine r_callSi (As := [.int a2, .int (0 : Int32), .int (3 : Int32)]) (st := [.ref (gad (xG X) 208)]) C (kX12_in (xG X)) cw_X12_76 rfl rfl (Nat.le_of_ble_eq_true rfl) (zr2 hR rfl rfl) (zrcs hcs) dX12_log_9 ?_
  obtain ⟨v2, r4, hf⟩ := cl_of hf
  have k3 : VW X 3 h1 0 0 20 [(0, .ref (gad (xG X) 208)), (1, .int a1), (2, .int a2)] [.int v2, .ref (gad (xG X) 208)] := by
    refine r_iconst (v := 1) C dX12_log_20 (by decide) ?_
    obtain ⟨x8, h6, e7, hf⟩ := cl2_of hf
    refine r_callVi (As := [.int v2, .int (1 : Int32)]) (st := []) C 208 rfl (by decide) rfl (kX12_throwsIf (xG X) e7) cw_X12_247 rfl rfl (Nat.le_of_ble_eq_true rfl) (zr2 hR rfl rfl) (zrcs hcs) dX12_log_21 ?_
    refine r_if_eq C 29 dX12_log_24 (by decide) (fun c9 => ?_) (fun c9 => ?_)
    · rw [if_pos c9] at hf
      refine r_iload_n (i := 1) C dX12_log_29 rfl 1 rfl ?_
      refine r_iconst (v := 0) C dX12_log_30 (by decide) ?_
      refine r_aload_n (i := 0) C dX12_log_31 rfl 0 rfl ?_
      refine g_X12_13 C dX12_log_32 ?_
      refine r_bipush (v := 11) C dX12_log_35 (by decide) ?_
      refine r_ialdc C 209 (m := 11) rfl (by decide) (by decide) (show inb 11 2031 by decide) dX12_log_37 ?_
      refine r_iconst (v := 1) C dX12_log_38 (by decide) ?_
      refine r_isub C dX12_log_39 ?_
      refine r_callSi (As := [.int a1, .int (0 : Int32), .int ((h6 209 11) - (1 : Int32))]) (st := []) C (kX12_in (xG X)) cw_X12_76 rfl rfl (Nat.le_of_ble_eq_true rfl) (zr2 hR rfl rfl) (zrcs hcs) dX12_log_40 ?_
      refine r_if_eq C 55 dX12_log_43 (by decide) (fun c10 => ?_) (fun c10 => ?_)
      · rw [if_pos c10] at hf
        refine r_iconst (v := (-1)) C dX12_log_55 (by decide) ?_
        cases hf
        exact r_iret C hF dX12_log_56
      · rw [if_neg c10] at hf
        refine r_aload_n (i := 0) C dX12_log_46 rfl 0 rfl ?_
        refine r_iload_n (i := 1) C dX12_log_47 rfl 1 rfl ?_
        refine r_iload_n (i := 2) C dX12_log_48 rfl 2 rfl ?_
        obtain ⟨x11, e12, hf⟩ := cl_of hf
        refine r_callVi (As := [.int a1, .int a2]) (st := []) C 208 rfl (by decide) rfl (kX12_ofLog (xG X) e12) cw_X12_426 rfl rfl (Nat.le_of_ble_eq_true rfl) (zr2 hR rfl rfl) (zrcs hcs) dX12_log_49 ?_
        refine r_goto C 56 dX12_log_52 (by decide) ?_
        cases hf
        exact r_iret C hF dX12_log_56
    · rw [if_neg c9] at hf
      refine r_iconst (v := 0) C dX12_log_27 (by decide) ?_
      cases hf
      exact r_iret C hF dX12_log_28
  clear hf
  have hf := r4
  refine r_if_ne C 19 dX12_log_12 (by decide) (fun c5 => ?_) (fun c5 => ?_)
  · rw [if_neg c5] at hf
    refine r_iconst (v := 0) C dX12_log_19 (by decide) ?_
    cases hf
    exact k3
  · rw [if_pos c5] at hf
    refine r_iconst (v := 1) C dX12_log_15 (by decide) ?_
    refine r_goto C 20 dX12_log_16 (by decide) ?_
    cases hf
    exact k3
def fX12_seed (h : Hp) (a1 : Int32) : Option (Int32 × Hp) := lt9 (up2 h 208 0 (0 : Int32)) (fun h1 => gd (inb (12 : Int32) 2031) (lt9 (up2 h1 209 (12 : Int32).toNatClampNeg a1) (fun h3 => some ((h1 209 12), h3))))
set_option maxHeartbeats 4000000 in
set_option maxRecDepth 100000 in
theorem kX12_seed (G : Gx)  {h : Hp} {a1 : Int32} {rr : Int32} {hh : Hp} (hf : fX12_seed h a1 = some (rr, hh)) : MC G yX12_seed cX12_seed 3 (some .int) 1 64 h [.ref (gad G 208), .int a1] (some (.int rr)) hh := by
  refine MC.of RX12 (by decide) rfl (Nat.le_of_ble_eq_true rfl) rfl (fun X C hG hR hF => ?_)
  subst hG
  have hcs : True := trivial
  unfold fX12_seed at hf
  refine r_aload_n (i := 0) C dX12_seed_0 rfl 0 rfl ?_
  refine r_iconst (v := 0) C dX12_seed_1 (by decide) ?_
  obtain ⟨h1, eh1, hf⟩ := lt_of hf
  refine p_X12_3 C eh1 dX12_seed_2 ?_
  refine r_aload_n (i := 0) C dX12_seed_5 rfl 0 rfl ?_
  refine g_X12_13 C dX12_seed_6 ?_
  refine r_bipush (v := 12) C dX12_seed_9 (by decide) ?_
  refine r_ialdc C 209 (m := 12) rfl (by decide) (by decide) (show inb 12 2031 by decide) dX12_seed_11 ?_
  refine r_istore_n (i := 2) (lv' := [(0, .ref (gad (xG X) 208)), (1, .int a1), (2, .int (h1 209 12))]) C dX12_seed_12 rfl (by decide) [1, 2, 0] rfl ?_
  refine r_aload_n (i := 0) C dX12_seed_13 rfl 0 rfl ?_
  refine g_X12_13 C dX12_seed_14 ?_
  refine r_bipush (v := 12) C dX12_seed_17 (by decide) ?_
  refine r_iload_n (i := 1) C dX12_seed_19 rfl 1 rfl ?_
  obtain ⟨g2, hf⟩ := gd_of hf
  obtain ⟨h3, eh3, hf⟩ := lt_of hf
  refine r_iast C 209 eh3 rfl (by decide) g2 dX12_seed_20 ?_
  refine r_iload_n (i := 2) C dX12_seed_21 rfl 2 rfl ?_
  cases hf
  exact r_iret C hF dX12_seed_22
def BX12_brassOfAll_0 (h : Hp) (rec : Int32 → Int32 → Option (Int32)) (y1 : Int32) (y2 : Int32) : Option (Int32) := (if (fX12_pinners h) ≤ y2 then some y1 else cl9 (fX12_of h y2 (2 : Int32)) (fun x2 => lt9 (y1 + x2) (fun x4 => lt9 (y2 + (1 : Int32)) (fun x5 => rec x4 x5))))
def LX12_brassOfAll (h : Hp) : Nat → Int32 → Int32 → Option (Int32)
  | 0, _, _ => none
  | n + 1, y1, y2 => BX12_brassOfAll_0 h (LX12_brassOfAll h n) y1 y2
def fX12_brassOfAll (h : Hp) : Option (Int32) := LX12_brassOfAll h big (0 : Int32) (0 : Int32)
set_option maxHeartbeats 4000000 in
set_option maxRecDepth 100000 in
theorem wX12_brassOfAll {X : Cx} {h : Hp}  {rr : Int32} (C : OK X cX12_brassOfAll 3 RX12 (some .int)) (hR : xR X = { frames := 3, cells := 0, slots := 0, locals := 192 }) (hcs : True) (hF : FinR X (some (.int rr)) h) : ∀ n : Nat, (∀ (y1 : Int32) (y2 : Int32), LX12_brassOfAll h n y1 y2 = some rr → VW X 3 h 0 0 4 [(0, .ref (gad (xG X) 208)), (1, .int y1), (2, .int y2)] []) := by
  intro n
  induction n with
  | zero => exact (fun _ _ hf => (by rw [LX12_brassOfAll] at hf; cases hf))
  | succ n ih =>
    intro y1 y2 hf
    rw [LX12_brassOfAll] at hf
    unfold BX12_brassOfAll_0 at hf
    refine r_iload_n (i := 2) C dX12_brassOfAll_4 rfl 2 rfl ?_
    refine r_aload_n (i := 0) C dX12_brassOfAll_5 rfl 0 rfl ?_
    refine r_callVi (As := []) (st := [.int y2]) C 208 rfl (by decide) rfl (kX12_pinners (xG X)) cw_X12_73 rfl rfl (Nat.le_of_ble_eq_true rfl) (zr2 hR rfl rfl) (zrcs hcs) dX12_brassOfAll_6 ?_
    refine r_icmp_ge C 27 dX12_brassOfAll_9 (by decide) (fun c1 => ?_) (fun c1 => ?_)
    · rw [if_pos c1] at hf
      refine r_iload_n (i := 1) C dX12_brassOfAll_27 rfl 1 rfl ?_
      cases hf
      exact r_iret C hF dX12_brassOfAll_28
    · rw [if_neg c1] at hf
      refine r_iload_n (i := 1) C dX12_brassOfAll_12 rfl 1 rfl ?_
      refine r_aload_n (i := 0) C dX12_brassOfAll_13 rfl 0 rfl ?_
      refine r_iload_n (i := 2) C dX12_brassOfAll_14 rfl 2 rfl ?_
      refine r_iconst (v := 2) C dX12_brassOfAll_15 (by decide) ?_
      obtain ⟨x2, e3, hf⟩ := cl_of hf
      refine r_callVi (As := [.int y2, .int (2 : Int32)]) (st := [.int y1]) C 208 rfl (by decide) rfl (kX12_of (xG X) e3) cw_X12_314 rfl rfl (Nat.le_of_ble_eq_true rfl) (zr2 hR rfl rfl) (zrcs hcs) dX12_brassOfAll_16 ?_
      refine r_iadd C dX12_brassOfAll_19 ?_
      obtain ⟨x4, ex4, hf⟩ := lt_of hf
      refine r_top ex4 ?_
      refine r_istore_n (i := 1) (lv' := [(0, .ref (gad (xG X) 208)), (1, .int x4), (2, .int y2)]) C dX12_brassOfAll_20 rfl (by decide) [1, 0, 2] rfl ?_
      obtain ⟨x5, ex5, hf⟩ := lt_of hf
      refine r_iinc (j := 2) (v := x5) (lv' := [(0, .ref (gad (xG X) 208)), (1, .int x4), (2, .int x5)]) C dX12_brassOfAll_21 rfl (by rw [ex5]; rfl) (by decide) [1, 2, 0] rfl ?_
      refine r_goto C 4 dX12_brassOfAll_24 (by decide) ?_
      exact r_lv [0, 1, 2] rfl (ih _ _ hf)
set_option maxHeartbeats 4000000 in
set_option maxRecDepth 100000 in
theorem kX12_brassOfAll (G : Gx)  {h : Hp}  {rr : Int32} (hf : fX12_brassOfAll h = some rr) : MC G yX12_brassOfAll cX12_brassOfAll 3 (some .int) 3 192 h [.ref (gad G 208)] (some (.int rr)) h := by
  refine MC.of RX12 (by decide) rfl (Nat.le_of_ble_eq_true rfl) rfl (fun X C hG hR hF => ?_)
  subst hG
  have hcs : True := trivial
  unfold fX12_brassOfAll at hf
  refine r_iconst (v := 0) C dX12_brassOfAll_0 (by decide) ?_
  refine r_istore_n (i := 1) (lv' := [(0, .ref (gad (xG X) 208)), (1, .int (0 : Int32))]) C dX12_brassOfAll_1 rfl (by decide) [1, 0] rfl ?_
  refine r_iconst (v := 0) C dX12_brassOfAll_2 (by decide) ?_
  refine r_istore_n (i := 2) (lv' := [(0, .ref (gad (xG X) 208)), (1, .int (0 : Int32)), (2, .int (0 : Int32))]) C dX12_brassOfAll_3 rfl (by decide) [1, 2, 0] rfl ?_
  exact r_lv [0, 1, 2] rfl ((wX12_brassOfAll  C hR hcs hF big) _ _ hf)
def fX12_count (h : Hp) (a1 : Int32) : Option (Int32 × Hp) := lt9 (up2 h 208 0 (0 : Int32)) (fun h1 => (if a1 = (2 : Int32) then (if (fX12_hasLaw h1) = (0 : Int32) then some ((-1 : Int32), h1) else some ((h1 209 333), h1)) else (if a1 = (3 : Int32) then (if (fX12_in a1 (0 : Int32) (7 : Int32)) = (0 : Int32) then some ((-1 : Int32), h1) else gd (inb a1 2031) (some ((h1 209 a1.toNatClampNeg), h1))) else (if a1 = (4 : Int32) then (if (fX12_in a1 (0 : Int32) (7 : Int32)) = (0 : Int32) then some ((-1 : Int32), h1) else gd (inb a1 2031) (some ((h1 209 a1.toNatClampNeg), h1))) else (if a1 = (5 : Int32) then (if (fX12_in a1 (0 : Int32) (7 : Int32)) = (0 : Int32) then some ((-1 : Int32), h1) else gd (inb a1 2031) (some ((h1 209 a1.toNatClampNeg), h1))) else (if a1 = (6 : Int32) then (if (fX12_in a1 (0 : Int32) (7 : Int32)) = (0 : Int32) then some ((-1 : Int32), h1) else gd (inb a1 2031) (some ((h1 209 a1.toNatClampNeg), h1))) else (if a1 = (7 : Int32) then (if (fX12_in a1 (0 : Int32) (7 : Int32)) = (0 : Int32) then some ((-1 : Int32), h1) else gd (inb a1 2031) (some ((h1 209 a1.toNatClampNeg), h1))) else (if a1 = (8 : Int32) then cl9 (fX12_brassOfAll h1) (fun x20 => some (x20, h1)) else (if a1 = (9 : Int32) then some ((h1 209 10), h1) else (if a1 = (10 : Int32) then some ((h1 209 11), h1) else (if a1 = (11 : Int32) then some ((h1 208 7), h1) else (if (fX12_in a1 (0 : Int32) (7 : Int32)) = (0 : Int32) then some ((-1 : Int32), h1) else gd (inb a1 2031) (some ((h1 209 a1.toNatClampNeg), h1))))))))))))))
set_option maxHeartbeats 4000000 in
set_option maxRecDepth 100000 in
theorem kX12_count (G : Gx)  {h : Hp} {a1 : Int32} {rr : Int32} {hh : Hp} (hf : fX12_count h a1 = some (rr, hh)) : MC G yX12_count cX12_count 2 (some .int) 4 256 h [.ref (gad G 208), .int a1] (some (.int rr)) hh := by
  refine MC.of RX12 (by decide) rfl (Nat.le_of_ble_eq_true rfl) rfl (fun X C hG hR hF => ?_)
  subst hG
  have hcs : True := trivial
  unfold fX12_count at hf
  refine r_aload_n (i := 0) C dX12_count_0 rfl 0 rfl ?_
  refine r_iconst (v := 0) C dX12_count_1 (by decide) ?_
  obtain ⟨h1, eh1, hf⟩ := lt_of hf
  refine p_X12_3 C eh1 dX12_count_2 ?_
  refine r_iload_n (i := 1) C dX12_count_5 rfl 1 rfl ?_
  by_cases c2 : a1 = (2 : Int32)
  · rw [if_pos c2] at hf
    refine r_tableIn C 60 dX12_count_6 (by rw [c2] <;> decide) (by rw [c2] <;> decide) (by rw [c2] <;> rfl) (by decide) ?_
    refine r_aload_n (i := 0) C dX12_count_60 rfl 0 rfl ?_
    refine r_callVi (As := []) (st := []) C 208 rfl (by decide) rfl (kX12_hasLaw (xG X)) cw_X12_275 rfl rfl (Nat.le_of_ble_eq_true rfl) (zr2 hR rfl rfl) (zrcs hcs) dX12_count_61 ?_
    refine r_if_eq C 78 dX12_count_64 (by decide) (fun c3 => ?_) (fun c3 => ?_)
    · rw [if_pos c3] at hf
      refine r_iconst (v := (-1)) C dX12_count_78 (by decide) ?_
      cases hf
      exact r_iret C hF dX12_count_79
    · rw [if_neg c3] at hf
      refine r_aload_n (i := 0) C dX12_count_67 rfl 0 rfl ?_
      refine g_X12_13 C dX12_count_68 ?_
      refine r_sipush (v := 333) C dX12_count_71 (by decide) ?_
      refine r_ialdc C 209 (m := 333) rfl (by decide) (by decide) (show inb 333 2031 by decide) dX12_count_74 ?_
      refine r_goto C 79 dX12_count_75 (by decide) ?_
      cases hf
      exact r_iret C hF dX12_count_79
  · rw [if_neg c2] at hf
    by_cases c4 : a1 = (3 : Int32)
    · rw [if_pos c4] at hf
      refine r_tableIn C 106 dX12_count_6 (by rw [c4] <;> decide) (by rw [c4] <;> decide) (by rw [c4] <;> rfl) (by decide) ?_
      refine r_iload_n (i := 1) C dX12_count_106 rfl 1 rfl ?_
      refine r_iconst (v := 0) C dX12_count_107 (by decide) ?_
      refine r_bipush (v := 7) C dX12_count_108 (by decide) ?_
      refine r_callSi (As := [.int a1, .int (0 : Int32), .int (7 : Int32)]) (st := []) C (kX12_in (xG X)) cw_X12_76 rfl rfl (Nat.le_of_ble_eq_true rfl) (zr2 hR rfl rfl) (zrcs hcs) dX12_count_110 ?_
      refine r_if_eq C 125 dX12_count_113 (by decide) (fun c5 => ?_) (fun c5 => ?_)
      · rw [if_pos c5] at hf
        refine r_iconst (v := (-1)) C dX12_count_125 (by decide) ?_
        cases hf
        exact r_iret C hF dX12_count_126
      · rw [if_neg c5] at hf
        refine r_aload_n (i := 0) C dX12_count_116 rfl 0 rfl ?_
        refine g_X12_13 C dX12_count_117 ?_
        refine r_iload_n (i := 1) C dX12_count_120 rfl 1 rfl ?_
        obtain ⟨g6, hf⟩ := gd_of hf
        refine r_iald C 209 rfl (by decide) g6 dX12_count_121 ?_
        refine r_goto C 126 dX12_count_122 (by decide) ?_
        cases hf
        exact r_iret C hF dX12_count_126
    · rw [if_neg c4] at hf
      by_cases c7 : a1 = (4 : Int32)
      · rw [if_pos c7] at hf
        refine r_tableIn C 106 dX12_count_6 (by rw [c7] <;> decide) (by rw [c7] <;> decide) (by rw [c7] <;> rfl) (by decide) ?_
        refine r_iload_n (i := 1) C dX12_count_106 rfl 1 rfl ?_
        refine r_iconst (v := 0) C dX12_count_107 (by decide) ?_
        refine r_bipush (v := 7) C dX12_count_108 (by decide) ?_
        refine r_callSi (As := [.int a1, .int (0 : Int32), .int (7 : Int32)]) (st := []) C (kX12_in (xG X)) cw_X12_76 rfl rfl (Nat.le_of_ble_eq_true rfl) (zr2 hR rfl rfl) (zrcs hcs) dX12_count_110 ?_
        refine r_if_eq C 125 dX12_count_113 (by decide) (fun c8 => ?_) (fun c8 => ?_)
        · rw [if_pos c8] at hf
          refine r_iconst (v := (-1)) C dX12_count_125 (by decide) ?_
          cases hf
          exact r_iret C hF dX12_count_126
        · rw [if_neg c8] at hf
          refine r_aload_n (i := 0) C dX12_count_116 rfl 0 rfl ?_
          refine g_X12_13 C dX12_count_117 ?_
          refine r_iload_n (i := 1) C dX12_count_120 rfl 1 rfl ?_
          obtain ⟨g9, hf⟩ := gd_of hf
          refine r_iald C 209 rfl (by decide) g9 dX12_count_121 ?_
          refine r_goto C 126 dX12_count_122 (by decide) ?_
          cases hf
          exact r_iret C hF dX12_count_126
      · rw [if_neg c7] at hf
        by_cases c10 : a1 = (5 : Int32)
        · rw [if_pos c10] at hf
          refine r_tableIn C 106 dX12_count_6 (by rw [c10] <;> decide) (by rw [c10] <;> decide) (by rw [c10] <;> rfl) (by decide) ?_
          refine r_iload_n (i := 1) C dX12_count_106 rfl 1 rfl ?_
          refine r_iconst (v := 0) C dX12_count_107 (by decide) ?_
          refine r_bipush (v := 7) C dX12_count_108 (by decide) ?_
          refine r_callSi (As := [.int a1, .int (0 : Int32), .int (7 : Int32)]) (st := []) C (kX12_in (xG X)) cw_X12_76 rfl rfl (Nat.le_of_ble_eq_true rfl) (zr2 hR rfl rfl) (zrcs hcs) dX12_count_110 ?_
          refine r_if_eq C 125 dX12_count_113 (by decide) (fun c11 => ?_) (fun c11 => ?_)
          · rw [if_pos c11] at hf
            refine r_iconst (v := (-1)) C dX12_count_125 (by decide) ?_
            cases hf
            exact r_iret C hF dX12_count_126
          · rw [if_neg c11] at hf
            refine r_aload_n (i := 0) C dX12_count_116 rfl 0 rfl ?_
            refine g_X12_13 C dX12_count_117 ?_
            refine r_iload_n (i := 1) C dX12_count_120 rfl 1 rfl ?_
            obtain ⟨g12, hf⟩ := gd_of hf
            refine r_iald C 209 rfl (by decide) g12 dX12_count_121 ?_
            refine r_goto C 126 dX12_count_122 (by decide) ?_
            cases hf
            exact r_iret C hF dX12_count_126
        · rw [if_neg c10] at hf
          by_cases c13 : a1 = (6 : Int32)
          · rw [if_pos c13] at hf
            refine r_tableIn C 106 dX12_count_6 (by rw [c13] <;> decide) (by rw [c13] <;> decide) (by rw [c13] <;> rfl) (by decide) ?_
            refine r_iload_n (i := 1) C dX12_count_106 rfl 1 rfl ?_
            refine r_iconst (v := 0) C dX12_count_107 (by decide) ?_
            refine r_bipush (v := 7) C dX12_count_108 (by decide) ?_
            refine r_callSi (As := [.int a1, .int (0 : Int32), .int (7 : Int32)]) (st := []) C (kX12_in (xG X)) cw_X12_76 rfl rfl (Nat.le_of_ble_eq_true rfl) (zr2 hR rfl rfl) (zrcs hcs) dX12_count_110 ?_
            refine r_if_eq C 125 dX12_count_113 (by decide) (fun c14 => ?_) (fun c14 => ?_)
            · rw [if_pos c14] at hf
              refine r_iconst (v := (-1)) C dX12_count_125 (by decide) ?_
              cases hf
              exact r_iret C hF dX12_count_126
            · rw [if_neg c14] at hf
              refine r_aload_n (i := 0) C dX12_count_116 rfl 0 rfl ?_
              refine g_X12_13 C dX12_count_117 ?_
              refine r_iload_n (i := 1) C dX12_count_120 rfl 1 rfl ?_
              obtain ⟨g15, hf⟩ := gd_of hf
              refine r_iald C 209 rfl (by decide) g15 dX12_count_121 ?_
              refine r_goto C 126 dX12_count_122 (by decide) ?_
              cases hf
              exact r_iret C hF dX12_count_126
          · rw [if_neg c13] at hf
            by_cases c16 : a1 = (7 : Int32)
            · rw [if_pos c16] at hf
              refine r_tableIn C 106 dX12_count_6 (by rw [c16] <;> decide) (by rw [c16] <;> decide) (by rw [c16] <;> rfl) (by decide) ?_
              refine r_iload_n (i := 1) C dX12_count_106 rfl 1 rfl ?_
              refine r_iconst (v := 0) C dX12_count_107 (by decide) ?_
              refine r_bipush (v := 7) C dX12_count_108 (by decide) ?_
              refine r_callSi (As := [.int a1, .int (0 : Int32), .int (7 : Int32)]) (st := []) C (kX12_in (xG X)) cw_X12_76 rfl rfl (Nat.le_of_ble_eq_true rfl) (zr2 hR rfl rfl) (zrcs hcs) dX12_count_110 ?_
              refine r_if_eq C 125 dX12_count_113 (by decide) (fun c17 => ?_) (fun c17 => ?_)
              · rw [if_pos c17] at hf
                refine r_iconst (v := (-1)) C dX12_count_125 (by decide) ?_
                cases hf
                exact r_iret C hF dX12_count_126
              · rw [if_neg c17] at hf
                refine r_aload_n (i := 0) C dX12_count_116 rfl 0 rfl ?_
                refine g_X12_13 C dX12_count_117 ?_
                refine r_iload_n (i := 1) C dX12_count_120 rfl 1 rfl ?_
                obtain ⟨g18, hf⟩ := gd_of hf
                refine r_iald C 209 rfl (by decide) g18 dX12_count_121 ?_
                refine r_goto C 126 dX12_count_122 (by decide) ?_
                cases hf
                exact r_iret C hF dX12_count_126
            · rw [if_neg c16] at hf
              by_cases c19 : a1 = (8 : Int32)
              · rw [if_pos c19] at hf
                refine r_tableIn C 80 dX12_count_6 (by rw [c19] <;> decide) (by rw [c19] <;> decide) (by rw [c19] <;> rfl) (by decide) ?_
                refine r_aload_n (i := 0) C dX12_count_80 rfl 0 rfl ?_
                obtain ⟨x20, e21, hf⟩ := cl_of hf
                refine r_callVi (As := []) (st := []) C 208 rfl (by decide) rfl (kX12_brassOfAll (xG X) e21) cw_X12_429 rfl rfl (Nat.le_of_ble_eq_true rfl) (zr2 hR rfl rfl) (zrcs hcs) dX12_count_81 ?_
                cases hf
                exact r_iret C hF dX12_count_84
              · rw [if_neg c19] at hf
                by_cases c22 : a1 = (9 : Int32)
                · rw [if_pos c22] at hf
                  refine r_tableIn C 85 dX12_count_6 (by rw [c22] <;> decide) (by rw [c22] <;> decide) (by rw [c22] <;> rfl) (by decide) ?_
                  refine r_aload_n (i := 0) C dX12_count_85 rfl 0 rfl ?_
                  refine g_X12_13 C dX12_count_86 ?_
                  refine r_bipush (v := 10) C dX12_count_89 (by decide) ?_
                  refine r_ialdc C 209 (m := 10) rfl (by decide) (by decide) (show inb 10 2031 by decide) dX12_count_91 ?_
                  cases hf
                  exact r_iret C hF dX12_count_92
                · rw [if_neg c22] at hf
                  by_cases c23 : a1 = (10 : Int32)
                  · rw [if_pos c23] at hf
                    refine r_tableIn C 93 dX12_count_6 (by rw [c23] <;> decide) (by rw [c23] <;> decide) (by rw [c23] <;> rfl) (by decide) ?_
                    refine r_aload_n (i := 0) C dX12_count_93 rfl 0 rfl ?_
                    refine g_X12_13 C dX12_count_94 ?_
                    refine r_bipush (v := 11) C dX12_count_97 (by decide) ?_
                    refine r_ialdc C 209 (m := 11) rfl (by decide) (by decide) (show inb 11 2031 by decide) dX12_count_99 ?_
                    cases hf
                    exact r_iret C hF dX12_count_100
                  · rw [if_neg c23] at hf
                    by_cases c24 : a1 = (11 : Int32)
                    · rw [if_pos c24] at hf
                      refine r_tableIn C 101 dX12_count_6 (by rw [c24] <;> decide) (by rw [c24] <;> decide) (by rw [c24] <;> rfl) (by decide) ?_
                      refine r_aload_n (i := 0) C dX12_count_101 rfl 0 rfl ?_
                      refine g_X12_58 C dX12_count_102 ?_
                      cases hf
                      exact r_iret C hF dX12_count_105
                    · rw [if_neg c24] at hf
                      refine r_tableOut C 106 dX12_count_6 (sw_out2 (2) (11) 10 (by decide) ?_ (by decide) (by decide)) (by decide) ?_
                      · intro k9 h9
                        match k9, h9 with
                        | 0, _ => exact fun e9 => c2 (e9.trans (by decide))
                        | 1, _ => exact fun e9 => c4 (e9.trans (by decide))
                        | 2, _ => exact fun e9 => c7 (e9.trans (by decide))
                        | 3, _ => exact fun e9 => c10 (e9.trans (by decide))
                        | 4, _ => exact fun e9 => c13 (e9.trans (by decide))
                        | 5, _ => exact fun e9 => c16 (e9.trans (by decide))
                        | 6, _ => exact fun e9 => c19 (e9.trans (by decide))
                        | 7, _ => exact fun e9 => c22 (e9.trans (by decide))
                        | 8, _ => exact fun e9 => c23 (e9.trans (by decide))
                        | 9, _ => exact fun e9 => c24 (e9.trans (by decide))
                        | k9 + 10, h9 => exact absurd h9 (by omega)
                      refine r_iload_n (i := 1) C dX12_count_106 rfl 1 rfl ?_
                      refine r_iconst (v := 0) C dX12_count_107 (by decide) ?_
                      refine r_bipush (v := 7) C dX12_count_108 (by decide) ?_
                      refine r_callSi (As := [.int a1, .int (0 : Int32), .int (7 : Int32)]) (st := []) C (kX12_in (xG X)) cw_X12_76 rfl rfl (Nat.le_of_ble_eq_true rfl) (zr2 hR rfl rfl) (zrcs hcs) dX12_count_110 ?_
                      refine r_if_eq C 125 dX12_count_113 (by decide) (fun c25 => ?_) (fun c25 => ?_)
                      · rw [if_pos c25] at hf
                        refine r_iconst (v := (-1)) C dX12_count_125 (by decide) ?_
                        cases hf
                        exact r_iret C hF dX12_count_126
                      · rw [if_neg c25] at hf
                        refine r_aload_n (i := 0) C dX12_count_116 rfl 0 rfl ?_
                        refine g_X12_13 C dX12_count_117 ?_
                        refine r_iload_n (i := 1) C dX12_count_120 rfl 1 rfl ?_
                        obtain ⟨g26, hf⟩ := gd_of hf
                        refine r_iald C 209 rfl (by decide) g26 dX12_count_121 ?_
                        refine r_goto C 126 dX12_count_122 (by decide) ?_
                        cases hf
                        exact r_iret C hF dX12_count_126
def BJ_fill_0 (ar an : Nat) (rec : Hp → Int32 → Int32 → Int32 → Option (Hp)) (h : Hp) (y1 : Int32) (y2 : Int32) (y3 : Int32) : Option (Hp) := (if y3 ≤ y2 then some h else gd (inb y2 an) (lt9 (up2 h ar y2.toNatClampNeg y1) (fun h3 => lt9 (y2 + (1 : Int32)) (fun x4 => rec h3 y1 x4 y3))))
def LJ_fill (ar an : Nat) : Nat → Hp → Int32 → Int32 → Int32 → Option (Hp)
  | 0, _, _, _, _ => none
  | n + 1, h, y1, y2, y3 => BJ_fill_0 ar an (LJ_fill ar an n) h y1 y2 y3
def fJ_fill (h : Hp) (ar an : Nat) (a1 : Int32) : Option (Hp) := LJ_fill ar an big h a1 (0 : Int32) (Int32.ofNat an)
set_option maxHeartbeats 4000000 in
set_option maxRecDepth 100000 in
theorem wJ_fill {X : Cx} {ar an : Nat} {aq : List Nat} (hda : dsc ar = .inr (0, an, aq)) (hla : ar < NC) {hh : Hp} (C : OK X prog_33_method_103_code 4 "java/util/Arrays" none) (hR : xR X = { frames := 1, cells := 0, slots := 0, locals := 64 }) (hcs : True) (hF : FinR X none hh) : ∀ n : Nat, (∀ (h : Hp) (y1 : Int32) (y2 : Int32) (y3 : Int32), LJ_fill ar an n h y1 y2 y3 = some hh → VW X 4 h 0 0 5 [(0, .ref (gad (xG X) ar)), (1, .int y1), (2, .int y2), (3, .int y3)] []) := by
  intro n
  induction n with
  | zero => exact (fun _ _ _ _ hf => (by rw [LJ_fill] at hf; cases hf))
  | succ n ih =>
    intro h y1 y2 y3 hf
    rw [LJ_fill] at hf
    unfold BJ_fill_0 at hf
    refine r_iload_n (i := 2) C dJ_fill_5 rfl 2 rfl ?_
    refine r_iload_n (i := 3) C dJ_fill_6 rfl 3 rfl ?_
    refine r_icmp_ge C 20 dJ_fill_7 (by decide) (fun c1 => ?_) (fun c1 => ?_)
    · rw [if_pos c1] at hf
      cases hf
      exact r_vret C hF dJ_fill_20
    · rw [if_neg c1] at hf
      refine r_aload_n (i := 0) C dJ_fill_10 rfl 0 rfl ?_
      refine r_iload_n (i := 2) C dJ_fill_11 rfl 2 rfl ?_
      refine r_iload_n (i := 1) C dJ_fill_12 rfl 1 rfl ?_
      obtain ⟨g2, hf⟩ := gd_of hf
      obtain ⟨h3, eh3, hf⟩ := lt_of hf
      refine r_iast C ar eh3 hda hla g2 dJ_fill_13 ?_
      obtain ⟨x4, ex4, hf⟩ := lt_of hf
      refine r_iinc (j := 2) (v := x4) (lv' := [(0, .ref (gad (xG X) ar)), (1, .int y1), (2, .int x4), (3, .int y3)]) C dJ_fill_14 rfl (by rw [ex4]; rfl) (by decide) [1, 2, 0, 3] rfl ?_
      refine r_goto C 5 dJ_fill_17 (by decide) ?_
      exact r_lv [0, 1, 2, 3] rfl (ih _ _ _ _ hf)
set_option maxHeartbeats 4000000 in
set_option maxRecDepth 100000 in
theorem kJ_fill (G : Gx) {ar an : Nat} {aq : List Nat} (hda : dsc ar = .inr (0, an, aq)) (hla : ar < NC) {h : Hp} {a1 : Int32} {hh : Hp} (hf : fJ_fill h ar an a1 = some hh) : MC G yJ_fill prog_33_method_103_code 4 none 1 64 h [.ref (gad G ar), .int a1] none hh := by
  refine MC.of "java/util/Arrays" (by decide) rfl (Nat.le_of_ble_eq_true rfl) rfl (fun X C hG hR hF => ?_)
  subst hG
  have hcs : True := trivial
  unfold fJ_fill at hf
  refine r_iconst (v := 0) C dJ_fill_0 (by decide) ?_
  refine r_istore_n (i := 2) (lv' := [(0, .ref (gad (xG X) ar)), (1, .int a1), (2, .int (0 : Int32))]) C dJ_fill_1 rfl (by decide) [1, 2, 0] rfl ?_
  refine r_aload_n (i := 0) C dJ_fill_2 rfl 0 rfl ?_
  refine r_alen C ar hda hla (by decide) rfl dJ_fill_3 ?_
  refine r_istore_n (i := 3) (lv' := [(0, .ref (gad (xG X) ar)), (1, .int a1), (2, .int (0 : Int32)), (3, .int (Int32.ofNat an))]) C dJ_fill_4 rfl (by decide) [1, 2, 3, 0] rfl ?_
  exact r_lv [0, 1, 2, 3] rfl ((wJ_fill hda hla C hR hcs hF big) _ _ _ _ hf)
def fJ_bitCount (a1 : Int32) : Int32 := lt9 (a1 - ((ushr a1 (1 : Int32)) &&& (1431655765 : Int32))) (fun x1 => lt9 ((x1 &&& (858993459 : Int32)) + ((ushr x1 (2 : Int32)) &&& (858993459 : Int32))) (fun x2 => lt9 ((x2 + (ushr x2 (4 : Int32))) &&& (252645135 : Int32)) (fun x3 => lt9 (x3 + (ushr x3 (8 : Int32))) (fun x4 => lt9 (x4 + (ushr x4 (16 : Int32))) (fun x5 => (x5 &&& (63 : Int32)))))))
set_option maxHeartbeats 4000000 in
set_option maxRecDepth 100000 in
theorem kJ_bitCount (G : Gx)  {h : Hp} {a1 : Int32} : MC G yJ_bitCount prog_22_method_49_code 1 (some .int) 1 64 h [.int a1] (some (.int (fJ_bitCount a1))) h := by
  refine MC.of "java/lang/Integer" (by decide) rfl (Nat.le_of_ble_eq_true rfl) rfl (fun X C hG hR hF => ?_)
  subst hG
  have hcs : True := trivial
  obtain ⟨rr, hf⟩ : ∃ rr, fJ_bitCount a1 = rr := ⟨_, rfl⟩
  rw [hf] at hF
  unfold fJ_bitCount at hf
  refine r_iload_n (i := 0) C dJ_bitCount_0 rfl 0 rfl ?_
  refine r_iload_n (i := 0) C dJ_bitCount_1 rfl 0 rfl ?_
  refine r_iconst (v := 1) C dJ_bitCount_2 (by decide) ?_
  refine r_iushr C dJ_bitCount_3 ?_
  refine r_ldcw (v := 1431655765) C dJ_bitCount_4 gw_708 ?_
  refine r_iand C dJ_bitCount_7 ?_
  refine r_isub C dJ_bitCount_8 ?_
  obtain ⟨x1, ex1, hf⟩ := lt_of hf
  refine r_top ex1 ?_
  refine r_istore_n (i := 0) (lv' := [(0, .int x1)]) C dJ_bitCount_9 rfl (by decide) [0] rfl ?_
  refine r_iload_n (i := 0) C dJ_bitCount_10 rfl 0 rfl ?_
  refine r_ldcw (v := 858993459) C dJ_bitCount_11 gw_709 ?_
  refine r_iand C dJ_bitCount_14 ?_
  refine r_iload_n (i := 0) C dJ_bitCount_15 rfl 0 rfl ?_
  refine r_iconst (v := 2) C dJ_bitCount_16 (by decide) ?_
  refine r_iushr C dJ_bitCount_17 ?_
  refine r_ldcw (v := 858993459) C dJ_bitCount_18 gw_709 ?_
  refine r_iand C dJ_bitCount_21 ?_
  refine r_iadd C dJ_bitCount_22 ?_
  obtain ⟨x2, ex2, hf⟩ := lt_of hf
  refine r_top ex2 ?_
  refine r_istore_n (i := 0) (lv' := [(0, .int x2)]) C dJ_bitCount_23 rfl (by decide) [0] rfl ?_
  refine r_iload_n (i := 0) C dJ_bitCount_24 rfl 0 rfl ?_
  refine r_iload_n (i := 0) C dJ_bitCount_25 rfl 0 rfl ?_
  refine r_iconst (v := 4) C dJ_bitCount_26 (by decide) ?_
  refine r_iushr C dJ_bitCount_27 ?_
  refine r_iadd C dJ_bitCount_28 ?_
  refine r_ldcw (v := 252645135) C dJ_bitCount_29 gw_710 ?_
  refine r_iand C dJ_bitCount_32 ?_
  obtain ⟨x3, ex3, hf⟩ := lt_of hf
  refine r_top ex3 ?_
  refine r_istore_n (i := 0) (lv' := [(0, .int x3)]) C dJ_bitCount_33 rfl (by decide) [0] rfl ?_
  refine r_iload_n (i := 0) C dJ_bitCount_34 rfl 0 rfl ?_
  refine r_iload_n (i := 0) C dJ_bitCount_35 rfl 0 rfl ?_
  refine r_bipush (v := 8) C dJ_bitCount_36 (by decide) ?_
  refine r_iushr C dJ_bitCount_38 ?_
  refine r_iadd C dJ_bitCount_39 ?_
  obtain ⟨x4, ex4, hf⟩ := lt_of hf
  refine r_top ex4 ?_
  refine r_istore_n (i := 0) (lv' := [(0, .int x4)]) C dJ_bitCount_40 rfl (by decide) [0] rfl ?_
  refine r_iload_n (i := 0) C dJ_bitCount_41 rfl 0 rfl ?_
  refine r_iload_n (i := 0) C dJ_bitCount_42 rfl 0 rfl ?_
  refine r_bipush (v := 16) C dJ_bitCount_43 (by decide) ?_
  refine r_iushr C dJ_bitCount_45 ?_
  refine r_iadd C dJ_bitCount_46 ?_
  obtain ⟨x5, ex5, hf⟩ := lt_of hf
  refine r_top ex5 ?_
  refine r_istore_n (i := 0) (lv' := [(0, .int x5)]) C dJ_bitCount_47 rfl (by decide) [0] rfl ?_
  refine r_iload_n (i := 0) C dJ_bitCount_48 rfl 0 rfl ?_
  refine r_bipush (v := 63) C dJ_bitCount_49 (by decide) ?_
  refine r_iand C dJ_bitCount_51 ?_
  subst hf
  exact r_iret C hF dJ_bitCount_52
def fJ_numberOfTrailingZeros (h : Hp) (a1 : Int32) : Option (Int32) := lt9 ((a1 ^^^ (-1 : Int32)) &&& (a1 - (1 : Int32))) (fun x1 => (if (0 : Int32) < x1 then cl2 ((if x1 ≤ (65536 : Int32) then some (x1, (1 : Int32)) else lt9 ((1 : Int32) + (16 : Int32)) (fun x8 => lt9 (ushr x1 (16 : Int32)) (fun x9 => some (x9, x8)))) : Option (Int32 × Int32)) (fun x3 x4 => cl2 ((if x3 ≤ (256 : Int32) then some (x3, x4) else lt9 (x4 + (8 : Int32)) (fun x15 => lt9 (ushr x3 (8 : Int32)) (fun x16 => some (x16, x15)))) : Option (Int32 × Int32)) (fun x10 x11 => cl2 ((if x10 ≤ (16 : Int32) then some (x10, x11) else lt9 (x11 + (4 : Int32)) (fun x22 => lt9 (ushr x10 (4 : Int32)) (fun x23 => some (x23, x22)))) : Option (Int32 × Int32)) (fun x17 x18 => (if x17 ≤ (4 : Int32) then some (x18 + (ushr x17 (1 : Int32))) else lt9 (x18 + (2 : Int32)) (fun x25 => lt9 (ushr x17 (2 : Int32)) (fun x26 => some (x25 + (ushr x26 (1 : Int32))))))))) else some (x1 &&& (32 : Int32))))
set_option maxHeartbeats 4000000 in
set_option maxRecDepth 100000 in
theorem kJ_numberOfTrailingZeros (G : Gx)  {h : Hp} {a1 : Int32} {rr : Int32} (hf : fJ_numberOfTrailingZeros h a1 = some rr) : MC G yJ_numberOfTrailingZeros prog_22_method_48_code 2 (some .int) 1 64 h [.int a1] (some (.int rr)) h := by
  refine MC.of "java/lang/Integer" (by decide) rfl (Nat.le_of_ble_eq_true rfl) rfl (fun X C hG hR hF => ?_)
  subst hG
  have hcs : True := trivial
  unfold fJ_numberOfTrailingZeros at hf
  refine r_iload_n (i := 0) C dJ_numberOfTrailingZeros_0 rfl 0 rfl ?_
  refine r_iconst (v := (-1)) C dJ_numberOfTrailingZeros_1 (by decide) ?_
  refine r_ixor C dJ_numberOfTrailingZeros_2 ?_
  refine r_iload_n (i := 0) C dJ_numberOfTrailingZeros_3 rfl 0 rfl ?_
  refine r_iconst (v := 1) C dJ_numberOfTrailingZeros_4 (by decide) ?_
  refine r_isub C dJ_numberOfTrailingZeros_5 ?_
  refine r_iand C dJ_numberOfTrailingZeros_6 ?_
  obtain ⟨x1, ex1, hf⟩ := lt_of hf
  refine r_top ex1 ?_
  refine r_istore_n (i := 0) (lv' := [(0, .int x1)]) C dJ_numberOfTrailingZeros_7 rfl (by decide) [0] rfl ?_
  refine r_iload_n (i := 0) C dJ_numberOfTrailingZeros_8 rfl 0 rfl ?_
  refine r_if_gt C 17 dJ_numberOfTrailingZeros_9 (by decide) (fun c2 => ?_) (fun c2 => ?_)
  · rw [if_pos c2] at hf
    refine r_iconst (v := 1) C dJ_numberOfTrailingZeros_17 (by decide) ?_
    refine r_istore_n (i := 1) (lv' := [(0, .int x1), (1, .int (1 : Int32))]) C dJ_numberOfTrailingZeros_18 rfl (by decide) [1, 0] rfl ?_
    refine r_iload_n (i := 0) C dJ_numberOfTrailingZeros_19 rfl 0 rfl ?_
    refine r_ldcw (v := 65536) C dJ_numberOfTrailingZeros_20 gw_738 ?_
    obtain ⟨x3, x4, r6, hf⟩ := cl2_of hf
    have k5 : VW X 2 h 0 0 34 [(0, .int x3), (1, .int x4)] [] := by
      refine r_iload_n (i := 0) C dJ_numberOfTrailingZeros_34 rfl 0 rfl ?_
      refine r_sipush (v := 256) C dJ_numberOfTrailingZeros_35 (by decide) ?_
      obtain ⟨x10, x11, r13, hf⟩ := cl2_of hf
      have k12 : VW X 2 h 0 0 49 [(0, .int x10), (1, .int x11)] [] := by
        refine r_iload_n (i := 0) C dJ_numberOfTrailingZeros_49 rfl 0 rfl ?_
        refine r_bipush (v := 16) C dJ_numberOfTrailingZeros_50 (by decide) ?_
        obtain ⟨x17, x18, r20, hf⟩ := cl2_of hf
        have k19 : VW X 2 h 0 0 62 [(0, .int x17), (1, .int x18)] [] := by
          refine r_iload_n (i := 0) C dJ_numberOfTrailingZeros_62 rfl 0 rfl ?_
          refine r_iconst (v := 4) C dJ_numberOfTrailingZeros_63 (by decide) ?_
          refine r_icmp_le C 74 dJ_numberOfTrailingZeros_64 (by decide) (fun c24 => ?_) (fun c24 => ?_)
          · rw [if_pos c24] at hf
            refine r_iload_n (i := 1) C dJ_numberOfTrailingZeros_74 rfl 1 rfl ?_
            refine r_iload_n (i := 0) C dJ_numberOfTrailingZeros_75 rfl 0 rfl ?_
            refine r_iconst (v := 1) C dJ_numberOfTrailingZeros_76 (by decide) ?_
            refine r_iushr C dJ_numberOfTrailingZeros_77 ?_
            refine r_iadd C dJ_numberOfTrailingZeros_78 ?_
            cases hf
            exact r_iret C hF dJ_numberOfTrailingZeros_79
          · rw [if_neg c24] at hf
            obtain ⟨x25, ex25, hf⟩ := lt_of hf
            refine r_iinc (j := 1) (v := x25) (lv' := [(0, .int x17), (1, .int x25)]) C dJ_numberOfTrailingZeros_67 rfl (by rw [ex25]; rfl) (by decide) [1, 0] rfl ?_
            refine r_iload_n (i := 0) C dJ_numberOfTrailingZeros_70 rfl 0 rfl ?_
            refine r_iconst (v := 2) C dJ_numberOfTrailingZeros_71 (by decide) ?_
            refine r_iushr C dJ_numberOfTrailingZeros_72 ?_
            obtain ⟨x26, ex26, hf⟩ := lt_of hf
            refine r_top ex26 ?_
            refine r_istore_n (i := 0) (lv' := [(0, .int x26), (1, .int x25)]) C dJ_numberOfTrailingZeros_73 rfl (by decide) [0, 1] rfl ?_
            refine r_iload_n (i := 1) C dJ_numberOfTrailingZeros_74 rfl 1 rfl ?_
            refine r_iload_n (i := 0) C dJ_numberOfTrailingZeros_75 rfl 0 rfl ?_
            refine r_iconst (v := 1) C dJ_numberOfTrailingZeros_76 (by decide) ?_
            refine r_iushr C dJ_numberOfTrailingZeros_77 ?_
            refine r_iadd C dJ_numberOfTrailingZeros_78 ?_
            cases hf
            exact r_iret C hF dJ_numberOfTrailingZeros_79
        clear hf
        have hf := r20
        refine r_icmp_le C 62 dJ_numberOfTrailingZeros_52 (by decide) (fun c21 => ?_) (fun c21 => ?_)
        · rw [if_pos c21] at hf
          cases hf
          exact k19
        · rw [if_neg c21] at hf
          obtain ⟨x22, ex22, hf⟩ := lt_of hf
          refine r_iinc (j := 1) (v := x22) (lv' := [(0, .int x10), (1, .int x22)]) C dJ_numberOfTrailingZeros_55 rfl (by rw [ex22]; rfl) (by decide) [1, 0] rfl ?_
          refine r_iload_n (i := 0) C dJ_numberOfTrailingZeros_58 rfl 0 rfl ?_
          refine r_iconst (v := 4) C dJ_numberOfTrailingZeros_59 (by decide) ?_
          refine r_iushr C dJ_numberOfTrailingZeros_60 ?_
          obtain ⟨x23, ex23, hf⟩ := lt_of hf
          refine r_top ex23 ?_
          refine r_istore_n (i := 0) (lv' := [(0, .int x23), (1, .int x22)]) C dJ_numberOfTrailingZeros_61 rfl (by decide) [0, 1] rfl ?_
          cases hf
          exact k19
      clear hf
      have hf := r13
      refine r_icmp_le C 49 dJ_numberOfTrailingZeros_38 (by decide) (fun c14 => ?_) (fun c14 => ?_)
      · rw [if_pos c14] at hf
        cases hf
        exact k12
      · rw [if_neg c14] at hf
        obtain ⟨x15, ex15, hf⟩ := lt_of hf
        refine r_iinc (j := 1) (v := x15) (lv' := [(0, .int x3), (1, .int x15)]) C dJ_numberOfTrailingZeros_41 rfl (by rw [ex15]; rfl) (by decide) [1, 0] rfl ?_
        refine r_iload_n (i := 0) C dJ_numberOfTrailingZeros_44 rfl 0 rfl ?_
        refine r_bipush (v := 8) C dJ_numberOfTrailingZeros_45 (by decide) ?_
        refine r_iushr C dJ_numberOfTrailingZeros_47 ?_
        obtain ⟨x16, ex16, hf⟩ := lt_of hf
        refine r_top ex16 ?_
        refine r_istore_n (i := 0) (lv' := [(0, .int x16), (1, .int x15)]) C dJ_numberOfTrailingZeros_48 rfl (by decide) [0, 1] rfl ?_
        cases hf
        exact k12
    clear hf
    have hf := r6
    refine r_icmp_le C 34 dJ_numberOfTrailingZeros_23 (by decide) (fun c7 => ?_) (fun c7 => ?_)
    · rw [if_pos c7] at hf
      cases hf
      exact k5
    · rw [if_neg c7] at hf
      obtain ⟨x8, ex8, hf⟩ := lt_of hf
      refine r_iinc (j := 1) (v := x8) (lv' := [(0, .int x1), (1, .int x8)]) C dJ_numberOfTrailingZeros_26 rfl (by rw [ex8]; rfl) (by decide) [1, 0] rfl ?_
      refine r_iload_n (i := 0) C dJ_numberOfTrailingZeros_29 rfl 0 rfl ?_
      refine r_bipush (v := 16) C dJ_numberOfTrailingZeros_30 (by decide) ?_
      refine r_iushr C dJ_numberOfTrailingZeros_32 ?_
      obtain ⟨x9, ex9, hf⟩ := lt_of hf
      refine r_top ex9 ?_
      refine r_istore_n (i := 0) (lv' := [(0, .int x9), (1, .int x8)]) C dJ_numberOfTrailingZeros_33 rfl (by decide) [0, 1] rfl ?_
      cases hf
      exact k5
  · rw [if_neg c2] at hf
    refine r_iload_n (i := 0) C dJ_numberOfTrailingZeros_12 rfl 0 rfl ?_
    refine r_bipush (v := 32) C dJ_numberOfTrailingZeros_13 (by decide) ?_
    refine r_iand C dJ_numberOfTrailingZeros_15 ?_
    cases hf
    exact r_iret C hF dJ_numberOfTrailingZeros_16
def fJ_numberOfLeadingZeros (h : Hp) (a1 : Int32) : Option (Int32) := (if (0 : Int32) < a1 then cl2 ((if a1 < (65536 : Int32) then some (a1, (31 : Int32)) else lt9 ((31 : Int32) + (-16 : Int32)) (fun x7 => lt9 (ushr a1 (16 : Int32)) (fun x8 => some (x8, x7)))) : Option (Int32 × Int32)) (fun x2 x3 => cl2 ((if x2 < (256 : Int32) then some (x2, x3) else lt9 (x3 + (-8 : Int32)) (fun x14 => lt9 (ushr x2 (8 : Int32)) (fun x15 => some (x15, x14)))) : Option (Int32 × Int32)) (fun x9 x10 => cl2 ((if x9 < (16 : Int32) then some (x9, x10) else lt9 (x10 + (-4 : Int32)) (fun x21 => lt9 (ushr x9 (4 : Int32)) (fun x22 => some (x22, x21)))) : Option (Int32 × Int32)) (fun x16 x17 => (if x16 < (4 : Int32) then some (x17 - (ushr x16 (1 : Int32))) else lt9 (x17 + (-2 : Int32)) (fun x24 => lt9 (ushr x16 (2 : Int32)) (fun x25 => some (x24 - (ushr x25 (1 : Int32))))))))) else (if a1 = (0 : Int32) then some (32 : Int32) else some (0 : Int32)))
set_option maxHeartbeats 4000000 in
set_option maxRecDepth 100000 in
theorem kJ_numberOfLeadingZeros (G : Gx)  {h : Hp} {a1 : Int32} {rr : Int32} (hf : fJ_numberOfLeadingZeros h a1 = some rr) : MC G yJ_numberOfLeadingZeros prog_22_method_47_code 2 (some .int) 1 64 h [.int a1] (some (.int rr)) h := by
  refine MC.of "java/lang/Integer" (by decide) rfl (Nat.le_of_ble_eq_true rfl) rfl (fun X C hG hR hF => ?_)
  subst hG
  have hcs : True := trivial
  unfold fJ_numberOfLeadingZeros at hf
  refine r_iload_n (i := 0) C dJ_numberOfLeadingZeros_0 rfl 0 rfl ?_
  refine r_if_gt C 15 dJ_numberOfLeadingZeros_1 (by decide) (fun c1 => ?_) (fun c1 => ?_)
  · rw [if_pos c1] at hf
    refine r_bipush (v := 31) C dJ_numberOfLeadingZeros_15 (by decide) ?_
    refine r_istore_n (i := 1) (lv' := [(0, .int a1), (1, .int (31 : Int32))]) C dJ_numberOfLeadingZeros_17 rfl (by decide) [1, 0] rfl ?_
    refine r_iload_n (i := 0) C dJ_numberOfLeadingZeros_18 rfl 0 rfl ?_
    refine r_ldcw (v := 65536) C dJ_numberOfLeadingZeros_19 gw_738 ?_
    obtain ⟨x2, x3, r5, hf⟩ := cl2_of hf
    have k4 : VW X 2 h 0 0 33 [(0, .int x2), (1, .int x3)] [] := by
      refine r_iload_n (i := 0) C dJ_numberOfLeadingZeros_33 rfl 0 rfl ?_
      refine r_sipush (v := 256) C dJ_numberOfLeadingZeros_34 (by decide) ?_
      obtain ⟨x9, x10, r12, hf⟩ := cl2_of hf
      have k11 : VW X 2 h 0 0 48 [(0, .int x9), (1, .int x10)] [] := by
        refine r_iload_n (i := 0) C dJ_numberOfLeadingZeros_48 rfl 0 rfl ?_
        refine r_bipush (v := 16) C dJ_numberOfLeadingZeros_49 (by decide) ?_
        obtain ⟨x16, x17, r19, hf⟩ := cl2_of hf
        have k18 : VW X 2 h 0 0 61 [(0, .int x16), (1, .int x17)] [] := by
          refine r_iload_n (i := 0) C dJ_numberOfLeadingZeros_61 rfl 0 rfl ?_
          refine r_iconst (v := 4) C dJ_numberOfLeadingZeros_62 (by decide) ?_
          refine r_icmp_lt C 73 dJ_numberOfLeadingZeros_63 (by decide) (fun c23 => ?_) (fun c23 => ?_)
          · rw [if_pos c23] at hf
            refine r_iload_n (i := 1) C dJ_numberOfLeadingZeros_73 rfl 1 rfl ?_
            refine r_iload_n (i := 0) C dJ_numberOfLeadingZeros_74 rfl 0 rfl ?_
            refine r_iconst (v := 1) C dJ_numberOfLeadingZeros_75 (by decide) ?_
            refine r_iushr C dJ_numberOfLeadingZeros_76 ?_
            refine r_isub C dJ_numberOfLeadingZeros_77 ?_
            cases hf
            exact r_iret C hF dJ_numberOfLeadingZeros_78
          · rw [if_neg c23] at hf
            obtain ⟨x24, ex24, hf⟩ := lt_of hf
            refine r_iinc (j := 1) (v := x24) (lv' := [(0, .int x16), (1, .int x24)]) C dJ_numberOfLeadingZeros_66 rfl (by rw [ex24]; rfl) (by decide) [1, 0] rfl ?_
            refine r_iload_n (i := 0) C dJ_numberOfLeadingZeros_69 rfl 0 rfl ?_
            refine r_iconst (v := 2) C dJ_numberOfLeadingZeros_70 (by decide) ?_
            refine r_iushr C dJ_numberOfLeadingZeros_71 ?_
            obtain ⟨x25, ex25, hf⟩ := lt_of hf
            refine r_top ex25 ?_
            refine r_istore_n (i := 0) (lv' := [(0, .int x25), (1, .int x24)]) C dJ_numberOfLeadingZeros_72 rfl (by decide) [0, 1] rfl ?_
            refine r_iload_n (i := 1) C dJ_numberOfLeadingZeros_73 rfl 1 rfl ?_
            refine r_iload_n (i := 0) C dJ_numberOfLeadingZeros_74 rfl 0 rfl ?_
            refine r_iconst (v := 1) C dJ_numberOfLeadingZeros_75 (by decide) ?_
            refine r_iushr C dJ_numberOfLeadingZeros_76 ?_
            refine r_isub C dJ_numberOfLeadingZeros_77 ?_
            cases hf
            exact r_iret C hF dJ_numberOfLeadingZeros_78
        clear hf
        have hf := r19
        refine r_icmp_lt C 61 dJ_numberOfLeadingZeros_51 (by decide) (fun c20 => ?_) (fun c20 => ?_)
        · rw [if_pos c20] at hf
          cases hf
          exact k18
        · rw [if_neg c20] at hf
          obtain ⟨x21, ex21, hf⟩ := lt_of hf
          refine r_iinc (j := 1) (v := x21) (lv' := [(0, .int x9), (1, .int x21)]) C dJ_numberOfLeadingZeros_54 rfl (by rw [ex21]; rfl) (by decide) [1, 0] rfl ?_
          refine r_iload_n (i := 0) C dJ_numberOfLeadingZeros_57 rfl 0 rfl ?_
          refine r_iconst (v := 4) C dJ_numberOfLeadingZeros_58 (by decide) ?_
          refine r_iushr C dJ_numberOfLeadingZeros_59 ?_
          obtain ⟨x22, ex22, hf⟩ := lt_of hf
          refine r_top ex22 ?_
          refine r_istore_n (i := 0) (lv' := [(0, .int x22), (1, .int x21)]) C dJ_numberOfLeadingZeros_60 rfl (by decide) [0, 1] rfl ?_
          cases hf
          exact k18
      clear hf
      have hf := r12
      refine r_icmp_lt C 48 dJ_numberOfLeadingZeros_37 (by decide) (fun c13 => ?_) (fun c13 => ?_)
      · rw [if_pos c13] at hf
        cases hf
        exact k11
      · rw [if_neg c13] at hf
        obtain ⟨x14, ex14, hf⟩ := lt_of hf
        refine r_iinc (j := 1) (v := x14) (lv' := [(0, .int x2), (1, .int x14)]) C dJ_numberOfLeadingZeros_40 rfl (by rw [ex14]; rfl) (by decide) [1, 0] rfl ?_
        refine r_iload_n (i := 0) C dJ_numberOfLeadingZeros_43 rfl 0 rfl ?_
        refine r_bipush (v := 8) C dJ_numberOfLeadingZeros_44 (by decide) ?_
        refine r_iushr C dJ_numberOfLeadingZeros_46 ?_
        obtain ⟨x15, ex15, hf⟩ := lt_of hf
        refine r_top ex15 ?_
        refine r_istore_n (i := 0) (lv' := [(0, .int x15), (1, .int x14)]) C dJ_numberOfLeadingZeros_47 rfl (by decide) [0, 1] rfl ?_
        cases hf
        exact k11
    clear hf
    have hf := r5
    refine r_icmp_lt C 33 dJ_numberOfLeadingZeros_22 (by decide) (fun c6 => ?_) (fun c6 => ?_)
    · rw [if_pos c6] at hf
      cases hf
      exact k4
    · rw [if_neg c6] at hf
      obtain ⟨x7, ex7, hf⟩ := lt_of hf
      refine r_iinc (j := 1) (v := x7) (lv' := [(0, .int a1), (1, .int x7)]) C dJ_numberOfLeadingZeros_25 rfl (by rw [ex7]; rfl) (by decide) [1, 0] rfl ?_
      refine r_iload_n (i := 0) C dJ_numberOfLeadingZeros_28 rfl 0 rfl ?_
      refine r_bipush (v := 16) C dJ_numberOfLeadingZeros_29 (by decide) ?_
      refine r_iushr C dJ_numberOfLeadingZeros_31 ?_
      obtain ⟨x8, ex8, hf⟩ := lt_of hf
      refine r_top ex8 ?_
      refine r_istore_n (i := 0) (lv' := [(0, .int x8), (1, .int x7)]) C dJ_numberOfLeadingZeros_32 rfl (by decide) [0, 1] rfl ?_
      cases hf
      exact k4
  · rw [if_neg c1] at hf
    refine r_iload_n (i := 0) C dJ_numberOfLeadingZeros_4 rfl 0 rfl ?_
    refine r_if_ne C 13 dJ_numberOfLeadingZeros_5 (by decide) (fun c26 => ?_) (fun c26 => ?_)
    · rw [if_neg c26] at hf
      refine r_iconst (v := 0) C dJ_numberOfLeadingZeros_13 (by decide) ?_
      cases hf
      exact r_iret C hF dJ_numberOfLeadingZeros_14
    · rw [if_pos c26] at hf
      refine r_bipush (v := 32) C dJ_numberOfLeadingZeros_8 (by decide) ?_
      refine r_goto C 14 dJ_numberOfLeadingZeros_10 (by decide) ?_
      cases hf
      exact r_iret C hF dJ_numberOfLeadingZeros_14

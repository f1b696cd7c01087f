def BX11_playGame_0  (rec : Nat → Hp → Int32 → Int32 → Int32 → Option (Hp)) (h : Hp) (y1 : Int32) (y2 : Int32) (y3 : Int32) : Option (Hp) := (if (16 : Int32) ≤ y2 then some h else rec 1 h y1 y2 (-1 : Int32))
def BX11_playGame_1  (rec : Nat → Hp → Int32 → Int32 → Int32 → Option (Hp)) (h : Hp) (y1 : Int32) (y2 : Int32) (y3 : Int32) : Option (Hp) := (if (16 : Int32) ≤ y3 then lt9 (y2 + (1 : Int32)) (fun x3 => rec 0 h y1 x3 0) else cl9 ((if (fX11_canChoose (h 32 5) y2) = (0 : Int32) then some false else (if (fX11_canChoose y1 y3) = (0 : Int32) then some false else some true)) : Option Bool) (fun q4 => if q4 = true then lt9 (((h 32 5) &&& ((fX11_bitOf y2) ^^^ (-1 : Int32))) ||| (fX11_bitOf y3)) (fun x10 => cl2 (fX1_standingWith h 32 x10) (fun x13 h11 => gd (inb (fX11_pair y2 y3) 289) (lt9 (up2 h11 31 (fX11_pair y2 y3).toNatClampNeg (fJ_bitCount x13)) (fun h15 => lt9 (y3 + (1 : Int32)) (fun x16 => rec 1 h15 y1 y2 x16))))) else lt9 (y3 + (1 : Int32)) (fun x17 => rec 1 h y1 y2 x17)))
def LX11_playGame  : Nat → Nat → Hp → Int32 → Int32 → Int32 → Option (Hp)
  | 0, _, _, _, _, _ => none
  | n + 1, lab, h, y1, y2, y3 => if lab = 0 then BX11_playGame_0  (LX11_playGame  n) h y1 y2 y3 else if lab = 1 then BX11_playGame_1  (LX11_playGame  n) h y1 y2 y3 else none
def fX11_playGame (h : Hp) (a1 : Int32) : Option (Hp) := cl9 (fX1_startOver h) (fun h18 => LX11_playGame big 0 h18 a1 (-1 : Int32) 0)
set_option maxHeartbeats 4000000 in
set_option maxRecDepth 100000 in
theorem wX11_playGame {X : Cx}  (C : OK X cX11_playGame 5 RX11 none) (hR : xR X = { frames := 7, cells := 0, slots := 0, locals := 448 }) (hcs : True) {hh : Hp} (hF : FinR X none hh) : ∀ n : Nat, (∀ (h : Hp) (y1 : Int32) (y2 : Int32) (y3 : Int32), LX11_playGame  n 0 h y1 y2 y3 = some hh → VW X 5 h 0 0 9 [(0, .ref (gad (xG X) 0)), (1, .int y1), (2, .int y2)] []) ∧ (∀ (h : Hp) (y1 : Int32) (y2 : Int32) (y3 : Int32), LX11_playGame  n 1 h y1 y2 y3 = some hh → VW X 5 h 0 0 17 [(0, .ref (gad (xG X) 0)), (1, .int y1), (2, .int y2), (3, .int y3)] []) := by
  intro n
  induction n with
  | zero => exact ⟨(fun _ _ _ _ hf => (by rw [LX11_playGame] at hf; cases hf)), (fun _ _ _ _ hf => (by rw [LX11_playGame] at hf; cases hf))⟩
  | succ n ih =>
    refine ⟨?_, ?_⟩
    · intro h y1 y2 y3 hf
      rw [LX11_playGame, if_pos rfl] at hf
      unfold BX11_playGame_0 at hf
      refine r_iload_n (i := 2) C dX11_playGame_9 rfl 2 rfl ?_
      refine r_bipush (v := 16) C dX11_playGame_10 (by decide) ?_
      refine r_icmp_ge C 104 dX11_playGame_12 (by decide) (fun c1 => ?_) (fun c1 => ?_)
      · rw [if_pos c1] at hf
        cases hf
        exact r_vret C hF dX11_playGame_104
      · rw [if_neg c1] at hf
        refine r_iconst (v := (-1)) C dX11_playGame_15 (by decide) ?_
        refine r_istore_n (i := 3) (lv' := [(0, .ref (gad (xG X) 0)), (1, .int y1), (2, .int y2), (3, .int (-1 : Int32))]) C dX11_playGame_16 rfl (by decide) [1, 2, 3, 0] rfl ?_
        exact r_lv [0, 1, 2, 3] rfl (ih.2 _ _ _ _ hf)
    · intro h y1 y2 y3 hf
      rw [LX11_playGame, if_neg (by decide), if_pos rfl] at hf
      unfold BX11_playGame_1 at hf
      refine r_iload_n (i := 3) C dX11_playGame_17 rfl 3 rfl ?_
      refine r_bipush (v := 16) C dX11_playGame_18 (by decide) ?_
      refine r_icmp_ge C 98 dX11_playGame_20 (by decide) (fun c2 => ?_) (fun c2 => ?_)
      · rw [if_pos c2] at hf
        obtain ⟨x3, ex3, hf⟩ := lt_of hf
        refine r_iinc (j := 2) (v := x3) (lv' := [(0, .ref (gad (xG X) 0)), (1, .int y1), (2, .int x3), (3, .int y3)]) C dX11_playGame_98 rfl (by rw [ex3]; rfl) (by decide) [1, 2, 0, 3] rfl ?_
        refine r_goto C 9 dX11_playGame_101 (by decide) ?_
        exact r_lv [0, 1, 2] rfl (ih.1 _ _ _ _ hf)
      · rw [if_neg c2] at hf
        refine r_aload_n (i := 0) C dX11_playGame_23 rfl 0 rfl ?_
        refine g_X11_54 C dX11_playGame_24 ?_
        refine g_X11_276 sk32 C dX11_playGame_27 ?_
        refine r_iload_n (i := 2) C dX11_playGame_30 rfl 2 rfl ?_
        refine r_callSi (As := [.int (h 32 5), .int y2]) (st := []) C (kX11_canChoose (xG X)) cw_X11_318 rfl rfl (Nat.le_of_ble_eq_true rfl) (zr2 hR rfl rfl) (zrcs hcs) dX11_playGame_31 ?_
        obtain ⟨q4, r7, hf⟩ := cl_of hf
        have k5 : q4 = true → VW X 5 h 0 0 45 [(0, .ref (gad (xG X) 0)), (1, .int y1), (2, .int y2), (3, .int y3)] [] := fun qq => by
          rw [if_pos qq] at hf
          refine r_aload_n (i := 0) C dX11_playGame_45 rfl 0 rfl ?_
          refine g_X11_54 C dX11_playGame_46 ?_
          refine g_X11_276 sk32 C dX11_playGame_49 ?_
          refine r_iload_n (i := 2) C dX11_playGame_52 rfl 2 rfl ?_
          refine r_callSi (As := [.int y2]) (st := [.int (h 32 5)]) C (kX11_bitOf (xG X)) cw_X11_388 rfl rfl (Nat.le_of_ble_eq_true rfl) (zr2 hR rfl rfl) (zrcs hcs) dX11_playGame_53 ?_
          refine r_iconst (v := (-1)) C dX11_playGame_56 (by decide) ?_
          refine r_ixor C dX11_playGame_57 ?_
          refine r_iand C dX11_playGame_58 ?_
          refine r_iload_n (i := 3) C dX11_playGame_59 rfl 3 rfl ?_
          refine r_callSi (As := [.int y3]) (st := [.int ((h 32 5) &&& ((fX11_bitOf y2) ^^^ (-1 : Int32)))]) C (kX11_bitOf (xG X)) cw_X11_388 rfl rfl (Nat.le_of_ble_eq_true rfl) (zr2 hR rfl rfl) (zrcs hcs) dX11_playGame_60 ?_
          refine r_ior C dX11_playGame_63 ?_
          obtain ⟨x10, ex10, hf⟩ := lt_of hf
          refine r_top ex10 ?_
          refine r_istore (i := 4) (lv' := [(0, .ref (gad (xG X) 0)), (1, .int y1), (2, .int y2), (3, .int y3), (4, .int x10)]) C dX11_playGame_64 (by decide) [1, 2, 3, 4, 0] rfl ?_
          refine r_aload_n (i := 0) C dX11_playGame_66 rfl 0 rfl ?_
          refine g_X11_82 C dX11_playGame_67 ?_
          refine r_iload_n (i := 2) C dX11_playGame_70 rfl 2 rfl ?_
          refine r_iload_n (i := 3) C dX11_playGame_71 rfl 3 rfl ?_
          refine r_callSi (As := [.int y2, .int y3]) (st := [.ref (gad (xG X) 31)]) C (kX11_pair (xG X)) cw_X11_403 rfl rfl (Nat.le_of_ble_eq_true rfl) (zr2 hR rfl rfl) (zrcs hcs) dX11_playGame_72 ?_
          refine r_aload_n (i := 0) C dX11_playGame_75 rfl 0 rfl ?_
          refine g_X11_19 C dX11_playGame_76 ?_
          refine r_aload_n (i := 0) C dX11_playGame_79 rfl 0 rfl ?_
          refine g_X11_54 C dX11_playGame_80 ?_
          refine r_iload (i := 4) C dX11_playGame_83 4 rfl ?_
          obtain ⟨x13, h11, e12, hf⟩ := cl2_of hf
          refine r_callNVi (As := [.ref (gad (xG X) 32), .int x10]) (st := [.int (fX11_pair y2 y3), .ref (gad (xG X) 31)]) C 3 rfl (by decide) rfl (kX1_standingWith (xG X) sk32 e12) cw_X11_279 rfl rfl (Nat.le_of_ble_eq_true rfl) (zr2 hR rfl rfl) (zrcs hcs) dX11_playGame_85 ?_
          refine r_callSi (As := [.int x13]) (st := [.int (fX11_pair y2 y3), .ref (gad (xG X) 31)]) C (kJ_bitCount (xG X)) cw_X11_257 rfl rfl (Nat.le_of_ble_eq_true rfl) (zr2 hR rfl rfl) (zrcs hcs) dX11_playGame_88 ?_
          obtain ⟨g14, hf⟩ := gd_of hf
          obtain ⟨h15, eh15, hf⟩ := lt_of hf
          refine r_iast C 31 eh15 rfl (by decide) g14 dX11_playGame_91 ?_
          obtain ⟨x16, ex16, hf⟩ := lt_of hf
          refine r_iinc (j := 3) (v := x16) (lv' := [(0, .ref (gad (xG X) 0)), (1, .int y1), (2, .int y2), (3, .int x16), (4, .int x10)]) C dX11_playGame_92 rfl (by rw [ex16]; rfl) (by decide) [1, 2, 3, 0, 4] rfl ?_
          refine r_goto C 17 dX11_playGame_95 (by decide) ?_
          exact r_lv [0, 1, 2, 3] rfl (ih.2 _ _ _ _ hf)
        have k6 : q4 = false → VW X 5 h 0 0 92 [(0, .ref (gad (xG X) 0)), (1, .int y1), (2, .int y2), (3, .int y3)] [] := fun qq => by
          rw [if_neg (by rw [qq]; decide)] at hf
          obtain ⟨x17, ex17, hf⟩ := lt_of hf
          refine r_iinc (j := 3) (v := x17) (lv' := [(0, .ref (gad (xG X) 0)), (1, .int y1), (2, .int y2), (3, .int x17)]) C dX11_playGame_92 rfl (by rw [ex17]; rfl) (by decide) [1, 2, 3, 0] rfl ?_
          refine r_goto C 17 dX11_playGame_95 (by decide) ?_
          exact r_lv [0, 1, 2, 3] rfl (ih.2 _ _ _ _ hf)
        clear hf
        have hf := r7
        refine r_if_eq C 92 dX11_playGame_34 (by decide) (fun c8 => ?_) (fun c8 => ?_)
        · rw [if_pos c8] at hf
          exact k6 (Option.some.inj hf).symm
        · rw [if_neg c8] at hf
          refine r_iload_n (i := 1) C dX11_playGame_37 rfl 1 rfl ?_
          refine r_iload_n (i := 3) C dX11_playGame_38 rfl 3 rfl ?_
          refine r_callSi (As := [.int y1, .int y3]) (st := []) C (kX11_canChoose (xG X)) cw_X11_318 rfl rfl (Nat.le_of_ble_eq_true rfl) (zr2 hR rfl rfl) (zrcs hcs) dX11_playGame_39 ?_
          refine r_if_eq C 92 dX11_playGame_42 (by decide) (fun c9 => ?_) (fun c9 => ?_)
          · rw [if_pos c9] at hf
            exact k6 (Option.some.inj hf).symm
          · rw [if_neg c9] at hf
            exact k5 (Option.some.inj hf).symm
set_option maxHeartbeats 4000000 in
set_option maxRecDepth 100000 in
theorem kX11_playGame (G : Gx)  {h : Hp} {a1 : Int32} {hh : Hp} (hf : fX11_playGame h a1 = some hh) : MC G yX11_playGame cX11_playGame 5 none 7 448 h [.ref (gad G 0), .int a1] none hh := by
  refine MC.of RX11 (by decide) rfl (Nat.le_of_ble_eq_true rfl) rfl (fun X C hG hR hF => ?_)
  subst hG
  have hcs : True := trivial
  unfold fX11_playGame at hf
  refine r_aload_n (i := 0) C dX11_playGame_0 rfl 0 rfl ?_
  refine g_X11_19 C dX11_playGame_1 ?_
  obtain ⟨h18, e19, hf⟩ := cl_of hf
  refine r_callNVv (As := []) (st := []) C 3 rfl (by decide) rfl (kX1_startOver (xG X) e19) cw_X11_273 rfl rfl (Nat.le_of_ble_eq_true rfl) (zr2 hR rfl rfl) (zrcs hcs) dX11_playGame_4 ?_
  refine r_iconst (v := (-1)) C dX11_playGame_7 (by decide) ?_
  refine r_istore_n (i := 2) (lv' := [(0, .ref (gad (xG X) 0)), (1, .int a1), (2, .int (-1 : Int32))]) C dX11_playGame_8 rfl (by decide) [1, 2, 0] rfl ?_
  exact r_lv [0, 1, 2] rfl ((wX11_playGame  C hR hcs hF big).1 _ _ _ _ hf)
def fX1_holding (h : Hp) (b : Nat) : Option (Int32 × Hp) := cl9 (fX1_startOver h) (fun h1 => cl2 (fX1_holdingWith h1 b (h1 b 5)) (fun x5 h3 => some (x5, h3)))
set_option maxHeartbeats 4000000 in
set_option maxRecDepth 100000 in
theorem kX1_holding (G : Gx) {b : Nat} (hb : isSky b) {h : Hp}  {rr : Int32} {hh : Hp} (hf : fX1_holding h b = some (rr, hh)) : MC G yX1_holding cX1_holding 2 (some .int) 6 384 h [.ref (gad G 3), .ref (gad G b)] (some (.int rr)) hh := by
  refine MC.of RX1 (by decide) rfl (Nat.le_of_ble_eq_true rfl) rfl (fun X C hG hR hF => ?_)
  subst hG
  have hcs : True := trivial
  unfold fX1_holding at hf
  refine r_aload_n (i := 0) C dX1_holding_0 rfl 0 rfl ?_
  obtain ⟨h1, e2, hf⟩ := cl_of hf
  refine r_callVv (As := []) (st := []) C 3 rfl (by decide) rfl (kX1_startOver (xG X) e2) cw_X1_58 rfl rfl (Nat.le_of_ble_eq_true rfl) (zr2 hR rfl rfl) (zrcs hcs) dX1_holding_1 ?_
  refine r_aload_n (i := 0) C dX1_holding_4 rfl 0 rfl ?_
  refine r_aload_n (i := 1) C dX1_holding_5 rfl 1 rfl ?_
  refine r_aload_n (i := 1) C dX1_holding_6 rfl 1 rfl ?_
  refine g_X1_30 hb C dX1_holding_7 ?_
  obtain ⟨x5, h3, e4, hf⟩ := cl2_of hf
  refine r_callVi (As := [.ref (gad (xG X) b), .int (h1 b 5)]) (st := []) C 3 rfl (by decide) rfl (kX1_holdingWith (xG X) hb e4) cw_X1_61 rfl rfl (Nat.le_of_ble_eq_true rfl) (zr2 hR rfl rfl) (zrcs hcs) dX1_holding_10 ?_
  cases hf
  exact r_iret C hF dX1_holding_13
def fX1_standing (h : Hp) (b : Nat) : Option (Int32 × Hp) := cl2 (fX1_holding h b) (fun x3 h1 => cl9 (fX7_standing h1 b x3 (h1 b 8) (h1 b 9)) (fun x4 => some (x4, h1)))
set_option maxHeartbeats 4000000 in
set_option maxRecDepth 100000 in
theorem kX1_standing (G : Gx) {b : Nat} (hb : isSky b) {h : Hp}  {rr : Int32} {hh : Hp} (hf : fX1_standing h b = some (rr, hh)) : MC G yX1_standing cX1_standing 2 (some .int) 7 448 h [.ref (gad G 3), .ref (gad G b)] (some (.int rr)) hh := by
  refine MC.of RX1 (by decide) rfl (Nat.le_of_ble_eq_true rfl) rfl (fun X C hG hR hF => ?_)
  subst hG
  have hcs : True := trivial
  unfold fX1_standing at hf
  refine r_aload_n (i := 1) C dX1_standing_0 rfl 1 rfl ?_
  refine r_aload_n (i := 0) C dX1_standing_1 rfl 0 rfl ?_
  refine r_aload_n (i := 1) C dX1_standing_2 rfl 1 rfl ?_
  obtain ⟨x3, h1, e2, hf⟩ := cl2_of hf
  refine r_callVi (As := [.ref (gad (xG X) b)]) (st := [.ref (gad (xG X) b)]) C 3 rfl (by decide) rfl (kX1_holding (xG X) hb e2) cw_X1_65 rfl rfl (Nat.le_of_ble_eq_true rfl) (zr2 hR rfl rfl) (zrcs hcs) dX1_standing_3 ?_
  refine r_aload_n (i := 1) C dX1_standing_6 rfl 1 rfl ?_
  refine g_X1_69 hb C dX1_standing_7 ?_
  refine r_aload_n (i := 1) C dX1_standing_10 rfl 1 rfl ?_
  refine g_X1_72 hb C dX1_standing_11 ?_
  obtain ⟨x4, e5, hf⟩ := cl_of hf
  refine r_callNVi (As := [.int x3, .int (h1 b 8), .int (h1 b 9)]) (st := []) C b (sky_d0 hb) (sky_l0 hb) rfl (kX7_standing (xG X) hb e5) cw_X1_75 rfl rfl (Nat.le_of_ble_eq_true rfl) (zr2 hR rfl rfl) (zrcs hcs) dX1_standing_14 ?_
  cases hf
  exact r_iret C hF dX1_standing_17
def BX1_daysMore_0 (b : Nat) (rec : Hp → Int32 → Int32 → Int32 → Int32 → Option (Int32 × Hp)) (h : Hp) (y2 : Int32) (y3 : Int32) (y4 : Int32) (y5 : Int32) : Option (Int32 × Hp) := (if y2 ≤ y5 then some (y4, h) else cl2 (fX1_dayMore h b y3) (fun x4 h2 => lt9 (y4 + (fJ_bitCount x4)) (fun x5 => lt9 (y5 + (1 : Int32)) (fun x6 => rec h2 y2 y3 x5 x6))))
def LX1_daysMore (b : Nat) : Nat → Hp → Int32 → Int32 → Int32 → Int32 → Option (Int32 × Hp)
  | 0, _, _, _, _, _ => none
  | n + 1, h, y2, y3, y4, y5 => BX1_daysMore_0 b (LX1_daysMore b n) h y2 y3 y4 y5
def fX1_daysMore (h : Hp) (b : Nat) (a1 : Int32) (a2 : Int32) : Option (Int32 × Hp) := LX1_daysMore b big h a1 a2 (0 : Int32) (0 : Int32)
set_option maxHeartbeats 4000000 in
set_option maxRecDepth 100000 in
theorem wX1_daysMore {X : Cx} {b : Nat} (hb : isSky b) (C : OK X cX1_daysMore 6 RX1 (some .int)) (hR : xR X = { frames := 7, cells := 0, slots := 0, locals := 448 }) (hcs : True) {rr : Int32} {hh : Hp} (hF : FinR X (some (.int rr)) hh) : ∀ n : Nat, (∀ (h : Hp) (y2 : Int32) (y3 : Int32) (y4 : Int32) (y5 : Int32), LX1_daysMore b n h y2 y3 y4 y5 = some (rr, hh) → VW X 6 h 0 0 6 [(0, .ref (gad (xG X) 3)), (1, .ref (gad (xG X) b)), (2, .int y2), (3, .int y3), (4, .int y4), (5, .int y5)] []) := by
  intro n
  induction n with
  | zero => exact (fun _ _ _ _ _ hf => (by rw [LX1_daysMore] at hf; cases hf))
  | succ n ih =>
    intro h y2 y3 y4 y5 hf
    rw [LX1_daysMore] at hf
    unfold BX1_daysMore_0 at hf
    refine r_iload (i := 5) C dX1_daysMore_6 5 rfl ?_
    refine r_iload_n (i := 2) C dX1_daysMore_8 rfl 2 rfl ?_
    refine r_icmp_ge C 32 dX1_daysMore_9 (by decide) (fun c1 => ?_) (fun c1 => ?_)
    · rw [if_pos c1] at hf
      refine r_iload (i := 4) C dX1_daysMore_32 4 rfl ?_
      cases hf
      exact r_iret C hF dX1_daysMore_34
    · rw [if_neg c1] at hf
      refine r_iload (i := 4) C dX1_daysMore_12 4 rfl ?_
      refine r_aload_n (i := 0) C dX1_daysMore_14 rfl 0 rfl ?_
      refine r_aload_n (i := 1) C dX1_daysMore_15 rfl 1 rfl ?_
      refine r_iload_n (i := 3) C dX1_daysMore_16 rfl 3 rfl ?_
      obtain ⟨x4, h2, e3, hf⟩ := cl2_of hf
      refine r_callVi (As := [.ref (gad (xG X) b), .int y3]) (st := [.int y4]) C 3 rfl (by decide) rfl (kX1_dayMore (xG X) hb e3) cw_X1_94 rfl rfl (Nat.le_of_ble_eq_true rfl) (zr2 hR rfl rfl) (zrcs hcs) dX1_daysMore_17 ?_
      refine r_callSi (As := [.int x4]) (st := [.int y4]) C (kJ_bitCount (xG X)) cw_X1_98 rfl rfl (Nat.le_of_ble_eq_true rfl) (zr2 hR rfl rfl) (zrcs hcs) dX1_daysMore_20 ?_
      refine r_iadd C dX1_daysMore_23 ?_
      obtain ⟨x5, ex5, hf⟩ := lt_of hf
      refine r_top ex5 ?_
      refine r_istore (i := 4) (lv' := [(0, .ref (gad (xG X) 3)), (1, .ref (gad (xG X) b)), (2, .int y2), (3, .int y3), (4, .int x5), (5, .int y5)]) C dX1_daysMore_24 (by decide) [1, 2, 3, 4, 0, 5] rfl ?_
      obtain ⟨x6, ex6, hf⟩ := lt_of hf
      refine r_iinc (j := 5) (v := x6) (lv' := [(0, .ref (gad (xG X) 3)), (1, .ref (gad (xG X) b)), (2, .int y2), (3, .int y3), (4, .int x5), (5, .int x6)]) C dX1_daysMore_26 rfl (by rw [ex6]; rfl) (by decide) [1, 2, 3, 4, 5, 0] rfl ?_
      refine r_goto C 6 dX1_daysMore_29 (by decide) ?_
      exact r_lv [0, 1, 2, 3, 4, 5] rfl (ih _ _ _ _ _ hf)
set_option maxHeartbeats 4000000 in
set_option maxRecDepth 100000 in
theorem kX1_daysMore (G : Gx) {b : Nat} (hb : isSky b) {h : Hp} {a1 : Int32} {a2 : Int32} {rr : Int32} {hh : Hp} (hf : fX1_daysMore h b a1 a2 = some (rr, hh)) : MC G yX1_daysMore cX1_daysMore 6 (some .int) 7 448 h [.ref (gad G 3), .ref (gad G b), .int a1, .int a2] (some (.int rr)) hh := by
  refine MC.of RX1 (by decide) rfl (Nat.le_of_ble_eq_true rfl) rfl (fun X C hG hR hF => ?_)
  subst hG
  have hcs : True := trivial
  unfold fX1_daysMore at hf
  refine r_iconst (v := 0) C dX1_daysMore_0 (by decide) ?_
  refine r_istore (i := 4) (lv' := [(0, .ref (gad (xG X) 3)), (1, .ref (gad (xG X) b)), (2, .int a1), (3, .int a2), (4, .int (0 : Int32))]) C dX1_daysMore_1 (by decide) [1, 2, 3, 4, 0] rfl ?_
  refine r_iconst (v := 0) C dX1_daysMore_3 (by decide) ?_
  refine r_istore (i := 5) (lv' := [(0, .ref (gad (xG X) 3)), (1, .ref (gad (xG X) b)), (2, .int a1), (3, .int a2), (4, .int (0 : Int32)), (5, .int (0 : Int32))]) C dX1_daysMore_4 (by decide) [1, 2, 3, 4, 5, 0] rfl ?_
  exact r_lv [0, 1, 2, 3, 4, 5] rfl ((wX1_daysMore hb C hR hcs hF big) _ _ _ _ _ hf)
def fX11_low (h : Hp) : Option (Int32 × Hp) := cl2 (fX1_standing h 32) (fun x3 h1 => some (((65535 : Int32) &&& (x3 ^^^ (-1 : Int32))), h1))
set_option maxHeartbeats 4000000 in
set_option maxRecDepth 100000 in
theorem kX11_low (G : Gx)  {h : Hp}  {rr : Int32} {hh : Hp} (hf : fX11_low h = some (rr, hh)) : MC G yX11_low cX11_low 1 (some .int) 8 512 h [.ref (gad G 0)] (some (.int rr)) hh := by
  refine MC.of RX11 (by decide) rfl (Nat.le_of_ble_eq_true rfl) rfl (fun X C hG hR hF => ?_)
  subst hG
  have hcs : True := trivial
  unfold fX11_low at hf
  refine r_ldc (v := 65535) C dX11_low_0 gw_555 ?_
  refine r_aload_n (i := 0) C dX11_low_2 rfl 0 rfl ?_
  refine g_X11_19 C dX11_low_3 ?_
  refine r_aload_n (i := 0) C dX11_low_6 rfl 0 rfl ?_
  refine g_X11_54 C dX11_low_7 ?_
  obtain ⟨x3, h1, e2, hf⟩ := cl2_of hf
  refine r_callNVi (As := [.ref (gad (xG X) 32)]) (st := [.int (65535 : Int32)]) C 3 rfl (by decide) rfl (kX1_standing (xG X) sk32 e2) cw_X11_179 rfl rfl (Nat.le_of_ble_eq_true rfl) (zr2 hR rfl rfl) (zrcs hcs) dX11_low_10 ?_
  refine r_iconst (v := (-1)) C dX11_low_13 (by decide) ?_
  refine r_ixor C dX11_low_14 ?_
  refine r_iand C dX11_low_15 ?_
  cases hf
  exact r_iret C hF dX11_low_16
def fX11_held (h : Hp) : Option (Int32 × Hp) := cl2 (fX1_holding h 32) (fun x3 h1 => some (x3, h1))
set_option maxHeartbeats 4000000 in
set_option maxRecDepth 100000 in
theorem kX11_held (G : Gx)  {h : Hp}  {rr : Int32} {hh : Hp} (hf : fX11_held h = some (rr, hh)) : MC G yX11_held cX11_held 1 (some .int) 7 448 h [.ref (gad G 0)] (some (.int rr)) hh := by
  refine MC.of RX11 (by decide) rfl (Nat.le_of_ble_eq_true rfl) rfl (fun X C hG hR hF => ?_)
  subst hG
  have hcs : True := trivial
  unfold fX11_held at hf
  refine r_aload_n (i := 0) C dX11_held_0 rfl 0 rfl ?_
  refine g_X11_19 C dX11_held_1 ?_
  refine r_aload_n (i := 0) C dX11_held_4 rfl 0 rfl ?_
  refine g_X11_54 C dX11_held_5 ?_
  obtain ⟨x3, h1, e2, hf⟩ := cl2_of hf
  refine r_callNVi (As := [.ref (gad (xG X) 32)]) (st := []) C 3 rfl (by decide) rfl (kX1_holding (xG X) sk32 e2) cw_X11_161 rfl rfl (Nat.le_of_ble_eq_true rfl) (zr2 hR rfl rfl) (zrcs hcs) dX11_held_8 ?_
  cases hf
  exact r_iret C hF dX11_held_11
def BX11_key_0  (rec : Hp → Int32 → Int32 → Int32 → Option (Int32 × Hp)) (h : Hp) (y1 : Int32) (y2 : Int32) (y3 : Int32) : Option (Int32 × Hp) := (if (16 : Int32) ≤ y3 then some (y2, h) else (if (fX7_hasPin h 32 y3) = (0 : Int32) then lt9 (y3 + (1 : Int32)) (fun x3 => rec h y1 y2 x3) else cl2 (fX11_standingWithout h y3) (fun x6 h4 => (if y1 ≤ (fJ_bitCount x6) then lt9 (y3 + (1 : Int32)) (fun x8 => rec h4 y1 y2 x8) else lt9 (y2 ||| ((1 : Int32) <<< (y3 &&& 31))) (fun x9 => lt9 (y3 + (1 : Int32)) (fun x10 => rec h4 y1 x9 x10))))))
def LX11_key  : Nat → Hp → Int32 → Int32 → Int32 → Option (Int32 × Hp)
  | 0, _, _, _, _ => none
  | n + 1, h, y1, y2, y3 => BX11_key_0  (LX11_key  n) h y1 y2 y3
def fX11_key (h : Hp) : Option (Int32 × Hp) := cl2 (fX1_standing h 32) (fun x13 h11 => lt9 (fJ_bitCount x13) (fun x14 => LX11_key big h11 x14 (0 : Int32) (0 : Int32)))
set_option maxHeartbeats 4000000 in
set_option maxRecDepth 100000 in
theorem wX11_key {X : Cx}  (C : OK X cX11_key 4 RX11 (some .int)) (hR : xR X = { frames := 8, cells := 0, slots := 0, locals := 512 }) (hcs : True) {rr : Int32} {hh : Hp} (hF : FinR X (some (.int rr)) hh) : ∀ n : Nat, (∀ (h : Hp) (y1 : Int32) (y2 : Int32) (y3 : Int32), LX11_key  n h y1 y2 y3 = some (rr, hh) → VW X 4 h 0 0 19 [(0, .ref (gad (xG X) 0)), (1, .int y1), (2, .int y2), (3, .int y3)] []) := by
  intro n
  induction n with
  | zero => exact (fun _ _ _ _ hf => (by rw [LX11_key] at hf; cases hf))
  | succ n ih =>
    intro h y1 y2 y3 hf
    rw [LX11_key] at hf
    unfold BX11_key_0 at hf
    refine r_iload_n (i := 3) C dX11_key_19 rfl 3 rfl ?_
    refine r_bipush (v := 16) C dX11_key_20 (by decide) ?_
    refine r_icmp_ge C 60 dX11_key_22 (by decide) (fun c1 => ?_) (fun c1 => ?_)
    · rw [if_pos c1] at hf
      refine r_iload_n (i := 2) C dX11_key_60 rfl 2 rfl ?_
      cases hf
      exact r_iret C hF dX11_key_61
    · rw [if_neg c1] at hf
      refine r_aload_n (i := 0) C dX11_key_25 rfl 0 rfl ?_
      refine g_X11_54 C dX11_key_26 ?_
      refine r_iload_n (i := 3) C dX11_key_29 rfl 3 rfl ?_
      refine r_callNVi (As := [.int y3]) (st := []) C 32 (sky_d0 sk32) (sky_l0 sk32) rfl (kX7_hasPin (xG X) sk32) cw_X11_151 rfl rfl (Nat.le_of_ble_eq_true rfl) (zr2 hR rfl rfl) (zrcs hcs) dX11_key_30 ?_
      refine r_if_eq C 54 dX11_key_33 (by decide) (fun c2 => ?_) (fun c2 => ?_)
      · rw [if_pos c2] at hf
        obtain ⟨x3, ex3, hf⟩ := lt_of hf
        refine r_iinc (j := 3) (v := x3) (lv' := [(0, .ref (gad (xG X) 0)), (1, .int y1), (2, .int y2), (3, .int x3)]) C dX11_key_54 rfl (by rw [ex3]; rfl) (by decide) [1, 2, 3, 0] rfl ?_
        refine r_goto C 19 dX11_key_57 (by decide) ?_
        exact r_lv [0, 1, 2, 3] rfl (ih _ _ _ _ hf)
      · rw [if_neg c2] at hf
        refine r_aload_n (i := 0) C dX11_key_36 rfl 0 rfl ?_
        refine r_iload_n (i := 3) C dX11_key_37 rfl 3 rfl ?_
        obtain ⟨x6, h4, e5, hf⟩ := cl2_of hf
        refine r_callVi (As := [.int y3]) (st := []) C 0 rfl (by decide) rfl (kX11_standingWithout (xG X) e5) cw_X11_262 rfl rfl (Nat.le_of_ble_eq_true rfl) (zr2 hR rfl rfl) (zrcs hcs) dX11_key_38 ?_
        refine r_callSi (As := [.int x6]) (st := []) C (kJ_bitCount (xG X)) cw_X11_257 rfl rfl (Nat.le_of_ble_eq_true rfl) (zr2 hR rfl rfl) (zrcs hcs) dX11_key_41 ?_
        refine r_iload_n (i := 1) C dX11_key_44 rfl 1 rfl ?_
        refine r_icmp_ge C 54 dX11_key_45 (by decide) (fun c7 => ?_) (fun c7 => ?_)
        · rw [if_pos c7] at hf
          obtain ⟨x8, ex8, hf⟩ := lt_of hf
          refine r_iinc (j := 3) (v := x8) (lv' := [(0, .ref (gad (xG X) 0)), (1, .int y1), (2, .int y2), (3, .int x8)]) C dX11_key_54 rfl (by rw [ex8]; rfl) (by decide) [1, 2, 3, 0] rfl ?_
          refine r_goto C 19 dX11_key_57 (by decide) ?_
          exact r_lv [0, 1, 2, 3] rfl (ih _ _ _ _ hf)
        · rw [if_neg c7] at hf
          refine r_iload_n (i := 2) C dX11_key_48 rfl 2 rfl ?_
          refine r_iconst (v := 1) C dX11_key_49 (by decide) ?_
          refine r_iload_n (i := 3) C dX11_key_50 rfl 3 rfl ?_
          refine r_ishl C dX11_key_51 ?_
          refine r_ior C dX11_key_52 ?_
          obtain ⟨x9, ex9, hf⟩ := lt_of hf
          refine r_top ex9 ?_
          refine r_istore_n (i := 2) (lv' := [(0, .ref (gad (xG X) 0)), (1, .int y1), (2, .int x9), (3, .int y3)]) C dX11_key_53 rfl (by decide) [1, 2, 0, 3] rfl ?_
          obtain ⟨x10, ex10, hf⟩ := lt_of hf
          refine r_iinc (j := 3) (v := x10) (lv' := [(0, .ref (gad (xG X) 0)), (1, .int y1), (2, .int x9), (3, .int x10)]) C dX11_key_54 rfl (by rw [ex10]; rfl) (by decide) [1, 2, 3, 0] rfl ?_
          refine r_goto C 19 dX11_key_57 (by decide) ?_
          exact r_lv [0, 1, 2, 3] rfl (ih _ _ _ _ hf)
set_option maxHeartbeats 4000000 in
set_option maxRecDepth 100000 in
theorem kX11_key (G : Gx)  {h : Hp}  {rr : Int32} {hh : Hp} (hf : fX11_key h = some (rr, hh)) : MC G yX11_key cX11_key 4 (some .int) 8 512 h [.ref (gad G 0)] (some (.int rr)) hh := by
  refine MC.of RX11 (by decide) rfl (Nat.le_of_ble_eq_true rfl) rfl (fun X C hG hR hF => ?_)
  subst hG
  have hcs : True := trivial
  unfold fX11_key at hf
  refine r_aload_n (i := 0) C dX11_key_0 rfl 0 rfl ?_
  refine g_X11_19 C dX11_key_1 ?_
  refine r_aload_n (i := 0) C dX11_key_4 rfl 0 rfl ?_
  refine g_X11_54 C dX11_key_5 ?_
  obtain ⟨x13, h11, e12, hf⟩ := cl2_of hf
  refine r_callNVi (As := [.ref (gad (xG X) 32)]) (st := []) C 3 rfl (by decide) rfl (kX1_standing (xG X) sk32 e12) cw_X11_179 rfl rfl (Nat.le_of_ble_eq_true rfl) (zr2 hR rfl rfl) (zrcs hcs) dX11_key_8 ?_
  refine r_callSi (As := [.int x13]) (st := []) C (kJ_bitCount (xG X)) cw_X11_257 rfl rfl (Nat.le_of_ble_eq_true rfl) (zr2 hR rfl rfl) (zrcs hcs) dX11_key_11 ?_
  obtain ⟨x14, ex14, hf⟩ := lt_of hf
  refine r_top ex14 ?_
  refine r_istore_n (i := 1) (lv' := [(0, .ref (gad (xG X) 0)), (1, .int x14)]) C dX11_key_14 rfl (by decide) [1, 0] rfl ?_
  refine r_iconst (v := 0) C dX11_key_15 (by decide) ?_
  refine r_istore_n (i := 2) (lv' := [(0, .ref (gad (xG X) 0)), (1, .int x14), (2, .int (0 : Int32))]) C dX11_key_16 rfl (by decide) [1, 2, 0] rfl ?_
  refine r_iconst (v := 0) C dX11_key_17 (by decide) ?_
  refine r_istore_n (i := 3) (lv' := [(0, .ref (gad (xG X) 0)), (1, .int x14), (2, .int (0 : Int32)), (3, .int (0 : Int32))]) C dX11_key_18 rfl (by decide) [1, 2, 3, 0] rfl ?_
  exact r_lv [0, 1, 2, 3] rfl ((wX11_key  C hR hcs hF big) _ _ _ _ hf)
def BX11_fewest_0  (rec : Hp → Int32 → Int32 → Int32 → Option (Int32 × Hp)) (h : Hp) (y2 : Int32) (y3 : Int32) (y4 : Int32) : Option (Int32 × Hp) := (if (4 : Int32) < y4 then some ((-1 : Int32), h) else cl2 (fX11_leastPins h y4 y3 y2) (fun x4 h2 => (if x4 = (-1 : Int32) then lt9 (y4 + (1 : Int32)) (fun x6 => rec h2 y2 y3 x6) else some (x4, h2))))
def LX11_fewest  : Nat → Hp → Int32 → Int32 → Int32 → Option (Int32 × Hp)
  | 0, _, _, _, _ => none
  | n + 1, h, y2, y3, y4 => BX11_fewest_0  (LX11_fewest  n) h y2 y3 y4
def fX11_fewest (h : Hp) (a1 : Int32) : Option (Int32 × Hp) := lt9 (a1 &&& (65535 : Int32)) (fun x7 => cl2 (fX1_standing h 32) (fun x10 h8 => (if (x7 &&& (x10 ^^^ (-1 : Int32))) = (0 : Int32) then some ((0 : Int32), h8) else lt9 (fX7_free h8 32) (fun x12 => LX11_fewest big h8 x7 x12 (1 : Int32)))))
set_option maxHeartbeats 4000000 in
set_option maxRecDepth 100000 in
theorem wX11_fewest {X : Cx}  (C : OK X cX11_fewest 6 RX11 (some .int)) (hR : xR X = { frames := 8, cells := 0, slots := 0, locals := 512 }) (hcs : True) {rr : Int32} {hh : Hp} (hF : FinR X (some (.int rr)) hh) : ∀ n : Nat, (∀ (h : Hp) (y2 : Int32) (y3 : Int32) (y4 : Int32), LX11_fewest  n h y2 y3 y4 = some (rr, hh) → VW X 6 h 0 0 36 [(0, .ref (gad (xG X) 0)), (2, .int y2), (3, .int y3), (4, .int y4)] []) := by
  intro n
  induction n with
  | zero => exact (fun _ _ _ _ hf => (by rw [LX11_fewest] at hf; cases hf))
  | succ n ih =>
    intro h y2 y3 y4 hf
    rw [LX11_fewest] at hf
    unfold BX11_fewest_0 at hf
    refine r_iload (i := 4) C dX11_fewest_36 3 rfl ?_
    refine r_iconst (v := 4) C dX11_fewest_38 (by decide) ?_
    refine r_icmp_gt C 67 dX11_fewest_39 (by decide) (fun c1 => ?_) (fun c1 => ?_)
    · rw [if_pos c1] at hf
      refine r_iconst (v := (-1)) C dX11_fewest_67 (by decide) ?_
      cases hf
      exact r_iret C hF dX11_fewest_68
    · rw [if_neg c1] at hf
      refine r_aload_n (i := 0) C dX11_fewest_42 rfl 0 rfl ?_
      refine r_iload (i := 4) C dX11_fewest_43 3 rfl ?_
      refine r_iload_n (i := 3) C dX11_fewest_45 rfl 2 rfl ?_
      refine r_iload_n (i := 2) C dX11_fewest_46 rfl 1 rfl ?_
      obtain ⟨x4, h2, e3, hf⟩ := cl2_of hf
      refine r_callVi (As := [.int y4, .int y3, .int y2]) (st := []) C 0 rfl (by decide) rfl (kX11_leastPins (xG X) e3) cw_X11_269 rfl rfl (Nat.le_of_ble_eq_true rfl) (zr2 hR rfl rfl) (zrcs hcs) dX11_fewest_47 ?_
      refine r_istore (i := 5) (lv' := [(0, .ref (gad (xG X) 0)), (2, .int y2), (3, .int y3), (4, .int y4), (5, .int x4)]) C dX11_fewest_50 (by decide) [1, 2, 3, 4, 0] rfl ?_
      refine r_iload (i := 5) C dX11_fewest_52 4 rfl ?_
      refine r_iconst (v := (-1)) C dX11_fewest_54 (by decide) ?_
      refine r_icmp_eq C 61 dX11_fewest_55 (by decide) (fun c5 => ?_) (fun c5 => ?_)
      · rw [if_pos c5] at hf
        obtain ⟨x6, ex6, hf⟩ := lt_of hf
        refine r_iinc (j := 3) (v := x6) (lv' := [(0, .ref (gad (xG X) 0)), (2, .int y2), (3, .int y3), (4, .int x6), (5, .int x4)]) C dX11_fewest_61 rfl (by rw [ex6]; rfl) (by decide) [1, 2, 3, 0, 4] rfl ?_
        refine r_goto C 36 dX11_fewest_64 (by decide) ?_
        exact r_lv [0, 1, 2, 3] rfl (ih _ _ _ _ hf)
      · rw [if_neg c5] at hf
        refine r_iload (i := 5) C dX11_fewest_58 4 rfl ?_
        cases hf
        exact r_iret C hF dX11_fewest_60
set_option maxHeartbeats 4000000 in
set_option maxRecDepth 100000 in
theorem kX11_fewest (G : Gx)  {h : Hp} {a1 : Int32} {rr : Int32} {hh : Hp} (hf : fX11_fewest h a1 = some (rr, hh)) : MC G yX11_fewest cX11_fewest 6 (some .int) 8 512 h [.ref (gad G 0), .int a1] (some (.int rr)) hh := by
  refine MC.of RX11 (by decide) rfl (Nat.le_of_ble_eq_true rfl) rfl (fun X C hG hR hF => ?_)
  subst hG
  have hcs : True := trivial
  unfold fX11_fewest at hf
  refine r_iload_n (i := 1) C dX11_fewest_0 rfl 1 rfl ?_
  refine r_ldc (v := 65535) C dX11_fewest_1 gw_555 ?_
  refine r_iand C dX11_fewest_3 ?_
  obtain ⟨x7, ex7, hf⟩ := lt_of hf
  refine r_top ex7 ?_
  refine r_istore_n (i := 2) (lv' := [(0, .ref (gad (xG X) 0)), (1, .int a1), (2, .int x7)]) C dX11_fewest_4 rfl (by decide) [1, 2, 0] rfl ?_
  refine r_iload_n (i := 2) C dX11_fewest_5 rfl 2 rfl ?_
  refine r_aload_n (i := 0) C dX11_fewest_6 rfl 0 rfl ?_
  refine g_X11_19 C dX11_fewest_7 ?_
  refine r_aload_n (i := 0) C dX11_fewest_10 rfl 0 rfl ?_
  refine g_X11_54 C dX11_fewest_11 ?_
  obtain ⟨x10, h8, e9, hf⟩ := cl2_of hf
  refine r_callNVi (As := [.ref (gad (xG X) 32)]) (st := [.int x7]) C 3 rfl (by decide) rfl (kX1_standing (xG X) sk32 e9) cw_X11_179 rfl rfl (Nat.le_of_ble_eq_true rfl) (zr2 hR rfl rfl) (zrcs hcs) dX11_fewest_14 ?_
  refine r_iconst (v := (-1)) C dX11_fewest_17 (by decide) ?_
  refine r_ixor C dX11_fewest_18 ?_
  refine r_iand C dX11_fewest_19 ?_
  refine r_if_ne C 25 dX11_fewest_20 (by decide) (fun c11 => ?_) (fun c11 => ?_)
  · rw [if_neg c11] at hf
    refine r_aload_n (i := 0) C dX11_fewest_25 rfl 0 rfl ?_
    refine g_X11_54 C dX11_fewest_26 ?_
    refine r_callNVi (As := []) (st := []) C 32 (sky_d0 sk32) (sky_l0 sk32) rfl (kX7_free (xG X) sk32) cw_X11_265 rfl rfl (Nat.le_of_ble_eq_true rfl) (zr2 hR rfl rfl) (zrcs hcs) dX11_fewest_29 ?_
    obtain ⟨x12, ex12, hf⟩ := lt_of hf
    refine r_top ex12 ?_
    refine r_istore_n (i := 3) (lv' := [(0, .ref (gad (xG X) 0)), (1, .int a1), (2, .int x7), (3, .int x12)]) C dX11_fewest_32 rfl (by decide) [1, 2, 3, 0] rfl ?_
    refine r_iconst (v := 1) C dX11_fewest_33 (by decide) ?_
    refine r_istore (i := 4) (lv' := [(0, .ref (gad (xG X) 0)), (1, .int a1), (2, .int x7), (3, .int x12), (4, .int (1 : Int32))]) C dX11_fewest_34 (by decide) [1, 2, 3, 4, 0] rfl ?_
    exact r_lv [0, 2, 3, 4] rfl ((wX11_fewest  C hR hcs hF big) _ _ _ _ hf)
  · rw [if_pos c11] at hf
    refine r_iconst (v := 0) C dX11_fewest_23 (by decide) ?_
    cases hf
    exact r_iret C hF dX11_fewest_24
def BX11_spare_0  (rec : Hp → Int32 → Int32 → Int32 → Option (Int32 × Hp)) (h : Hp) (y1 : Int32) (y2 : Int32) (y3 : Int32) : Option (Int32 × Hp) := (if (16 : Int32) ≤ y3 then some (y2, h) else (if (fX7_hasPin h 32 y3) = (0 : Int32) then lt9 (y3 + (1 : Int32)) (fun x3 => rec h y1 y2 x3) else cl2 (fX11_standingWithout h y3) (fun x6 h4 => (if (y1 &&& (x6 ^^^ (-1 : Int32))) = (0 : Int32) then lt9 (y2 ||| ((1 : Int32) <<< (y3 &&& 31))) (fun x9 => lt9 (y3 + (1 : Int32)) (fun x10 => rec h4 y1 x9 x10)) else lt9 (y3 + (1 : Int32)) (fun x8 => rec h4 y1 y2 x8)))))
def LX11_spare  : Nat → Hp → Int32 → Int32 → Int32 → Option (Int32 × Hp)
  | 0, _, _, _, _ => none
  | n + 1, h, y1, y2, y3 => BX11_spare_0  (LX11_spare  n) h y1 y2 y3
def fX11_spare (h : Hp) : Option (Int32 × Hp) := cl2 (fX1_standing h 32) (fun x13 h11 => LX11_spare big h11 x13 (0 : Int32) (0 : Int32))
set_option maxHeartbeats 4000000 in
set_option maxRecDepth 100000 in
theorem wX11_spare {X : Cx}  (C : OK X cX11_spare 4 RX11 (some .int)) (hR : xR X = { frames := 8, cells := 0, slots := 0, locals := 512 }) (hcs : True) {rr : Int32} {hh : Hp} (hF : FinR X (some (.int rr)) hh) : ∀ n : Nat, (∀ (h : Hp) (y1 : Int32) (y2 : Int32) (y3 : Int32), LX11_spare  n h y1 y2 y3 = some (rr, hh) → VW X 4 h 0 0 16 [(0, .ref (gad (xG X) 0)), (1, .int y1), (2, .int y2), (3, .int y3)] []) := by
  intro n
  induction n with
  | zero => exact (fun _ _ _ _ hf => (by rw [LX11_spare] at hf; cases hf))
  | succ n ih =>
    intro h y1 y2 y3 hf
    rw [LX11_spare] at hf
    unfold BX11_spare_0 at hf
    refine r_iload_n (i := 3) C dX11_spare_16 rfl 3 rfl ?_
    refine r_bipush (v := 16) C dX11_spare_17 (by decide) ?_
    refine r_icmp_ge C 57 dX11_spare_19 (by decide) (fun c1 => ?_) (fun c1 => ?_)
    · rw [if_pos c1] at hf
      refine r_iload_n (i := 2) C dX11_spare_57 rfl 2 rfl ?_
      cases hf
      exact r_iret C hF dX11_spare_58
    · rw [if_neg c1] at hf
      refine r_aload_n (i := 0) C dX11_spare_22 rfl 0 rfl ?_
      refine g_X11_54 C dX11_spare_23 ?_
      refine r_iload_n (i := 3) C dX11_spare_26 rfl 3 rfl ?_
      refine r_callNVi (As := [.int y3]) (st := []) C 32 (sky_d0 sk32) (sky_l0 sk32) rfl (kX7_hasPin (xG X) sk32) cw_X11_151 rfl rfl (Nat.le_of_ble_eq_true rfl) (zr2 hR rfl rfl) (zrcs hcs) dX11_spare_27 ?_
      refine r_if_eq C 51 dX11_spare_30 (by decide) (fun c2 => ?_) (fun c2 => ?_)
      · rw [if_pos c2] at hf
        obtain ⟨x3, ex3, hf⟩ := lt_of hf
        refine r_iinc (j := 3) (v := x3) (lv' := [(0, .ref (gad (xG X) 0)), (1, .int y1), (2, .int y2), (3, .int x3)]) C dX11_spare_51 rfl (by rw [ex3]; rfl) (by decide) [1, 2, 3, 0] rfl ?_
        refine r_goto C 16 dX11_spare_54 (by decide) ?_
        exact r_lv [0, 1, 2, 3] rfl (ih _ _ _ _ hf)
      · rw [if_neg c2] at hf
        refine r_iload_n (i := 1) C dX11_spare_33 rfl 1 rfl ?_
        refine r_aload_n (i := 0) C dX11_spare_34 rfl 0 rfl ?_
        refine r_iload_n (i := 3) C dX11_spare_35 rfl 3 rfl ?_
        obtain ⟨x6, h4, e5, hf⟩ := cl2_of hf
        refine r_callVi (As := [.int y3]) (st := [.int y1]) C 0 rfl (by decide) rfl (kX11_standingWithout (xG X) e5) cw_X11_262 rfl rfl (Nat.le_of_ble_eq_true rfl) (zr2 hR rfl rfl) (zrcs hcs) dX11_spare_36 ?_
        refine r_iconst (v := (-1)) C dX11_spare_39 (by decide) ?_
        refine r_ixor C dX11_spare_40 ?_
        refine r_iand C dX11_spare_41 ?_
        refine r_if_ne C 51 dX11_spare_42 (by decide) (fun c7 => ?_) (fun c7 => ?_)
        · rw [if_neg c7] at hf
          obtain ⟨x8, ex8, hf⟩ := lt_of hf
          refine r_iinc (j := 3) (v := x8) (lv' := [(0, .ref (gad (xG X) 0)), (1, .int y1), (2, .int y2), (3, .int x8)]) C dX11_spare_51 rfl (by rw [ex8]; rfl) (by decide) [1, 2, 3, 0] rfl ?_
          refine r_goto C 16 dX11_spare_54 (by decide) ?_
          exact r_lv [0, 1, 2, 3] rfl (ih _ _ _ _ hf)
        · rw [if_pos c7] at hf
          refine r_iload_n (i := 2) C dX11_spare_45 rfl 2 rfl ?_
          refine r_iconst (v := 1) C dX11_spare_46 (by decide) ?_
          refine r_iload_n (i := 3) C dX11_spare_47 rfl 3 rfl ?_
          refine r_ishl C dX11_spare_48 ?_
          refine r_ior C dX11_spare_49 ?_
          obtain ⟨x9, ex9, hf⟩ := lt_of hf
          refine r_top ex9 ?_
          refine r_istore_n (i := 2) (lv' := [(0, .ref (gad (xG X) 0)), (1, .int y1), (2, .int x9), (3, .int y3)]) C dX11_spare_50 rfl (by decide) [1, 2, 0, 3] rfl ?_
          obtain ⟨x10, ex10, hf⟩ := lt_of hf
          refine r_iinc (j := 3) (v := x10) (lv' := [(0, .ref (gad (xG X) 0)), (1, .int y1), (2, .int x9), (3, .int x10)]) C dX11_spare_51 rfl (by rw [ex10]; rfl) (by decide) [1, 2, 3, 0] rfl ?_
          refine r_goto C 16 dX11_spare_54 (by decide) ?_
          exact r_lv [0, 1, 2, 3] rfl (ih _ _ _ _ hf)
set_option maxHeartbeats 4000000 in
set_option maxRecDepth 100000 in
theorem kX11_spare (G : Gx)  {h : Hp}  {rr : Int32} {hh : Hp} (hf : fX11_spare h = some (rr, hh)) : MC G yX11_spare cX11_spare 4 (some .int) 8 512 h [.ref (gad G 0)] (some (.int rr)) hh := by
  refine MC.of RX11 (by decide) rfl (Nat.le_of_ble_eq_true rfl) rfl (fun X C hG hR hF => ?_)
  subst hG
  have hcs : True := trivial
  unfold fX11_spare at hf
  refine r_aload_n (i := 0) C dX11_spare_0 rfl 0 rfl ?_
  refine g_X11_19 C dX11_spare_1 ?_
  refine r_aload_n (i := 0) C dX11_spare_4 rfl 0 rfl ?_
  refine g_X11_54 C dX11_spare_5 ?_
  obtain ⟨x13, h11, e12, hf⟩ := cl2_of hf
  refine r_callNVi (As := [.ref (gad (xG X) 32)]) (st := []) C 3 rfl (by decide) rfl (kX1_standing (xG X) sk32 e12) cw_X11_179 rfl rfl (Nat.le_of_ble_eq_true rfl) (zr2 hR rfl rfl) (zrcs hcs) dX11_spare_8 ?_
  refine r_istore_n (i := 1) (lv' := [(0, .ref (gad (xG X) 0)), (1, .int x13)]) C dX11_spare_11 rfl (by decide) [1, 0] rfl ?_
  refine r_iconst (v := 0) C dX11_spare_12 (by decide) ?_
  refine r_istore_n (i := 2) (lv' := [(0, .ref (gad (xG X) 0)), (1, .int x13), (2, .int (0 : Int32))]) C dX11_spare_13 rfl (by decide) [1, 2, 0] rfl ?_
  refine r_iconst (v := 0) C dX11_spare_14 (by decide) ?_
  refine r_istore_n (i := 3) (lv' := [(0, .ref (gad (xG X) 0)), (1, .int x13), (2, .int (0 : Int32)), (3, .int (0 : Int32))]) C dX11_spare_15 rfl (by decide) [1, 2, 3, 0] rfl ?_
  exact r_lv [0, 1, 2, 3] rfl ((wX11_spare  C hR hcs hF big) _ _ _ _ hf)
def BX11_duke_0  (rec : Nat → Hp → Int32 → Int32 → Int32 → Int32 → Option (Int32 × Hp)) (h : Hp) (y1 : Int32) (y2 : Int32) (y3 : Int32) (y4 : Int32) : Option (Int32 × Hp) := (if (16 : Int32) ≤ y3 then some (y2, h) else rec 1 h y1 y2 y3 (-1 : Int32))
def BX11_duke_1  (rec : Nat → Hp → Int32 → Int32 → Int32 → Int32 → Option (Int32 × Hp)) (h : Hp) (y1 : Int32) (y2 : Int32) (y3 : Int32) (y4 : Int32) : Option (Int32 × Hp) := (if (16 : Int32) ≤ y4 then lt9 (y3 + (1 : Int32)) (fun x3 => rec 0 h y1 y2 x3 0) else (if (fX11_canChoose (h 32 5) y3) = (0 : Int32) then lt9 (y4 + (1 : Int32)) (fun x5 => rec 1 h y1 y2 y3 x5) else (if (fX11_canChoose y1 y4) = (0 : Int32) then lt9 (y4 + (1 : Int32)) (fun x7 => rec 1 h y1 y2 y3 x7) else cl9 (fX11_dukeRests h y3 y4) (fun x8 => (if x8 = (0 : Int32) then lt9 (y4 + (1 : Int32)) (fun x11 => rec 1 h y1 y2 y3 x11) else cl9 (fX11_guildRests h y3 y4 y1) (fun x12 => (if x12 = (0 : Int32) then lt9 (y4 + (1 : Int32)) (fun x15 => rec 1 h y1 y2 y3 x15) else lt9 (y2 + (1 : Int32)) (fun x16 => lt9 (y4 + (1 : Int32)) (fun x17 => rec 1 h y1 x16 y3 x17)))))))))
def LX11_duke  : Nat → Nat → Hp → Int32 → Int32 → Int32 → Int32 → Option (Int32 × Hp)
  | 0, _, _, _, _, _, _ => none
  | n + 1, lab, h, y1, y2, y3, y4 => if lab = 0 then BX11_duke_0  (LX11_duke  n) h y1 y2 y3 y4 else if lab = 1 then BX11_duke_1  (LX11_duke  n) h y1 y2 y3 y4 else none
def fX11_duke (h : Hp) : Option (Int32 × Hp) := lt9 (fX7_free h 32) (fun x18 => cl9 (fX11_playGame h x18) (fun h19 => LX11_duke big 0 h19 x18 (0 : Int32) (-1 : Int32) 0))
set_option maxHeartbeats 4000000 in
set_option maxRecDepth 100000 in
theorem wX11_duke {X : Cx}  (C : OK X cX11_duke 5 RX11 (some .int)) (hR : xR X = { frames := 8, cells := 0, slots := 0, locals := 512 }) (hcs : True) {rr : Int32} {hh : Hp} (hF : FinR X (some (.int rr)) hh) : ∀ n : Nat, (∀ (h : Hp) (y1 : Int32) (y2 : Int32) (y3 : Int32) (y4 : Int32), LX11_duke  n 0 h y1 y2 y3 y4 = some (rr, hh) → VW X 5 h 0 0 17 [(0, .ref (gad (xG X) 0)), (1, .int y1), (2, .int y2), (3, .int y3)] []) ∧ (∀ (h : Hp) (y1 : Int32) (y2 : Int32) (y3 : Int32) (y4 : Int32), LX11_duke  n 1 h y1 y2 y3 y4 = some (rr, hh) → VW X 5 h 0 0 26 [(0, .ref (gad (xG X) 0)), (1, .int y1), (2, .int y2), (3, .int y3), (4, .int y4)] []) := by
  intro n
  induction n with
  | zero => exact ⟨(fun _ _ _ _ _ hf => (by rw [LX11_duke] at hf; cases hf)), (fun _ _ _ _ _ hf => (by rw [LX11_duke] at hf; cases hf))⟩
  | succ n ih =>
    refine ⟨?_, ?_⟩
    · intro h y1 y2 y3 y4 hf
      rw [LX11_duke, if_pos rfl] at hf
      unfold BX11_duke_0 at hf
      refine r_iload_n (i := 3) C dX11_duke_17 rfl 3 rfl ?_
      refine r_bipush (v := 16) C dX11_duke_18 (by decide) ?_
      refine r_icmp_ge C 92 dX11_duke_20 (by decide) (fun c1 => ?_) (fun c1 => ?_)
      · rw [if_pos c1] at hf
        refine r_iload_n (i := 2) C dX11_duke_92 rfl 2 rfl ?_
        cases hf
        exact r_iret C hF dX11_duke_93
      · rw [if_neg c1] at hf
        refine r_iconst (v := (-1)) C dX11_duke_23 (by decide) ?_
        refine r_istore (i := 4) (lv' := [(0, .ref (gad (xG X) 0)), (1, .int y1), (2, .int y2), (3, .int y3), (4, .int (-1 : Int32))]) C dX11_duke_24 (by decide) [1, 2, 3, 4, 0] rfl ?_
        exact r_lv [0, 1, 2, 3, 4] rfl (ih.2 _ _ _ _ _ hf)
    · intro h y1 y2 y3 y4 hf
      rw [LX11_duke, if_neg (by decide), if_pos rfl] at hf
      unfold BX11_duke_1 at hf
      refine r_iload (i := 4) C dX11_duke_26 4 rfl ?_
      refine r_bipush (v := 16) C dX11_duke_28 (by decide) ?_
      refine r_icmp_ge C 86 dX11_duke_30 (by decide) (fun c2 => ?_) (fun c2 => ?_)
      · rw [if_pos c2] at hf
        obtain ⟨x3, ex3, hf⟩ := lt_of hf
        refine r_iinc (j := 3) (v := x3) (lv' := [(0, .ref (gad (xG X) 0)), (1, .int y1), (2, .int y2), (3, .int x3), (4, .int y4)]) C dX11_duke_86 rfl (by rw [ex3]; rfl) (by decide) [1, 2, 3, 0, 4] rfl ?_
        refine r_goto C 17 dX11_duke_89 (by decide) ?_
        exact r_lv [0, 1, 2, 3] rfl (ih.1 _ _ _ _ _ hf)
      · rw [if_neg c2] at hf
        refine r_aload_n (i := 0) C dX11_duke_33 rfl 0 rfl ?_
        refine g_X11_54 C dX11_duke_34 ?_
        refine g_X11_276 sk32 C dX11_duke_37 ?_
        refine r_iload_n (i := 3) C dX11_duke_40 rfl 3 rfl ?_
        refine r_callSi (As := [.int (h 32 5), .int y3]) (st := []) C (kX11_canChoose (xG X)) cw_X11_318 rfl rfl (Nat.le_of_ble_eq_true rfl) (zr2 hR rfl rfl) (zrcs hcs) dX11_duke_41 ?_
        refine r_if_eq C 80 dX11_duke_44 (by decide) (fun c4 => ?_) (fun c4 => ?_)
        · rw [if_pos c4] at hf
          obtain ⟨x5, ex5, hf⟩ := lt_of hf
          refine r_iinc (j := 4) (v := x5) (lv' := [(0, .ref (gad (xG X) 0)), (1, .int y1), (2, .int y2), (3, .int y3), (4, .int x5)]) C dX11_duke_80 rfl (by rw [ex5]; rfl) (by decide) [1, 2, 3, 4, 0] rfl ?_
          refine r_goto C 26 dX11_duke_83 (by decide) ?_
          exact r_lv [0, 1, 2, 3, 4] rfl (ih.2 _ _ _ _ _ hf)
        · rw [if_neg c4] at hf
          refine r_iload_n (i := 1) C dX11_duke_47 rfl 1 rfl ?_
          refine r_iload (i := 4) C dX11_duke_48 4 rfl ?_
          refine r_callSi (As := [.int y1, .int y4]) (st := []) C (kX11_canChoose (xG X)) cw_X11_318 rfl rfl (Nat.le_of_ble_eq_true rfl) (zr2 hR rfl rfl) (zrcs hcs) dX11_duke_50 ?_
          refine r_if_eq C 80 dX11_duke_53 (by decide) (fun c6 => ?_) (fun c6 => ?_)
          · rw [if_pos c6] at hf
            obtain ⟨x7, ex7, hf⟩ := lt_of hf
            refine r_iinc (j := 4) (v := x7) (lv' := [(0, .ref (gad (xG X) 0)), (1, .int y1), (2, .int y2), (3, .int y3), (4, .int x7)]) C dX11_duke_80 rfl (by rw [ex7]; rfl) (by decide) [1, 2, 3, 4, 0] rfl ?_
            refine r_goto C 26 dX11_duke_83 (by decide) ?_
            exact r_lv [0, 1, 2, 3, 4] rfl (ih.2 _ _ _ _ _ hf)
          · rw [if_neg c6] at hf
            refine r_aload_n (i := 0) C dX11_duke_56 rfl 0 rfl ?_
            refine r_iload_n (i := 3) C dX11_duke_57 rfl 3 rfl ?_
            refine r_iload (i := 4) C dX11_duke_58 4 rfl ?_
            obtain ⟨x8, e9, hf⟩ := cl_of hf
            refine r_callVi (As := [.int y3, .int y4]) (st := []) C 0 rfl (by decide) rfl (kX11_dukeRests (xG X) e9) cw_X11_321 rfl rfl (Nat.le_of_ble_eq_true rfl) (zr2 hR rfl rfl) (zrcs hcs) dX11_duke_60 ?_
            refine r_if_eq C 80 dX11_duke_63 (by decide) (fun c10 => ?_) (fun c10 => ?_)
            · rw [if_pos c10] at hf
              obtain ⟨x11, ex11, hf⟩ := lt_of hf
              refine r_iinc (j := 4) (v := x11) (lv' := [(0, .ref (gad (xG X) 0)), (1, .int y1), (2, .int y2), (3, .int y3), (4, .int x11)]) C dX11_duke_80 rfl (by rw [ex11]; rfl) (by decide) [1, 2, 3, 4, 0] rfl ?_
              refine r_goto C 26 dX11_duke_83 (by decide) ?_
              exact r_lv [0, 1, 2, 3, 4] rfl (ih.2 _ _ _ _ _ hf)
            · rw [if_neg c10] at hf
              refine r_aload_n (i := 0) C dX11_duke_66 rfl 0 rfl ?_
              refine r_iload_n (i := 3) C dX11_duke_67 rfl 3 rfl ?_
              refine r_iload (i := 4) C dX11_duke_68 4 rfl ?_
              refine r_iload_n (i := 1) C dX11_duke_70 rfl 1 rfl ?_
              obtain ⟨x12, e13, hf⟩ := cl_of hf
              refine r_callVi (As := [.int y3, .int y4, .int y1]) (st := []) C 0 rfl (by decide) rfl (kX11_guildRests (xG X) e13) cw_X11_324 rfl rfl (Nat.le_of_ble_eq_true rfl) (zr2 hR rfl rfl) (zrcs hcs) dX11_duke_71 ?_
              refine r_if_eq C 80 dX11_duke_74 (by decide) (fun c14 => ?_) (fun c14 => ?_)
              · rw [if_pos c14] at hf
                obtain ⟨x15, ex15, hf⟩ := lt_of hf
                refine r_iinc (j := 4) (v := x15) (lv' := [(0, .ref (gad (xG X) 0)), (1, .int y1), (2, .int y2), (3, .int y3), (4, .int x15)]) C dX11_duke_80 rfl (by rw [ex15]; rfl) (by decide) [1, 2, 3, 4, 0] rfl ?_
                refine r_goto C 26 dX11_duke_83 (by decide) ?_
                exact r_lv [0, 1, 2, 3, 4] rfl (ih.2 _ _ _ _ _ hf)
              · rw [if_neg c14] at hf
                obtain ⟨x16, ex16, hf⟩ := lt_of hf
                refine r_iinc (j := 2) (v := x16) (lv' := [(0, .ref (gad (xG X) 0)), (1, .int y1), (2, .int x16), (3, .int y3), (4, .int y4)]) C dX11_duke_77 rfl (by rw [ex16]; rfl) (by decide) [1, 2, 0, 3, 4] rfl ?_
                obtain ⟨x17, ex17, hf⟩ := lt_of hf
                refine r_iinc (j := 4) (v := x17) (lv' := [(0, .ref (gad (xG X) 0)), (1, .int y1), (2, .int x16), (3, .int y3), (4, .int x17)]) C dX11_duke_80 rfl (by rw [ex17]; rfl) (by decide) [1, 2, 3, 4, 0] rfl ?_
                refine r_goto C 26 dX11_duke_83 (by decide) ?_
                exact r_lv [0, 1, 2, 3, 4] rfl (ih.2 _ _ _ _ _ hf)
set_option maxHeartbeats 4000000 in
set_option maxRecDepth 100000 in
theorem kX11_duke (G : Gx)  {h : Hp}  {rr : Int32} {hh : Hp} (hf : fX11_duke h = some (rr, hh)) : MC G yX11_duke cX11_duke 5 (some .int) 8 512 h [.ref (gad G 0)] (some (.int rr)) hh := by
  refine MC.of RX11 (by decide) rfl (Nat.le_of_ble_eq_true rfl) rfl (fun X C hG hR hF => ?_)
  subst hG
  have hcs : True := trivial
  unfold fX11_duke at hf
  refine r_aload_n (i := 0) C dX11_duke_0 rfl 0 rfl ?_
  refine g_X11_54 C dX11_duke_1 ?_
  refine r_callNVi (As := []) (st := []) C 32 (sky_d0 sk32) (sky_l0 sk32) rfl (kX7_free (xG X) sk32) cw_X11_265 rfl rfl (Nat.le_of_ble_eq_true rfl) (zr2 hR rfl rfl) (zrcs hcs) dX11_duke_4 ?_
  obtain ⟨x18, ex18, hf⟩ := lt_of hf
  refine r_top ex18 ?_
  refine r_istore_n (i := 1) (lv' := [(0, .ref (gad (xG X) 0)), (1, .int x18)]) C dX11_duke_7 rfl (by decide) [1, 0] rfl ?_
  refine r_aload_n (i := 0) C dX11_duke_8 rfl 0 rfl ?_
  refine r_iload_n (i := 1) C dX11_duke_9 rfl 1 rfl ?_
  obtain ⟨h19, e20, hf⟩ := cl_of hf
  refine r_callVv (As := [.int x18]) (st := []) C 0 rfl (by decide) rfl (kX11_playGame (xG X) e20) cw_X11_315 rfl rfl (Nat.le_of_ble_eq_true rfl) (zr2 hR rfl rfl) (zrcs hcs) dX11_duke_10 ?_
  refine r_iconst (v := 0) C dX11_duke_13 (by decide) ?_
  refine r_istore_n (i := 2) (lv' := [(0, .ref (gad (xG X) 0)), (1, .int x18), (2, .int (0 : Int32))]) C dX11_duke_14 rfl (by decide) [1, 2, 0] rfl ?_
  refine r_iconst (v := (-1)) C dX11_duke_15 (by decide) ?_
  refine r_istore_n (i := 3) (lv' := [(0, .ref (gad (xG X) 0)), (1, .int x18), (2, .int (0 : Int32)), (3, .int (-1 : Int32))]) C dX11_duke_16 rfl (by decide) [1, 2, 3, 0] rfl ?_
  exact r_lv [0, 1, 2, 3] rfl ((wX11_duke  C hR hcs hF big).1 _ _ _ _ _ hf)
def BX11_season_0  (rec : Hp → Int32 → Int32 → Int32 → Int32 → Option (Int32 × Hp)) (h : Hp) (y1 : Int32) (y2 : Int32) (y3 : Int32) (y4 : Int32) : Option (Int32 × Hp) := (if (9 : Int32) < y4 then some (y2, h) else cl9 (fX7_standing h 32 y1 (h 32 8) y4) (fun x2 => lt9 (fJ_bitCount x2) (fun x4 => (if x4 ≤ y3 then lt9 (y4 + (1 : Int32)) (fun x6 => rec h y1 y2 y3 x6) else lt9 (y4 + (1 : Int32)) (fun x7 => rec h y1 y4 x4 x7)))))
def LX11_season  : Nat → Hp → Int32 → Int32 → Int32 → Int32 → Option (Int32 × Hp)
  | 0, _, _, _, _, _ => none
  | n + 1, h, y1, y2, y3, y4 => BX11_season_0  (LX11_season  n) h y1 y2 y3 y4
def fX11_season (h : Hp) : Option (Int32 × Hp) := cl2 (fX1_holding h 32) (fun x10 h8 => LX11_season big h8 x10 (0 : Int32) (-1 : Int32) (0 : Int32))
set_option maxHeartbeats 4000000 in
set_option maxRecDepth 100000 in
theorem wX11_season {X : Cx}  (C : OK X cX11_season 6 RX11 (some .int)) (hR : xR X = { frames := 7, cells := 0, slots := 0, locals := 448 }) (hcs : True) {rr : Int32} {hh : Hp} (hF : FinR X (some (.int rr)) hh) : ∀ n : Nat, (∀ (h : Hp) (y1 : Int32) (y2 : Int32) (y3 : Int32) (y4 : Int32), LX11_season  n h y1 y2 y3 y4 = some (rr, hh) → VW X 6 h 0 0 19 [(0, .ref (gad (xG X) 0)), (1, .int y1), (2, .int y2), (3, .int y3), (4, .int y4)] []) := by
  intro n
  induction n with
  | zero => exact (fun _ _ _ _ _ hf => (by rw [LX11_season] at hf; cases hf))
  | succ n ih =>
    intro h y1 y2 y3 y4 hf
    rw [LX11_season] at hf
    unfold BX11_season_0 at hf
    refine r_iload (i := 4) C dX11_season_19 4 rfl ?_
    refine r_bipush (v := 9) C dX11_season_21 (by decide) ?_
    refine r_icmp_gt C 66 dX11_season_23 (by decide) (fun c1 => ?_) (fun c1 => ?_)
    · rw [if_pos c1] at hf
      refine r_iload_n (i := 2) C dX11_season_66 rfl 2 rfl ?_
      cases hf
      exact r_iret C hF dX11_season_67
    · rw [if_neg c1] at hf
      refine r_aload_n (i := 0) C dX11_season_26 rfl 0 rfl ?_
      refine g_X11_54 C dX11_season_27 ?_
      refine r_iload_n (i := 1) C dX11_season_30 rfl 1 rfl ?_
      refine r_aload_n (i := 0) C dX11_season_31 rfl 0 rfl ?_
      refine g_X11_54 C dX11_season_32 ?_
      refine g_X11_169 sk32 C dX11_season_35 ?_
      refine r_iload (i := 4) C dX11_season_38 4 rfl ?_
      obtain ⟨x2, e3, hf⟩ := cl_of hf
      refine r_callNVi (As := [.int y1, .int (h 32 8), .int y4]) (st := []) C 32 (sky_d0 sk32) (sky_l0 sk32) rfl (kX7_standing (xG X) sk32 e3) cw_X11_328 rfl rfl (Nat.le_of_ble_eq_true rfl) (zr2 hR rfl rfl) (zrcs hcs) dX11_season_40 ?_
      refine r_callSi (As := [.int x2]) (st := []) C (kJ_bitCount (xG X)) cw_X11_257 rfl rfl (Nat.le_of_ble_eq_true rfl) (zr2 hR rfl rfl) (zrcs hcs) dX11_season_43 ?_
      obtain ⟨x4, ex4, hf⟩ := lt_of hf
      refine r_top ex4 ?_
      refine r_istore (i := 5) (lv' := [(0, .ref (gad (xG X) 0)), (1, .int y1), (2, .int y2), (3, .int y3), (4, .int y4), (5, .int x4)]) C dX11_season_46 (by decide) [1, 2, 3, 4, 5, 0] rfl ?_
      refine r_iload (i := 5) C dX11_season_48 5 rfl ?_
      refine r_iload_n (i := 3) C dX11_season_50 rfl 3 rfl ?_
      refine r_icmp_le C 60 dX11_season_51 (by decide) (fun c5 => ?_) (fun c5 => ?_)
      · rw [if_pos c5] at hf
        obtain ⟨x6, ex6, hf⟩ := lt_of hf
        refine r_iinc (j := 4) (v := x6) (lv' := [(0, .ref (gad (xG X) 0)), (1, .int y1), (2, .int y2), (3, .int y3), (4, .int x6), (5, .int x4)]) C dX11_season_60 rfl (by rw [ex6]; rfl) (by decide) [1, 2, 3, 4, 0, 5] rfl ?_
        refine r_goto C 19 dX11_season_63 (by decide) ?_
        exact r_lv [0, 1, 2, 3, 4] rfl (ih _ _ _ _ _ hf)
      · rw [if_neg c5] at hf
        refine r_iload (i := 5) C dX11_season_54 5 rfl ?_
        refine r_istore_n (i := 3) (lv' := [(0, .ref (gad (xG X) 0)), (1, .int y1), (2, .int y2), (3, .int x4), (4, .int y4), (5, .int x4)]) C dX11_season_56 rfl (by decide) [1, 2, 3, 0, 4, 5] rfl ?_
        refine r_iload (i := 4) C dX11_season_57 4 rfl ?_
        refine r_istore_n (i := 2) (lv' := [(0, .ref (gad (xG X) 0)), (1, .int y1), (2, .int y4), (3, .int x4), (4, .int y4), (5, .int x4)]) C dX11_season_59 rfl (by decide) [1, 2, 0, 3, 4, 5] rfl ?_
        obtain ⟨x7, ex7, hf⟩ := lt_of hf
        refine r_iinc (j := 4) (v := x7) (lv' := [(0, .ref (gad (xG X) 0)), (1, .int y1), (2, .int y4), (3, .int x4), (4, .int x7), (5, .int x4)]) C dX11_season_60 rfl (by rw [ex7]; rfl) (by decide) [1, 2, 3, 4, 0, 5] rfl ?_
        refine r_goto C 19 dX11_season_63 (by decide) ?_
        exact r_lv [0, 1, 2, 3, 4] rfl (ih _ _ _ _ _ hf)
set_option maxHeartbeats 4000000 in
set_option maxRecDepth 100000 in
theorem kX11_season (G : Gx)  {h : Hp}  {rr : Int32} {hh : Hp} (hf : fX11_season h = some (rr, hh)) : MC G yX11_season cX11_season 6 (some .int) 7 448 h [.ref (gad G 0)] (some (.int rr)) hh := by
  refine MC.of RX11 (by decide) rfl (Nat.le_of_ble_eq_true rfl) rfl (fun X C hG hR hF => ?_)
  subst hG
  have hcs : True := trivial
  unfold fX11_season at hf
  refine r_aload_n (i := 0) C dX11_season_0 rfl 0 rfl ?_
  refine g_X11_19 C dX11_season_1 ?_
  refine r_aload_n (i := 0) C dX11_season_4 rfl 0 rfl ?_
  refine g_X11_54 C dX11_season_5 ?_
  obtain ⟨x10, h8, e9, hf⟩ := cl2_of hf
  refine r_callNVi (As := [.ref (gad (xG X) 32)]) (st := []) C 3 rfl (by decide) rfl (kX1_holding (xG X) sk32 e9) cw_X11_161 rfl rfl (Nat.le_of_ble_eq_true rfl) (zr2 hR rfl rfl) (zrcs hcs) dX11_season_8 ?_
  refine r_istore_n (i := 1) (lv' := [(0, .ref (gad (xG X) 0)), (1, .int x10)]) C dX11_season_11 rfl (by decide) [1, 0] rfl ?_
  refine r_iconst (v := 0) C dX11_season_12 (by decide) ?_
  refine r_istore_n (i := 2) (lv' := [(0, .ref (gad (xG X) 0)), (1, .int x10), (2, .int (0 : Int32))]) C dX11_season_13 rfl (by decide) [1, 2, 0] rfl ?_
  refine r_iconst (v := (-1)) C dX11_season_14 (by decide) ?_
  refine r_istore_n (i := 3) (lv' := [(0, .ref (gad (xG X) 0)), (1, .int x10), (2, .int (0 : Int32)), (3, .int (-1 : Int32))]) C dX11_season_15 rfl (by decide) [1, 2, 3, 0] rfl ?_
  refine r_iconst (v := 0) C dX11_season_16 (by decide) ?_
  refine r_istore (i := 4) (lv' := [(0, .ref (gad (xG X) 0)), (1, .int x10), (2, .int (0 : Int32)), (3, .int (-1 : Int32)), (4, .int (0 : Int32))]) C dX11_season_17 (by decide) [1, 2, 3, 4, 0] rfl ?_
  exact r_lv [0, 1, 2, 3, 4] rfl ((wX11_season  C hR hcs hF big) _ _ _ _ _ hf)
def BX11_best_0  (rec : Hp → Int32 → Int32 → Int32 → Option (Int32 × Hp)) (h : Hp) (y1 : Int32) (y2 : Int32) (y3 : Int32) : Option (Int32 × Hp) := (if (40 : Int32) ≤ y3 then some ((40 : Int32), h) else cl9 (fX7_standing h 32 y1 y3 (h 32 9)) (fun x2 => (if (y2 &&& (x2 ^^^ (-1 : Int32))) = (0 : Int32) then some (y3, h) else lt9 (y3 + (1 : Int32)) (fun x5 => rec h y1 y2 x5))))
def LX11_best  : Nat → Hp → Int32 → Int32 → Int32 → Option (Int32 × Hp)
  | 0, _, _, _, _ => none
  | n + 1, h, y1, y2, y3 => BX11_best_0  (LX11_best  n) h y1 y2 y3
def fX11_best (h : Hp) : Option (Int32 × Hp) := cl2 (fX1_holding h 32) (fun x8 h6 => cl9 (fX7_standing h6 32 x8 (40 : Int32) (h6 32 9)) (fun x9 => LX11_best big h6 x8 x9 (1 : Int32)))
set_option maxHeartbeats 4000000 in
set_option maxRecDepth 100000 in
theorem wX11_best {X : Cx}  (C : OK X cX11_best 4 RX11 (some .int)) (hR : xR X = { frames := 7, cells := 0, slots := 0, locals := 448 }) (hcs : True) {rr : Int32} {hh : Hp} (hF : FinR X (some (.int rr)) hh) : ∀ n : Nat, (∀ (h : Hp) (y1 : Int32) (y2 : Int32) (y3 : Int32), LX11_best  n h y1 y2 y3 = some (rr, hh) → VW X 4 h 0 0 32 [(0, .ref (gad (xG X) 0)), (1, .int y1), (2, .int y2), (3, .int y3)] []) := by
  intro n
  induction n with
  | zero => exact (fun _ _ _ _ hf => (by rw [LX11_best] at hf; cases hf))
  | succ n ih =>
    intro h y1 y2 y3 hf
    rw [LX11_best] at hf
    unfold BX11_best_0 at hf
    refine r_iload_n (i := 3) C dX11_best_32 rfl 3 rfl ?_
    refine r_bipush (v := 40) C dX11_best_33 (by decide) ?_
    refine r_icmp_ge C 69 dX11_best_35 (by decide) (fun c1 => ?_) (fun c1 => ?_)
    · rw [if_pos c1] at hf
      refine r_bipush (v := 40) C dX11_best_69 (by decide) ?_
      cases hf
      exact r_iret C hF dX11_best_71
    · rw [if_neg c1] at hf
      refine r_iload_n (i := 2) C dX11_best_38 rfl 2 rfl ?_
      refine r_aload_n (i := 0) C dX11_best_39 rfl 0 rfl ?_
      refine g_X11_54 C dX11_best_40 ?_
      refine r_iload_n (i := 1) C dX11_best_43 rfl 1 rfl ?_
      refine r_iload_n (i := 3) C dX11_best_44 rfl 3 rfl ?_
      refine r_aload_n (i := 0) C dX11_best_45 rfl 0 rfl ?_
      refine g_X11_54 C dX11_best_46 ?_
      refine g_X11_172 sk32 C dX11_best_49 ?_
      obtain ⟨x2, e3, hf⟩ := cl_of hf
      refine r_callNVi (As := [.int y1, .int y3, .int (h 32 9)]) (st := [.int y2]) C 32 (sky_d0 sk32) (sky_l0 sk32) rfl (kX7_standing (xG X) sk32 e3) cw_X11_328 rfl rfl (Nat.le_of_ble_eq_true rfl) (zr2 hR rfl rfl) (zrcs hcs) dX11_best_52 ?_
      refine r_iconst (v := (-1)) C dX11_best_55 (by decide) ?_
      refine r_ixor C dX11_best_56 ?_
      refine r_iand C dX11_best_57 ?_
      refine r_if_ne C 63 dX11_best_58 (by decide) (fun c4 => ?_) (fun c4 => ?_)
      · rw [if_neg c4] at hf
        obtain ⟨x5, ex5, hf⟩ := lt_of hf
        refine r_iinc (j := 3) (v := x5) (lv' := [(0, .ref (gad (xG X) 0)), (1, .int y1), (2, .int y2), (3, .int x5)]) C dX11_best_63 rfl (by rw [ex5]; rfl) (by decide) [1, 2, 3, 0] rfl ?_
        refine r_goto C 32 dX11_best_66 (by decide) ?_
        exact r_lv [0, 1, 2, 3] rfl (ih _ _ _ _ hf)
      · rw [if_pos c4] at hf
        refine r_iload_n (i := 3) C dX11_best_61 rfl 3 rfl ?_
        cases hf
        exact r_iret C hF dX11_best_62
set_option maxHeartbeats 4000000 in
set_option maxRecDepth 100000 in
theorem kX11_best (G : Gx)  {h : Hp}  {rr : Int32} {hh : Hp} (hf : fX11_best h = some (rr, hh)) : MC G yX11_best cX11_best 4 (some .int) 7 448 h [.ref (gad G 0)] (some (.int rr)) hh := by
  refine MC.of RX11 (by decide) rfl (Nat.le_of_ble_eq_true rfl) rfl (fun X C hG hR hF => ?_)
  subst hG
  have hcs : True := trivial
  unfold fX11_best at hf
  refine r_aload_n (i := 0) C dX11_best_0 rfl 0 rfl ?_
  refine g_X11_19 C dX11_best_1 ?_
  refine r_aload_n (i := 0) C dX11_best_4 rfl 0 rfl ?_
  refine g_X11_54 C dX11_best_5 ?_
  obtain ⟨x8, h6, e7, hf⟩ := cl2_of hf
  refine r_callNVi (As := [.ref (gad (xG X) 32)]) (st := []) C 3 rfl (by decide) rfl (kX1_holding (xG X) sk32 e7) cw_X11_161 rfl rfl (Nat.le_of_ble_eq_true rfl) (zr2 hR rfl rfl) (zrcs hcs) dX11_best_8 ?_
  refine r_istore_n (i := 1) (lv' := [(0, .ref (gad (xG X) 0)), (1, .int x8)]) C dX11_best_11 rfl (by decide) [1, 0] rfl ?_
  refine r_aload_n (i := 0) C dX11_best_12 rfl 0 rfl ?_
  refine g_X11_54 C dX11_best_13 ?_
  refine r_iload_n (i := 1) C dX11_best_16 rfl 1 rfl ?_
  refine r_bipush (v := 40) C dX11_best_17 (by decide) ?_
  refine r_aload_n (i := 0) C dX11_best_19 rfl 0 rfl ?_
  refine g_X11_54 C dX11_best_20 ?_
  refine g_X11_172 sk32 C dX11_best_23 ?_
  obtain ⟨x9, e10, hf⟩ := cl_of hf
  refine r_callNVi (As := [.int x8, .int (40 : Int32), .int (h6 32 9)]) (st := []) C 32 (sky_d0 sk32) (sky_l0 sk32) rfl (kX7_standing (xG X) sk32 e10) cw_X11_328 rfl rfl (Nat.le_of_ble_eq_true rfl) (zr2 hR rfl rfl) (zrcs hcs) dX11_best_26 ?_
  refine r_istore_n (i := 2) (lv' := [(0, .ref (gad (xG X) 0)), (1, .int x8), (2, .int x9)]) C dX11_best_29 rfl (by decide) [1, 2, 0] rfl ?_
  refine r_iconst (v := 1) C dX11_best_30 (by decide) ?_
  refine r_istore_n (i := 3) (lv' := [(0, .ref (gad (xG X) 0)), (1, .int x8), (2, .int x9), (3, .int (1 : Int32))]) C dX11_best_31 rfl (by decide) [1, 2, 3, 0] rfl ?_
  exact r_lv [0, 1, 2, 3] rfl ((wX11_best  C hR hcs hF big) _ _ _ _ hf)
def BX11_lasts_0  (rec : Hp → Int32 → Int32 → Option (Int32 × Hp)) (h : Hp) (y1 : Int32) (y2 : Int32) : Option (Int32 × Hp) := (if (60 : Int32) < y2 then some ((-1 : Int32), h) else cl2 (fX1_dayMore h 43 (0 : Int32)) (fun x4 h2 => cl2 (fX1_standing h2 43) (fun x7 h5 => (if (y1 &&& (x7 ^^^ (-1 : Int32))) = (0 : Int32) then lt9 (y2 + (1 : Int32)) (fun x9 => rec h5 y1 x9) else some (y2, h5)))))
def LX11_lasts  : Nat → Hp → Int32 → Int32 → Option (Int32 × Hp)
  | 0, _, _, _ => none
  | n + 1, h, y1, y2 => BX11_lasts_0  (LX11_lasts  n) h y1 y2
def fX11_lasts (h : Hp) : Option (Int32 × Hp) := cl2 (fX1_standing h 32) (fun x12 h10 => cl9 (fX7_become h10 43 32) (fun h13 => LX11_lasts big h13 x12 (1 : Int32)))
set_option maxHeartbeats 4000000 in
set_option maxRecDepth 100000 in
theorem wX11_lasts {X : Cx}  (C : OK X cX11_lasts 3 RX11 (some .int)) (hR : xR X = { frames := 8, cells := 0, slots := 0, locals := 512 }) (hcs : True) {rr : Int32} {hh : Hp} (hF : FinR X (some (.int rr)) hh) : ∀ n : Nat, (∀ (h : Hp) (y1 : Int32) (y2 : Int32), LX11_lasts  n h y1 y2 = some (rr, hh) → VW X 3 h 0 0 25 [(0, .ref (gad (xG X) 0)), (1, .int y1), (2, .int y2)] []) := by
  intro n
  induction n with
  | zero => exact (fun _ _ _ hf => (by rw [LX11_lasts] at hf; cases hf))
  | succ n ih =>
    intro h y1 y2 hf
    rw [LX11_lasts] at hf
    unfold BX11_lasts_0 at hf
    refine r_iload_n (i := 2) C dX11_lasts_25 rfl 2 rfl ?_
    refine r_bipush (v := 60) C dX11_lasts_26 (by decide) ?_
    refine r_icmp_gt C 70 dX11_lasts_28 (by decide) (fun c1 => ?_) (fun c1 => ?_)
    · rw [if_pos c1] at hf
      refine r_iconst (v := (-1)) C dX11_lasts_70 (by decide) ?_
      cases hf
      exact r_iret C hF dX11_lasts_71
    · rw [if_neg c1] at hf
      refine r_aload_n (i := 0) C dX11_lasts_31 rfl 0 rfl ?_
      refine g_X11_19 C dX11_lasts_32 ?_
      refine r_aload_n (i := 0) C dX11_lasts_35 rfl 0 rfl ?_
      refine g_X11_58 C dX11_lasts_36 ?_
      refine r_iconst (v := 0) C dX11_lasts_39 (by decide) ?_
      obtain ⟨x4, h2, e3, hf⟩ := cl2_of hf
      refine r_callNVi (As := [.ref (gad (xG X) 43), .int (0 : Int32)]) (st := []) C 3 rfl (by decide) rfl (kX1_dayMore (xG X) sk43 e3) cw_X11_253 rfl rfl (Nat.le_of_ble_eq_true rfl) (zr2 hR rfl rfl) (zrcs hcs) dX11_lasts_40 ?_
      refine r_pop C dX11_lasts_43 rfl ?_
      refine r_iload_n (i := 1) C dX11_lasts_44 rfl 1 rfl ?_
      refine r_aload_n (i := 0) C dX11_lasts_45 rfl 0 rfl ?_
      refine g_X11_19 C dX11_lasts_46 ?_
      refine r_aload_n (i := 0) C dX11_lasts_49 rfl 0 rfl ?_
      refine g_X11_58 C dX11_lasts_50 ?_
      obtain ⟨x7, h5, e6, hf⟩ := cl2_of hf
      refine r_callNVi (As := [.ref (gad (xG X) 43)]) (st := [.int y1]) C 3 rfl (by decide) rfl (kX1_standing (xG X) sk43 e6) cw_X11_179 rfl rfl (Nat.le_of_ble_eq_true rfl) (zr2 hR rfl rfl) (zrcs hcs) dX11_lasts_53 ?_
      refine r_iconst (v := (-1)) C dX11_lasts_56 (by decide) ?_
      refine r_ixor C dX11_lasts_57 ?_
      refine r_iand C dX11_lasts_58 ?_
      refine r_if_eq C 64 dX11_lasts_59 (by decide) (fun c8 => ?_) (fun c8 => ?_)
      · rw [if_pos c8] at hf
        obtain ⟨x9, ex9, hf⟩ := lt_of hf
        refine r_iinc (j := 2) (v := x9) (lv' := [(0, .ref (gad (xG X) 0)), (1, .int y1), (2, .int x9)]) C dX11_lasts_64 rfl (by rw [ex9]; rfl) (by decide) [1, 2, 0] rfl ?_
        refine r_goto C 25 dX11_lasts_67 (by decide) ?_
        exact r_lv [0, 1, 2] rfl (ih _ _ _ hf)
      · rw [if_neg c8] at hf
        refine r_iload_n (i := 2) C dX11_lasts_62 rfl 2 rfl ?_
        cases hf
        exact r_iret C hF dX11_lasts_63
set_option maxHeartbeats 4000000 in
set_option maxRecDepth 100000 in
theorem kX11_lasts (G : Gx)  {h : Hp}  {rr : Int32} {hh : Hp} (hf : fX11_lasts h = some (rr, hh)) : MC G yX11_lasts cX11_lasts 3 (some .int) 8 512 h [.ref (gad G 0)] (some (.int rr)) hh := by
  refine MC.of RX11 (by decide) rfl (Nat.le_of_ble_eq_true rfl) rfl (fun X C hG hR hF => ?_)
  subst hG
  have hcs : True := trivial
  unfold fX11_lasts at hf
  refine r_aload_n (i := 0) C dX11_lasts_0 rfl 0 rfl ?_
  refine g_X11_19 C dX11_lasts_1 ?_
  refine r_aload_n (i := 0) C dX11_lasts_4 rfl 0 rfl ?_
  refine g_X11_54 C dX11_lasts_5 ?_
  obtain ⟨x12, h10, e11, hf⟩ := cl2_of hf
  refine r_callNVi (As := [.ref (gad (xG X) 32)]) (st := []) C 3 rfl (by decide) rfl (kX1_standing (xG X) sk32 e11) cw_X11_179 rfl rfl (Nat.le_of_ble_eq_true rfl) (zr2 hR rfl rfl) (zrcs hcs) dX11_lasts_8 ?_
  refine r_istore_n (i := 1) (lv' := [(0, .ref (gad (xG X) 0)), (1, .int x12)]) C dX11_lasts_11 rfl (by decide) [1, 0] rfl ?_
  refine r_aload_n (i := 0) C dX11_lasts_12 rfl 0 rfl ?_
  refine g_X11_58 C dX11_lasts_13 ?_
  refine r_aload_n (i := 0) C dX11_lasts_16 rfl 0 rfl ?_
  refine g_X11_54 C dX11_lasts_17 ?_
  obtain ⟨h13, e14, hf⟩ := cl_of hf
  refine r_callNVv (As := [.ref (gad (xG X) 32)]) (st := []) C 43 (sky_d0 sk43) (sky_l0 sk43) rfl (kX7_become (xG X) sk43 sk32 e14) cw_X11_101 rfl rfl (Nat.le_of_ble_eq_true rfl) (zr2 hR rfl rfl) (zrcs hcs) dX11_lasts_20 ?_
  refine r_iconst (v := 1) C dX11_lasts_23 (by decide) ?_
  refine r_istore_n (i := 2) (lv' := [(0, .ref (gad (xG X) 0)), (1, .int x12), (2, .int (1 : Int32))]) C dX11_lasts_24 rfl (by decide) [1, 2, 0] rfl ?_
  exact r_lv [0, 1, 2] rfl ((wX11_lasts  C hR hcs hF big) _ _ _ hf)
def BX11_longest_0  (rec : Hp → Int32 → Int32 → Int32 → Int32 → Option (Int32 × Hp)) (h : Hp) (y1 : Int32) (y2 : Int32) (y3 : Int32) (y4 : Int32) : Option (Int32 × Hp) := (if (16 : Int32) ≤ y4 then some (y2, h) else cl9 ((if (fX11_has y1 y4) = (0 : Int32) then some (y3 + (1 : Int32)) else some (0 : Int32)) : Option (Int32)) (fun v2 => lt9 (jmax y2 v2) (fun x6 => lt9 (y4 + (1 : Int32)) (fun x7 => rec h y1 x6 v2 x7))))
def LX11_longest  : Nat → Hp → Int32 → Int32 → Int32 → Int32 → Option (Int32 × Hp)
  | 0, _, _, _, _, _ => none
  | n + 1, h, y1, y2, y3, y4 => BX11_longest_0  (LX11_longest  n) h y1 y2 y3 y4
def fX11_longest (h : Hp) : Option (Int32 × Hp) := cl2 (fX1_holding h 32) (fun x10 h8 => LX11_longest big h8 x10 (0 : Int32) (0 : Int32) (0 : Int32))
set_option maxHeartbeats 4000000 in
set_option maxRecDepth 100000 in
theorem wX11_longest {X : Cx}  (C : OK X cX11_longest 5 RX11 (some .int)) (hR : xR X = { frames := 8, cells := 0, slots := 0, locals := 512 }) (hcs : True) {rr : Int32} {hh : Hp} (hF : FinR X (some (.int rr)) hh) : ∀ n : Nat, (∀ (h : Hp) (y1 : Int32) (y2 : Int32) (y3 : Int32) (y4 : Int32), LX11_longest  n h y1 y2 y3 y4 = some (rr, hh) → VW X 5 h 0 0 19 [(0, .ref (gad (xG X) 0)), (1, .int y1), (2, .int y2), (3, .int y3), (4, .int y4)] []) := by
  intro n
  induction n with
  | zero => exact (fun _ _ _ _ _ hf => (by rw [LX11_longest] at hf; cases hf))
  | succ n ih =>
    intro h y1 y2 y3 y4 hf
    rw [LX11_longest] at hf
    unfold BX11_longest_0 at hf
    refine r_iload (i := 4) C dX11_longest_19 4 rfl ?_
    refine r_bipush (v := 16) C dX11_longest_21 (by decide) ?_
    refine r_icmp_ge C 55 dX11_longest_23 (by decide) (fun c1 => ?_) (fun c1 => ?_)
    · rw [if_pos c1] at hf
      refine r_iload_n (i := 2) C dX11_longest_55 rfl 2 rfl ?_
      cases hf
      exact r_iret C hF dX11_longest_56
    · rw [if_neg c1] at hf
      refine r_iload_n (i := 1) C dX11_longest_26 rfl 1 rfl ?_
      refine r_iload (i := 4) C dX11_longest_27 4 rfl ?_
      refine r_callSi (As := [.int y1, .int y4]) (st := []) C (kX11_has (xG X)) cw_X11_165 rfl rfl (Nat.le_of_ble_eq_true rfl) (zr2 hR rfl rfl) (zrcs hcs) dX11_longest_29 ?_
      obtain ⟨v2, r4, hf⟩ := cl_of hf
      have k3 : VW X 5 h 0 0 42 [(0, .ref (gad (xG X) 0)), (1, .int y1), (2, .int y2), (4, .int y4)] [.int v2] := by
        refine r_istore_n (i := 3) (lv' := [(0, .ref (gad (xG X) 0)), (1, .int y1), (2, .int y2), (3, .int v2), (4, .int y4)]) C dX11_longest_42 rfl (by decide) [1, 2, 3, 0, 4] rfl ?_
        refine r_iload_n (i := 2) C dX11_longest_43 rfl 2 rfl ?_
        refine r_iload_n (i := 3) C dX11_longest_44 rfl 3 rfl ?_
        refine r_mmax9 C gw_791 gm_max_s gm_i gm_max_c (zr1 hR rfl) (zr0 hR (Nat.le_of_ble_eq_true rfl)) (zrcs hcs) dX11_longest_45 ?_
        obtain ⟨x6, ex6, hf⟩ := lt_of hf
        refine r_top ex6 ?_
        refine r_istore_n (i := 2) (lv' := [(0, .ref (gad (xG X) 0)), (1, .int y1), (2, .int x6), (3, .int v2), (4, .int y4)]) C dX11_longest_48 rfl (by decide) [1, 2, 0, 3, 4] rfl ?_
        obtain ⟨x7, ex7, hf⟩ := lt_of hf
        refine r_iinc (j := 4) (v := x7) (lv' := [(0, .ref (gad (xG X) 0)), (1, .int y1), (2, .int x6), (3, .int v2), (4, .int x7)]) C dX11_longest_49 rfl (by rw [ex7]; rfl) (by decide) [1, 2, 3, 4, 0] rfl ?_
        refine r_goto C 19 dX11_longest_52 (by decide) ?_
        exact r_lv [0, 1, 2, 3, 4] rfl (ih _ _ _ _ _ hf)
      clear hf
      have hf := r4
      refine r_if_eq C 39 dX11_longest_32 (by decide) (fun c5 => ?_) (fun c5 => ?_)
      · rw [if_pos c5] at hf
        refine r_iload_n (i := 3) C dX11_longest_39 rfl 3 rfl ?_
        refine r_iconst (v := 1) C dX11_longest_40 (by decide) ?_
        refine r_iadd C dX11_longest_41 ?_
        cases hf
        exact r_lv [0, 1, 2, 4] rfl k3
      · rw [if_neg c5] at hf
        refine r_iconst (v := 0) C dX11_longest_35 (by decide) ?_
        refine r_goto C 42 dX11_longest_36 (by decide) ?_
        cases hf
        exact r_lv [0, 1, 2, 4] rfl k3
set_option maxHeartbeats 4000000 in
set_option maxRecDepth 100000 in
theorem kX11_longest (G : Gx)  {h : Hp}  {rr : Int32} {hh : Hp} (hf : fX11_longest h = some (rr, hh)) : MC G yX11_longest cX11_longest 5 (some .int) 8 512 h [.ref (gad G 0)] (some (.int rr)) hh := by
  refine MC.of RX11 (by decide) rfl (Nat.le_of_ble_eq_true rfl) rfl (fun X C hG hR hF => ?_)
  subst hG
  have hcs : True := trivial
  unfold fX11_longest at hf
  refine r_aload_n (i := 0) C dX11_longest_0 rfl 0 rfl ?_
  refine g_X11_19 C dX11_longest_1 ?_
  refine r_aload_n (i := 0) C dX11_longest_4 rfl 0 rfl ?_
  refine g_X11_54 C dX11_longest_5 ?_
  obtain ⟨x10, h8, e9, hf⟩ := cl2_of hf
  refine r_callNVi (As := [.ref (gad (xG X) 32)]) (st := []) C 3 rfl (by decide) rfl (kX1_holding (xG X) sk32 e9) cw_X11_161 rfl rfl (Nat.le_of_ble_eq_true rfl) (zr2 hR rfl rfl) (zrcs hcs) dX11_longest_8 ?_
  refine r_istore_n (i := 1) (lv' := [(0, .ref (gad (xG X) 0)), (1, .int x10)]) C dX11_longest_11 rfl (by decide) [1, 0] rfl ?_
  refine r_iconst (v := 0) C dX11_longest_12 (by decide) ?_
  refine r_istore_n (i := 2) (lv' := [(0, .ref (gad (xG X) 0)), (1, .int x10), (2, .int (0 : Int32))]) C dX11_longest_13 rfl (by decide) [1, 2, 0] rfl ?_
  refine r_iconst (v := 0) C dX11_longest_14 (by decide) ?_
  refine r_istore_n (i := 3) (lv' := [(0, .ref (gad (xG X) 0)), (1, .int x10), (2, .int (0 : Int32)), (3, .int (0 : Int32))]) C dX11_longest_15 rfl (by decide) [1, 2, 3, 0] rfl ?_
  refine r_iconst (v := 0) C dX11_longest_16 (by decide) ?_
  refine r_istore (i := 4) (lv' := [(0, .ref (gad (xG X) 0)), (1, .int x10), (2, .int (0 : Int32)), (3, .int (0 : Int32)), (4, .int (0 : Int32))]) C dX11_longest_17 (by decide) [1, 2, 3, 4, 0] rfl ?_
  exact r_lv [0, 1, 2, 3, 4] rfl ((wX11_longest  C hR hcs hF big) _ _ _ _ _ hf)
def BX11_findFits_0  (rec : Nat → Hp → Int32 → Int32 → Int32 → Int32 → Option (Int32 × Hp)) (h : Hp) (y1 : Int32) (y2 : Int32) (y3 : Int32) (y4 : Int32) : Option (Int32 × Hp) := (if (16 : Int32) ≤ y2 then some (y1, h) else (if y2 = (-1 : Int32) then rec 1 h y1 y2 (0 : Int32) y2 else rec 1 h y1 y2 (16 : Int32) y2))
def BX11_findFits_1  (rec : Nat → Hp → Int32 → Int32 → Int32 → Int32 → Option (Int32 × Hp)) (h : Hp) (y1 : Int32) (y2 : Int32) (y3 : Int32) (y4 : Int32) : Option (Int32 × Hp) := (if y3 ≤ y4 then lt9 (y2 + (1 : Int32)) (fun x4 => rec 0 h y1 x4 0 0) else lt9 ((fX11_bitOf y2) ||| (fX11_bitOf y4)) (fun x5 => cl9 ((if (x5 &&& ((h 32 5) ^^^ (-1 : Int32))) = (0 : Int32) then (if (137 : Int32) ≤ y1 then some false else some true) else some false) : Option Bool) (fun q6 => if q6 = true then cl2 (fX11_explains h x5) (fun x14 h12 => (if x14 = (0 : Int32) then lt9 (y4 + (1 : Int32)) (fun x16 => rec 1 h12 y1 y2 y3 x16) else gd (inb y1 137) (lt9 (up2 h12 29 y1.toNatClampNeg x5) (fun h18 => lt9 (y1 + (1 : Int32)) (fun x19 => lt9 (y4 + (1 : Int32)) (fun x20 => rec 1 h18 x19 y2 y3 x20)))))) else lt9 (y4 + (1 : Int32)) (fun x21 => rec 1 h y1 y2 y3 x21))))
def LX11_findFits  : Nat → Nat → Hp → Int32 → Int32 → Int32 → Int32 → Option (Int32 × Hp)
  | 0, _, _, _, _, _, _ => none
  | n + 1, lab, h, y1, y2, y3, y4 => if lab = 0 then BX11_findFits_0  (LX11_findFits  n) h y1 y2 y3 y4 else if lab = 1 then BX11_findFits_1  (LX11_findFits  n) h y1 y2 y3 y4 else none
def fX11_findFits (h : Hp) : Option (Int32 × Hp) := cl9 (fX1_startOver h) (fun h22 => LX11_findFits big 0 h22 (0 : Int32) (-1 : Int32) 0 0)
set_option maxHeartbeats 4000000 in
set_option maxRecDepth 100000 in
theorem wX11_findFits {X : Cx}  (C : OK X cX11_findFits 6 RX11 (some .int)) (hR : xR X = { frames := 7, cells := 0, slots := 0, locals := 448 }) (hcs : True) {rr : Int32} {hh : Hp} (hF : FinR X (some (.int rr)) hh) : ∀ n : Nat, (∀ (h : Hp) (y1 : Int32) (y2 : Int32) (y3 : Int32) (y4 : Int32), LX11_findFits  n 0 h y1 y2 y3 y4 = some (rr, hh) → VW X 6 h 0 0 11 [(0, .ref (gad (xG X) 0)), (1, .int y1), (2, .int y2)] []) ∧ (∀ (h : Hp) (y1 : Int32) (y2 : Int32) (y3 : Int32) (y4 : Int32), LX11_findFits  n 1 h y1 y2 y3 y4 = some (rr, hh) → VW X 6 h 0 0 32 [(0, .ref (gad (xG X) 0)), (1, .int y1), (2, .int y2), (3, .int y3), (4, .int y4)] []) := by
  intro n
  induction n with
  | zero => exact ⟨(fun _ _ _ _ _ hf => (by rw [LX11_findFits] at hf; cases hf)), (fun _ _ _ _ _ hf => (by rw [LX11_findFits] at hf; cases hf))⟩
  | succ n ih =>
    refine ⟨?_, ?_⟩
    · intro h y1 y2 y3 y4 hf
      rw [LX11_findFits, if_pos rfl] at hf
      unfold BX11_findFits_0 at hf
      refine r_iload_n (i := 2) C dX11_findFits_11 rfl 2 rfl ?_
      refine r_bipush (v := 16) C dX11_findFits_12 (by decide) ?_
      refine r_icmp_ge C 104 dX11_findFits_14 (by decide) (fun c1 => ?_) (fun c1 => ?_)
      · rw [if_pos c1] at hf
        refine r_iload_n (i := 1) C dX11_findFits_104 rfl 1 rfl ?_
        cases hf
        exact r_iret C hF dX11_findFits_105
      · rw [if_neg c1] at hf
        refine r_iload_n (i := 2) C dX11_findFits_17 rfl 2 rfl ?_
        refine r_iconst (v := (-1)) C dX11_findFits_18 (by decide) ?_
        refine r_icmp_ne C 26 dX11_findFits_19 (by decide) (fun c2 => ?_) (fun c2 => ?_)
        · rw [if_neg c2] at hf
          refine r_bipush (v := 16) C dX11_findFits_26 (by decide) ?_
          refine r_istore_n (i := 3) (lv' := [(0, .ref (gad (xG X) 0)), (1, .int y1), (2, .int y2), (3, .int (16 : Int32))]) C dX11_findFits_28 rfl (by decide) [1, 2, 3, 0] rfl ?_
          refine r_iload_n (i := 2) C dX11_findFits_29 rfl 2 rfl ?_
          refine r_istore (i := 4) (lv' := [(0, .ref (gad (xG X) 0)), (1, .int y1), (2, .int y2), (3, .int (16 : Int32)), (4, .int y2)]) C dX11_findFits_30 (by decide) [1, 2, 3, 4, 0] rfl ?_
          exact r_lv [0, 1, 2, 3, 4] rfl (ih.2 _ _ _ _ _ hf)
        · rw [if_pos c2] at hf
          refine r_iconst (v := 0) C dX11_findFits_22 (by decide) ?_
          refine r_goto C 28 dX11_findFits_23 (by decide) ?_
          refine r_istore_n (i := 3) (lv' := [(0, .ref (gad (xG X) 0)), (1, .int y1), (2, .int y2), (3, .int (0 : Int32))]) C dX11_findFits_28 rfl (by decide) [1, 2, 3, 0] rfl ?_
          refine r_iload_n (i := 2) C dX11_findFits_29 rfl 2 rfl ?_
          refine r_istore (i := 4) (lv' := [(0, .ref (gad (xG X) 0)), (1, .int y1), (2, .int y2), (3, .int (0 : Int32)), (4, .int y2)]) C dX11_findFits_30 (by decide) [1, 2, 3, 4, 0] rfl ?_
          exact r_lv [0, 1, 2, 3, 4] rfl (ih.2 _ _ _ _ _ hf)
    · intro h y1 y2 y3 y4 hf
      rw [LX11_findFits, if_neg (by decide), if_pos rfl] at hf
      unfold BX11_findFits_1 at hf
      refine r_iload (i := 4) C dX11_findFits_32 4 rfl ?_
      refine r_iload_n (i := 3) C dX11_findFits_34 rfl 3 rfl ?_
      refine r_icmp_ge C 98 dX11_findFits_35 (by decide) (fun c3 => ?_) (fun c3 => ?_)
      · rw [if_pos c3] at hf
        obtain ⟨x4, ex4, hf⟩ := lt_of hf
        refine r_iinc (j := 2) (v := x4) (lv' := [(0, .ref (gad (xG X) 0)), (1, .int y1), (2, .int x4), (3, .int y3), (4, .int y4)]) C dX11_findFits_98 rfl (by rw [ex4]; rfl) (by decide) [1, 2, 0, 3, 4] rfl ?_
        refine r_goto C 11 dX11_findFits_101 (by decide) ?_
        exact r_lv [0, 1, 2] rfl (ih.1 _ _ _ _ _ hf)
      · rw [if_neg c3] at hf
        refine r_iload_n (i := 2) C dX11_findFits_38 rfl 2 rfl ?_
        refine r_callSi (As := [.int y2]) (st := []) C (kX11_bitOf (xG X)) cw_X11_388 rfl rfl (Nat.le_of_ble_eq_true rfl) (zr2 hR rfl rfl) (zrcs hcs) dX11_findFits_39 ?_
        refine r_iload (i := 4) C dX11_findFits_42 4 rfl ?_
        refine r_callSi (As := [.int y4]) (st := [.int (fX11_bitOf y2)]) C (kX11_bitOf (xG X)) cw_X11_388 rfl rfl (Nat.le_of_ble_eq_true rfl) (zr2 hR rfl rfl) (zrcs hcs) dX11_findFits_44 ?_
        refine r_ior C dX11_findFits_47 ?_
        obtain ⟨x5, ex5, hf⟩ := lt_of hf
        refine r_top ex5 ?_
        refine r_istore (i := 5) (lv' := [(0, .ref (gad (xG X) 0)), (1, .int y1), (2, .int y2), (3, .int y3), (4, .int y4), (5, .int x5)]) C dX11_findFits_48 (by decide) [1, 2, 3, 4, 5, 0] rfl ?_
        refine r_iload (i := 5) C dX11_findFits_50 5 rfl ?_
        refine r_aload_n (i := 0) C dX11_findFits_52 rfl 0 rfl ?_
        refine g_X11_54 C dX11_findFits_53 ?_
        refine g_X11_276 sk32 C dX11_findFits_56 ?_
        refine r_iconst (v := (-1)) C dX11_findFits_59 (by decide) ?_
        refine r_ixor C dX11_findFits_60 ?_
        refine r_iand C dX11_findFits_61 ?_
        obtain ⟨q6, r9, hf⟩ := cl_of hf
        have k7 : q6 = true → VW X 6 h 0 0 72 [(0, .ref (gad (xG X) 0)), (1, .int y1), (2, .int y2), (3, .int y3), (4, .int y4), (5, .int x5)] [] := fun qq => by
          rw [if_pos qq] at hf
          refine r_aload_n (i := 0) C dX11_findFits_72 rfl 0 rfl ?_
          refine r_iload (i := 5) C dX11_findFits_73 5 rfl ?_
          obtain ⟨x14, h12, e13, hf⟩ := cl2_of hf
          refine r_callVi (As := [.int x5]) (st := []) C 0 rfl (by decide) rfl (kX11_explains (xG X) e13) cw_X11_391 rfl rfl (Nat.le_of_ble_eq_true rfl) (zr2 hR rfl rfl) (zrcs hcs) dX11_findFits_75 ?_
          refine r_if_eq C 92 dX11_findFits_78 (by decide) (fun c15 => ?_) (fun c15 => ?_)
          · rw [if_pos c15] at hf
            obtain ⟨x16, ex16, hf⟩ := lt_of hf
            refine r_iinc (j := 4) (v := x16) (lv' := [(0, .ref (gad (xG X) 0)), (1, .int y1), (2, .int y2), (3, .int y3), (4, .int x16), (5, .int x5)]) C dX11_findFits_92 rfl (by rw [ex16]; rfl) (by decide) [1, 2, 3, 4, 0, 5] rfl ?_
            refine r_goto C 32 dX11_findFits_95 (by decide) ?_
            exact r_lv [0, 1, 2, 3, 4] rfl (ih.2 _ _ _ _ _ hf)
          · rw [if_neg c15] at hf
            refine r_aload_n (i := 0) C dX11_findFits_81 rfl 0 rfl ?_
            refine g_X11_75 C dX11_findFits_82 ?_
            refine r_iload_n (i := 1) C dX11_findFits_85 rfl 1 rfl ?_
            refine r_iload (i := 5) C dX11_findFits_86 5 rfl ?_
            obtain ⟨g17, hf⟩ := gd_of hf
            obtain ⟨h18, eh18, hf⟩ := lt_of hf
            refine r_iast C 29 eh18 rfl (by decide) g17 dX11_findFits_88 ?_
            obtain ⟨x19, ex19, hf⟩ := lt_of hf
            refine r_iinc (j := 1) (v := x19) (lv' := [(0, .ref (gad (xG X) 0)), (1, .int x19), (2, .int y2), (3, .int y3), (4, .int y4), (5, .int x5)]) C dX11_findFits_89 rfl (by rw [ex19]; rfl) (by decide) [1, 0, 2, 3, 4, 5] rfl ?_
            obtain ⟨x20, ex20, hf⟩ := lt_of hf
            refine r_iinc (j := 4) (v := x20) (lv' := [(0, .ref (gad (xG X) 0)), (1, .int x19), (2, .int y2), (3, .int y3), (4, .int x20), (5, .int x5)]) C dX11_findFits_92 rfl (by rw [ex20]; rfl) (by decide) [1, 2, 3, 4, 0, 5] rfl ?_
            refine r_goto C 32 dX11_findFits_95 (by decide) ?_
            exact r_lv [0, 1, 2, 3, 4] rfl (ih.2 _ _ _ _ _ hf)
        have k8 : q6 = false → VW X 6 h 0 0 92 [(0, .ref (gad (xG X) 0)), (1, .int y1), (2, .int y2), (3, .int y3), (4, .int y4), (5, .int x5)] [] := fun qq => by
          rw [if_neg (by rw [qq]; decide)] at hf
          obtain ⟨x21, ex21, hf⟩ := lt_of hf
          refine r_iinc (j := 4) (v := x21) (lv' := [(0, .ref (gad (xG X) 0)), (1, .int y1), (2, .int y2), (3, .int y3), (4, .int x21), (5, .int x5)]) C dX11_findFits_92 rfl (by rw [ex21]; rfl) (by decide) [1, 2, 3, 4, 0, 5] rfl ?_
          refine r_goto C 32 dX11_findFits_95 (by decide) ?_
          exact r_lv [0, 1, 2, 3, 4] rfl (ih.2 _ _ _ _ _ hf)
        clear hf
        have hf := r9
        refine r_if_ne C 92 dX11_findFits_62 (by decide) (fun c10 => ?_) (fun c10 => ?_)
        · rw [if_neg c10] at hf
          exact k8 (Option.some.inj hf).symm
        · rw [if_pos c10] at hf
          refine r_iload_n (i := 1) C dX11_findFits_65 rfl 1 rfl ?_
          refine r_sipush (v := 137) C dX11_findFits_66 (by decide) ?_
          refine r_icmp_ge C 92 dX11_findFits_69 (by decide) (fun c11 => ?_) (fun c11 => ?_)
          · rw [if_pos c11] at hf
            exact k8 (Option.some.inj hf).symm
          · rw [if_neg c11] at hf
            exact k7 (Option.some.inj hf).symm
set_option maxHeartbeats 4000000 in
set_option maxRecDepth 100000 in
theorem kX11_findFits (G : Gx)  {h : Hp}  {rr : Int32} {hh : Hp} (hf : fX11_findFits h = some (rr, hh)) : MC G yX11_findFits cX11_findFits 6 (some .int) 7 448 h [.ref (gad G 0)] (some (.int rr)) hh := by
  refine MC.of RX11 (by decide) rfl (Nat.le_of_ble_eq_true rfl) rfl (fun X C hG hR hF => ?_)
  subst hG
  have hcs : True := trivial
  unfold fX11_findFits at hf
  refine r_aload_n (i := 0) C dX11_findFits_0 rfl 0 rfl ?_
  refine g_X11_19 C dX11_findFits_1 ?_
  obtain ⟨h22, e23, hf⟩ := cl_of hf
  refine r_callNVv (As := []) (st := []) C 3 rfl (by decide) rfl (kX1_startOver (xG X) e23) cw_X11_273 rfl rfl (Nat.le_of_ble_eq_true rfl) (zr2 hR rfl rfl) (zrcs hcs) dX11_findFits_4 ?_
  refine r_iconst (v := 0) C dX11_findFits_7 (by decide) ?_
  refine r_istore_n (i := 1) (lv' := [(0, .ref (gad (xG X) 0)), (1, .int (0 : Int32))]) C dX11_findFits_8 rfl (by decide) [1, 0] rfl ?_
  refine r_iconst (v := (-1)) C dX11_findFits_9 (by decide) ?_
  refine r_istore_n (i := 2) (lv' := [(0, .ref (gad (xG X) 0)), (1, .int (0 : Int32)), (2, .int (-1 : Int32))]) C dX11_findFits_10 rfl (by decide) [1, 2, 0] rfl ?_
  exact r_lv [0, 1, 2] rfl ((wX11_findFits  C hR hcs hF big).1 _ _ _ _ _ hf)

def fX12_hasPin (h : Hp) (a1 : Int32) : Int32 := (fX12_has (fX12_pins h) a1)
set_option maxHeartbeats 4000000 in
set_option maxRecDepth 100000 in
theorem kX12_hasPin (G : Gx)  {h : Hp} {a1 : Int32} : MC G yX12_hasPin cX12_hasPin 2 (some .boolean) 2 128 h [.ref (gad G 208), .int a1] (some (.int (fX12_hasPin h a1))) h := by
  refine MC.of RX12 (by decide) rfl (Nat.le_of_ble_eq_true rfl) rfl (fun X C hG hR hF => ?_)
  subst hG
  have hcs : True := trivial
  obtain ⟨rr, hf⟩ : ∃ rr, fX12_hasPin h a1 = rr := ⟨_, rfl⟩
  rw [hf] at hF
  unfold fX12_hasPin at hf
  refine r_aload_n (i := 0) C dX12_hasPin_0 rfl 0 rfl ?_
  refine r_callVi (As := []) (st := []) C 208 rfl (by decide) rfl (kX12_pins (xG X)) cw_X12_65 rfl rfl (Nat.le_of_ble_eq_true rfl) (zr2 hR rfl rfl) (zrcs hcs) dX12_hasPin_1 ?_
  refine r_iload_n (i := 1) C dX12_hasPin_4 rfl 1 rfl ?_
  refine r_callSi (As := [.int (fX12_pins h), .int a1]) (st := []) C (kX12_has (xG X)) cw_X12_69 rfl rfl (Nat.le_of_ble_eq_true rfl) (zr2 hR rfl rfl) (zrcs hcs) dX12_hasPin_5 ?_
  subst hf
  exact r_zret C (zX12_has) hF dX12_hasPin_8
theorem zX12_hasPin {h : Hp}  {a1 : Int32} : fX12_hasPin h a1 = 0 ∨ fX12_hasPin h a1 = 1 := by
  unfold fX12_hasPin
  exact by repeat' (first | exact Or.inl rfl | exact Or.inr rfl | (apply b_ite) | (unfold lt9) | assumption | exact zqq)
def fX12_hasLadder (h : Hp) (a1 : Int32) : Int32 := (if (fX12_has (h 209 13) a1) = (0 : Int32) then (1 : Int32) else (0 : Int32))
set_option maxHeartbeats 4000000 in
set_option maxRecDepth 100000 in
theorem kX12_hasLadder (G : Gx)  {h : Hp} {a1 : Int32} : MC G yX12_hasLadder cX12_hasLadder 2 (some .boolean) 2 128 h [.ref (gad G 208), .int a1] (some (.int (fX12_hasLadder h a1))) h := by
  refine MC.of RX12 (by decide) rfl (Nat.le_of_ble_eq_true rfl) rfl (fun X C hG hR hF => ?_)
  subst hG
  have hcs : True := trivial
  obtain ⟨rr, hf⟩ : ∃ rr, fX12_hasLadder h a1 = rr := ⟨_, rfl⟩
  rw [hf] at hF
  unfold fX12_hasLadder at hf
  refine r_aload_n (i := 0) C dX12_hasLadder_0 rfl 0 rfl ?_
  refine g_X12_13 C dX12_hasLadder_1 ?_
  refine r_bipush (v := 13) C dX12_hasLadder_4 (by decide) ?_
  refine r_ialdc C 209 (m := 13) rfl (by decide) (by decide) (show inb 13 2031 by decide) dX12_hasLadder_6 ?_
  refine r_iload_n (i := 1) C dX12_hasLadder_7 rfl 1 rfl ?_
  refine r_callSi (As := [.int (h 209 13), .int a1]) (st := []) C (kX12_has (xG X)) cw_X12_69 rfl rfl (Nat.le_of_ble_eq_true rfl) (zr2 hR rfl rfl) (zrcs hcs) dX12_hasLadder_8 ?_
  refine r_if_ne C 18 dX12_hasLadder_11 (by decide) (fun c1 => ?_) (fun c1 => ?_)
  · rw [if_neg c1] at hf
    refine r_iconst (v := 0) C dX12_hasLadder_18 (by decide) ?_
    subst hf
    exact r_zret C (Or.inl rfl) hF dX12_hasLadder_19
  · rw [if_pos c1] at hf
    refine r_iconst (v := 1) C dX12_hasLadder_14 (by decide) ?_
    refine r_goto C 19 dX12_hasLadder_15 (by decide) ?_
    subst hf
    exact r_zret C (Or.inr rfl) hF dX12_hasLadder_19
theorem zX12_hasLadder {h : Hp}  {a1 : Int32} : fX12_hasLadder h a1 = 0 ∨ fX12_hasLadder h a1 = 1 := by
  unfold fX12_hasLadder
  exact by repeat' (first | exact Or.inl rfl | exact Or.inr rfl | (apply b_ite) | (unfold lt9) | assumption | exact zqq)
def fX12_noPinner (h : Hp) (a1 : Int32) : Int32 := (if (fX12_in a1 (0 : Int32) ((fX12_pinners h) - (1 : Int32))) = (0 : Int32) then (1 : Int32) else (0 : Int32))
set_option maxHeartbeats 4000000 in
set_option maxRecDepth 100000 in
theorem kX12_noPinner (G : Gx)  {h : Hp} {a1 : Int32} : MC G yX12_noPinner cX12_noPinner 2 (some .boolean) 2 128 h [.ref (gad G 208), .int a1] (some (.int (fX12_noPinner h a1))) h := by
  refine MC.of RX12 (by decide) rfl (Nat.le_of_ble_eq_true rfl) rfl (fun X C hG hR hF => ?_)
  subst hG
  have hcs : True := trivial
  obtain ⟨rr, hf⟩ : ∃ rr, fX12_noPinner h a1 = rr := ⟨_, rfl⟩
  rw [hf] at hF
  unfold fX12_noPinner at hf
  refine r_iload_n (i := 1) C dX12_noPinner_0 rfl 1 rfl ?_
  refine r_iconst (v := 0) C dX12_noPinner_1 (by decide) ?_
  refine r_aload_n (i := 0) C dX12_noPinner_2 rfl 0 rfl ?_
  refine r_callVi (As := []) (st := [.int (0 : Int32), .int a1]) C 208 rfl (by decide) rfl (kX12_pinners (xG X)) cw_X12_73 rfl rfl (Nat.le_of_ble_eq_true rfl) (zr2 hR rfl rfl) (zrcs hcs) dX12_noPinner_3 ?_
  refine r_iconst (v := 1) C dX12_noPinner_6 (by decide) ?_
  refine r_isub C dX12_noPinner_7 ?_
  refine r_callSi (As := [.int a1, .int (0 : Int32), .int ((fX12_pinners h) - (1 : Int32))]) (st := []) C (kX12_in (xG X)) cw_X12_76 rfl rfl (Nat.le_of_ble_eq_true rfl) (zr2 hR rfl rfl) (zrcs hcs) dX12_noPinner_8 ?_
  refine r_if_ne C 18 dX12_noPinner_11 (by decide) (fun c1 => ?_) (fun c1 => ?_)
  · rw [if_neg c1] at hf
    refine r_iconst (v := 0) C dX12_noPinner_18 (by decide) ?_
    subst hf
    exact r_zret C (Or.inl rfl) hF dX12_noPinner_19
  · rw [if_pos c1] at hf
    refine r_iconst (v := 1) C dX12_noPinner_14 (by decide) ?_
    refine r_goto C 19 dX12_noPinner_15 (by decide) ?_
    subst hf
    exact r_zret C (Or.inr rfl) hF dX12_noPinner_19
theorem zX12_noPinner {h : Hp}  {a1 : Int32} : fX12_noPinner h a1 = 0 ∨ fX12_noPinner h a1 = 1 := by
  unfold fX12_noPinner
  exact by repeat' (first | exact Or.inl rfl | exact Or.inr rfl | (apply b_ite) | (unfold lt9) | assumption | exact zqq)
def fX12_noPlace (a1 : Int32) : Int32 := (if (fX12_in a1 (0 : Int32) (15 : Int32)) = (0 : Int32) then (1 : Int32) else (0 : Int32))
set_option maxHeartbeats 4000000 in
set_option maxRecDepth 100000 in
theorem kX12_noPlace (G : Gx)  {h : Hp} {a1 : Int32} : MC G yX12_noPlace cX12_noPlace 1 (some .boolean) 2 128 h [.int a1] (some (.int (fX12_noPlace a1))) h := by
  refine MC.of RX12 (by decide) rfl (Nat.le_of_ble_eq_true rfl) rfl (fun X C hG hR hF => ?_)
  subst hG
  have hcs : True := trivial
  obtain ⟨rr, hf⟩ : ∃ rr, fX12_noPlace a1 = rr := ⟨_, rfl⟩
  rw [hf] at hF
  unfold fX12_noPlace at hf
  refine r_iload_n (i := 0) C dX12_noPlace_0 rfl 0 rfl ?_
  refine r_iconst (v := 0) C dX12_noPlace_1 (by decide) ?_
  refine r_bipush (v := 15) C dX12_noPlace_2 (by decide) ?_
  refine r_callSi (As := [.int a1, .int (0 : Int32), .int (15 : Int32)]) (st := []) C (kX12_in (xG X)) cw_X12_76 rfl rfl (Nat.le_of_ble_eq_true rfl) (zr2 hR rfl rfl) (zrcs hcs) dX12_noPlace_4 ?_
  refine r_if_ne C 14 dX12_noPlace_7 (by decide) (fun c1 => ?_) (fun c1 => ?_)
  · rw [if_neg c1] at hf
    refine r_iconst (v := 0) C dX12_noPlace_14 (by decide) ?_
    subst hf
    exact r_zret C (Or.inl rfl) hF dX12_noPlace_15
  · rw [if_pos c1] at hf
    refine r_iconst (v := 1) C dX12_noPlace_10 (by decide) ?_
    refine r_goto C 15 dX12_noPlace_11 (by decide) ?_
    subst hf
    exact r_zret C (Or.inr rfl) hF dX12_noPlace_15
theorem zX12_noPlace  {a1 : Int32} : fX12_noPlace a1 = 0 ∨ fX12_noPlace a1 = 1 := by
  unfold fX12_noPlace
  exact by repeat' (first | exact Or.inl rfl | exact Or.inr rfl | (apply b_ite) | (unfold lt9) | assumption | exact zqq)
def fX12_openPlaces (h : Hp) : Int32 := (((65535 : Int32) &&& ((h 209 13) ^^^ (-1 : Int32))) &&& ((fX12_pins h) ^^^ (-1 : Int32)))
set_option maxHeartbeats 4000000 in
set_option maxRecDepth 100000 in
theorem kX12_openPlaces (G : Gx)  {h : Hp}  : MC G yX12_openPlaces cX12_openPlaces 1 (some .int) 2 128 h [.ref (gad G 208)] (some (.int (fX12_openPlaces h))) h := by
  refine MC.of RX12 (by decide) rfl (Nat.le_of_ble_eq_true rfl) rfl (fun X C hG hR hF => ?_)
  subst hG
  have hcs : True := trivial
  obtain ⟨rr, hf⟩ : ∃ rr, fX12_openPlaces h = rr := ⟨_, rfl⟩
  rw [hf] at hF
  unfold fX12_openPlaces at hf
  refine r_ldc (v := 65535) C dX12_openPlaces_0 gw_1835 ?_
  refine r_aload_n (i := 0) C dX12_openPlaces_2 rfl 0 rfl ?_
  refine g_X12_13 C dX12_openPlaces_3 ?_
  refine r_bipush (v := 13) C dX12_openPlaces_6 (by decide) ?_
  refine r_ialdc C 209 (m := 13) rfl (by decide) (by decide) (show inb 13 2031 by decide) dX12_openPlaces_8 ?_
  refine r_iconst (v := (-1)) C dX12_openPlaces_9 (by decide) ?_
  refine r_ixor C dX12_openPlaces_10 ?_
  refine r_iand C dX12_openPlaces_11 ?_
  refine r_aload_n (i := 0) C dX12_openPlaces_12 rfl 0 rfl ?_
  refine r_callVi (As := []) (st := [.int ((65535 : Int32) &&& ((h 209 13) ^^^ (-1 : Int32)))]) C 208 rfl (by decide) rfl (kX12_pins (xG X)) cw_X12_65 rfl rfl (Nat.le_of_ble_eq_true rfl) (zr2 hR rfl rfl) (zrcs hcs) dX12_openPlaces_13 ?_
  refine r_iconst (v := (-1)) C dX12_openPlaces_16 (by decide) ?_
  refine r_ixor C dX12_openPlaces_17 ?_
  refine r_iand C dX12_openPlaces_18 ?_
  subst hf
  exact r_iret C hF dX12_openPlaces_19
def fX12_drawn (h : Hp) (a1 : Int32) : Option (Int32 × Hp) := gd (inb (12 : Int32) 2031) (lt9 (up2 h 209 (12 : Int32).toNatClampNeg (((1103515245 : Int32) * (h 209 12)) + (12345 : Int32))) (fun h2 => gd (¬ a1 = 0) (some ((irem (((h2 209 12) >>> ((16 : Int32) &&& 31)) &&& (32767 : Int32)) a1), h2))))
set_option maxHeartbeats 4000000 in
set_option maxRecDepth 100000 in
theorem kX12_drawn (G : Gx)  {h : Hp} {a1 : Int32} {rr : Int32} {hh : Hp} (hf : fX12_drawn h a1 = some (rr, hh)) : MC G yX12_drawn cX12_drawn 2 (some .int) 1 64 h [.ref (gad G 208), .int a1] (some (.int rr)) hh := by
  refine MC.of RX12 (by decide) rfl (Nat.le_of_ble_eq_true rfl) rfl (fun X C hG hR hF => ?_)
  subst hG
  have hcs : True := trivial
  unfold fX12_drawn at hf
  refine r_aload_n (i := 0) C dX12_drawn_0 rfl 0 rfl ?_
  refine g_X12_13 C dX12_drawn_1 ?_
  refine r_bipush (v := 12) C dX12_drawn_4 (by decide) ?_
  refine r_ldc (v := 1103515245) C dX12_drawn_6 gw_1904 ?_
  refine r_aload_n (i := 0) C dX12_drawn_8 rfl 0 rfl ?_
  refine g_X12_13 C dX12_drawn_9 ?_
  refine r_bipush (v := 12) C dX12_drawn_12 (by decide) ?_
  refine r_ialdc C 209 (m := 12) rfl (by decide) (by decide) (show inb 12 2031 by decide) dX12_drawn_14 ?_
  refine r_imul C dX12_drawn_15 ?_
  refine r_sipush (v := 12345) C dX12_drawn_16 (by decide) ?_
  refine r_iadd C dX12_drawn_19 ?_
  obtain ⟨g1, hf⟩ := gd_of hf
  obtain ⟨h2, eh2, hf⟩ := lt_of hf
  refine r_iast C 209 eh2 rfl (by decide) g1 dX12_drawn_20 ?_
  refine r_aload_n (i := 0) C dX12_drawn_21 rfl 0 rfl ?_
  refine g_X12_13 C dX12_drawn_22 ?_
  refine r_bipush (v := 12) C dX12_drawn_25 (by decide) ?_
  refine r_ialdc C 209 (m := 12) rfl (by decide) (by decide) (show inb 12 2031 by decide) dX12_drawn_27 ?_
  refine r_bipush (v := 16) C dX12_drawn_28 (by decide) ?_
  refine r_ishr C dX12_drawn_30 ?_
  refine r_sipush (v := 32767) C dX12_drawn_31 (by decide) ?_
  refine r_iand C dX12_drawn_34 ?_
  refine r_iload_n (i := 1) C dX12_drawn_35 rfl 1 rfl ?_
  obtain ⟨g3, hf⟩ := gd_of hf
  refine r_irem C dX12_drawn_36 g3 ?_
  cases hf
  exact r_iret C hF dX12_drawn_37
def BX12_feed_0  (rec : Hp → Int32 → Option (Int32 × Hp)) (h : Hp) (y6 : Int32) : Option (Int32 × Hp) := (if (20 : Int32) ≤ y6 then lt9 (up2 h 208 9 ((h 208 9) + (20 : Int32))) (fun h2 => some ((h2 208 9), h2)) else gd (inb (y6 / (4 : Int32)) 5) (gd (inb ((h 208 9) + y6) 400) (lt9 (up2 h 214 ((h 208 9) + y6).toNatClampNeg (vp_nar .byte (((h 215 (y6 / (4 : Int32)).toNatClampNeg) >>> (((24 : Int32) - ((8 : Int32) * (irem y6 (4 : Int32)))) &&& 31)).toInt8.toInt32))) (fun h5 => lt9 (y6 + (1 : Int32)) (fun x6 => rec h5 x6)))))
def LX12_feed  : Nat → Hp → Int32 → Option (Int32 × Hp)
  | 0, _, _ => none
  | n + 1, h, y6 => BX12_feed_0  (LX12_feed  n) h y6
def fX12_feed (h : Hp) (a1 : Int32) (a2 : Int32) (a3 : Int32) (a4 : Int32) (a5 : Int32) : Option (Int32 × Hp) := lt9 (up2 h 208 0 (0 : Int32)) (fun h7 => (if ((h7 208 9) + (20 : Int32)) ≤ (400 : Int32) then gd (inb (0 : Int32) 5) (lt9 (up2 h7 215 (0 : Int32).toNatClampNeg a1) (fun h10 => gd (inb (1 : Int32) 5) (lt9 (up2 h10 215 (1 : Int32).toNatClampNeg a2) (fun h12 => gd (inb (2 : Int32) 5) (lt9 (up2 h12 215 (2 : Int32).toNatClampNeg a3) (fun h14 => gd (inb (3 : Int32) 5) (lt9 (up2 h14 215 (3 : Int32).toNatClampNeg a4) (fun h16 => gd (inb (4 : Int32) 5) (lt9 (up2 h16 215 (4 : Int32).toNatClampNeg a5) (fun h18 => LX12_feed big h18 (0 : Int32))))))))))) else some ((-1 : Int32), h7)))
set_option maxHeartbeats 4000000 in
set_option maxRecDepth 100000 in
theorem wX12_feed {X : Cx}  (C : OK X cX12_feed 7 RX12 (some .int)) (hR : xR X = { frames := 1, cells := 0, slots := 0, locals := 64 }) (hcs : True) {rr : Int32} {hh : Hp} (hF : FinR X (some (.int rr)) hh) : ∀ n : Nat, (∀ (h : Hp) (y6 : Int32), LX12_feed  n h y6 = some (rr, hh) → VW X 7 h 0 0 60 [(0, .ref (gad (xG X) 208)), (6, .int y6)] []) := by
  intro n
  induction n with
  | zero => exact (fun _ _ hf => (by rw [LX12_feed] at hf; cases hf))
  | succ n ih =>
    intro h y6 hf
    rw [LX12_feed] at hf
    unfold BX12_feed_0 at hf
    refine r_iload (i := 6) C dX12_feed_60 1 rfl ?_
    refine r_bipush (v := 20) C dX12_feed_62 (by decide) ?_
    refine r_icmp_ge C 106 dX12_feed_64 (by decide) (fun c1 => ?_) (fun c1 => ?_)
    · rw [if_pos c1] at hf
      refine r_aload_n (i := 0) C dX12_feed_106 rfl 0 rfl ?_
      refine r_dup C dX12_feed_107 rfl ?_
      refine g_X12_82 C dX12_feed_108 ?_
      refine r_bipush (v := 20) C dX12_feed_111 (by decide) ?_
      refine r_iadd C dX12_feed_113 ?_
      obtain ⟨h2, eh2, hf⟩ := lt_of hf
      refine p_X12_82 C eh2 dX12_feed_114 ?_
      refine r_aload_n (i := 0) C dX12_feed_117 rfl 0 rfl ?_
      refine g_X12_82 C dX12_feed_118 ?_
      cases hf
      exact r_iret C hF dX12_feed_121
    · rw [if_neg c1] at hf
      refine r_aload_n (i := 0) C dX12_feed_67 rfl 0 rfl ?_
      refine g_X12_29 C dX12_feed_68 ?_
      refine r_aload_n (i := 0) C dX12_feed_71 rfl 0 rfl ?_
      refine g_X12_82 C dX12_feed_72 ?_
      refine r_iload (i := 6) C dX12_feed_75 1 rfl ?_
      refine r_iadd C dX12_feed_77 ?_
      refine r_aload_n (i := 0) C dX12_feed_78 rfl 0 rfl ?_
      refine g_X12_36 C dX12_feed_79 ?_
      refine r_iload (i := 6) C dX12_feed_82 1 rfl ?_
      refine r_iconst (v := 4) C dX12_feed_84 (by decide) ?_
      refine r_idiv C dX12_feed_85 (by decide) ?_
      obtain ⟨g3, hf⟩ := gd_of hf
      refine r_iald C 215 rfl (by decide) g3 dX12_feed_86 ?_
      refine r_bipush (v := 24) C dX12_feed_87 (by decide) ?_
      refine r_bipush (v := 8) C dX12_feed_89 (by decide) ?_
      refine r_iload (i := 6) C dX12_feed_91 1 rfl ?_
      refine r_iconst (v := 4) C dX12_feed_93 (by decide) ?_
      refine r_irem C dX12_feed_94 (by decide) ?_
      refine r_imul C dX12_feed_95 ?_
      refine r_isub C dX12_feed_96 ?_
      refine r_ishr C dX12_feed_97 ?_
      refine r_i2b C dX12_feed_98 ?_
      obtain ⟨g4, hf⟩ := gd_of hf
      obtain ⟨h5, eh5, hf⟩ := lt_of hf
      refine r_bast C 214 eh5 rfl (by decide) g4 dX12_feed_99 ?_
      obtain ⟨x6, ex6, hf⟩ := lt_of hf
      refine r_iinc (j := 1) (v := x6) (lv' := [(0, .ref (gad (xG X) 208)), (6, .int x6)]) C dX12_feed_100 rfl (by rw [ex6]; rfl) (by decide) [1, 0] rfl ?_
      refine r_goto C 60 dX12_feed_103 (by decide) ?_
      exact r_lv [0, 1] rfl (ih _ _ hf)
set_option maxHeartbeats 4000000 in
set_option maxRecDepth 100000 in
theorem kX12_feed (G : Gx)  {h : Hp} {a1 : Int32} {a2 : Int32} {a3 : Int32} {a4 : Int32} {a5 : Int32} {rr : Int32} {hh : Hp} (hf : fX12_feed h a1 a2 a3 a4 a5 = some (rr, hh)) : MC G yX12_feed cX12_feed 7 (some .int) 1 64 h [.ref (gad G 208), .int a1, .int a2, .int a3, .int a4, .int a5] (some (.int rr)) hh := by
  refine MC.of RX12 (by decide) rfl (Nat.le_of_ble_eq_true rfl) rfl (fun X C hG hR hF => ?_)
  subst hG
  have hcs : True := trivial
  unfold fX12_feed at hf
  refine r_aload_n (i := 0) C dX12_feed_0 rfl 0 rfl ?_
  refine r_iconst (v := 0) C dX12_feed_1 (by decide) ?_
  obtain ⟨h7, eh7, hf⟩ := lt_of hf
  refine p_X12_3 C eh7 dX12_feed_2 ?_
  refine r_aload_n (i := 0) C dX12_feed_5 rfl 0 rfl ?_
  refine g_X12_82 C dX12_feed_6 ?_
  refine r_bipush (v := 20) C dX12_feed_9 (by decide) ?_
  refine r_iadd C dX12_feed_11 ?_
  refine r_sipush (v := 400) C dX12_feed_12 (by decide) ?_
  refine r_icmp_le C 20 dX12_feed_15 (by decide) (fun c8 => ?_) (fun c8 => ?_)
  · rw [if_pos c8] at hf
    refine r_aload_n (i := 0) C dX12_feed_20 rfl 0 rfl ?_
    refine g_X12_36 C dX12_feed_21 ?_
    refine r_iconst (v := 0) C dX12_feed_24 (by decide) ?_
    refine r_iload_n (i := 1) C dX12_feed_25 rfl 1 rfl ?_
    obtain ⟨g9, hf⟩ := gd_of hf
    obtain ⟨h10, eh10, hf⟩ := lt_of hf
    refine r_iast C 215 eh10 rfl (by decide) g9 dX12_feed_26 ?_
    refine r_aload_n (i := 0) C dX12_feed_27 rfl 0 rfl ?_
    refine g_X12_36 C dX12_feed_28 ?_
    refine r_iconst (v := 1) C dX12_feed_31 (by decide) ?_
    refine r_iload_n (i := 2) C dX12_feed_32 rfl 2 rfl ?_
    obtain ⟨g11, hf⟩ := gd_of hf
    obtain ⟨h12, eh12, hf⟩ := lt_of hf
    refine r_iast C 215 eh12 rfl (by decide) g11 dX12_feed_33 ?_
    refine r_aload_n (i := 0) C dX12_feed_34 rfl 0 rfl ?_
    refine g_X12_36 C dX12_feed_35 ?_
    refine r_iconst (v := 2) C dX12_feed_38 (by decide) ?_
    refine r_iload_n (i := 3) C dX12_feed_39 rfl 3 rfl ?_
    obtain ⟨g13, hf⟩ := gd_of hf
    obtain ⟨h14, eh14, hf⟩ := lt_of hf
    refine r_iast C 215 eh14 rfl (by decide) g13 dX12_feed_40 ?_
    refine r_aload_n (i := 0) C dX12_feed_41 rfl 0 rfl ?_
    refine g_X12_36 C dX12_feed_42 ?_
    refine r_iconst (v := 3) C dX12_feed_45 (by decide) ?_
    refine r_iload (i := 4) C dX12_feed_46 4 rfl ?_
    obtain ⟨g15, hf⟩ := gd_of hf
    obtain ⟨h16, eh16, hf⟩ := lt_of hf
    refine r_iast C 215 eh16 rfl (by decide) g15 dX12_feed_48 ?_
    refine r_aload_n (i := 0) C dX12_feed_49 rfl 0 rfl ?_
    refine g_X12_36 C dX12_feed_50 ?_
    refine r_iconst (v := 4) C dX12_feed_53 (by decide) ?_
    refine r_iload (i := 5) C dX12_feed_54 5 rfl ?_
    obtain ⟨g17, hf⟩ := gd_of hf
    obtain ⟨h18, eh18, hf⟩ := lt_of hf
    refine r_iast C 215 eh18 rfl (by decide) g17 dX12_feed_56 ?_
    refine r_iconst (v := 0) C dX12_feed_57 (by decide) ?_
    refine r_istore (i := 6) (lv' := [(0, .ref (gad (xG X) 208)), (1, .int a1), (2, .int a2), (3, .int a3), (4, .int a4), (5, .int a5), (6, .int (0 : Int32))]) C dX12_feed_58 (by decide) [1, 2, 3, 4, 5, 6, 0] rfl ?_
    exact r_lv [0, 6] rfl ((wX12_feed  C hR hcs hF big) _ _ hf)
  · rw [if_neg c8] at hf
    refine r_iconst (v := (-1)) C dX12_feed_18 (by decide) ?_
    cases hf
    exact r_iret C hF dX12_feed_19
def fX12_end (h : Hp) (a1 : Int32) : Option (Int32 × Hp) := lt9 (up2 h 208 0 (0 : Int32)) (fun h1 => cl9 ((if a1 < (0 : Int32) then some true else (if a1 ≤ (h1 208 9) then some false else some true)) : Option Bool) (fun q2 => if q2 = true then some ((0 : Int32), h1) else lt9 (up2 h1 208 9 a1) (fun h8 => some ((1 : Int32), h8))))
set_option maxHeartbeats 4000000 in
set_option maxRecDepth 100000 in
theorem kX12_end (G : Gx)  {h : Hp} {a1 : Int32} {rr : Int32} {hh : Hp} (hf : fX12_end h a1 = some (rr, hh)) : MC G yX12_end cX12_end 2 (some .boolean) 1 64 h [.ref (gad G 208), .int a1] (some (.int rr)) hh := by
  refine MC.of RX12 (by decide) rfl (Nat.le_of_ble_eq_true rfl) rfl (fun X C hG hR hF => ?_)
  subst hG
  have hcs : True := trivial
  unfold fX12_end at hf
  refine r_aload_n (i := 0) C dX12_end_0 rfl 0 rfl ?_
  refine r_iconst (v := 0) C dX12_end_1 (by decide) ?_
  obtain ⟨h1, eh1, hf⟩ := lt_of hf
  refine p_X12_3 C eh1 dX12_end_2 ?_
  refine r_iload_n (i := 1) C dX12_end_5 rfl 1 rfl ?_
  obtain ⟨q2, r5, hf⟩ := cl_of hf
  have k3 : q2 = true → VW X 2 h1 0 0 17 [(0, .ref (gad (xG X) 208)), (1, .int a1)] [] := fun qq => by
    rw [if_pos qq] at hf
    refine r_iconst (v := 0) C dX12_end_17 (by decide) ?_
    have zz : (0 : Int32) = 0 ∨ (0 : Int32) = 1 := (Or.inl rfl)
    cases hf
    exact r_zret C zz hF dX12_end_18
  have k4 : q2 = false → VW X 2 h1 0 0 19 [(0, .ref (gad (xG X) 208)), (1, .int a1)] [] := fun qq => by
    rw [if_neg (by rw [qq]; decide)] at hf
    refine r_aload_n (i := 0) C dX12_end_19 rfl 0 rfl ?_
    refine r_iload_n (i := 1) C dX12_end_20 rfl 1 rfl ?_
    obtain ⟨h8, eh8, hf⟩ := lt_of hf
    refine p_X12_82 C eh8 dX12_end_21 ?_
    refine r_iconst (v := 1) C dX12_end_24 (by decide) ?_
    have zz : (1 : Int32) = 0 ∨ (1 : Int32) = 1 := (Or.inr rfl)
    cases hf
    exact r_zret C zz hF dX12_end_25
  clear hf
  have hf := r5
  refine r_if_lt C 17 dX12_end_6 (by decide) (fun c6 => ?_) (fun c6 => ?_)
  · rw [if_pos c6] at hf
    exact k3 (Option.some.inj hf).symm
  · rw [if_neg c6] at hf
    refine r_iload_n (i := 1) C dX12_end_9 rfl 1 rfl ?_
    refine r_aload_n (i := 0) C dX12_end_10 rfl 0 rfl ?_
    refine g_X12_82 C dX12_end_11 ?_
    refine r_icmp_le C 19 dX12_end_14 (by decide) (fun c7 => ?_) (fun c7 => ?_)
    · rw [if_pos c7] at hf
      exact k4 (Option.some.inj hf).symm
    · rw [if_neg c7] at hf
      exact k3 (Option.some.inj hf).symm
def fX12_isAt (h : Hp) (a1 : Int32) (a2 : Int32) : Option (Int32) := (if (h 208 11) ≤ (h 208 10) then some (0 : Int32) else gd (inb (h 208 10) 400) ((if (h 214 (h 208 10).toNatClampNeg) < a1 then some (0 : Int32) else gd (inb (h 208 10) 400) ((if a2 < (h 214 (h 208 10).toNatClampNeg) then some (0 : Int32) else some (1 : Int32))))))
set_option maxHeartbeats 4000000 in
set_option maxRecDepth 100000 in
theorem kX12_isAt (G : Gx)  {h : Hp} {a1 : Int32} {a2 : Int32} {rr : Int32} (hf : fX12_isAt h a1 a2 = some rr) : MC G yX12_isAt cX12_isAt 3 (some .boolean) 1 64 h [.ref (gad G 208), .int a1, .int a2] (some (.int rr)) h := by
  refine MC.of RX12 (by decide) rfl (Nat.le_of_ble_eq_true rfl) rfl (fun X C hG hR hF => ?_)
  subst hG
  have hcs : True := trivial
  unfold fX12_isAt at hf
  refine r_aload_n (i := 0) C dX12_isAt_0 rfl 0 rfl ?_
  refine g_X12_85 C dX12_isAt_1 ?_
  refine r_aload_n (i := 0) C dX12_isAt_4 rfl 0 rfl ?_
  refine g_X12_88 C dX12_isAt_5 ?_
  refine r_icmp_ge C 41 dX12_isAt_8 (by decide) (fun c1 => ?_) (fun c1 => ?_)
  · rw [if_pos c1] at hf
    refine r_iconst (v := 0) C dX12_isAt_41 (by decide) ?_
    have zz : (0 : Int32) = 0 ∨ (0 : Int32) = 1 := (Or.inl rfl)
    cases hf
    exact r_zret C zz hF dX12_isAt_42
  · rw [if_neg c1] at hf
    refine r_aload_n (i := 0) C dX12_isAt_11 rfl 0 rfl ?_
    refine g_X12_29 C dX12_isAt_12 ?_
    refine r_aload_n (i := 0) C dX12_isAt_15 rfl 0 rfl ?_
    refine g_X12_85 C dX12_isAt_16 ?_
    obtain ⟨g2, hf⟩ := gd_of hf
    refine r_bald C 214 rfl (by decide) g2 dX12_isAt_19 ?_
    refine r_iload_n (i := 1) C dX12_isAt_20 rfl 1 rfl ?_
    refine r_icmp_lt C 41 dX12_isAt_21 (by decide) (fun c3 => ?_) (fun c3 => ?_)
    · rw [if_pos c3] at hf
      refine r_iconst (v := 0) C dX12_isAt_41 (by decide) ?_
      have zz : (0 : Int32) = 0 ∨ (0 : Int32) = 1 := (Or.inl rfl)
      cases hf
      exact r_zret C zz hF dX12_isAt_42
    · rw [if_neg c3] at hf
      refine r_aload_n (i := 0) C dX12_isAt_24 rfl 0 rfl ?_
      refine g_X12_29 C dX12_isAt_25 ?_
      refine r_aload_n (i := 0) C dX12_isAt_28 rfl 0 rfl ?_
      refine g_X12_85 C dX12_isAt_29 ?_
      obtain ⟨g4, hf⟩ := gd_of hf
      refine r_bald C 214 rfl (by decide) g4 dX12_isAt_32 ?_
      refine r_iload_n (i := 2) C dX12_isAt_33 rfl 2 rfl ?_
      refine r_icmp_gt C 41 dX12_isAt_34 (by decide) (fun c5 => ?_) (fun c5 => ?_)
      · rw [if_pos c5] at hf
        refine r_iconst (v := 0) C dX12_isAt_41 (by decide) ?_
        have zz : (0 : Int32) = 0 ∨ (0 : Int32) = 1 := (Or.inl rfl)
        cases hf
        exact r_zret C zz hF dX12_isAt_42
      · rw [if_neg c5] at hf
        refine r_iconst (v := 1) C dX12_isAt_37 (by decide) ?_
        refine r_goto C 42 dX12_isAt_38 (by decide) ?_
        have zz : (1 : Int32) = 0 ∨ (1 : Int32) = 1 := (Or.inr rfl)
        cases hf
        exact r_zret C zz hF dX12_isAt_42
def BX12_blanks_0  (rec : Hp → Option (Hp)) (h : Hp) : Option (Hp) := cl9 (fX12_isAt h (32 : Int32) (32 : Int32)) (fun x1 => (if x1 = (0 : Int32) then lt9 (up2 h 208 12 (h 208 10)) (fun h4 => some h4) else lt9 (up2 h 208 10 ((h 208 10) + (1 : Int32))) (fun h5 => rec h5)))
def LX12_blanks  : Nat → Hp → Option (Hp)
  | 0, _ => none
  | n + 1, h => BX12_blanks_0  (LX12_blanks  n) h
def fX12_blanks (h : Hp) : Option (Hp) := LX12_blanks big h
set_option maxHeartbeats 4000000 in
set_option maxRecDepth 100000 in
theorem wX12_blanks {X : Cx}  (C : OK X cX12_blanks 1 RX12 none) (hR : xR X = { frames := 2, cells := 0, slots := 0, locals := 128 }) (hcs : True) {hh : Hp} (hF : FinR X none hh) : ∀ n : Nat, (∀ (h : Hp), LX12_blanks  n h = some hh → VW X 1 h 0 0 0 [(0, .ref (gad (xG X) 208))] []) := by
  intro n
  induction n with
  | zero => exact (fun _ hf => (by rw [LX12_blanks] at hf; cases hf))
  | succ n ih =>
    intro h hf
    rw [LX12_blanks] at hf
    unfold BX12_blanks_0 at hf
    refine r_aload_n (i := 0) C dX12_blanks_0 rfl 0 rfl ?_
    refine r_bipush (v := 32) C dX12_blanks_1 (by decide) ?_
    refine r_bipush (v := 32) C dX12_blanks_3 (by decide) ?_
    obtain ⟨x1, e2, hf⟩ := cl_of hf
    refine r_callVi (As := [.int (32 : Int32), .int (32 : Int32)]) (st := []) C 208 rfl (by decide) rfl (kX12_isAt (xG X) e2) cw_X12_91 rfl rfl (Nat.le_of_ble_eq_true rfl) (zr2 hR rfl rfl) (zrcs hcs) dX12_blanks_5 ?_
    refine r_if_eq C 24 dX12_blanks_8 (by decide) (fun c3 => ?_) (fun c3 => ?_)
    · rw [if_pos c3] at hf
      refine r_aload_n (i := 0) C dX12_blanks_24 rfl 0 rfl ?_
      refine r_aload_n (i := 0) C dX12_blanks_25 rfl 0 rfl ?_
      refine g_X12_85 C dX12_blanks_26 ?_
      obtain ⟨h4, eh4, hf⟩ := lt_of hf
      refine p_X12_94 C eh4 dX12_blanks_29 ?_
      cases hf
      exact r_vret C hF dX12_blanks_32
    · rw [if_neg c3] at hf
      refine r_aload_n (i := 0) C dX12_blanks_11 rfl 0 rfl ?_
      refine r_dup C dX12_blanks_12 rfl ?_
      refine g_X12_85 C dX12_blanks_13 ?_
      refine r_iconst (v := 1) C dX12_blanks_16 (by decide) ?_
      refine r_iadd C dX12_blanks_17 ?_
      obtain ⟨h5, eh5, hf⟩ := lt_of hf
      refine p_X12_85 C eh5 dX12_blanks_18 ?_
      refine r_goto C 0 dX12_blanks_21 (by decide) ?_
      exact r_lv [0] rfl (ih _ hf)
set_option maxHeartbeats 4000000 in
set_option maxRecDepth 100000 in
theorem kX12_blanks (G : Gx)  {h : Hp}  {hh : Hp} (hf : fX12_blanks h = some hh) : MC G yX12_blanks cX12_blanks 1 none 2 128 h [.ref (gad G 208)] none hh := by
  refine MC.of RX12 (by decide) rfl (Nat.le_of_ble_eq_true rfl) rfl (fun X C hG hR hF => ?_)
  subst hG
  have hcs : True := trivial
  unfold fX12_blanks at hf
  exact r_lv [0] rfl ((wX12_blanks  C hR hcs hF big) _ hf)
def BX12_letters_0  (rec : Hp → Option (Hp)) (h : Hp) : Option (Hp) := cl9 (fX12_isAt h (97 : Int32) (122 : Int32)) (fun x1 => (if x1 = (0 : Int32) then some h else lt9 (up2 h 208 10 ((h 208 10) + (1 : Int32))) (fun h4 => rec h4)))
def LX12_letters  : Nat → Hp → Option (Hp)
  | 0, _ => none
  | n + 1, h => BX12_letters_0  (LX12_letters  n) h
def fX12_letters (h : Hp) : Option (Hp) := cl9 (fX12_blanks h) (fun h5 => LX12_letters big h5)
set_option maxHeartbeats 4000000 in
set_option maxRecDepth 100000 in
theorem wX12_letters {X : Cx}  (C : OK X cX12_letters 1 RX12 none) (hR : xR X = { frames := 3, cells := 0, slots := 0, locals := 192 }) (hcs : True) {hh : Hp} (hF : FinR X none hh) : ∀ n : Nat, (∀ (h : Hp), LX12_letters  n h = some hh → VW X 1 h 0 0 4 [(0, .ref (gad (xG X) 208))] []) := by
  intro n
  induction n with
  | zero => exact (fun _ hf => (by rw [LX12_letters] at hf; cases hf))
  | succ n ih =>
    intro h hf
    rw [LX12_letters] at hf
    unfold BX12_letters_0 at hf
    refine r_aload_n (i := 0) C dX12_letters_4 rfl 0 rfl ?_
    refine r_bipush (v := 97) C dX12_letters_5 (by decide) ?_
    refine r_bipush (v := 122) C dX12_letters_7 (by decide) ?_
    obtain ⟨x1, e2, hf⟩ := cl_of hf
    refine r_callVi (As := [.int (97 : Int32), .int (122 : Int32)]) (st := []) C 208 rfl (by decide) rfl (kX12_isAt (xG X) e2) cw_X12_91 rfl rfl (Nat.le_of_ble_eq_true rfl) (zr2 hR rfl rfl) (zrcs hcs) dX12_letters_9 ?_
    refine r_if_eq C 28 dX12_letters_12 (by decide) (fun c3 => ?_) (fun c3 => ?_)
    · rw [if_pos c3] at hf
      cases hf
      exact r_vret C hF dX12_letters_28
    · rw [if_neg c3] at hf
      refine r_aload_n (i := 0) C dX12_letters_15 rfl 0 rfl ?_
      refine r_dup C dX12_letters_16 rfl ?_
      refine g_X12_85 C dX12_letters_17 ?_
      refine r_iconst (v := 1) C dX12_letters_20 (by decide) ?_
      refine r_iadd C dX12_letters_21 ?_
      obtain ⟨h4, eh4, hf⟩ := lt_of hf
      refine p_X12_85 C eh4 dX12_letters_22 ?_
      refine r_goto C 4 dX12_letters_25 (by decide) ?_
      exact r_lv [0] rfl (ih _ hf)
set_option maxHeartbeats 4000000 in
set_option maxRecDepth 100000 in
theorem kX12_letters (G : Gx)  {h : Hp}  {hh : Hp} (hf : fX12_letters h = some hh) : MC G yX12_letters cX12_letters 1 none 3 192 h [.ref (gad G 208)] none hh := by
  refine MC.of RX12 (by decide) rfl (Nat.le_of_ble_eq_true rfl) rfl (fun X C hG hR hF => ?_)
  subst hG
  have hcs : True := trivial
  unfold fX12_letters at hf
  refine r_aload_n (i := 0) C dX12_letters_0 rfl 0 rfl ?_
  obtain ⟨h5, e6, hf⟩ := cl_of hf
  refine r_callVv (As := []) (st := []) C 208 rfl (by decide) rfl (kX12_blanks (xG X) e6) cw_X12_97 rfl rfl (Nat.le_of_ble_eq_true rfl) (zr2 hR rfl rfl) (zrcs hcs) dX12_letters_1 ?_
  exact r_lv [0] rfl ((wX12_letters  C hR hcs hF big) _ hf)
def fX12_sign (h : Hp) (a1 : Int32) : Option (Int32 × Hp) := cl9 (fX12_blanks h) (fun h1 => cl9 (fX12_isAt h1 a1 a1) (fun x3 => (if x3 = (0 : Int32) then some ((0 : Int32), h1) else lt9 (up2 h1 208 10 ((h1 208 10) + (1 : Int32))) (fun h6 => some ((1 : Int32), h6)))))
set_option maxHeartbeats 4000000 in
set_option maxRecDepth 100000 in
theorem kX12_sign (G : Gx)  {h : Hp} {a1 : Int32} {rr : Int32} {hh : Hp} (hf : fX12_sign h a1 = some (rr, hh)) : MC G yX12_sign cX12_sign 2 (some .boolean) 3 192 h [.ref (gad G 208), .int a1] (some (.int rr)) hh := by
  refine MC.of RX12 (by decide) rfl (Nat.le_of_ble_eq_true rfl) rfl (fun X C hG hR hF => ?_)
  subst hG
  have hcs : True := trivial
  unfold fX12_sign at hf
  refine r_aload_n (i := 0) C dX12_sign_0 rfl 0 rfl ?_
  obtain ⟨h1, e2, hf⟩ := cl_of hf
  refine r_callVv (As := []) (st := []) C 208 rfl (by decide) rfl (kX12_blanks (xG X) e2) cw_X12_97 rfl rfl (Nat.le_of_ble_eq_true rfl) (zr2 hR rfl rfl) (zrcs hcs) dX12_sign_1 ?_
  refine r_aload_n (i := 0) C dX12_sign_4 rfl 0 rfl ?_
  refine r_iload_n (i := 1) C dX12_sign_5 rfl 1 rfl ?_
  refine r_iload_n (i := 1) C dX12_sign_6 rfl 1 rfl ?_
  obtain ⟨x3, e4, hf⟩ := cl_of hf
  refine r_callVi (As := [.int a1, .int a1]) (st := []) C 208 rfl (by decide) rfl (kX12_isAt (xG X) e4) cw_X12_91 rfl rfl (Nat.le_of_ble_eq_true rfl) (zr2 hR rfl rfl) (zrcs hcs) dX12_sign_7 ?_
  refine r_if_ne C 15 dX12_sign_10 (by decide) (fun c5 => ?_) (fun c5 => ?_)
  · rw [if_neg c5] at hf
    refine r_aload_n (i := 0) C dX12_sign_15 rfl 0 rfl ?_
    refine r_dup C dX12_sign_16 rfl ?_
    refine g_X12_85 C dX12_sign_17 ?_
    refine r_iconst (v := 1) C dX12_sign_20 (by decide) ?_
    refine r_iadd C dX12_sign_21 ?_
    obtain ⟨h6, eh6, hf⟩ := lt_of hf
    refine p_X12_85 C eh6 dX12_sign_22 ?_
    refine r_iconst (v := 1) C dX12_sign_25 (by decide) ?_
    have zz : (1 : Int32) = 0 ∨ (1 : Int32) = 1 := (Or.inr rfl)
    cases hf
    exact r_zret C zz hF dX12_sign_26
  · rw [if_pos c5] at hf
    refine r_iconst (v := 0) C dX12_sign_13 (by decide) ?_
    have zz : (0 : Int32) = 0 ∨ (0 : Int32) = 1 := (Or.inl rfl)
    cases hf
    exact r_zret C zz hF dX12_sign_14
def BX12_number_0  (rec : Hp → Int32 → Int32 → Int32 → Option (Int32 × Hp)) (h : Hp) (y1 : Int32) (y2 : Int32) (y3 : Int32) : Option (Int32 × Hp) := cl9 (fX12_isAt h (48 : Int32) (57 : Int32)) (fun x1 => (if x1 = (0 : Int32) then (if (h 208 10) = (h 208 12) then some ((-1 : Int32), h) else (if (3 : Int32) < ((h 208 10) - (h 208 12)) then some ((-1 : Int32), h) else (if y3 < y1 then some ((-1 : Int32), h) else (if y3 ≤ y2 then some (y3, h) else some ((-1 : Int32), h))))) else cl9 ((if (3 : Int32) ≤ ((h 208 10) - (h 208 12)) then some y3 else gd (inb (h 208 10) 400) (some ((((10 : Int32) * y3) + (h 214 (h 208 10).toNatClampNeg)) - (48 : Int32)))) : Option (Int32)) (fun v8 => lt9 (up2 h 208 10 ((h 208 10) + (1 : Int32))) (fun h13 => rec h13 y1 y2 v8))))
def LX12_number  : Nat → Hp → Int32 → Int32 → Int32 → Option (Int32 × Hp)
  | 0, _, _, _, _ => none
  | n + 1, h, y1, y2, y3 => BX12_number_0  (LX12_number  n) h y1 y2 y3
def fX12_number (h : Hp) (a1 : Int32) (a2 : Int32) : Option (Int32 × Hp) := cl9 (fX12_blanks h) (fun h14 => LX12_number big h14 a1 a2 (0 : Int32))
set_option maxHeartbeats 4000000 in
set_option maxRecDepth 100000 in
theorem wX12_number {X : Cx}  (C : OK X cX12_number 4 RX12 (some .int)) (hR : xR X = { frames := 3, cells := 0, slots := 0, locals := 192 }) (hcs : True) {rr : Int32} {hh : Hp} (hF : FinR X (some (.int rr)) hh) : ∀ n : Nat, (∀ (h : Hp) (y1 : Int32) (y2 : Int32) (y3 : Int32), LX12_number  n h y1 y2 y3 = some (rr, hh) → VW X 4 h 0 0 6 [(0, .ref (gad (xG X) 208)), (1, .int y1), (2, .int y2), (3, .int y3)] []) := by
  intro n
  induction n with
  | zero => exact (fun _ _ _ _ hf => (by rw [LX12_number] at hf; cases hf))
  | succ n ih =>
    intro h y1 y2 y3 hf
    rw [LX12_number] at hf
    unfold BX12_number_0 at hf
    refine r_aload_n (i := 0) C dX12_number_6 rfl 0 rfl ?_
    refine r_bipush (v := 48) C dX12_number_7 (by decide) ?_
    refine r_bipush (v := 57) C dX12_number_9 (by decide) ?_
    obtain ⟨x1, e2, hf⟩ := cl_of hf
    refine r_callVi (As := [.int (48 : Int32), .int (57 : Int32)]) (st := []) C 208 rfl (by decide) rfl (kX12_isAt (xG X) e2) cw_X12_91 rfl rfl (Nat.le_of_ble_eq_true rfl) (zr2 hR rfl rfl) (zrcs hcs) dX12_number_11 ?_
    refine r_if_eq C 65 dX12_number_14 (by decide) (fun c3 => ?_) (fun c3 => ?_)
    · rw [if_pos c3] at hf
      refine r_aload_n (i := 0) C dX12_number_65 rfl 0 rfl ?_
      refine g_X12_85 C dX12_number_66 ?_
      refine r_aload_n (i := 0) C dX12_number_69 rfl 0 rfl ?_
      refine g_X12_94 C dX12_number_70 ?_
      refine r_icmp_eq C 99 dX12_number_73 (by decide) (fun c4 => ?_) (fun c4 => ?_)
      · rw [if_pos c4] at hf
        refine r_iconst (v := (-1)) C dX12_number_99 (by decide) ?_
        refine r_goto C 104 dX12_number_100 (by decide) ?_
        cases hf
        exact r_iret C hF dX12_number_104
      · rw [if_neg c4] at hf
        refine r_aload_n (i := 0) C dX12_number_76 rfl 0 rfl ?_
        refine g_X12_85 C dX12_number_77 ?_
        refine r_aload_n (i := 0) C dX12_number_80 rfl 0 rfl ?_
        refine g_X12_94 C dX12_number_81 ?_
        refine r_isub C dX12_number_84 ?_
        refine r_iconst (v := 3) C dX12_number_85 (by decide) ?_
        refine r_icmp_gt C 99 dX12_number_86 (by decide) (fun c5 => ?_) (fun c5 => ?_)
        · rw [if_pos c5] at hf
          refine r_iconst (v := (-1)) C dX12_number_99 (by decide) ?_
          refine r_goto C 104 dX12_number_100 (by decide) ?_
          cases hf
          exact r_iret C hF dX12_number_104
        · rw [if_neg c5] at hf
          refine r_iload_n (i := 3) C dX12_number_89 rfl 3 rfl ?_
          refine r_iload_n (i := 1) C dX12_number_90 rfl 1 rfl ?_
          refine r_icmp_lt C 99 dX12_number_91 (by decide) (fun c6 => ?_) (fun c6 => ?_)
          · rw [if_pos c6] at hf
            refine r_iconst (v := (-1)) C dX12_number_99 (by decide) ?_
            refine r_goto C 104 dX12_number_100 (by decide) ?_
            cases hf
            exact r_iret C hF dX12_number_104
          · rw [if_neg c6] at hf
            refine r_iload_n (i := 3) C dX12_number_94 rfl 3 rfl ?_
            refine r_iload_n (i := 2) C dX12_number_95 rfl 2 rfl ?_
            refine r_icmp_le C 103 dX12_number_96 (by decide) (fun c7 => ?_) (fun c7 => ?_)
            · rw [if_pos c7] at hf
              refine r_iload_n (i := 3) C dX12_number_103 rfl 3 rfl ?_
              cases hf
              exact r_iret C hF dX12_number_104
            · rw [if_neg c7] at hf
              refine r_iconst (v := (-1)) C dX12_number_99 (by decide) ?_
              refine r_goto C 104 dX12_number_100 (by decide) ?_
              cases hf
              exact r_iret C hF dX12_number_104
    · rw [if_neg c3] at hf
      refine r_aload_n (i := 0) C dX12_number_17 rfl 0 rfl ?_
      refine g_X12_85 C dX12_number_18 ?_
      refine r_aload_n (i := 0) C dX12_number_21 rfl 0 rfl ?_
      refine g_X12_94 C dX12_number_22 ?_
      refine r_isub C dX12_number_25 ?_
      refine r_iconst (v := 3) C dX12_number_26 (by decide) ?_
      obtain ⟨v8, r10, hf⟩ := cl_of hf
      have k9 : VW X 4 h 0 0 51 [(0, .ref (gad (xG X) 208)), (1, .int y1), (2, .int y2)] [.int v8] := by
        refine r_istore_n (i := 3) (lv' := [(0, .ref (gad (xG X) 208)), (1, .int y1), (2, .int y2), (3, .int v8)]) C dX12_number_51 rfl (by decide) [1, 2, 3, 0] rfl ?_
        refine r_aload_n (i := 0) C dX12_number_52 rfl 0 rfl ?_
        refine r_dup C dX12_number_53 rfl ?_
        refine g_X12_85 C dX12_number_54 ?_
        refine r_iconst (v := 1) C dX12_number_57 (by decide) ?_
        refine r_iadd C dX12_number_58 ?_
        obtain ⟨h13, eh13, hf⟩ := lt_of hf
        refine p_X12_85 C eh13 dX12_number_59 ?_
        refine r_goto C 6 dX12_number_62 (by decide) ?_
        exact r_lv [0, 1, 2, 3] rfl (ih _ _ _ _ hf)
      clear hf
      have hf := r10
      refine r_icmp_ge C 50 dX12_number_27 (by decide) (fun c11 => ?_) (fun c11 => ?_)
      · rw [if_pos c11] at hf
        refine r_iload_n (i := 3) C dX12_number_50 rfl 3 rfl ?_
        cases hf
        exact r_lv [0, 1, 2] rfl k9
      · rw [if_neg c11] at hf
        refine r_bipush (v := 10) C dX12_number_30 (by decide) ?_
        refine r_iload_n (i := 3) C dX12_number_32 rfl 3 rfl ?_
        refine r_imul C dX12_number_33 ?_
        refine r_aload_n (i := 0) C dX12_number_34 rfl 0 rfl ?_
        refine g_X12_29 C dX12_number_35 ?_
        refine r_aload_n (i := 0) C dX12_number_38 rfl 0 rfl ?_
        refine g_X12_85 C dX12_number_39 ?_
        obtain ⟨g12, hf⟩ := gd_of hf
        refine r_bald C 214 rfl (by decide) g12 dX12_number_42 ?_
        refine r_iadd C dX12_number_43 ?_
        refine r_bipush (v := 48) C dX12_number_44 (by decide) ?_
        refine r_isub C dX12_number_46 ?_
        refine r_goto C 51 dX12_number_47 (by decide) ?_
        cases hf
        exact r_lv [0, 1, 2] rfl k9
set_option maxHeartbeats 4000000 in
set_option maxRecDepth 100000 in
theorem kX12_number (G : Gx)  {h : Hp} {a1 : Int32} {a2 : Int32} {rr : Int32} {hh : Hp} (hf : fX12_number h a1 a2 = some (rr, hh)) : MC G yX12_number cX12_number 4 (some .int) 3 192 h [.ref (gad G 208), .int a1, .int a2] (some (.int rr)) hh := by
  refine MC.of RX12 (by decide) rfl (Nat.le_of_ble_eq_true rfl) rfl (fun X C hG hR hF => ?_)
  subst hG
  have hcs : True := trivial
  unfold fX12_number at hf
  refine r_aload_n (i := 0) C dX12_number_0 rfl 0 rfl ?_
  obtain ⟨h14, e15, hf⟩ := cl_of hf
  refine r_callVv (As := []) (st := []) C 208 rfl (by decide) rfl (kX12_blanks (xG X) e15) cw_X12_97 rfl rfl (Nat.le_of_ble_eq_true rfl) (zr2 hR rfl rfl) (zrcs hcs) dX12_number_1 ?_
  refine r_iconst (v := 0) C dX12_number_4 (by decide) ?_
  refine r_istore_n (i := 3) (lv' := [(0, .ref (gad (xG X) 208)), (1, .int a1), (2, .int a2), (3, .int (0 : Int32))]) C dX12_number_5 rfl (by decide) [1, 2, 3, 0] rfl ?_
  exact r_lv [0, 1, 2, 3] rfl ((wX12_number  C hR hcs hF big) _ _ _ _ hf)
def fX12_fault (h : Hp) : Option (Int32 × Hp) := lt9 (up2 h 208 0 (0 : Int32)) (fun h1 => some ((h1 208 14), h1))
set_option maxHeartbeats 4000000 in
set_option maxRecDepth 100000 in
theorem kX12_fault (G : Gx)  {h : Hp}  {rr : Int32} {hh : Hp} (hf : fX12_fault h = some (rr, hh)) : MC G yX12_fault cX12_fault 1 (some .int) 1 64 h [.ref (gad G 208)] (some (.int rr)) hh := by
  refine MC.of RX12 (by decide) rfl (Nat.le_of_ble_eq_true rfl) rfl (fun X C hG hR hF => ?_)
  subst hG
  have hcs : True := trivial
  unfold fX12_fault at hf
  refine r_aload_n (i := 0) C dX12_fault_0 rfl 0 rfl ?_
  refine r_iconst (v := 0) C dX12_fault_1 (by decide) ?_
  obtain ⟨h1, eh1, hf⟩ := lt_of hf
  refine p_X12_3 C eh1 dX12_fault_2 ?_
  refine r_aload_n (i := 0) C dX12_fault_5 rfl 0 rfl ?_
  refine g_X12_33 C dX12_fault_6 ?_
  cases hf
  exact r_iret C hF dX12_fault_9
def fX12_uses (h : Hp) : Option (Hp) := lt9 (up2 h 208 0 (0 : Int32)) (fun h1 => lt9 (up2 h1 208 11 (h1 208 9)) (fun h2 => lt9 (up2 h2 208 9 (0 : Int32)) (fun h3 => lt9 (up2 h3 208 10 (0 : Int32)) (fun h4 => some h4))))
set_option maxHeartbeats 4000000 in
set_option maxRecDepth 100000 in
theorem kX12_uses (G : Gx)  {h : Hp}  {hh : Hp} (hf : fX12_uses h = some hh) : MC G yX12_uses cX12_uses 1 none 1 64 h [.ref (gad G 208)] none hh := by
  refine MC.of RX12 (by decide) rfl (Nat.le_of_ble_eq_true rfl) rfl (fun X C hG hR hF => ?_)
  subst hG
  have hcs : True := trivial
  unfold fX12_uses at hf
  refine r_aload_n (i := 0) C dX12_uses_0 rfl 0 rfl ?_
  refine r_iconst (v := 0) C dX12_uses_1 (by decide) ?_
  obtain ⟨h1, eh1, hf⟩ := lt_of hf
  refine p_X12_3 C eh1 dX12_uses_2 ?_
  refine r_aload_n (i := 0) C dX12_uses_5 rfl 0 rfl ?_
  refine r_aload_n (i := 0) C dX12_uses_6 rfl 0 rfl ?_
  refine g_X12_82 C dX12_uses_7 ?_
  obtain ⟨h2, eh2, hf⟩ := lt_of hf
  refine p_X12_88 C eh2 dX12_uses_10 ?_
  refine r_aload_n (i := 0) C dX12_uses_13 rfl 0 rfl ?_
  refine r_iconst (v := 0) C dX12_uses_14 (by decide) ?_
  obtain ⟨h3, eh3, hf⟩ := lt_of hf
  refine p_X12_82 C eh3 dX12_uses_15 ?_
  refine r_aload_n (i := 0) C dX12_uses_18 rfl 0 rfl ?_
  refine r_iconst (v := 0) C dX12_uses_19 (by decide) ?_
  obtain ⟨h4, eh4, hf⟩ := lt_of hf
  refine p_X12_85 C eh4 dX12_uses_20 ?_
  cases hf
  exact r_vret C hF dX12_uses_23
def fX12_placeTold (h : Hp) : Option (Int32 × Hp) := cl2 (fX12_number h (0 : Int32) (15 : Int32)) (fun x3 h1 => some (x3, h1))
set_option maxHeartbeats 4000000 in
set_option maxRecDepth 100000 in
theorem kX12_placeTold (G : Gx)  {h : Hp}  {rr : Int32} {hh : Hp} (hf : fX12_placeTold h = some (rr, hh)) : MC G yX12_placeTold cX12_placeTold 1 (some .int) 4 256 h [.ref (gad G 208)] (some (.int rr)) hh := by
  refine MC.of RX12 (by decide) rfl (Nat.le_of_ble_eq_true rfl) rfl (fun X C hG hR hF => ?_)
  subst hG
  have hcs : True := trivial
  unfold fX12_placeTold at hf
  refine r_aload_n (i := 0) C dX12_placeTold_0 rfl 0 rfl ?_
  refine r_iconst (v := 0) C dX12_placeTold_1 (by decide) ?_
  refine r_bipush (v := 15) C dX12_placeTold_2 (by decide) ?_
  obtain ⟨x3, h1, e2, hf⟩ := cl2_of hf
  refine r_callVi (As := [.int (0 : Int32), .int (15 : Int32)]) (st := []) C 208 rfl (by decide) rfl (kX12_number (xG X) e2) cw_X12_116 rfl rfl (Nat.le_of_ble_eq_true rfl) (zr2 hR rfl rfl) (zrcs hcs) dX12_placeTold_4 ?_
  cases hf
  exact r_iret C hF dX12_placeTold_7
def fX12_readNumber (h : Hp) (a1 : Int32) (a2 : Int32) (a3 : Int32) : Option (Int32 × Hp) := cl2 (fX12_number h a2 a3) (fun x3 h1 => cl9 ((if (0 : Int32) ≤ x3 then some x3 else gd (inb a1 2031) (some (h1 209 a1.toNatClampNeg))) : Option (Int32)) (fun v4 => gd (inb a1 2031) (lt9 (up2 h1 209 a1.toNatClampNeg v4) (fun h10 => (if x3 < (0 : Int32) then some ((0 : Int32), h10) else some ((1 : Int32), h10))))))
set_option maxHeartbeats 4000000 in
set_option maxRecDepth 100000 in
theorem kX12_readNumber (G : Gx)  {h : Hp} {a1 : Int32} {a2 : Int32} {a3 : Int32} {rr : Int32} {hh : Hp} (hf : fX12_readNumber h a1 a2 a3 = some (rr, hh)) : MC G yX12_readNumber cX12_readNumber 5 (some .boolean) 4 256 h [.ref (gad G 208), .int a1, .int a2, .int a3] (some (.int rr)) hh := by
  refine MC.of RX12 (by decide) rfl (Nat.le_of_ble_eq_true rfl) rfl (fun X C hG hR hF => ?_)
  subst hG
  have hcs : True := trivial
  unfold fX12_readNumber at hf
  refine r_aload_n (i := 0) C dX12_readNumber_0 rfl 0 rfl ?_
  refine r_iload_n (i := 2) C dX12_readNumber_1 rfl 2 rfl ?_
  refine r_iload_n (i := 3) C dX12_readNumber_2 rfl 3 rfl ?_
  obtain ⟨x3, h1, e2, hf⟩ := cl2_of hf
  refine r_callVi (As := [.int a2, .int a3]) (st := []) C 208 rfl (by decide) rfl (kX12_number (xG X) e2) cw_X12_116 rfl rfl (Nat.le_of_ble_eq_true rfl) (zr2 hR rfl rfl) (zrcs hcs) dX12_readNumber_3 ?_
  refine r_istore (i := 4) (lv' := [(0, .ref (gad (xG X) 208)), (1, .int a1), (2, .int a2), (3, .int a3), (4, .int x3)]) C dX12_readNumber_6 (by decide) [1, 2, 3, 4, 0] rfl ?_
  refine r_aload_n (i := 0) C dX12_readNumber_8 rfl 0 rfl ?_
  refine g_X12_13 C dX12_readNumber_9 ?_
  refine r_iload_n (i := 1) C dX12_readNumber_12 rfl 1 rfl ?_
  refine r_iload (i := 4) C dX12_readNumber_13 4 rfl ?_
  obtain ⟨v4, r6, hf⟩ := cl_of hf
  have k5 : VW X 5 h1 0 0 29 [(0, .ref (gad (xG X) 208)), (4, .int x3)] [.int v4, .int a1, .ref (gad (xG X) 209)] := by
    obtain ⟨g9, hf⟩ := gd_of hf
    obtain ⟨h10, eh10, hf⟩ := lt_of hf
    refine r_iast C 209 eh10 rfl (by decide) g9 dX12_readNumber_29 ?_
    refine r_iload (i := 4) C dX12_readNumber_30 1 rfl ?_
    refine r_if_lt C 39 dX12_readNumber_32 (by decide) (fun c11 => ?_) (fun c11 => ?_)
    · rw [if_pos c11] at hf
      refine r_iconst (v := 0) C dX12_readNumber_39 (by decide) ?_
      have zz : (0 : Int32) = 0 ∨ (0 : Int32) = 1 := (Or.inl rfl)
      cases hf
      exact r_zret C zz hF dX12_readNumber_40
    · rw [if_neg c11] at hf
      refine r_iconst (v := 1) C dX12_readNumber_35 (by decide) ?_
      refine r_goto C 40 dX12_readNumber_36 (by decide) ?_
      have zz : (1 : Int32) = 0 ∨ (1 : Int32) = 1 := (Or.inr rfl)
      cases hf
      exact r_zret C zz hF dX12_readNumber_40
  clear hf
  have hf := r6
  refine r_if_ge C 27 dX12_readNumber_15 (by decide) (fun c7 => ?_) (fun c7 => ?_)
  · rw [if_pos c7] at hf
    refine r_iload (i := 4) C dX12_readNumber_27 4 rfl ?_
    cases hf
    exact r_lv [0, 4] rfl k5
  · rw [if_neg c7] at hf
    refine r_aload_n (i := 0) C dX12_readNumber_18 rfl 0 rfl ?_
    refine g_X12_13 C dX12_readNumber_19 ?_
    refine r_iload_n (i := 1) C dX12_readNumber_22 rfl 1 rfl ?_
    obtain ⟨g8, hf⟩ := gd_of hf
    refine r_iald C 209 rfl (by decide) g8 dX12_readNumber_23 ?_
    refine r_goto C 29 dX12_readNumber_24 (by decide) ?_
    cases hf
    exact r_lv [0, 4] rfl k5
def fX12_readBare (h : Hp) : Option (Int32 × Hp) := cl2 (fX12_placeTold h) (fun x3 h1 => cl9 ((if x3 < (0 : Int32) then some h1 else gd (inb (13 : Int32) 2031) (lt9 (up2 h1 209 (13 : Int32).toNatClampNeg ((h1 209 13) ||| ((1 : Int32) <<< (x3 &&& 31)))) (fun h9 => some h9))) : Option (Hp)) (fun h4 => (if x3 < (0 : Int32) then some ((0 : Int32), h4) else some ((1 : Int32), h4))))
set_option maxHeartbeats 4000000 in
set_option maxRecDepth 100000 in
theorem kX12_readBare (G : Gx)  {h : Hp}  {rr : Int32} {hh : Hp} (hf : fX12_readBare h = some (rr, hh)) : MC G yX12_readBare cX12_readBare 2 (some .boolean) 5 320 h [.ref (gad G 208)] (some (.int rr)) hh := by
  refine MC.of RX12 (by decide) rfl (Nat.le_of_ble_eq_true rfl) rfl (fun X C hG hR hF => ?_)
  subst hG
  have hcs : True := trivial
  unfold fX12_readBare at hf
  refine r_aload_n (i := 0) C dX12_readBare_0 rfl 0 rfl ?_
  obtain ⟨x3, h1, e2, hf⟩ := cl2_of hf
  refine r_callVi (As := []) (st := []) C 208 rfl (by decide) rfl (kX12_placeTold (xG X) e2) cw_X12_119 rfl rfl (Nat.le_of_ble_eq_true rfl) (zr2 hR rfl rfl) (zrcs hcs) dX12_readBare_1 ?_
  refine r_istore_n (i := 1) (lv' := [(0, .ref (gad (xG X) 208)), (1, .int x3)]) C dX12_readBare_4 rfl (by decide) [1, 0] rfl ?_
  refine r_iload_n (i := 1) C dX12_readBare_5 rfl 1 rfl ?_
  obtain ⟨h4, r6, hf⟩ := cl_of hf
  have k5 : VW X 2 h4 0 0 22 [(0, .ref (gad (xG X) 208)), (1, .int x3)] [] := by
    refine r_iload_n (i := 1) C dX12_readBare_22 rfl 1 rfl ?_
    refine r_if_lt C 30 dX12_readBare_23 (by decide) (fun c10 => ?_) (fun c10 => ?_)
    · rw [if_pos c10] at hf
      refine r_iconst (v := 0) C dX12_readBare_30 (by decide) ?_
      have zz : (0 : Int32) = 0 ∨ (0 : Int32) = 1 := (Or.inl rfl)
      cases hf
      exact r_zret C zz hF dX12_readBare_31
    · rw [if_neg c10] at hf
      refine r_iconst (v := 1) C dX12_readBare_26 (by decide) ?_
      refine r_goto C 31 dX12_readBare_27 (by decide) ?_
      have zz : (1 : Int32) = 0 ∨ (1 : Int32) = 1 := (Or.inr rfl)
      cases hf
      exact r_zret C zz hF dX12_readBare_31
  clear hf
  have hf := r6
  refine r_if_lt C 22 dX12_readBare_6 (by decide) (fun c7 => ?_) (fun c7 => ?_)
  · rw [if_pos c7] at hf
    cases hf
    exact k5
  · rw [if_neg c7] at hf
    refine r_aload_n (i := 0) C dX12_readBare_9 rfl 0 rfl ?_
    refine g_X12_13 C dX12_readBare_10 ?_
    refine r_bipush (v := 13) C dX12_readBare_13 (by decide) ?_
    refine r_dup2 C dX12_readBare_15 rfl rfl ?_
    refine r_ialdc C 209 (m := 13) rfl (by decide) (by decide) (show inb 13 2031 by decide) dX12_readBare_16 ?_
    refine r_iconst (v := 1) C dX12_readBare_17 (by decide) ?_
    refine r_iload_n (i := 1) C dX12_readBare_18 rfl 1 rfl ?_
    refine r_ishl C dX12_readBare_19 ?_
    refine r_ior C dX12_readBare_20 ?_
    obtain ⟨g8, hf⟩ := gd_of hf
    obtain ⟨h9, eh9, hf⟩ := lt_of hf
    refine r_iast C 209 eh9 rfl (by decide) g8 dX12_readBare_21 ?_
    cases hf
    exact k5
def fX12_emits (h : Hp) (a1 : Int32) (a2 : Int32) : Option (Hp) := gd (inb ((1231 : Int32) + ((2 : Int32) * (h 208 16))) 2031) (lt9 (up2 h 209 ((1231 : Int32) + ((2 : Int32) * (h 208 16))).toNatClampNeg a1) (fun h2 => gd (inb (((1231 : Int32) + ((2 : Int32) * (h2 208 16))) + (1 : Int32)) 2031) (lt9 (up2 h2 209 (((1231 : Int32) + ((2 : Int32) * (h2 208 16))) + (1 : Int32)).toNatClampNeg a2) (fun h4 => lt9 (up2 h4 208 16 ((h4 208 16) + (1 : Int32))) (fun h5 => some h5)))))
set_option maxHeartbeats 4000000 in
set_option maxRecDepth 100000 in
theorem kX12_emits (G : Gx)  {h : Hp} {a1 : Int32} {a2 : Int32} {hh : Hp} (hf : fX12_emits h a1 a2 = some hh) : MC G yX12_emits cX12_emits 3 none 1 64 h [.ref (gad G 208), .int a1, .int a2] none hh := by
  refine MC.of RX12 (by decide) rfl (Nat.le_of_ble_eq_true rfl) rfl (fun X C hG hR hF => ?_)
  subst hG
  have hcs : True := trivial
  unfold fX12_emits at hf
  refine r_aload_n (i := 0) C dX12_emits_0 rfl 0 rfl ?_
  refine g_X12_13 C dX12_emits_1 ?_
  refine r_sipush (v := 1231) C dX12_emits_4 (by decide) ?_
  refine r_iconst (v := 2) C dX12_emits_7 (by decide) ?_
  refine r_aload_n (i := 0) C dX12_emits_8 rfl 0 rfl ?_
  refine g_X12_177 C dX12_emits_9 ?_
  refine r_imul C dX12_emits_12 ?_
  refine r_iadd C dX12_emits_13 ?_
  refine r_iload_n (i := 1) C dX12_emits_14 rfl 1 rfl ?_
  obtain ⟨g1, hf⟩ := gd_of hf
  obtain ⟨h2, eh2, hf⟩ := lt_of hf
  refine r_iast C 209 eh2 rfl (by decide) g1 dX12_emits_15 ?_
  refine r_aload_n (i := 0) C dX12_emits_16 rfl 0 rfl ?_
  refine g_X12_13 C dX12_emits_17 ?_
  refine r_sipush (v := 1231) C dX12_emits_20 (by decide) ?_
  refine r_iconst (v := 2) C dX12_emits_23 (by decide) ?_
  refine r_aload_n (i := 0) C dX12_emits_24 rfl 0 rfl ?_
  refine g_X12_177 C dX12_emits_25 ?_
  refine r_imul C dX12_emits_28 ?_
  refine r_iadd C dX12_emits_29 ?_
  refine r_iconst (v := 1) C dX12_emits_30 (by decide) ?_
  refine r_iadd C dX12_emits_31 ?_
  refine r_iload_n (i := 2) C dX12_emits_32 rfl 2 rfl ?_
  obtain ⟨g3, hf⟩ := gd_of hf
  obtain ⟨h4, eh4, hf⟩ := lt_of hf
  refine r_iast C 209 eh4 rfl (by decide) g3 dX12_emits_33 ?_
  refine r_aload_n (i := 0) C dX12_emits_34 rfl 0 rfl ?_
  refine r_dup C dX12_emits_35 rfl ?_
  refine g_X12_177 C dX12_emits_36 ?_
  refine r_iconst (v := 1) C dX12_emits_39 (by decide) ?_
  refine r_iadd C dX12_emits_40 ?_
  obtain ⟨h5, eh5, hf⟩ := lt_of hf
  refine p_X12_177 C eh5 dX12_emits_41 ?_
  cases hf
  exact r_vret C hF dX12_emits_44
def BX12_gapOf_0 (h : Hp) (rec : Int32 → Int32 → Int32 → Option (Int32)) (y1 : Int32) (y2 : Int32) (y3 : Int32) : Option (Int32) := (if (16 : Int32) ≤ y3 then some y2 else cl9 ((if y3 = y1 then some false else (if (fX12_has (h 208 18) y3) = (0 : Int32) then some false else some true)) : Option Bool) (fun q2 => if q2 = true then lt9 (jmin y2 (jabs (y1 - y3))) (fun x8 => lt9 (y3 + (1 : Int32)) (fun x9 => rec y1 x8 x9)) else lt9 (y3 + (1 : Int32)) (fun x10 => rec y1 y2 x10)))
def LX12_gapOf (h : Hp) : Nat → Int32 → Int32 → Int32 → Option (Int32)
  | 0, _, _, _ => none
  | n + 1, y1, y2, y3 => BX12_gapOf_0 h (LX12_gapOf h n) y1 y2 y3
def fX12_gapOf (h : Hp) (a1 : Int32) : Option (Int32) := LX12_gapOf h big a1 (16 : Int32) (0 : Int32)
set_option maxHeartbeats 4000000 in
set_option maxRecDepth 100000 in
theorem wX12_gapOf {X : Cx} {h : Hp}  (C : OK X cX12_gapOf 4 RX12 (some .int)) (hR : xR X = { frames := 3, cells := 0, slots := 0, locals := 192 }) (hcs : True) {rr : Int32} (hF : FinR X (some (.int rr)) h) : ∀ n : Nat, (∀ (y1 : Int32) (y2 : Int32) (y3 : Int32), LX12_gapOf h n y1 y2 y3 = some rr → VW X 4 h 0 0 5 [(0, .ref (gad (xG X) 208)), (1, .int y1), (2, .int y2), (3, .int y3)] []) := by
  intro n
  induction n with
  | zero => exact (fun _ _ _ hf => (by rw [LX12_gapOf] at hf; cases hf))
  | succ n ih =>
    intro y1 y2 y3 hf
    rw [LX12_gapOf] at hf
    unfold BX12_gapOf_0 at hf
    refine r_iload_n (i := 3) C dX12_gapOf_5 rfl 3 rfl ?_
    refine r_bipush (v := 16) C dX12_gapOf_6 (by decide) ?_
    refine r_icmp_ge C 48 dX12_gapOf_8 (by decide) (fun c1 => ?_) (fun c1 => ?_)
    · rw [if_pos c1] at hf
      refine r_iload_n (i := 2) C dX12_gapOf_48 rfl 2 rfl ?_
      cases hf
      exact r_iret C hF dX12_gapOf_49
    · rw [if_neg c1] at hf
      refine r_iload_n (i := 3) C dX12_gapOf_11 rfl 3 rfl ?_
      refine r_iload_n (i := 1) C dX12_gapOf_12 rfl 1 rfl ?_
      obtain ⟨q2, r5, hf⟩ := cl_of hf
      have k3 : q2 = true → VW X 4 h 0 0 27 [(0, .ref (gad (xG X) 208)), (1, .int y1), (2, .int y2), (3, .int y3)] [] := fun qq => by
        rw [if_pos qq] at hf
        refine r_iload_n (i := 2) C dX12_gapOf_27 rfl 2 rfl ?_
        refine r_iload_n (i := 1) C dX12_gapOf_28 rfl 1 rfl ?_
        refine r_iload_n (i := 3) C dX12_gapOf_29 rfl 3 rfl ?_
        refine r_isub C dX12_gapOf_30 ?_
        refine r_mabs9 C gw_1796 gm_abs_s gm_i gm_abs_c (zr1 hR rfl) (zr0 hR (Nat.le_of_ble_eq_true rfl)) (zrcs hcs) dX12_gapOf_31 ?_
        refine r_mmin9 C gw_1797 gm_min_s gm_i gm_min_c (zr1 hR rfl) (zr0 hR (Nat.le_of_ble_eq_true rfl)) (zrcs hcs) dX12_gapOf_34 ?_
        refine r_goto C 41 dX12_gapOf_37 (by decide) ?_
        obtain ⟨x8, ex8, hf⟩ := lt_of hf
        refine r_top ex8 ?_
        refine r_istore_n (i := 2) (lv' := [(0, .ref (gad (xG X) 208)), (1, .int y1), (2, .int x8), (3, .int y3)]) C dX12_gapOf_41 rfl (by decide) [1, 2, 0, 3] rfl ?_
        obtain ⟨x9, ex9, hf⟩ := lt_of hf
        refine r_iinc (j := 3) (v := x9) (lv' := [(0, .ref (gad (xG X) 208)), (1, .int y1), (2, .int x8), (3, .int x9)]) C dX12_gapOf_42 rfl (by rw [ex9]; rfl) (by decide) [1, 2, 3, 0] rfl ?_
        refine r_goto C 5 dX12_gapOf_45 (by decide) ?_
        exact r_lv [0, 1, 2, 3] rfl (ih _ _ _ hf)
      have k4 : q2 = false → VW X 4 h 0 0 40 [(0, .ref (gad (xG X) 208)), (1, .int y1), (2, .int y2), (3, .int y3)] [] := fun qq => by
        rw [if_neg (by rw [qq]; decide)] at hf
        refine r_iload_n (i := 2) C dX12_gapOf_40 rfl 2 rfl ?_
        refine r_istore_n (i := 2) (lv' := [(0, .ref (gad (xG X) 208)), (1, .int y1), (2, .int y2), (3, .int y3)]) C dX12_gapOf_41 rfl (by decide) [1, 2, 0, 3] rfl ?_
        obtain ⟨x10, ex10, hf⟩ := lt_of hf
        refine r_iinc (j := 3) (v := x10) (lv' := [(0, .ref (gad (xG X) 208)), (1, .int y1), (2, .int y2), (3, .int x10)]) C dX12_gapOf_42 rfl (by rw [ex10]; rfl) (by decide) [1, 2, 3, 0] rfl ?_
        refine r_goto C 5 dX12_gapOf_45 (by decide) ?_
        exact r_lv [0, 1, 2, 3] rfl (ih _ _ _ hf)
      clear hf
      have hf := r5
      refine r_icmp_eq C 40 dX12_gapOf_13 (by decide) (fun c6 => ?_) (fun c6 => ?_)
      · rw [if_pos c6] at hf
        exact k4 (Option.some.inj hf).symm
      · rw [if_neg c6] at hf
        refine r_aload_n (i := 0) C dX12_gapOf_16 rfl 0 rfl ?_
        refine g_X12_250 C dX12_gapOf_17 ?_
        refine r_iload_n (i := 3) C dX12_gapOf_20 rfl 3 rfl ?_
        refine r_callSi (As := [.int (h 208 18), .int y3]) (st := []) C (kX12_has (xG X)) cw_X12_69 rfl rfl (Nat.le_of_ble_eq_true rfl) (zr2 hR rfl rfl) (zrcs hcs) dX12_gapOf_21 ?_
        refine r_if_eq C 40 dX12_gapOf_24 (by decide) (fun c7 => ?_) (fun c7 => ?_)
        · rw [if_pos c7] at hf
          exact k4 (Option.some.inj hf).symm
        · rw [if_neg c7] at hf
          exact k3 (Option.some.inj hf).symm
set_option maxHeartbeats 4000000 in
set_option maxRecDepth 100000 in
theorem kX12_gapOf (G : Gx)  {h : Hp} {a1 : Int32} {rr : Int32} (hf : fX12_gapOf h a1 = some rr) : MC G yX12_gapOf cX12_gapOf 4 (some .int) 3 192 h [.ref (gad G 208), .int a1] (some (.int rr)) h := by
  refine MC.of RX12 (by decide) rfl (Nat.le_of_ble_eq_true rfl) rfl (fun X C hG hR hF => ?_)
  subst hG
  have hcs : True := trivial
  unfold fX12_gapOf at hf
  refine r_bipush (v := 16) C dX12_gapOf_0 (by decide) ?_
  refine r_istore_n (i := 2) (lv' := [(0, .ref (gad (xG X) 208)), (1, .int a1), (2, .int (16 : Int32))]) C dX12_gapOf_2 rfl (by decide) [1, 2, 0] rfl ?_
  refine r_iconst (v := 0) C dX12_gapOf_3 (by decide) ?_
  refine r_istore_n (i := 3) (lv' := [(0, .ref (gad (xG X) 208)), (1, .int a1), (2, .int (16 : Int32)), (3, .int (0 : Int32))]) C dX12_gapOf_4 rfl (by decide) [1, 2, 3, 0] rfl ?_
  exact r_lv [0, 1, 2, 3] rfl ((wX12_gapOf  C hR hcs hF big) _ _ _ hf)
def fX12_rustOf (h : Hp) (a1 : Int32) : Option (Int32) := cl9 ((if (fX12_hasPin h a1) = (0 : Int32) then some false else (if (fX12_has (h 208 18) a1) = (0 : Int32) then some false else some true)) : Option Bool) (fun q1 => if q1 = true then gd (inb ((62 : Int32) + a1) 2031) (some (h 209 ((62 : Int32) + a1).toNatClampNeg)) else some (0 : Int32))
set_option maxHeartbeats 4000000 in
set_option maxRecDepth 100000 in
theorem kX12_rustOf (G : Gx)  {h : Hp} {a1 : Int32} {rr : Int32} (hf : fX12_rustOf h a1 = some rr) : MC G yX12_rustOf cX12_rustOf 2 (some .int) 3 192 h [.ref (gad G 208), .int a1] (some (.int rr)) h := by
  refine MC.of RX12 (by decide) rfl (Nat.le_of_ble_eq_true rfl) rfl (fun X C hG hR hF => ?_)
  subst hG
  have hcs : True := trivial
  unfold fX12_rustOf at hf
  refine r_aload_n (i := 0) C dX12_rustOf_0 rfl 0 rfl ?_
  refine r_iload_n (i := 1) C dX12_rustOf_1 rfl 1 rfl ?_
  refine r_callVi (As := [.int a1]) (st := []) C 208 rfl (by decide) rfl (kX12_hasPin (xG X)) cw_X12_122 rfl rfl (Nat.le_of_ble_eq_true rfl) (zr2 hR rfl rfl) (zrcs hcs) dX12_rustOf_2 ?_
  obtain ⟨q1, r4, hf⟩ := cl_of hf
  have k2 : q1 = true → VW X 2 h 0 0 19 [(0, .ref (gad (xG X) 208)), (1, .int a1)] [] := fun qq => by
    rw [if_pos qq] at hf
    refine r_aload_n (i := 0) C dX12_rustOf_19 rfl 0 rfl ?_
    refine g_X12_13 C dX12_rustOf_20 ?_
    refine r_bipush (v := 62) C dX12_rustOf_23 (by decide) ?_
    refine r_iload_n (i := 1) C dX12_rustOf_25 rfl 1 rfl ?_
    refine r_iadd C dX12_rustOf_26 ?_
    obtain ⟨g7, hf⟩ := gd_of hf
    refine r_iald C 209 rfl (by decide) g7 dX12_rustOf_27 ?_
    refine r_goto C 32 dX12_rustOf_28 (by decide) ?_
    cases hf
    exact r_iret C hF dX12_rustOf_32
  have k3 : q1 = false → VW X 2 h 0 0 31 [(0, .ref (gad (xG X) 208)), (1, .int a1)] [] := fun qq => by
    rw [if_neg (by rw [qq]; decide)] at hf
    refine r_iconst (v := 0) C dX12_rustOf_31 (by decide) ?_
    cases hf
    exact r_iret C hF dX12_rustOf_32
  clear hf
  have hf := r4
  refine r_if_eq C 31 dX12_rustOf_5 (by decide) (fun c5 => ?_) (fun c5 => ?_)
  · rw [if_pos c5] at hf
    exact k3 (Option.some.inj hf).symm
  · rw [if_neg c5] at hf
    refine r_aload_n (i := 0) C dX12_rustOf_8 rfl 0 rfl ?_
    refine g_X12_250 C dX12_rustOf_9 ?_
    refine r_iload_n (i := 1) C dX12_rustOf_12 rfl 1 rfl ?_
    refine r_callSi (As := [.int (h 208 18), .int a1]) (st := []) C (kX12_has (xG X)) cw_X12_69 rfl rfl (Nat.le_of_ble_eq_true rfl) (zr2 hR rfl rfl) (zrcs hcs) dX12_rustOf_13 ?_
    refine r_if_eq C 31 dX12_rustOf_16 (by decide) (fun c6 => ?_) (fun c6 => ?_)
    · rw [if_pos c6] at hf
      exact k3 (Option.some.inj hf).symm
    · rw [if_neg c6] at hf
      exact k2 (Option.some.inj hf).symm
def fX12_factOf (h : Hp) (a1 : Int32) (a2 : Int32) (a3 : Int32) : Option (Int32) := (if a1 = (0 : Int32) then some a3 else (if a1 = (1 : Int32) then gd (inb ((46 : Int32) + a3) 2031) (some (h 209 ((46 : Int32) + a3).toNatClampNeg)) else (if a1 = (2 : Int32) then cl9 (fX12_rustOf h a3) (fun x5 => some x5) else (if a1 = (3 : Int32) then gd (inb ((14 : Int32) + a3) 2031) (some (h 209 ((14 : Int32) + a3).toNatClampNeg)) else (if a1 = (4 : Int32) then cl9 (fX12_gapOf h a3) (fun x10 => some x10) else (if a1 = (5 : Int32) then some (h 209 3) else (if a1 = (6 : Int32) then (if (fX12_has (h 208 18) a3) = (0 : Int32) then some (0 : Int32) else some (1 : Int32)) else (if a1 = (7 : Int32) then (if (fX12_hasLadder h a3) = (0 : Int32) then some (0 : Int32) else some (1 : Int32)) else some a2))))))))
set_option maxHeartbeats 4000000 in
set_option maxRecDepth 100000 in
theorem kX12_factOf (G : Gx)  {h : Hp} {a1 : Int32} {a2 : Int32} {a3 : Int32} {rr : Int32} (hf : fX12_factOf h a1 a2 a3 = some rr) : MC G yX12_factOf cX12_factOf 4 (some .int) 4 256 h [.ref (gad G 208), .int a1, .int a2, .int a3] (some (.int rr)) h := by
  refine MC.of RX12 (by decide) rfl (Nat.le_of_ble_eq_true rfl) rfl (fun X C hG hR hF => ?_)
  subst hG
  have hcs : True := trivial
  unfold fX12_factOf at hf
  refine r_iload_n (i := 1) C dX12_factOf_0 rfl 1 rfl ?_
  by_cases c1 : a1 = (0 : Int32)
  · rw [if_pos c1] at hf
    refine r_tableIn C 48 dX12_factOf_1 (by rw [c1] <;> decide) (by rw [c1] <;> decide) (by rw [c1] <;> rfl) (by decide) ?_
    refine r_iload_n (i := 3) C dX12_factOf_48 rfl 3 rfl ?_
    cases hf
    exact r_iret C hF dX12_factOf_49
  · rw [if_neg c1] at hf
    by_cases c2 : a1 = (1 : Int32)
    · rw [if_pos c2] at hf
      refine r_tableIn C 50 dX12_factOf_1 (by rw [c2] <;> decide) (by rw [c2] <;> decide) (by rw [c2] <;> rfl) (by decide) ?_
      refine r_aload_n (i := 0) C dX12_factOf_50 rfl 0 rfl ?_
      refine g_X12_13 C dX12_factOf_51 ?_
      refine r_bipush (v := 46) C dX12_factOf_54 (by decide) ?_
      refine r_iload_n (i := 3) C dX12_factOf_56 rfl 3 rfl ?_
      refine r_iadd C dX12_factOf_57 ?_
      obtain ⟨g3, hf⟩ := gd_of hf
      refine r_iald C 209 rfl (by decide) g3 dX12_factOf_58 ?_
      cases hf
      exact r_iret C hF dX12_factOf_59
    · rw [if_neg c2] at hf
      by_cases c4 : a1 = (2 : Int32)
      · rw [if_pos c4] at hf
        refine r_tableIn C 60 dX12_factOf_1 (by rw [c4] <;> decide) (by rw [c4] <;> decide) (by rw [c4] <;> rfl) (by decide) ?_
        refine r_aload_n (i := 0) C dX12_factOf_60 rfl 0 rfl ?_
        refine r_iload_n (i := 3) C dX12_factOf_61 rfl 3 rfl ?_
        obtain ⟨x5, e6, hf⟩ := cl_of hf
        refine r_callVi (As := [.int a3]) (st := []) C 208 rfl (by decide) rfl (kX12_rustOf (xG X) e6) cw_X12_262 rfl rfl (Nat.le_of_ble_eq_true rfl) (zr2 hR rfl rfl) (zrcs hcs) dX12_factOf_62 ?_
        cases hf
        exact r_iret C hF dX12_factOf_65
      · rw [if_neg c4] at hf
        by_cases c7 : a1 = (3 : Int32)
        · rw [if_pos c7] at hf
          refine r_tableIn C 66 dX12_factOf_1 (by rw [c7] <;> decide) (by rw [c7] <;> decide) (by rw [c7] <;> rfl) (by decide) ?_
          refine r_aload_n (i := 0) C dX12_factOf_66 rfl 0 rfl ?_
          refine g_X12_13 C dX12_factOf_67 ?_
          refine r_bipush (v := 14) C dX12_factOf_70 (by decide) ?_
          refine r_iload_n (i := 3) C dX12_factOf_72 rfl 3 rfl ?_
          refine r_iadd C dX12_factOf_73 ?_
          obtain ⟨g8, hf⟩ := gd_of hf
          refine r_iald C 209 rfl (by decide) g8 dX12_factOf_74 ?_
          cases hf
          exact r_iret C hF dX12_factOf_75
        · rw [if_neg c7] at hf
          by_cases c9 : a1 = (4 : Int32)
          · rw [if_pos c9] at hf
            refine r_tableIn C 76 dX12_factOf_1 (by rw [c9] <;> decide) (by rw [c9] <;> decide) (by rw [c9] <;> rfl) (by decide) ?_
            refine r_aload_n (i := 0) C dX12_factOf_76 rfl 0 rfl ?_
            refine r_iload_n (i := 3) C dX12_factOf_77 rfl 3 rfl ?_
            obtain ⟨x10, e11, hf⟩ := cl_of hf
            refine r_callVi (As := [.int a3]) (st := []) C 208 rfl (by decide) rfl (kX12_gapOf (xG X) e11) cw_X12_265 rfl rfl (Nat.le_of_ble_eq_true rfl) (zr2 hR rfl rfl) (zrcs hcs) dX12_factOf_78 ?_
            cases hf
            exact r_iret C hF dX12_factOf_81
          · rw [if_neg c9] at hf
            by_cases c12 : a1 = (5 : Int32)
            · rw [if_pos c12] at hf
              refine r_tableIn C 82 dX12_factOf_1 (by rw [c12] <;> decide) (by rw [c12] <;> decide) (by rw [c12] <;> rfl) (by decide) ?_
              refine r_aload_n (i := 0) C dX12_factOf_82 rfl 0 rfl ?_
              refine g_X12_13 C dX12_factOf_83 ?_
              refine r_iconst (v := 3) C dX12_factOf_86 (by decide) ?_
              refine r_ialdc C 209 (m := 3) rfl (by decide) (by decide) (show inb 3 2031 by decide) dX12_factOf_87 ?_
              cases hf
              exact r_iret C hF dX12_factOf_88
            · rw [if_neg c12] at hf
              by_cases c13 : a1 = (6 : Int32)
              · rw [if_pos c13] at hf
                refine r_tableIn C 89 dX12_factOf_1 (by rw [c13] <;> decide) (by rw [c13] <;> decide) (by rw [c13] <;> rfl) (by decide) ?_
                refine r_aload_n (i := 0) C dX12_factOf_89 rfl 0 rfl ?_
                refine g_X12_250 C dX12_factOf_90 ?_
                refine r_iload_n (i := 3) C dX12_factOf_93 rfl 3 rfl ?_
                refine r_callSi (As := [.int (h 208 18), .int a3]) (st := []) C (kX12_has (xG X)) cw_X12_69 rfl rfl (Nat.le_of_ble_eq_true rfl) (zr2 hR rfl rfl) (zrcs hcs) dX12_factOf_94 ?_
                refine r_if_eq C 104 dX12_factOf_97 (by decide) (fun c14 => ?_) (fun c14 => ?_)
                · rw [if_pos c14] at hf
                  refine r_iconst (v := 0) C dX12_factOf_104 (by decide) ?_
                  cases hf
                  exact r_iret C hF dX12_factOf_105
                · rw [if_neg c14] at hf
                  refine r_iconst (v := 1) C dX12_factOf_100 (by decide) ?_
                  refine r_goto C 105 dX12_factOf_101 (by decide) ?_
                  cases hf
                  exact r_iret C hF dX12_factOf_105
              · rw [if_neg c13] at hf
                by_cases c15 : a1 = (7 : Int32)
                · rw [if_pos c15] at hf
                  refine r_tableIn C 106 dX12_factOf_1 (by rw [c15] <;> decide) (by rw [c15] <;> decide) (by rw [c15] <;> rfl) (by decide) ?_
                  refine r_aload_n (i := 0) C dX12_factOf_106 rfl 0 rfl ?_
                  refine r_iload_n (i := 3) C dX12_factOf_107 rfl 3 rfl ?_
                  refine r_callVi (As := [.int a3]) (st := []) C 208 rfl (by decide) rfl (kX12_hasLadder (xG X)) cw_X12_268 rfl rfl (Nat.le_of_ble_eq_true rfl) (zr2 hR rfl rfl) (zrcs hcs) dX12_factOf_108 ?_
                  refine r_if_eq C 118 dX12_factOf_111 (by decide) (fun c16 => ?_) (fun c16 => ?_)
                  · rw [if_pos c16] at hf
                    refine r_iconst (v := 0) C dX12_factOf_118 (by decide) ?_
                    cases hf
                    exact r_iret C hF dX12_factOf_119
                  · rw [if_neg c16] at hf
                    refine r_iconst (v := 1) C dX12_factOf_114 (by decide) ?_
                    refine r_goto C 119 dX12_factOf_115 (by decide) ?_
                    cases hf
                    exact r_iret C hF dX12_factOf_119
                · rw [if_neg c15] at hf
                  refine r_tableOut C 120 dX12_factOf_1 (sw_out2 (0) (7) 8 (by decide) ?_ (by decide) (by decide)) (by decide) ?_
                  · intro k9 h9
                    match k9, h9 with
                    | 0, _ => exact fun e9 => c1 (e9.trans (by decide))
                    | 1, _ => exact fun e9 => c2 (e9.trans (by decide))
                    | 2, _ => exact fun e9 => c4 (e9.trans (by decide))
                    | 3, _ => exact fun e9 => c7 (e9.trans (by decide))
                    | 4, _ => exact fun e9 => c9 (e9.trans (by decide))
                    | 5, _ => exact fun e9 => c12 (e9.trans (by decide))
                    | 6, _ => exact fun e9 => c13 (e9.trans (by decide))
                    | 7, _ => exact fun e9 => c15 (e9.trans (by decide))
                    | k9 + 8, h9 => exact absurd h9 (by omega)
                  refine r_iload_n (i := 2) C dX12_factOf_120 rfl 2 rfl ?_
                  cases hf
                  exact r_iret C hF dX12_factOf_121

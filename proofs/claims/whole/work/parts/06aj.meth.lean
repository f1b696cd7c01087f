def fX5_takeBack (h : Hp) (b : Nat) : Option (Int32 × Hp) := (if (h 18 1) = (0 : Int32) then some ((0 : Int32), h) else lt9 (up2 h 18 2 (irem (((h 18 2) + (12 : Int32)) - (1 : Int32)) (12 : Int32))) (fun h2 => lt9 (up2 h2 18 1 ((h2 18 1) - (1 : Int32))) (fun h3 => gd (inb (h3 18 2) 12) (cl9 (fX7_become h3 b (76 + 11 * (h3 18 2).toNatClampNeg)) (fun h5 => some ((1 : Int32), h5))))))
set_option maxHeartbeats 4000000 in
set_option maxRecDepth 100000 in
theorem kX5_takeBack (G : Gx) {b : Nat} (hb : isSky b) {h : Hp}  {rr : Int32} {hh : Hp} (hf : fX5_takeBack h b = some (rr, hh)) : MC G yX5_takeBack cX5_takeBack 2 (some .boolean) 5 320 h [.ref (gad G 18), .ref (gad G b)] (some (.int rr)) hh := by
  refine MC.of RX5 (by decide) rfl (Nat.le_of_ble_eq_true rfl) rfl (fun X C hG hR hF => ?_)
  subst hG
  have hcs : True := trivial
  unfold fX5_takeBack at hf
  refine r_aload_n (i := 0) C dX5_takeBack_0 rfl 0 rfl ?_
  refine g_X5_24 C dX5_takeBack_1 ?_
  refine r_if_ne C 9 dX5_takeBack_4 (by decide) (fun c1 => ?_) (fun c1 => ?_)
  · rw [if_neg c1] at hf
    refine r_aload_n (i := 0) C dX5_takeBack_9 rfl 0 rfl ?_
    refine r_aload_n (i := 0) C dX5_takeBack_10 rfl 0 rfl ?_
    refine g_X5_16 C dX5_takeBack_11 ?_
    refine r_bipush (v := 12) C dX5_takeBack_14 (by decide) ?_
    refine r_iadd C dX5_takeBack_16 ?_
    refine r_iconst (v := 1) C dX5_takeBack_17 (by decide) ?_
    refine r_isub C dX5_takeBack_18 ?_
    refine r_bipush (v := 12) C dX5_takeBack_19 (by decide) ?_
    refine r_irem C dX5_takeBack_21 (by decide) ?_
    obtain ⟨h2, eh2, hf⟩ := lt_of hf
    refine p_X5_16 C eh2 dX5_takeBack_22 ?_
    refine r_aload_n (i := 0) C dX5_takeBack_25 rfl 0 rfl ?_
    refine r_dup C dX5_takeBack_26 rfl ?_
    refine g_X5_24 C dX5_takeBack_27 ?_
    refine r_iconst (v := 1) C dX5_takeBack_30 (by decide) ?_
    refine r_isub C dX5_takeBack_31 ?_
    obtain ⟨h3, eh3, hf⟩ := lt_of hf
    refine p_X5_24 C eh3 dX5_takeBack_32 ?_
    refine r_aload_n (i := 1) C dX5_takeBack_35 rfl 1 rfl ?_
    refine r_aload_n (i := 0) C dX5_takeBack_36 rfl 0 rfl ?_
    refine g_X5_11 C dX5_takeBack_37 ?_
    refine r_aload_n (i := 0) C dX5_takeBack_40 rfl 0 rfl ?_
    refine g_X5_16 C dX5_takeBack_41 ?_
    obtain ⟨g4, hf⟩ := gd_of hf
    refine r_aald C 19 rfl (by decide) g4 (sk_at g4) dX5_takeBack_44 ?_
    obtain ⟨h5, e6, hf⟩ := cl_of hf
    refine r_callNVv (As := [.ref (gad (xG X) (76 + 11 * (h3 18 2).toNatClampNeg))]) (st := []) C b (sky_d0 hb) (sky_l0 hb) rfl (kX7_become (xG X) hb (sk_past g4) e6) cw_X5_20 rfl rfl (Nat.le_of_ble_eq_true rfl) (zr2 hR rfl rfl) (zrcs hcs) dX5_takeBack_45 ?_
    refine r_iconst (v := 1) C dX5_takeBack_48 (by decide) ?_
    have zz : (1 : Int32) = 0 ∨ (1 : Int32) = 1 := (Or.inr rfl)
    cases hf
    exact r_zret C zz hF dX5_takeBack_49
  · rw [if_pos c1] at hf
    refine r_iconst (v := 0) C dX5_takeBack_7 (by decide) ?_
    have zz : (0 : Int32) = 0 ∨ (0 : Int32) = 1 := (Or.inl rfl)
    cases hf
    exact r_zret C zz hF dX5_takeBack_8
def BX6_take_0 (b : Nat) (rec : Hp → Int32 → Option (Int32 × Hp)) (h : Hp) (y3 : Int32) : Option (Int32 × Hp) := (if (h (b + 5) 0) ≤ y3 then some ((1 : Int32), h) else cl9 (fX9_byteAt h y3) (fun x2 => gd (inb y3 5) (lt9 (up2 h 21 y3.toNatClampNeg x2) (fun h5 => gd (inb y3 5) ((if (h5 21 y3.toNatClampNeg) ≤ (15 : Int32) then lt9 (y3 + (1 : Int32)) (fun x8 => rec h5 x8) else some ((0 : Int32), h5)))))))
def LX6_take (b : Nat) : Nat → Hp → Int32 → Option (Int32 × Hp)
  | 0, _, _ => none
  | n + 1, h, y3 => BX6_take_0 b (LX6_take b n) h y3
def fX6_take (h : Hp) (b : Nat) : Option (Int32 × Hp) := (if (h 1 2) = (h (b + 5) 0) then LX6_take b big h (0 : Int32) else some ((0 : Int32), h))
set_option maxHeartbeats 4000000 in
set_option maxRecDepth 100000 in
theorem wX6_take {X : Cx} {b : Nat} (hb : isSky b) {rr : Int32} {hh : Hp} (C : OK X cX6_take 4 RX6 (some .boolean)) (hR : xR X = { frames := 2, cells := 0, slots := 0, locals := 128 }) (hcs : True) (hF : FinR X (some (.int rr)) hh) : ∀ n : Nat, (∀ (h : Hp) (y3 : Int32), LX6_take b n h y3 = some (rr, hh) → VW X 4 h 0 0 15 [(0, .ref (gad (xG X) 20)), (1, .ref (gad (xG X) 1)), (2, .ref (gad (xG X) (b + 5))), (3, .int y3)] []) := by
  intro n
  induction n with
  | zero => exact (fun _ _ hf => (by rw [LX6_take] at hf; cases hf))
  | succ n ih =>
    intro h y3 hf
    rw [LX6_take] at hf
    unfold BX6_take_0 at hf
    refine r_iload_n (i := 3) C dX6_take_15 rfl 3 rfl ?_
    refine r_aload_n (i := 2) C dX6_take_16 rfl 2 rfl ?_
    refine g_X6_29 hb C dX6_take_17 ?_
    refine r_icmp_ge C 53 dX6_take_20 (by decide) (fun c1 => ?_) (fun c1 => ?_)
    · rw [if_pos c1] at hf
      refine r_iconst (v := 1) C dX6_take_53 (by decide) ?_
      have zz : (1 : Int32) = 0 ∨ (1 : Int32) = 1 := (Or.inr rfl)
      cases hf
      exact r_zret C zz hF dX6_take_54
    · rw [if_neg c1] at hf
      refine r_aload_n (i := 0) C dX6_take_23 rfl 0 rfl ?_
      refine g_X6_11 C dX6_take_24 ?_
      refine r_iload_n (i := 3) C dX6_take_27 rfl 3 rfl ?_
      refine r_aload_n (i := 1) C dX6_take_28 rfl 1 rfl ?_
      refine r_iload_n (i := 3) C dX6_take_29 rfl 3 rfl ?_
      obtain ⟨x2, e3, hf⟩ := cl_of hf
      refine r_callNVi (As := [.int y3]) (st := [.int y3, .ref (gad (xG X) 21)]) C 1 rfl (by decide) rfl (kX9_byteAt (xG X) e3) cw_X6_32 rfl rfl (Nat.le_of_ble_eq_true rfl) (zr2 hR rfl rfl) (zrcs hcs) dX6_take_30 ?_
      obtain ⟨g4, hf⟩ := gd_of hf
      obtain ⟨h5, eh5, hf⟩ := lt_of hf
      refine r_iast C 21 eh5 rfl (by decide) g4 dX6_take_33 ?_
      refine r_aload_n (i := 0) C dX6_take_34 rfl 0 rfl ?_
      refine g_X6_11 C dX6_take_35 ?_
      refine r_iload_n (i := 3) C dX6_take_38 rfl 3 rfl ?_
      obtain ⟨g6, hf⟩ := gd_of hf
      refine r_iald C 21 rfl (by decide) g6 dX6_take_39 ?_
      refine r_bipush (v := 15) C dX6_take_40 (by decide) ?_
      refine r_icmp_le C 47 dX6_take_42 (by decide) (fun c7 => ?_) (fun c7 => ?_)
      · rw [if_pos c7] at hf
        obtain ⟨x8, ex8, hf⟩ := lt_of hf
        refine r_iinc (j := 3) (v := x8) (lv' := [(0, .ref (gad (xG X) 20)), (1, .ref (gad (xG X) 1)), (2, .ref (gad (xG X) (b + 5))), (3, .int x8)]) C dX6_take_47 rfl (by rw [ex8]; rfl) (by decide) [1, 2, 3, 0] rfl ?_
        refine r_goto C 15 dX6_take_50 (by decide) ?_
        exact r_lv [0, 1, 2, 3] rfl (ih _ _ hf)
      · rw [if_neg c7] at hf
        refine r_iconst (v := 0) C dX6_take_45 (by decide) ?_
        have zz : (0 : Int32) = 0 ∨ (0 : Int32) = 1 := (Or.inl rfl)
        cases hf
        exact r_zret C zz hF dX6_take_46
set_option maxHeartbeats 4000000 in
set_option maxRecDepth 100000 in
theorem kX6_take (G : Gx) {b : Nat} (hb : isSky b) {h : Hp}  {rr : Int32} {hh : Hp} (hf : fX6_take h b = some (rr, hh)) : MC G yX6_take cX6_take 4 (some .boolean) 2 128 h [.ref (gad G 20), .ref (gad G 1), .ref (gad G (b + 5))] (some (.int rr)) hh := by
  refine MC.of RX6 (by decide) rfl (Nat.le_of_ble_eq_true rfl) rfl (fun X C hG hR hF => ?_)
  subst hG
  have hcs : True := trivial
  unfold fX6_take at hf
  refine r_aload_n (i := 1) C dX6_take_0 rfl 1 rfl ?_
  refine g_X6_23 C dX6_take_1 ?_
  refine r_aload_n (i := 2) C dX6_take_4 rfl 2 rfl ?_
  refine g_X6_29 hb C dX6_take_5 ?_
  refine r_icmp_eq C 13 dX6_take_8 (by decide) (fun c9 => ?_) (fun c9 => ?_)
  · rw [if_pos c9] at hf
    refine r_iconst (v := 0) C dX6_take_13 (by decide) ?_
    refine r_istore_n (i := 3) (lv' := [(0, .ref (gad (xG X) 20)), (1, .ref (gad (xG X) 1)), (2, .ref (gad (xG X) (b + 5))), (3, .int (0 : Int32))]) C dX6_take_14 rfl (by decide) [1, 2, 3, 0] rfl ?_
    exact r_lv [0, 1, 2, 3] rfl ((wX6_take hb C hR hcs hF big) _ _ hf)
  · rw [if_neg c9] at hf
    refine r_iconst (v := 0) C dX6_take_11 (by decide) ?_
    have zz : (0 : Int32) = 0 ∨ (0 : Int32) = 1 := (Or.inl rfl)
    cases hf
    exact r_zret C zz hF dX6_take_12
def fX6_settle (h : Hp) (b : Nat) : Option (Hp) := lt9 (up2 h 20 3 (16 : Int32)) (fun h1 => cl9 (fX6_send h1 b (0 : Int32) (0 : Int32) (0 : Int32)) (fun h2 => some h2))
set_option maxHeartbeats 4000000 in
set_option maxRecDepth 100000 in
theorem kX6_settle (G : Gx) {b : Nat} (hb : isSky b) {h : Hp}  {hh : Hp} (hf : fX6_settle h b = some hh) : MC G yX6_settle cX6_settle 2 none 85 5440 h [.ref (gad G 20), .ref (gad G (b + 5))] none hh := by
  refine MC.of RX6 (by decide) rfl (Nat.le_of_ble_eq_true rfl) rfl (fun X C hG hR hF => ?_)
  subst hG
  have hcs : True := trivial
  unfold fX6_settle at hf
  refine r_aload_n (i := 0) C dX6_settle_0 rfl 0 rfl ?_
  refine r_bipush (v := 16) C dX6_settle_1 (by decide) ?_
  obtain ⟨h1, eh1, hf⟩ := lt_of hf
  refine p_X6_36 C eh1 dX6_settle_3 ?_
  refine r_aload_n (i := 0) C dX6_settle_6 rfl 0 rfl ?_
  refine r_aload_n (i := 1) C dX6_settle_7 rfl 1 rfl ?_
  refine r_iconst (v := 0) C dX6_settle_8 (by decide) ?_
  refine r_iconst (v := 0) C dX6_settle_9 (by decide) ?_
  refine r_iconst (v := 0) C dX6_settle_10 (by decide) ?_
  obtain ⟨h2, e3, hf⟩ := cl_of hf
  refine r_callVv (As := [.ref (gad (xG X) (b + 5)), .int (0 : Int32), .int (0 : Int32), .int (0 : Int32)]) (st := []) C 20 rfl (by decide) rfl (kX6_send (xG X) hb e3) cw_X6_39 rfl rfl (Nat.le_of_ble_eq_true rfl) (zr2 hR rfl rfl) (zrcs hcs) dX6_settle_11 ?_
  cases hf
  exact r_vret C hF dX6_settle_14
def fX7_hasLadder (h : Hp) (b : Nat) (a1 : Int32) : Int32 := (if (fX11_has (h b 4) a1) = (0 : Int32) then (1 : Int32) else (0 : Int32))
set_option maxHeartbeats 4000000 in
set_option maxRecDepth 100000 in
theorem kX7_hasLadder (G : Gx) {b : Nat} (hb : isSky b) {h : Hp} {a1 : Int32} : MC G yX7_hasLadder cX7_hasLadder 2 (some .boolean) 2 128 h [.ref (gad G b), .int a1] (some (.int (fX7_hasLadder h b a1))) h := by
  refine MC.of RX7 (by decide) rfl (Nat.le_of_ble_eq_true rfl) rfl (fun X C hG hR hF => ?_)
  subst hG
  have hcs : True := trivial
  obtain ⟨rr, hf⟩ : ∃ rr, fX7_hasLadder h b a1 = rr := ⟨_, rfl⟩
  rw [hf] at hF
  unfold fX7_hasLadder at hf
  refine r_aload_n (i := 0) C dX7_hasLadder_0 rfl 0 rfl ?_
  refine g_X7_54 hb C dX7_hasLadder_1 ?_
  refine r_iload_n (i := 1) C dX7_hasLadder_4 rfl 1 rfl ?_
  refine r_callNSi (As := [.int (h b 4), .int a1]) (st := []) C (kX11_has (xG X)) cw_X7_85 rfl rfl (Nat.le_of_ble_eq_true rfl) (zr2 hR rfl rfl) (zrcs hcs) dX7_hasLadder_5 ?_
  refine r_if_ne C 15 dX7_hasLadder_8 (by decide) (fun c1 => ?_) (fun c1 => ?_)
  · rw [if_neg c1] at hf
    refine r_iconst (v := 0) C dX7_hasLadder_15 (by decide) ?_
    subst hf
    exact r_zret C (Or.inl rfl) hF dX7_hasLadder_16
  · rw [if_pos c1] at hf
    refine r_iconst (v := 1) C dX7_hasLadder_11 (by decide) ?_
    refine r_goto C 16 dX7_hasLadder_12 (by decide) ?_
    subst hf
    exact r_zret C (Or.inr rfl) hF dX7_hasLadder_16
theorem zX7_hasLadder {h : Hp} {b : Nat} {a1 : Int32} : fX7_hasLadder h b a1 = 0 ∨ fX7_hasLadder h b a1 = 1 := by
  unfold fX7_hasLadder
  exact by repeat' (first | exact Or.inl rfl | exact Or.inr rfl | (apply b_ite) | (unfold lt9) | assumption | exact zqq)
def fX7_hasPin (h : Hp) (b : Nat) (a1 : Int32) : Int32 := (fX11_has (h b 5) a1)
set_option maxHeartbeats 4000000 in
set_option maxRecDepth 100000 in
theorem kX7_hasPin (G : Gx) {b : Nat} (hb : isSky b) {h : Hp} {a1 : Int32} : MC G yX7_hasPin cX7_hasPin 2 (some .boolean) 2 128 h [.ref (gad G b), .int a1] (some (.int (fX7_hasPin h b a1))) h := by
  refine MC.of RX7 (by decide) rfl (Nat.le_of_ble_eq_true rfl) rfl (fun X C hG hR hF => ?_)
  subst hG
  have hcs : True := trivial
  obtain ⟨rr, hf⟩ : ∃ rr, fX7_hasPin h b a1 = rr := ⟨_, rfl⟩
  rw [hf] at hF
  unfold fX7_hasPin at hf
  refine r_aload_n (i := 0) C dX7_hasPin_0 rfl 0 rfl ?_
  refine g_X7_57 hb C dX7_hasPin_1 ?_
  refine r_iload_n (i := 1) C dX7_hasPin_4 rfl 1 rfl ?_
  refine r_callNSi (As := [.int (h b 5), .int a1]) (st := []) C (kX11_has (xG X)) cw_X7_85 rfl rfl (Nat.le_of_ble_eq_true rfl) (zr2 hR rfl rfl) (zrcs hcs) dX7_hasPin_5 ?_
  subst hf
  exact r_zret C (zX11_has) hF dX7_hasPin_8
theorem zX7_hasPin {h : Hp} {b : Nat} {a1 : Int32} : fX7_hasPin h b a1 = 0 ∨ fX7_hasPin h b a1 = 1 := by
  unfold fX7_hasPin
  exact by repeat' (first | exact Or.inl rfl | exact Or.inr rfl | (apply b_ite) | (unfold lt9) | assumption | exact zqq)
def BX7_losePins_0 (b : Nat) (rec : Hp → Int32 → Int32 → Option (Hp)) (h : Hp) (y1 : Int32) (y2 : Int32) : Option (Hp) := (if (16 : Int32) ≤ y2 then some h else (if (fX11_has y1 y2) = (0 : Int32) then lt9 (y2 + (1 : Int32)) (fun x3 => rec h y1 x3) else gd (inb y2 16) (cl9 (fX4_add h b (h b 13) y2 (3 : Int32) (h (b + 4) y2.toNatClampNeg)) (fun h5 => cl9 (fX7_takePin h5 b y2) (fun h7 => lt9 (up2 h7 b 15 ((h7 b 15) + (1 : Int32))) (fun h9 => lt9 (y2 + (1 : Int32)) (fun x10 => rec h9 y1 x10)))))))
def LX7_losePins (b : Nat) : Nat → Hp → Int32 → Int32 → Option (Hp)
  | 0, _, _, _ => none
  | n + 1, h, y1, y2 => BX7_losePins_0 b (LX7_losePins b n) h y1 y2
def fX7_losePins (h : Hp) (b : Nat) (a1 : Int32) : Option (Hp) := LX7_losePins b big h a1 (0 : Int32)
set_option maxHeartbeats 4000000 in
set_option maxRecDepth 100000 in
theorem wX7_losePins {X : Cx} {b : Nat} (hb : isSky b) {hh : Hp} (C : OK X cX7_losePins 3 RX7 none) (hR : xR X = { frames := 3, cells := 0, slots := 0, locals := 192 }) (hcs : True) (hF : FinR X none hh) : ∀ n : Nat, (∀ (h : Hp) (y1 : Int32) (y2 : Int32), LX7_losePins b n h y1 y2 = some hh → VW X 3 h 0 0 2 [(0, .ref (gad (xG X) b)), (1, .int y1), (2, .int y2)] []) := by
  intro n
  induction n with
  | zero => exact (fun _ _ _ hf => (by rw [LX7_losePins] at hf; cases hf))
  | succ n ih =>
    intro h y1 y2 hf
    rw [LX7_losePins] at hf
    unfold BX7_losePins_0 at hf
    refine r_iload_n (i := 2) C dX7_losePins_2 rfl 2 rfl ?_
    refine r_bipush (v := 16) C dX7_losePins_3 (by decide) ?_
    refine r_icmp_ge C 56 dX7_losePins_5 (by decide) (fun c1 => ?_) (fun c1 => ?_)
    · rw [if_pos c1] at hf
      cases hf
      exact r_vret C hF dX7_losePins_56
    · rw [if_neg c1] at hf
      refine r_iload_n (i := 1) C dX7_losePins_8 rfl 1 rfl ?_
      refine r_iload_n (i := 2) C dX7_losePins_9 rfl 2 rfl ?_
      refine r_callNSi (As := [.int y1, .int y2]) (st := []) C (kX11_has (xG X)) cw_X7_85 rfl rfl (Nat.le_of_ble_eq_true rfl) (zr2 hR rfl rfl) (zrcs hcs) dX7_losePins_10 ?_
      refine r_if_eq C 50 dX7_losePins_13 (by decide) (fun c2 => ?_) (fun c2 => ?_)
      · rw [if_pos c2] at hf
        obtain ⟨x3, ex3, hf⟩ := lt_of hf
        refine r_iinc (j := 2) (v := x3) (lv' := [(0, .ref (gad (xG X) b)), (1, .int y1), (2, .int x3)]) C dX7_losePins_50 rfl (by rw [ex3]; rfl) (by decide) [1, 2, 0] rfl ?_
        refine r_goto C 2 dX7_losePins_53 (by decide) ?_
        exact r_lv [0, 1, 2] rfl (ih _ _ _ hf)
      · rw [if_neg c2] at hf
        refine r_aload_n (i := 0) C dX7_losePins_16 rfl 0 rfl ?_
        refine g_X7_34 hb C dX7_losePins_17 ?_
        refine r_aload_n (i := 0) C dX7_losePins_20 rfl 0 rfl ?_
        refine g_X7_76 hb C dX7_losePins_21 ?_
        refine r_iload_n (i := 2) C dX7_losePins_24 rfl 2 rfl ?_
        refine r_iconst (v := 3) C dX7_losePins_25 (by decide) ?_
        refine r_aload_n (i := 0) C dX7_losePins_26 rfl 0 rfl ?_
        refine g_X7_21 hb C dX7_losePins_27 ?_
        refine r_iload_n (i := 2) C dX7_losePins_30 rfl 2 rfl ?_
        obtain ⟨g4, hf⟩ := gd_of hf
        refine r_iald C (b + 4) (sky_dsc hb 4 (by decide)) (sky_lt hb 4 (by decide)) g4 dX7_losePins_31 ?_
        obtain ⟨h5, e6, hf⟩ := cl_of hf
        refine r_callNVv (As := [.int (h b 13), .int y2, .int (3 : Int32), .int (h (b + 4) y2.toNatClampNeg)]) (st := []) C (b + 9) (sky_dsc hb 9 (by decide)) (sky_lt hb 9 (by decide)) rfl (kX4_add (xG X) hb e6) cw_X7_96 rfl rfl (Nat.le_of_ble_eq_true rfl) (zr2 hR rfl rfl) (zrcs hcs) dX7_losePins_32 ?_
        refine r_aload_n (i := 0) C dX7_losePins_35 rfl 0 rfl ?_
        refine r_iload_n (i := 2) C dX7_losePins_36 rfl 2 rfl ?_
        obtain ⟨h7, e8, hf⟩ := cl_of hf
        refine r_callVv (As := [.int y2]) (st := []) C b (sky_d0 hb) (sky_l0 hb) rfl (kX7_takePin (xG X) hb e8) cw_X7_100 rfl rfl (Nat.le_of_ble_eq_true rfl) (zr2 hR rfl rfl) (zrcs hcs) dX7_losePins_37 ?_
        refine r_aload_n (i := 0) C dX7_losePins_40 rfl 0 rfl ?_
        refine r_dup C dX7_losePins_41 rfl ?_
        refine g_X7_79 hb C dX7_losePins_42 ?_
        refine r_iconst (v := 1) C dX7_losePins_45 (by decide) ?_
        refine r_iadd C dX7_losePins_46 ?_
        obtain ⟨h9, eh9, hf⟩ := lt_of hf
        refine p_X7_79 hb C eh9 dX7_losePins_47 ?_
        obtain ⟨x10, ex10, hf⟩ := lt_of hf
        refine r_iinc (j := 2) (v := x10) (lv' := [(0, .ref (gad (xG X) b)), (1, .int y1), (2, .int x10)]) C dX7_losePins_50 rfl (by rw [ex10]; rfl) (by decide) [1, 2, 0] rfl ?_
        refine r_goto C 2 dX7_losePins_53 (by decide) ?_
        exact r_lv [0, 1, 2] rfl (ih _ _ _ hf)
set_option maxHeartbeats 4000000 in
set_option maxRecDepth 100000 in
theorem kX7_losePins (G : Gx) {b : Nat} (hb : isSky b) {h : Hp} {a1 : Int32} {hh : Hp} (hf : fX7_losePins h b a1 = some hh) : MC G yX7_losePins cX7_losePins 3 none 3 192 h [.ref (gad G b), .int a1] none hh := by
  refine MC.of RX7 (by decide) rfl (Nat.le_of_ble_eq_true rfl) rfl (fun X C hG hR hF => ?_)
  subst hG
  have hcs : True := trivial
  unfold fX7_losePins at hf
  refine r_iconst (v := 0) C dX7_losePins_0 (by decide) ?_
  refine r_istore_n (i := 2) (lv' := [(0, .ref (gad (xG X) b)), (1, .int a1), (2, .int (0 : Int32))]) C dX7_losePins_1 rfl (by decide) [1, 2, 0] rfl ?_
  exact r_lv [0, 1, 2] rfl ((wX7_losePins hb C hR hcs hF big) _ _ _ hf)
def fX7_skyAt (h : Hp) (b : Nat) (a1 : Int32) (a2 : Int32) (a3 : Int32) (a4 : Int32) : Option (Int32) := (if a2 = (0 : Int32) then some (0 : Int32) else cl9 (fX11_distance h a2 a1) (fun x2 => lt9 (jmax (0 : Int32) (a3 - (a4 * x2))) (fun x4 => gd (inb a1 16) (some (jmax (0 : Int32) (x4 - ((2 : Int32) * (h (b + 3) a1.toNatClampNeg))))))))
set_option maxHeartbeats 4000000 in
set_option maxRecDepth 100000 in
theorem kX7_skyAt (G : Gx) {b : Nat} (hb : isSky b) {h : Hp} {a1 : Int32} {a2 : Int32} {a3 : Int32} {a4 : Int32} {rr : Int32} (hf : fX7_skyAt h b a1 a2 a3 a4 = some rr) : MC G yX7_skyAt cX7_skyAt 6 (some .int) 3 192 h [.ref (gad G b), .int a1, .int a2, .int a3, .int a4] (some (.int rr)) h := by
  refine MC.of RX7 (by decide) rfl (Nat.le_of_ble_eq_true rfl) rfl (fun X C hG hR hF => ?_)
  subst hG
  have hcs : True := trivial
  unfold fX7_skyAt at hf
  refine r_iload_n (i := 2) C dX7_skyAt_0 rfl 2 rfl ?_
  refine r_if_ne C 6 dX7_skyAt_1 (by decide) (fun c1 => ?_) (fun c1 => ?_)
  · rw [if_neg c1] at hf
    refine r_iconst (v := 0) C dX7_skyAt_6 (by decide) ?_
    refine r_iload_n (i := 3) C dX7_skyAt_7 rfl 3 rfl ?_
    refine r_iload (i := 4) C dX7_skyAt_8 4 rfl ?_
    refine r_iload_n (i := 2) C dX7_skyAt_10 rfl 2 rfl ?_
    refine r_iload_n (i := 1) C dX7_skyAt_11 rfl 1 rfl ?_
    obtain ⟨x2, e3, hf⟩ := cl_of hf
    refine r_callNSi (As := [.int a2, .int a1]) (st := [.int a4, .int a3, .int (0 : Int32)]) C (kX11_distance (xG X) e3) cw_X7_105 rfl rfl (Nat.le_of_ble_eq_true rfl) (zr2 hR rfl rfl) (zrcs hcs) dX7_skyAt_12 ?_
    refine r_imul C dX7_skyAt_15 ?_
    refine r_isub C dX7_skyAt_16 ?_
    refine r_mmax9 C gw_615 gm_max_s gm_i gm_max_c (zr1 hR rfl) (zr0 hR (Nat.le_of_ble_eq_true rfl)) (zrcs hcs) dX7_skyAt_17 ?_
    obtain ⟨x4, ex4, hf⟩ := lt_of hf
    refine r_top ex4 ?_
    refine r_istore (i := 5) (lv' := [(0, .ref (gad (xG X) b)), (1, .int a1), (2, .int a2), (3, .int a3), (4, .int a4), (5, .int x4)]) C dX7_skyAt_20 (by decide) [1, 2, 3, 4, 5, 0] rfl ?_
    refine r_iconst (v := 0) C dX7_skyAt_22 (by decide) ?_
    refine r_iload (i := 5) C dX7_skyAt_23 5 rfl ?_
    refine r_iconst (v := 2) C dX7_skyAt_25 (by decide) ?_
    refine r_aload_n (i := 0) C dX7_skyAt_26 rfl 0 rfl ?_
    refine g_X7_18 hb C dX7_skyAt_27 ?_
    refine r_iload_n (i := 1) C dX7_skyAt_30 rfl 1 rfl ?_
    obtain ⟨g5, hf⟩ := gd_of hf
    refine r_iald C (b + 3) (sky_dsc hb 3 (by decide)) (sky_lt hb 3 (by decide)) g5 dX7_skyAt_31 ?_
    refine r_imul C dX7_skyAt_32 ?_
    refine r_isub C dX7_skyAt_33 ?_
    refine r_mmax9 C gw_615 gm_max_s gm_i gm_max_c (zr1 hR rfl) (zr0 hR (Nat.le_of_ble_eq_true rfl)) (zrcs hcs) dX7_skyAt_34 ?_
    cases hf
    exact r_iret C hF dX7_skyAt_37
  · rw [if_pos c1] at hf
    refine r_iconst (v := 0) C dX7_skyAt_4 (by decide) ?_
    cases hf
    exact r_iret C hF dX7_skyAt_5
def BX7_standing_0 (h : Hp) (b : Nat) (rec : Int32 → Int32 → Int32 → Int32 → Int32 → Option (Int32)) (y1 : Int32) (y2 : Int32) (y3 : Int32) (y4 : Int32) (y5 : Int32) : Option (Int32) := (if (16 : Int32) ≤ y5 then some y4 else cl9 (fX7_skyAt h b y5 y1 y2 y3) (fun x2 => gd (inb y5 16) (gd (inb y5 16) ((if (x2 - (h (b + 1) y5.toNatClampNeg)) < (h (b + 2) y5.toNatClampNeg) then lt9 (y5 + (1 : Int32)) (fun x7 => rec y1 y2 y3 y4 x7) else lt9 (y4 ||| ((1 : Int32) <<< (y5 &&& 31))) (fun x8 => lt9 (y5 + (1 : Int32)) (fun x9 => rec y1 y2 y3 x8 x9)))))))
def LX7_standing (h : Hp) (b : Nat) : Nat → Int32 → Int32 → Int32 → Int32 → Int32 → Option (Int32)
  | 0, _, _, _, _, _ => none
  | n + 1, y1, y2, y3, y4, y5 => BX7_standing_0 h b (LX7_standing h b n) y1 y2 y3 y4 y5
def fX7_standing (h : Hp) (b : Nat) (a1 : Int32) (a2 : Int32) (a3 : Int32) : Option (Int32) := LX7_standing h b big a1 a2 a3 (0 : Int32) (0 : Int32)
set_option maxHeartbeats 4000000 in
set_option maxRecDepth 100000 in
theorem wX7_standing {X : Cx} {h : Hp} {b : Nat} (hb : isSky b) {rr : Int32} (C : OK X cX7_standing 6 RX7 (some .int)) (hR : xR X = { frames := 4, cells := 0, slots := 0, locals := 256 }) (hcs : True) (hF : FinR X (some (.int rr)) h) : ∀ n : Nat, (∀ (y1 : Int32) (y2 : Int32) (y3 : Int32) (y4 : Int32) (y5 : Int32), LX7_standing h b n y1 y2 y3 y4 y5 = some rr → VW X 6 h 0 0 6 [(0, .ref (gad (xG X) b)), (1, .int y1), (2, .int y2), (3, .int y3), (4, .int y4), (5, .int y5)] []) := by
  intro n
  induction n with
  | zero => exact (fun _ _ _ _ _ hf => (by rw [LX7_standing] at hf; cases hf))
  | succ n ih =>
    intro y1 y2 y3 y4 y5 hf
    rw [LX7_standing] at hf
    unfold BX7_standing_0 at hf
    refine r_iload (i := 5) C dX7_standing_6 5 rfl ?_
    refine r_bipush (v := 16) C dX7_standing_8 (by decide) ?_
    refine r_icmp_ge C 55 dX7_standing_10 (by decide) (fun c1 => ?_) (fun c1 => ?_)
    · rw [if_pos c1] at hf
      refine r_iload (i := 4) C dX7_standing_55 4 rfl ?_
      cases hf
      exact r_iret C hF dX7_standing_57
    · rw [if_neg c1] at hf
      refine r_aload_n (i := 0) C dX7_standing_13 rfl 0 rfl ?_
      refine r_iload (i := 5) C dX7_standing_14 5 rfl ?_
      refine r_iload_n (i := 1) C dX7_standing_16 rfl 1 rfl ?_
      refine r_iload_n (i := 2) C dX7_standing_17 rfl 2 rfl ?_
      refine r_iload_n (i := 3) C dX7_standing_18 rfl 3 rfl ?_
      obtain ⟨x2, e3, hf⟩ := cl_of hf
      refine r_callVi (As := [.int y5, .int y1, .int y2, .int y3]) (st := []) C b (sky_d0 hb) (sky_l0 hb) rfl (kX7_skyAt (xG X) hb e3) cw_X7_111 rfl rfl (Nat.le_of_ble_eq_true rfl) (zr2 hR rfl rfl) (zrcs hcs) dX7_standing_19 ?_
      refine r_aload_n (i := 0) C dX7_standing_22 rfl 0 rfl ?_
      refine g_X7_9 hb C dX7_standing_23 ?_
      refine r_iload (i := 5) C dX7_standing_26 5 rfl ?_
      obtain ⟨g4, hf⟩ := gd_of hf
      refine r_iald C (b + 1) (sky_dsc hb 1 (by decide)) (sky_lt hb 1 (by decide)) g4 dX7_standing_28 ?_
      refine r_isub C dX7_standing_29 ?_
      refine r_aload_n (i := 0) C dX7_standing_30 rfl 0 rfl ?_
      refine g_X7_15 hb C dX7_standing_31 ?_
      refine r_iload (i := 5) C dX7_standing_34 5 rfl ?_
      obtain ⟨g5, hf⟩ := gd_of hf
      refine r_iald C (b + 2) (sky_dsc hb 2 (by decide)) (sky_lt hb 2 (by decide)) g5 dX7_standing_36 ?_
      refine r_icmp_lt C 49 dX7_standing_37 (by decide) (fun c6 => ?_) (fun c6 => ?_)
      · rw [if_pos c6] at hf
        obtain ⟨x7, ex7, hf⟩ := lt_of hf
        refine r_iinc (j := 5) (v := x7) (lv' := [(0, .ref (gad (xG X) b)), (1, .int y1), (2, .int y2), (3, .int y3), (4, .int y4), (5, .int x7)]) C dX7_standing_49 rfl (by rw [ex7]; rfl) (by decide) [1, 2, 3, 4, 5, 0] rfl ?_
        refine r_goto C 6 dX7_standing_52 (by decide) ?_
        exact r_lv [0, 1, 2, 3, 4, 5] rfl (ih _ _ _ _ _ hf)
      · rw [if_neg c6] at hf
        refine r_iload (i := 4) C dX7_standing_40 4 rfl ?_
        refine r_iconst (v := 1) C dX7_standing_42 (by decide) ?_
        refine r_iload (i := 5) C dX7_standing_43 5 rfl ?_
        refine r_ishl C dX7_standing_45 ?_
        refine r_ior C dX7_standing_46 ?_
        obtain ⟨x8, ex8, hf⟩ := lt_of hf
        refine r_top ex8 ?_
        refine r_istore (i := 4) (lv' := [(0, .ref (gad (xG X) b)), (1, .int y1), (2, .int y2), (3, .int y3), (4, .int x8), (5, .int y5)]) C dX7_standing_47 (by decide) [1, 2, 3, 4, 0, 5] rfl ?_
        obtain ⟨x9, ex9, hf⟩ := lt_of hf
        refine r_iinc (j := 5) (v := x9) (lv' := [(0, .ref (gad (xG X) b)), (1, .int y1), (2, .int y2), (3, .int y3), (4, .int x8), (5, .int x9)]) C dX7_standing_49 rfl (by rw [ex9]; rfl) (by decide) [1, 2, 3, 4, 5, 0] rfl ?_
        refine r_goto C 6 dX7_standing_52 (by decide) ?_
        exact r_lv [0, 1, 2, 3, 4, 5] rfl (ih _ _ _ _ _ hf)
set_option maxHeartbeats 4000000 in
set_option maxRecDepth 100000 in
theorem kX7_standing (G : Gx) {b : Nat} (hb : isSky b) {h : Hp} {a1 : Int32} {a2 : Int32} {a3 : Int32} {rr : Int32} (hf : fX7_standing h b a1 a2 a3 = some rr) : MC G yX7_standing cX7_standing 6 (some .int) 4 256 h [.ref (gad G b), .int a1, .int a2, .int a3] (some (.int rr)) h := by
  refine MC.of RX7 (by decide) rfl (Nat.le_of_ble_eq_true rfl) rfl (fun X C hG hR hF => ?_)
  subst hG
  have hcs : True := trivial
  unfold fX7_standing at hf
  refine r_iconst (v := 0) C dX7_standing_0 (by decide) ?_
  refine r_istore (i := 4) (lv' := [(0, .ref (gad (xG X) b)), (1, .int a1), (2, .int a2), (3, .int a3), (4, .int (0 : Int32))]) C dX7_standing_1 (by decide) [1, 2, 3, 4, 0] rfl ?_
  refine r_iconst (v := 0) C dX7_standing_3 (by decide) ?_
  refine r_istore (i := 5) (lv' := [(0, .ref (gad (xG X) b)), (1, .int a1), (2, .int a2), (3, .int a3), (4, .int (0 : Int32)), (5, .int (0 : Int32))]) C dX7_standing_4 (by decide) [1, 2, 3, 4, 5, 0] rfl ?_
  exact r_lv [0, 1, 2, 3, 4, 5] rfl ((wX7_standing hb C hR hcs hF big) _ _ _ _ _ hf)
def fX9_failNext (h : Hp) : Option (Hp) := cl9 (fX9_skipBlanks h) (fun h1 => cl9 (fX9_fail h1 (h1 1 3)) (fun h3 => some h3))
set_option maxHeartbeats 4000000 in
set_option maxRecDepth 100000 in
theorem kX9_failNext (G : Gx)  {h : Hp}  {hh : Hp} (hf : fX9_failNext h = some hh) : MC G yX9_failNext cX9_failNext 1 none 2 128 h [.ref (gad G 1)] none hh := by
  refine MC.of RX9 (by decide) rfl (Nat.le_of_ble_eq_true rfl) rfl (fun X C hG hR hF => ?_)
  subst hG
  have hcs : True := trivial
  unfold fX9_failNext at hf
  refine r_aload_n (i := 0) C dX9_failNext_0 rfl 0 rfl ?_
  obtain ⟨h1, e2, hf⟩ := cl_of hf
  refine r_callVv (As := []) (st := []) C 1 rfl (by decide) rfl (kX9_skipBlanks (xG X) e2) cw_X9_31 rfl rfl (Nat.le_of_ble_eq_true rfl) (zr2 hR rfl rfl) (zrcs hcs) dX9_failNext_1 ?_
  refine r_aload_n (i := 0) C dX9_failNext_4 rfl 0 rfl ?_
  refine r_aload_n (i := 0) C dX9_failNext_5 rfl 0 rfl ?_
  refine g_X9_25 C dX9_failNext_6 ?_
  obtain ⟨h3, e4, hf⟩ := cl_of hf
  refine r_callVv (As := [.int (h1 1 3)]) (st := []) C 1 rfl (by decide) rfl (kX9_fail (xG X) e4) cw_X9_34 rfl rfl (Nat.le_of_ble_eq_true rfl) (zr2 hR rfl rfl) (zrcs hcs) dX9_failNext_9 ?_
  cases hf
  exact r_vret C hF dX9_failNext_12
def fX9_atDigit (h : Hp) : Option (Int32 × Hp) := cl9 (fX9_skipBlanks h) (fun h1 => cl9 (fX9_byteAt h1 (h1 1 3)) (fun x3 => some ((fX9_isDigit x3), h1)))
set_option maxHeartbeats 4000000 in
set_option maxRecDepth 100000 in
theorem kX9_atDigit (G : Gx)  {h : Hp}  {rr : Int32} {hh : Hp} (hf : fX9_atDigit h = some (rr, hh)) : MC G yX9_atDigit cX9_atDigit 1 (some .boolean) 2 128 h [.ref (gad G 1)] (some (.int rr)) hh := by
  refine MC.of RX9 (by decide) rfl (Nat.le_of_ble_eq_true rfl) rfl (fun X C hG hR hF => ?_)
  subst hG
  have hcs : True := trivial
  unfold fX9_atDigit at hf
  refine r_aload_n (i := 0) C dX9_atDigit_0 rfl 0 rfl ?_
  obtain ⟨h1, e2, hf⟩ := cl_of hf
  refine r_callVv (As := []) (st := []) C 1 rfl (by decide) rfl (kX9_skipBlanks (xG X) e2) cw_X9_31 rfl rfl (Nat.le_of_ble_eq_true rfl) (zr2 hR rfl rfl) (zrcs hcs) dX9_atDigit_1 ?_
  refine r_aload_n (i := 0) C dX9_atDigit_4 rfl 0 rfl ?_
  refine r_aload_n (i := 0) C dX9_atDigit_5 rfl 0 rfl ?_
  refine g_X9_25 C dX9_atDigit_6 ?_
  obtain ⟨x3, e4, hf⟩ := cl_of hf
  refine r_callVi (As := [.int (h1 1 3)]) (st := []) C 1 rfl (by decide) rfl (kX9_byteAt (xG X) e4) cw_X9_38 rfl rfl (Nat.le_of_ble_eq_true rfl) (zr2 hR rfl rfl) (zrcs hcs) dX9_atDigit_9 ?_
  refine r_callSi (As := [.int x3]) (st := []) C (kX9_isDigit (xG X)) cw_X9_42 rfl rfl (Nat.le_of_ble_eq_true rfl) (zr2 hR rfl rfl) (zrcs hcs) dX9_atDigit_12 ?_
  have zz : (fX9_isDigit x3) = 0 ∨ (fX9_isDigit x3) = 1 := (zX9_isDigit)
  cases hf
  exact r_zret C zz hF dX9_atDigit_15
def BX9_takeWord_0 (w : List Int32) (rec : Hp → Int32 → Option (Int32 × Hp)) (h : Hp) (y2 : Int32) : Option (Int32 × Hp) := (if (Int32.ofNat w.length) ≤ y2 then lt9 (up2 h 1 4 (h 1 3)) (fun h2 => lt9 (up2 h2 1 3 ((h2 1 3) + (Int32.ofNat w.length))) (fun h3 => some ((1 : Int32), h3))) else cl9 (fX9_byteAt h ((h 1 3) + y2)) (fun x4 => gd (inb y2 w.length) ((if x4 = (jch (w.getD y2.toNatClampNeg 0)) then lt9 (y2 + (1 : Int32)) (fun x8 => rec h x8) else some ((0 : Int32), h)))))
def LX9_takeWord (w : List Int32) : Nat → Hp → Int32 → Option (Int32 × Hp)
  | 0, _, _ => none
  | n + 1, h, y2 => BX9_takeWord_0 w (LX9_takeWord w n) h y2
def fX9_takeWord (h : Hp) (w : List Int32) : Option (Int32 × Hp) := cl9 (fX9_skipBlanks h) (fun h9 => (if (fX9_failed h9) = (0 : Int32) then cl9 (fX9_wordLength h9) (fun x12 => (if x12 = (Int32.ofNat w.length) then LX9_takeWord w big h9 (0 : Int32) else some ((0 : Int32), h9))) else some ((0 : Int32), h9)))
set_option maxHeartbeats 4000000 in
set_option maxRecDepth 100000 in
theorem wX9_takeWord {X : Cx} {se : Nat} {so sx : String} {sn : Nat} {w : List Int32} (he : STR[se]? = some (so, sn, sx, w)) {rr : Int32} {hh : Hp} (C : OK X cX9_takeWord 3 RX9 (some .boolean)) (hR : xR X = { frames := 5, cells := 0, slots := 0, locals := 320 }) (hcs : True) (hF : FinR X (some (.int rr)) hh) : ∀ n : Nat, (∀ (h : Hp) (y2 : Int32), LX9_takeWord w n h y2 = some (rr, hh) → VW X 3 h 0 0 26 [(0, .ref (gad (xG X) 1)), (1, .ref (gsK (xG X) se)), (2, .int y2)] []) := by
  intro n
  induction n with
  | zero => exact (fun _ _ hf => (by rw [LX9_takeWord] at hf; cases hf))
  | succ n ih =>
    intro h y2 hf
    rw [LX9_takeWord] at hf
    unfold BX9_takeWord_0 at hf
    refine r_iload_n (i := 2) C dX9_takeWord_26 rfl 2 rfl ?_
    refine r_aload_n (i := 1) C dX9_takeWord_27 rfl 1 rfl ?_
    refine r_slen C he gw_880 (zrS hR rfl rfl) (zrcs hcs) (Nat.le_of_ble_eq_true rfl) dX9_takeWord_28 ?_
    refine r_icmp_ge C 60 dX9_takeWord_31 (by decide) (fun c1 => ?_) (fun c1 => ?_)
    · rw [if_pos c1] at hf
      refine r_aload_n (i := 0) C dX9_takeWord_60 rfl 0 rfl ?_
      refine r_aload_n (i := 0) C dX9_takeWord_61 rfl 0 rfl ?_
      refine g_X9_25 C dX9_takeWord_62 ?_
      obtain ⟨h2, eh2, hf⟩ := lt_of hf
      refine p_X9_28 C eh2 dX9_takeWord_65 ?_
      refine r_aload_n (i := 0) C dX9_takeWord_68 rfl 0 rfl ?_
      refine r_dup C dX9_takeWord_69 rfl ?_
      refine g_X9_25 C dX9_takeWord_70 ?_
      refine r_aload_n (i := 1) C dX9_takeWord_73 rfl 1 rfl ?_
      refine r_slen C he gw_880 (zrS hR rfl rfl) (zrcs hcs) (Nat.le_of_ble_eq_true rfl) dX9_takeWord_74 ?_
      refine r_iadd C dX9_takeWord_77 ?_
      obtain ⟨h3, eh3, hf⟩ := lt_of hf
      refine p_X9_25 C eh3 dX9_takeWord_78 ?_
      refine r_iconst (v := 1) C dX9_takeWord_81 (by decide) ?_
      have zz : (1 : Int32) = 0 ∨ (1 : Int32) = 1 := (Or.inr rfl)
      cases hf
      exact r_zret C zz hF dX9_takeWord_82
    · rw [if_neg c1] at hf
      refine r_aload_n (i := 0) C dX9_takeWord_34 rfl 0 rfl ?_
      refine r_aload_n (i := 0) C dX9_takeWord_35 rfl 0 rfl ?_
      refine g_X9_25 C dX9_takeWord_36 ?_
      refine r_iload_n (i := 2) C dX9_takeWord_39 rfl 2 rfl ?_
      refine r_iadd C dX9_takeWord_40 ?_
      obtain ⟨x4, e5, hf⟩ := cl_of hf
      refine r_callVi (As := [.int ((h 1 3) + y2)]) (st := []) C 1 rfl (by decide) rfl (kX9_byteAt (xG X) e5) cw_X9_38 rfl rfl (Nat.le_of_ble_eq_true rfl) (zr2 hR rfl rfl) (zrcs hcs) dX9_takeWord_41 ?_
      refine r_aload_n (i := 1) C dX9_takeWord_44 rfl 1 rfl ?_
      refine r_iload_n (i := 2) C dX9_takeWord_45 rfl 2 rfl ?_
      obtain ⟨g6, hf⟩ := gd_of hf
      refine r_charAt C he g6 gw_894 (zrS hR rfl rfl) (zrcs hcs) (Nat.le_of_ble_eq_true rfl) dX9_takeWord_46 ?_
      refine r_icmp_eq C 54 dX9_takeWord_49 (by decide) (fun c7 => ?_) (fun c7 => ?_)
      · rw [if_pos c7] at hf
        obtain ⟨x8, ex8, hf⟩ := lt_of hf
        refine r_iinc (j := 2) (v := x8) (lv' := [(0, .ref (gad (xG X) 1)), (1, .ref (gsK (xG X) se)), (2, .int x8)]) C dX9_takeWord_54 rfl (by rw [ex8]; rfl) (by decide) [1, 2, 0] rfl ?_
        refine r_goto C 26 dX9_takeWord_57 (by decide) ?_
        exact r_lv [0, 1, 2] rfl (ih _ _ hf)
      · rw [if_neg c7] at hf
        refine r_iconst (v := 0) C dX9_takeWord_52 (by decide) ?_
        have zz : (0 : Int32) = 0 ∨ (0 : Int32) = 1 := (Or.inl rfl)
        cases hf
        exact r_zret C zz hF dX9_takeWord_53
set_option maxHeartbeats 4000000 in
set_option maxRecDepth 100000 in
theorem kX9_takeWord (G : Gx) {se : Nat} {so sx : String} {sn : Nat} {w : List Int32} (he : STR[se]? = some (so, sn, sx, w)) {h : Hp}  {rr : Int32} {hh : Hp} (hf : fX9_takeWord h w = some (rr, hh)) : MC G yX9_takeWord cX9_takeWord 3 (some .boolean) 5 320 h [.ref (gad G 1), .ref (gsK G se)] (some (.int rr)) hh := by
  refine MC.of RX9 (by decide) rfl (Nat.le_of_ble_eq_true rfl) rfl (fun X C hG hR hF => ?_)
  subst hG
  have hcs : True := trivial
  unfold fX9_takeWord at hf
  refine r_aload_n (i := 0) C dX9_takeWord_0 rfl 0 rfl ?_
  obtain ⟨h9, e10, hf⟩ := cl_of hf
  refine r_callVv (As := []) (st := []) C 1 rfl (by decide) rfl (kX9_skipBlanks (xG X) e10) cw_X9_31 rfl rfl (Nat.le_of_ble_eq_true rfl) (zr2 hR rfl rfl) (zrcs hcs) dX9_takeWord_1 ?_
  refine r_aload_n (i := 0) C dX9_takeWord_4 rfl 0 rfl ?_
  refine r_callVi (As := []) (st := []) C 1 rfl (by decide) rfl (kX9_failed (xG X)) cw_X9_46 rfl rfl (Nat.le_of_ble_eq_true rfl) (zr2 hR rfl rfl) (zrcs hcs) dX9_takeWord_5 ?_
  refine r_if_ne C 22 dX9_takeWord_8 (by decide) (fun c11 => ?_) (fun c11 => ?_)
  · rw [if_neg c11] at hf
    refine r_iconst (v := 0) C dX9_takeWord_22 (by decide) ?_
    have zz : (0 : Int32) = 0 ∨ (0 : Int32) = 1 := (Or.inl rfl)
    cases hf
    exact r_zret C zz hF dX9_takeWord_23
  · rw [if_pos c11] at hf
    refine r_aload_n (i := 0) C dX9_takeWord_11 rfl 0 rfl ?_
    obtain ⟨x12, e13, hf⟩ := cl_of hf
    refine r_callVi (As := []) (st := []) C 1 rfl (by decide) rfl (kX9_wordLength (xG X) e13) cw_X9_50 rfl rfl (Nat.le_of_ble_eq_true rfl) (zr2 hR rfl rfl) (zrcs hcs) dX9_takeWord_12 ?_
    refine r_aload_n (i := 1) C dX9_takeWord_15 rfl 1 rfl ?_
    refine r_slen C he gw_880 (zrS hR rfl rfl) (zrcs hcs) (Nat.le_of_ble_eq_true rfl) dX9_takeWord_16 ?_
    refine r_icmp_eq C 24 dX9_takeWord_19 (by decide) (fun c14 => ?_) (fun c14 => ?_)
    · rw [if_pos c14] at hf
      refine r_iconst (v := 0) C dX9_takeWord_24 (by decide) ?_
      refine r_istore_n (i := 2) (lv' := [(0, .ref (gad (xG X) 1)), (1, .ref (gsK (xG X) se)), (2, .int (0 : Int32))]) C dX9_takeWord_25 rfl (by decide) [1, 2, 0] rfl ?_
      exact r_lv [0, 1, 2] rfl ((wX9_takeWord he C hR hcs hF big) _ _ hf)
    · rw [if_neg c14] at hf
      refine r_iconst (v := 0) C dX9_takeWord_22 (by decide) ?_
      have zz : (0 : Int32) = 0 ∨ (0 : Int32) = 1 := (Or.inl rfl)
      cases hf
      exact r_zret C zz hF dX9_takeWord_23
def BX9_takeNumber_0  (rec : Nat → Hp → Int32 → Int32 → Int32 → Option (Int32 × Hp)) (h : Hp) (y1 : Int32) (y2 : Int32) (y3 : Int32) : Option (Int32 × Hp) := (if (h 1 2) ≤ (h 1 3) then rec 1 h y1 y2 y3 else cl9 (fX9_byteAt h (h 1 3)) (fun x2 => (if (fX9_isDigit x2) = (0 : Int32) then rec 1 h y1 y2 y3 else cl9 ((if (3 : Int32) ≤ ((h 1 3) - (h 1 4)) then some y3 else cl9 (fX9_byteAt h (h 1 3)) (fun x9 => lt9 (((y3 * (10 : Int32)) + x9) - (48 : Int32)) (fun x11 => some x11))) : Option (Int32)) (fun x5 => lt9 (up2 h 1 3 ((h 1 3) + (1 : Int32))) (fun h12 => rec 0 h12 y1 y2 x5)))))
def BX9_takeNumber_1  (rec : Nat → Hp → Int32 → Int32 → Int32 → Option (Int32 × Hp)) (h : Hp) (y1 : Int32) (y2 : Int32) (y3 : Int32) : Option (Int32 × Hp) := lt9 ((h 1 3) - (h 1 4)) (fun x13 => cl9 ((if x13 = (0 : Int32) then some true else (if (3 : Int32) < x13 then some true else (if y3 < y1 then some true else (if y3 ≤ y2 then some false else some true)))) : Option Bool) (fun q14 => if q14 = true then cl9 (fX9_fail h (h 1 4)) (fun h22 => some ((-1 : Int32), h22)) else some (y3, h)))
def LX9_takeNumber  : Nat → Nat → Hp → Int32 → Int32 → Int32 → Option (Int32 × Hp)
  | 0, _, _, _, _, _ => none
  | n + 1, lab, h, y1, y2, y3 => if lab = 0 then BX9_takeNumber_0  (LX9_takeNumber  n) h y1 y2 y3 else if lab = 1 then BX9_takeNumber_1  (LX9_takeNumber  n) h y1 y2 y3 else none
def fX9_takeNumber (h : Hp) (a1 : Int32) (a2 : Int32) : Option (Int32 × Hp) := cl9 (fX9_skipBlanks h) (fun h24 => (if (fX9_failed h24) = (0 : Int32) then lt9 (up2 h24 1 4 (h24 1 3)) (fun h27 => LX9_takeNumber big 0 h27 a1 a2 (0 : Int32)) else some ((-1 : Int32), h24)))
set_option maxHeartbeats 4000000 in
set_option maxRecDepth 100000 in
theorem wX9_takeNumber {X : Cx}  {rr : Int32} {hh : Hp} (C : OK X cX9_takeNumber 5 RX9 (some .int)) (hR : xR X = { frames := 2, cells := 0, slots := 0, locals := 128 }) (hcs : True) (hF : FinR X (some (.int rr)) hh) : ∀ n : Nat, (∀ (h : Hp) (y1 : Int32) (y2 : Int32) (y3 : Int32), LX9_takeNumber  n 0 h y1 y2 y3 = some (rr, hh) → VW X 5 h 0 0 23 [(0, .ref (gad (xG X) 1)), (1, .int y1), (2, .int y2), (3, .int y3)] []) ∧ (∀ (h : Hp) (y1 : Int32) (y2 : Int32) (y3 : Int32), LX9_takeNumber  n 1 h y1 y2 y3 = some (rr, hh) → VW X 5 h 0 0 91 [(0, .ref (gad (xG X) 1)), (1, .int y1), (2, .int y2), (3, .int y3)] []) := by
  intro n
  induction n with
  | zero => exact ⟨(fun _ _ _ _ hf => (by rw [LX9_takeNumber] at hf; cases hf)), (fun _ _ _ _ hf => (by rw [LX9_takeNumber] at hf; cases hf))⟩
  | succ n ih =>
    refine ⟨?_, ?_⟩
    · intro h y1 y2 y3 hf
      rw [LX9_takeNumber, if_pos rfl] at hf
      unfold BX9_takeNumber_0 at hf
      refine r_aload_n (i := 0) C dX9_takeNumber_23 rfl 0 rfl ?_
      refine g_X9_25 C dX9_takeNumber_24 ?_
      refine r_aload_n (i := 0) C dX9_takeNumber_27 rfl 0 rfl ?_
      refine g_X9_22 C dX9_takeNumber_28 ?_
      refine r_icmp_ge C 91 dX9_takeNumber_31 (by decide) (fun c1 => ?_) (fun c1 => ?_)
      · rw [if_pos c1] at hf
        exact r_lv [0, 1, 2, 3] rfl (ih.2 _ _ _ _ hf)
      · rw [if_neg c1] at hf
        refine r_aload_n (i := 0) C dX9_takeNumber_34 rfl 0 rfl ?_
        refine r_aload_n (i := 0) C dX9_takeNumber_35 rfl 0 rfl ?_
        refine g_X9_25 C dX9_takeNumber_36 ?_
        obtain ⟨x2, e3, hf⟩ := cl_of hf
        refine r_callVi (As := [.int (h 1 3)]) (st := []) C 1 rfl (by decide) rfl (kX9_byteAt (xG X) e3) cw_X9_38 rfl rfl (Nat.le_of_ble_eq_true rfl) (zr2 hR rfl rfl) (zrcs hcs) dX9_takeNumber_39 ?_
        refine r_callSi (As := [.int x2]) (st := []) C (kX9_isDigit (xG X)) cw_X9_42 rfl rfl (Nat.le_of_ble_eq_true rfl) (zr2 hR rfl rfl) (zrcs hcs) dX9_takeNumber_42 ?_
        refine r_if_eq C 91 dX9_takeNumber_45 (by decide) (fun c4 => ?_) (fun c4 => ?_)
        · rw [if_pos c4] at hf
          exact r_lv [0, 1, 2, 3] rfl (ih.2 _ _ _ _ hf)
        · rw [if_neg c4] at hf
          refine r_aload_n (i := 0) C dX9_takeNumber_48 rfl 0 rfl ?_
          refine g_X9_25 C dX9_takeNumber_49 ?_
          refine r_aload_n (i := 0) C dX9_takeNumber_52 rfl 0 rfl ?_
          refine g_X9_28 C dX9_takeNumber_53 ?_
          refine r_isub C dX9_takeNumber_56 ?_
          refine r_iconst (v := 3) C dX9_takeNumber_57 (by decide) ?_
          obtain ⟨x5, r7, hf⟩ := cl_of hf
          have k6 : VW X 5 h 0 0 78 [(0, .ref (gad (xG X) 1)), (1, .int y1), (2, .int y2), (3, .int x5)] [] := by
            refine r_aload_n (i := 0) C dX9_takeNumber_78 rfl 0 rfl ?_
            refine r_dup C dX9_takeNumber_79 rfl ?_
            refine g_X9_25 C dX9_takeNumber_80 ?_
            refine r_iconst (v := 1) C dX9_takeNumber_83 (by decide) ?_
            refine r_iadd C dX9_takeNumber_84 ?_
            obtain ⟨h12, eh12, hf⟩ := lt_of hf
            refine p_X9_25 C eh12 dX9_takeNumber_85 ?_
            refine r_goto C 23 dX9_takeNumber_88 (by decide) ?_
            exact r_lv [0, 1, 2, 3] rfl (ih.1 _ _ _ _ hf)
          clear hf
          have hf := r7
          refine r_icmp_ge C 78 dX9_takeNumber_58 (by decide) (fun c8 => ?_) (fun c8 => ?_)
          · rw [if_pos c8] at hf
            cases hf
            exact k6
          · rw [if_neg c8] at hf
            refine r_iload_n (i := 3) C dX9_takeNumber_61 rfl 3 rfl ?_
            refine r_bipush (v := 10) C dX9_takeNumber_62 (by decide) ?_
            refine r_imul C dX9_takeNumber_64 ?_
            refine r_aload_n (i := 0) C dX9_takeNumber_65 rfl 0 rfl ?_
            refine r_aload_n (i := 0) C dX9_takeNumber_66 rfl 0 rfl ?_
            refine g_X9_25 C dX9_takeNumber_67 ?_
            obtain ⟨x9, e10, hf⟩ := cl_of hf
            refine r_callVi (As := [.int (h 1 3)]) (st := [.int (y3 * (10 : Int32))]) C 1 rfl (by decide) rfl (kX9_byteAt (xG X) e10) cw_X9_38 rfl rfl (Nat.le_of_ble_eq_true rfl) (zr2 hR rfl rfl) (zrcs hcs) dX9_takeNumber_70 ?_
            refine r_iadd C dX9_takeNumber_73 ?_
            refine r_bipush (v := 48) C dX9_takeNumber_74 (by decide) ?_
            refine r_isub C dX9_takeNumber_76 ?_
            obtain ⟨x11, ex11, hf⟩ := lt_of hf
            refine r_top ex11 ?_
            refine r_istore_n (i := 3) (lv' := [(0, .ref (gad (xG X) 1)), (1, .int y1), (2, .int y2), (3, .int x11)]) C dX9_takeNumber_77 rfl (by decide) [1, 2, 3, 0] rfl ?_
            cases hf
            exact k6
    · intro h y1 y2 y3 hf
      rw [LX9_takeNumber, if_neg (by decide), if_pos rfl] at hf
      unfold BX9_takeNumber_1 at hf
      refine r_aload_n (i := 0) C dX9_takeNumber_91 rfl 0 rfl ?_
      refine g_X9_25 C dX9_takeNumber_92 ?_
      refine r_aload_n (i := 0) C dX9_takeNumber_95 rfl 0 rfl ?_
      refine g_X9_28 C dX9_takeNumber_96 ?_
      refine r_isub C dX9_takeNumber_99 ?_
      obtain ⟨x13, ex13, hf⟩ := lt_of hf
      refine r_top ex13 ?_
      refine r_istore (i := 4) (lv' := [(0, .ref (gad (xG X) 1)), (1, .int y1), (2, .int y2), (3, .int y3), (4, .int x13)]) C dX9_takeNumber_100 (by decide) [1, 2, 3, 4, 0] rfl ?_
      refine r_iload (i := 4) C dX9_takeNumber_102 4 rfl ?_
      obtain ⟨q14, r17, hf⟩ := cl_of hf
      have k15 : q14 = true → VW X 5 h 0 0 123 [(0, .ref (gad (xG X) 1)), (1, .int y1), (2, .int y2), (3, .int y3), (4, .int x13)] [] := fun qq => by
        rw [if_pos qq] at hf
        refine r_aload_n (i := 0) C dX9_takeNumber_123 rfl 0 rfl ?_
        refine r_aload_n (i := 0) C dX9_takeNumber_124 rfl 0 rfl ?_
        refine g_X9_28 C dX9_takeNumber_125 ?_
        obtain ⟨h22, e23, hf⟩ := cl_of hf
        refine r_callVv (As := [.int (h 1 4)]) (st := []) C 1 rfl (by decide) rfl (kX9_fail (xG X) e23) cw_X9_34 rfl rfl (Nat.le_of_ble_eq_true rfl) (zr2 hR rfl rfl) (zrcs hcs) dX9_takeNumber_128 ?_
        refine r_iconst (v := (-1)) C dX9_takeNumber_131 (by decide) ?_
        cases hf
        exact r_iret C hF dX9_takeNumber_132
      have k16 : q14 = false → VW X 5 h 0 0 133 [(0, .ref (gad (xG X) 1)), (1, .int y1), (2, .int y2), (3, .int y3), (4, .int x13)] [] := fun qq => by
        rw [if_neg (by rw [qq]; decide)] at hf
        refine r_iload_n (i := 3) C dX9_takeNumber_133 rfl 3 rfl ?_
        cases hf
        exact r_iret C hF dX9_takeNumber_134
      clear hf
      have hf := r17
      refine r_if_eq C 123 dX9_takeNumber_104 (by decide) (fun c18 => ?_) (fun c18 => ?_)
      · rw [if_pos c18] at hf
        exact k15 (Option.some.inj hf).symm
      · rw [if_neg c18] at hf
        refine r_iload (i := 4) C dX9_takeNumber_107 4 rfl ?_
        refine r_iconst (v := 3) C dX9_takeNumber_109 (by decide) ?_
        refine r_icmp_gt C 123 dX9_takeNumber_110 (by decide) (fun c19 => ?_) (fun c19 => ?_)
        · rw [if_pos c19] at hf
          exact k15 (Option.some.inj hf).symm
        · rw [if_neg c19] at hf
          refine r_iload_n (i := 3) C dX9_takeNumber_113 rfl 3 rfl ?_
          refine r_iload_n (i := 1) C dX9_takeNumber_114 rfl 1 rfl ?_
          refine r_icmp_lt C 123 dX9_takeNumber_115 (by decide) (fun c20 => ?_) (fun c20 => ?_)
          · rw [if_pos c20] at hf
            exact k15 (Option.some.inj hf).symm
          · rw [if_neg c20] at hf
            refine r_iload_n (i := 3) C dX9_takeNumber_118 rfl 3 rfl ?_
            refine r_iload_n (i := 2) C dX9_takeNumber_119 rfl 2 rfl ?_
            refine r_icmp_le C 133 dX9_takeNumber_120 (by decide) (fun c21 => ?_) (fun c21 => ?_)
            · rw [if_pos c21] at hf
              exact k16 (Option.some.inj hf).symm
            · rw [if_neg c21] at hf
              exact k15 (Option.some.inj hf).symm
set_option maxHeartbeats 4000000 in
set_option maxRecDepth 100000 in
theorem kX9_takeNumber (G : Gx)  {h : Hp} {a1 : Int32} {a2 : Int32} {rr : Int32} {hh : Hp} (hf : fX9_takeNumber h a1 a2 = some (rr, hh)) : MC G yX9_takeNumber cX9_takeNumber 5 (some .int) 2 128 h [.ref (gad G 1), .int a1, .int a2] (some (.int rr)) hh := by
  refine MC.of RX9 (by decide) rfl (Nat.le_of_ble_eq_true rfl) rfl (fun X C hG hR hF => ?_)
  subst hG
  have hcs : True := trivial
  unfold fX9_takeNumber at hf
  refine r_aload_n (i := 0) C dX9_takeNumber_0 rfl 0 rfl ?_
  obtain ⟨h24, e25, hf⟩ := cl_of hf
  refine r_callVv (As := []) (st := []) C 1 rfl (by decide) rfl (kX9_skipBlanks (xG X) e25) cw_X9_31 rfl rfl (Nat.le_of_ble_eq_true rfl) (zr2 hR rfl rfl) (zrcs hcs) dX9_takeNumber_1 ?_
  refine r_aload_n (i := 0) C dX9_takeNumber_4 rfl 0 rfl ?_
  refine r_callVi (As := []) (st := []) C 1 rfl (by decide) rfl (kX9_failed (xG X)) cw_X9_46 rfl rfl (Nat.le_of_ble_eq_true rfl) (zr2 hR rfl rfl) (zrcs hcs) dX9_takeNumber_5 ?_
  refine r_if_eq C 13 dX9_takeNumber_8 (by decide) (fun c26 => ?_) (fun c26 => ?_)
  · rw [if_pos c26] at hf
    refine r_aload_n (i := 0) C dX9_takeNumber_13 rfl 0 rfl ?_
    refine r_aload_n (i := 0) C dX9_takeNumber_14 rfl 0 rfl ?_
    refine g_X9_25 C dX9_takeNumber_15 ?_
    obtain ⟨h27, eh27, hf⟩ := lt_of hf
    refine p_X9_28 C eh27 dX9_takeNumber_18 ?_
    refine r_iconst (v := 0) C dX9_takeNumber_21 (by decide) ?_
    refine r_istore_n (i := 3) (lv' := [(0, .ref (gad (xG X) 1)), (1, .int a1), (2, .int a2), (3, .int (0 : Int32))]) C dX9_takeNumber_22 rfl (by decide) [1, 2, 3, 0] rfl ?_
    exact r_lv [0, 1, 2, 3] rfl ((wX9_takeNumber  C hR hcs hF big).1 _ _ _ _ hf)
  · rw [if_neg c26] at hf
    refine r_iconst (v := (-1)) C dX9_takeNumber_11 (by decide) ?_
    cases hf
    exact r_iret C hF dX9_takeNumber_12
def fX9_takeNumberBehind (h : Hp) (w : List Int32) (a1 : Int32) (a2 : Int32) : Option (Int32 × Hp) := cl2 (fX9_takeWord h w) (fun x3 h1 => (if x3 = (0 : Int32) then cl9 (fX9_failNext h1) (fun h8 => some ((-1 : Int32), h8)) else cl2 (fX9_takeNumber h1 a1 a2) (fun x7 h5 => some (x7, h5))))
set_option maxHeartbeats 4000000 in
set_option maxRecDepth 100000 in
theorem kX9_takeNumberBehind (G : Gx) {se : Nat} {so sx : String} {sn : Nat} {w : List Int32} (he : STR[se]? = some (so, sn, sx, w)) {h : Hp} {a1 : Int32} {a2 : Int32} {rr : Int32} {hh : Hp} (hf : fX9_takeNumberBehind h w a1 a2 = some (rr, hh)) : MC G yX9_takeNumberBehind cX9_takeNumberBehind 4 (some .int) 6 384 h [.ref (gad G 1), .ref (gsK G se), .int a1, .int a2] (some (.int rr)) hh := by
  refine MC.of RX9 (by decide) rfl (Nat.le_of_ble_eq_true rfl) rfl (fun X C hG hR hF => ?_)
  subst hG
  have hcs : True := trivial
  unfold fX9_takeNumberBehind at hf
  refine r_aload_n (i := 0) C dX9_takeNumberBehind_0 rfl 0 rfl ?_
  refine r_aload_n (i := 1) C dX9_takeNumberBehind_1 rfl 1 rfl ?_
  obtain ⟨x3, h1, e2, hf⟩ := cl2_of hf
  refine r_callVi (As := [.ref (gsK (xG X) se)]) (st := []) C 1 rfl (by decide) rfl (kX9_takeWord (xG X) he e2) cw_X9_62 rfl rfl (Nat.le_of_ble_eq_true rfl) (zr2 hR rfl rfl) (zrcs hcs) dX9_takeNumberBehind_2 ?_
  refine r_if_ne C 14 dX9_takeNumberBehind_5 (by decide) (fun c4 => ?_) (fun c4 => ?_)
  · rw [if_neg c4] at hf
    refine r_aload_n (i := 0) C dX9_takeNumberBehind_14 rfl 0 rfl ?_
    refine r_iload_n (i := 2) C dX9_takeNumberBehind_15 rfl 2 rfl ?_
    refine r_iload_n (i := 3) C dX9_takeNumberBehind_16 rfl 3 rfl ?_
    obtain ⟨x7, h5, e6, hf⟩ := cl2_of hf
    refine r_callVi (As := [.int a1, .int a2]) (st := []) C 1 rfl (by decide) rfl (kX9_takeNumber (xG X) e6) cw_X9_69 rfl rfl (Nat.le_of_ble_eq_true rfl) (zr2 hR rfl rfl) (zrcs hcs) dX9_takeNumberBehind_17 ?_
    cases hf
    exact r_iret C hF dX9_takeNumberBehind_20
  · rw [if_pos c4] at hf
    refine r_aload_n (i := 0) C dX9_takeNumberBehind_8 rfl 0 rfl ?_
    obtain ⟨h8, e9, hf⟩ := cl_of hf
    refine r_callVv (As := []) (st := []) C 1 rfl (by decide) rfl (kX9_failNext (xG X) e9) cw_X9_66 rfl rfl (Nat.le_of_ble_eq_true rfl) (zr2 hR rfl rfl) (zrcs hcs) dX9_takeNumberBehind_9 ?_
    refine r_iconst (v := (-1)) C dX9_takeNumberBehind_12 (by decide) ?_
    cases hf
    exact r_iret C hF dX9_takeNumberBehind_13
def fX11_pinner (h : Hp) (a1 : Int32) (a2 : Int32) : Option (Int32 × Nat × Hp) := (if (fX11_checkPinner h a1) = 0 then (if a2 = (0 : Int32) then gd (inb a1 5) (some ((h (32 + 6) a1.toNatClampNeg), 0, h)) else (if a2 = (1 : Int32) then gd (inb a1 5) (some ((h (32 + 7) a1.toNatClampNeg), 0, h)) else (if a2 = (2 : Int32) then gd (inb a1 5) (some ((h (32 + 8) a1.toNatClampNeg), 0, h)) else some ((0 : Int32), 2, h)))) else some ((0 : Int32), (fX11_checkPinner h a1), h))
set_option maxHeartbeats 4000000 in
set_option maxRecDepth 100000 in
theorem kX11_pinner (G : Gx)  {h : Hp} {a1 : Int32} {a2 : Int32} {rr : Int32} {kk : Nat} {hh : Hp} (hf : fX11_pinner h a1 a2 = some (rr, kk, hh)) : MX G yX11_pinner cX11_pinner 3 (some .int) 7 448 h [.ref (gad G 0), .int a1, .int a2] (some (.int rr)) kk hh := by
  refine MX.of RX11 (by decide) rfl (Nat.le_of_ble_eq_true rfl) rfl (fun X C hG hR hE => ?_)
  subst hG
  have hcs : True := trivial
  unfold fX11_pinner at hf
  refine r_aload_n (i := 0) C dX11_pinner_0 rfl 0 rfl ?_
  refine r_iload_n (i := 1) C dX11_pinner_1 rfl 1 rfl ?_
  by_cases c1 : (fX11_checkPinner h a1) = 0
  · rw [if_pos c1] at hf
    refine r_callXVv (As := [.int a1]) (st := []) C 0 rfl (by decide) rfl (kX11_checkPinner (xG X)) cw_X11_185 rfl rfl (Nat.le_of_ble_eq_true rfl) (zq2 hR rfl rfl) (zqc hR (Or.inl c1)) dX11_pinner_2 (fun q0 => absurd c1 q0) (fun _ => ?_)
    refine r_iload_n (i := 2) C dX11_pinner_5 rfl 2 rfl ?_
    by_cases c2 : a2 = (0 : Int32)
    · rw [if_pos c2] at hf
      refine r_tableIn C 32 dX11_pinner_6 (by rw [c2] <;> decide) (by rw [c2] <;> decide) (by rw [c2] <;> rfl) (by decide) ?_
      refine r_aload_n (i := 0) C dX11_pinner_32 rfl 0 rfl ?_
      refine g_X11_54 C dX11_pinner_33 ?_
      refine g_X11_188 sk32 C dX11_pinner_36 ?_
      refine g_X11_192 sk32 C dX11_pinner_39 ?_
      refine r_iload_n (i := 1) C dX11_pinner_42 rfl 1 rfl ?_
      obtain ⟨g3, hf⟩ := gd_of hf
      refine r_iald C (32 + 6) (sky_dsc sk32 6 (by decide)) (sky_lt sk32 6 (by decide)) g3 dX11_pinner_43 ?_
      cases hf
      exact r_iret C (hE.1 rfl) dX11_pinner_44
    · rw [if_neg c2] at hf
      by_cases c4 : a2 = (1 : Int32)
      · rw [if_pos c4] at hf
        refine r_tableIn C 45 dX11_pinner_6 (by rw [c4] <;> decide) (by rw [c4] <;> decide) (by rw [c4] <;> rfl) (by decide) ?_
        refine r_aload_n (i := 0) C dX11_pinner_45 rfl 0 rfl ?_
        refine g_X11_54 C dX11_pinner_46 ?_
        refine g_X11_188 sk32 C dX11_pinner_49 ?_
        refine g_X11_197 sk32 C dX11_pinner_52 ?_
        refine r_iload_n (i := 1) C dX11_pinner_55 rfl 1 rfl ?_
        obtain ⟨g5, hf⟩ := gd_of hf
        refine r_iald C (32 + 7) (sky_dsc sk32 7 (by decide)) (sky_lt sk32 7 (by decide)) g5 dX11_pinner_56 ?_
        cases hf
        exact r_iret C (hE.1 rfl) dX11_pinner_57
      · rw [if_neg c4] at hf
        by_cases c6 : a2 = (2 : Int32)
        · rw [if_pos c6] at hf
          refine r_tableIn C 58 dX11_pinner_6 (by rw [c6] <;> decide) (by rw [c6] <;> decide) (by rw [c6] <;> rfl) (by decide) ?_
          refine r_aload_n (i := 0) C dX11_pinner_58 rfl 0 rfl ?_
          refine g_X11_54 C dX11_pinner_59 ?_
          refine g_X11_188 sk32 C dX11_pinner_62 ?_
          refine g_X11_200 sk32 C dX11_pinner_65 ?_
          refine r_iload_n (i := 1) C dX11_pinner_68 rfl 1 rfl ?_
          obtain ⟨g7, hf⟩ := gd_of hf
          refine r_iald C (32 + 8) (sky_dsc sk32 8 (by decide)) (sky_lt sk32 8 (by decide)) g7 dX11_pinner_69 ?_
          cases hf
          exact r_iret C (hE.1 rfl) dX11_pinner_70
        · rw [if_neg c6] at hf
          refine r_tableOut C 71 dX11_pinner_6 (sw_out2 (0) (2) 3 (by decide) ?_ (by decide) (by decide)) (by decide) ?_
          · intro k9 h9
            match k9, h9 with
            | 0, _ => exact fun e9 => c2 (e9.trans (by decide))
            | 1, _ => exact fun e9 => c4 (e9.trans (by decide))
            | 2, _ => exact fun e9 => c6 (e9.trans (by decide))
            | k9 + 3, h9 => exact absurd h9 (by omega)
          cases hf
          exact r_throw C (by decide) (hE.2 (by decide)) (zqt (by decide) hR rfl rfl) tw_2 (Nat.le_of_ble_eq_true rfl) dX11_pinner_71 dX11_pinner_74 dX11_pinner_75 dX11_pinner_78
  · rw [if_neg c1] at hf
    cases hf
    exact r_callXVv (As := [.int a1]) (st := []) C 0 rfl (by decide) rfl (kX11_checkPinner (xG X)) cw_X11_185 rfl rfl (Nat.le_of_ble_eq_true rfl) (zq2 hR rfl rfl) (zqc hR (Or.inr rfl)) dX11_pinner_2 (fun q0 => hE.2 q0) (fun q0 => absurd q0 c1)
def fX11_pin (h : Hp) (a1 : Int32) : Option (Int32 × Nat × Hp) := (if (fX11_checkPinner h a1) = 0 then gd (inb a1 5) (cl9 ((if (fX7_hasLadder h 32 (h (32 + 6) a1.toNatClampNeg)) = (0 : Int32) then some true else (if (fX7_hasPin h 32 (h (32 + 6) a1.toNatClampNeg)) = (0 : Int32) then gd (inb a1 5) ((if (1 : Int32) ≤ (h (32 + 8) a1.toNatClampNeg) then some false else some true)) else some true)) : Option Bool) (fun q3 => if q3 = true then some ((0 : Int32), 4, h) else cl9 (fX5_remember h 32) (fun h11 => gd (inb a1 5) (gd (inb a1 5) (lt9 (up2 h11 (32 + 8) a1.toNatClampNeg ((h11 (32 + 8) a1.toNatClampNeg) - (1 : Int32))) (fun h15 => cl9 (fX7_setPin h15 32 (h (32 + 6) a1.toNatClampNeg) (0 : Int32)) (fun h16 => cl9 (fX4_add h16 32 (h16 32 13) (h (32 + 6) a1.toNatClampNeg) (0 : Int32) (0 : Int32)) (fun h18 => some ((h (32 + 6) a1.toNatClampNeg), 0, h18))))))))) else some ((0 : Int32), (fX11_checkPinner h a1), h))
set_option maxHeartbeats 4000000 in
set_option maxRecDepth 100000 in
theorem kX11_pin (G : Gx)  {h : Hp} {a1 : Int32} {rr : Int32} {kk : Nat} {hh : Hp} (hf : fX11_pin h a1 = some (rr, kk, hh)) : MX G yX11_pin cX11_pin 3 (some .int) 7 448 h [.ref (gad G 0), .int a1] (some (.int rr)) kk hh := by
  refine MX.of RX11 (by decide) rfl (Nat.le_of_ble_eq_true rfl) rfl (fun X C hG hR hE => ?_)
  subst hG
  have hcs : True := trivial
  unfold fX11_pin at hf
  refine r_aload_n (i := 0) C dX11_pin_0 rfl 0 rfl ?_
  refine r_iload_n (i := 1) C dX11_pin_1 rfl 1 rfl ?_
  by_cases c1 : (fX11_checkPinner h a1) = 0
  · rw [if_pos c1] at hf
    refine r_callXVv (As := [.int a1]) (st := []) C 0 rfl (by decide) rfl (kX11_checkPinner (xG X)) cw_X11_185 rfl rfl (Nat.le_of_ble_eq_true rfl) (zq2 hR rfl rfl) (zqc hR (Or.inl c1)) dX11_pin_2 (fun q0 => absurd c1 q0) (fun _ => ?_)
    refine r_aload_n (i := 0) C dX11_pin_5 rfl 0 rfl ?_
    refine g_X11_54 C dX11_pin_6 ?_
    refine g_X11_188 sk32 C dX11_pin_9 ?_
    refine g_X11_192 sk32 C dX11_pin_12 ?_
    refine r_iload_n (i := 1) C dX11_pin_15 rfl 1 rfl ?_
    obtain ⟨g2, hf⟩ := gd_of hf
    refine r_iald C (32 + 6) (sky_dsc sk32 6 (by decide)) (sky_lt sk32 6 (by decide)) g2 dX11_pin_16 ?_
    refine r_istore_n (i := 2) (lv' := [(0, .ref (gad (xG X) 0)), (1, .int a1), (2, .int (h (32 + 6) a1.toNatClampNeg))]) C dX11_pin_17 rfl (by decide) [1, 2, 0] rfl ?_
    refine r_aload_n (i := 0) C dX11_pin_18 rfl 0 rfl ?_
    refine g_X11_54 C dX11_pin_19 ?_
    refine r_iload_n (i := 2) C dX11_pin_22 rfl 2 rfl ?_
    refine r_callNVi (As := [.int (h (32 + 6) a1.toNatClampNeg)]) (st := []) C 32 (sky_d0 sk32) (sky_l0 sk32) rfl (kX7_hasLadder (xG X) sk32) cw_X11_148 rfl rfl (Nat.le_of_ble_eq_true rfl) (zq2 hR rfl rfl) (zrcs hcs) dX11_pin_23 ?_
    obtain ⟨q3, r6, hf⟩ := cl_of hf
    have k4 : q3 = true → VW X 3 h 0 0 56 [(0, .ref (gad (xG X) 0)), (1, .int a1), (2, .int (h (32 + 6) a1.toNatClampNeg))] [] := fun qq => by
      rw [if_pos qq] at hf
      cases hf
      exact r_throw C (by decide) (hE.2 (by decide)) (zqt (by decide) hR rfl rfl) tw_4 (Nat.le_of_ble_eq_true rfl) dX11_pin_56 dX11_pin_59 dX11_pin_60 dX11_pin_63
    have k5 : q3 = false → VW X 3 h 0 0 64 [(0, .ref (gad (xG X) 0)), (1, .int a1), (2, .int (h (32 + 6) a1.toNatClampNeg))] [] := fun qq => by
      rw [if_neg (by rw [qq]; decide)] at hf
      refine r_aload_n (i := 0) C dX11_pin_64 rfl 0 rfl ?_
      refine g_X11_40 C dX11_pin_65 ?_
      refine r_aload_n (i := 0) C dX11_pin_68 rfl 0 rfl ?_
      refine g_X11_54 C dX11_pin_69 ?_
      obtain ⟨h11, e12, hf⟩ := cl_of hf
      refine r_callNVv (As := [.ref (gad (xG X) 32)]) (st := []) C 18 rfl (by decide) rfl (kX5_remember (xG X) sk32 e12) cw_X11_209 rfl rfl (Nat.le_of_ble_eq_true rfl) (zq2 hR rfl rfl) (zrcs hcs) dX11_pin_72 ?_
      refine r_aload_n (i := 0) C dX11_pin_75 rfl 0 rfl ?_
      refine g_X11_54 C dX11_pin_76 ?_
      refine g_X11_188 sk32 C dX11_pin_79 ?_
      refine g_X11_200 sk32 C dX11_pin_82 ?_
      refine r_iload_n (i := 1) C dX11_pin_85 rfl 1 rfl ?_
      refine r_dup2 C dX11_pin_86 rfl rfl ?_
      obtain ⟨g13, hf⟩ := gd_of hf
      refine r_iald C (32 + 8) (sky_dsc sk32 8 (by decide)) (sky_lt sk32 8 (by decide)) g13 dX11_pin_87 ?_
      refine r_iconst (v := 1) C dX11_pin_88 (by decide) ?_
      refine r_isub C dX11_pin_89 ?_
      obtain ⟨g14, hf⟩ := gd_of hf
      obtain ⟨h15, eh15, hf⟩ := lt_of hf
      refine r_iast C (32 + 8) eh15 (sky_dsc sk32 8 (by decide)) (sky_lt sk32 8 (by decide)) g14 dX11_pin_90 ?_
      refine r_aload_n (i := 0) C dX11_pin_91 rfl 0 rfl ?_
      refine g_X11_54 C dX11_pin_92 ?_
      refine r_iload_n (i := 2) C dX11_pin_95 rfl 2 rfl ?_
      refine r_iconst (v := 0) C dX11_pin_96 (by decide) ?_
      obtain ⟨h16, e17, hf⟩ := cl_of hf
      refine r_callNVv (As := [.int (h (32 + 6) a1.toNatClampNeg), .int (0 : Int32)]) (st := []) C 32 (sky_d0 sk32) (sky_l0 sk32) rfl (kX7_setPin (xG X) sk32 e17) cw_X11_212 rfl rfl (Nat.le_of_ble_eq_true rfl) (zq2 hR rfl rfl) (zrcs hcs) dX11_pin_97 ?_
      refine r_aload_n (i := 0) C dX11_pin_100 rfl 0 rfl ?_
      refine g_X11_54 C dX11_pin_101 ?_
      refine g_X11_216 sk32 C dX11_pin_104 ?_
      refine r_aload_n (i := 0) C dX11_pin_107 rfl 0 rfl ?_
      refine g_X11_54 C dX11_pin_108 ?_
      refine g_X11_220 sk32 C dX11_pin_111 ?_
      refine r_iload_n (i := 2) C dX11_pin_114 rfl 2 rfl ?_
      refine r_iconst (v := 0) C dX11_pin_115 (by decide) ?_
      refine r_iconst (v := 0) C dX11_pin_116 (by decide) ?_
      obtain ⟨h18, e19, hf⟩ := cl_of hf
      refine r_callNVv (As := [.int (h16 32 13), .int (h (32 + 6) a1.toNatClampNeg), .int (0 : Int32), .int (0 : Int32)]) (st := []) C (32 + 9) (sky_dsc sk32 9 (by decide)) (sky_lt sk32 9 (by decide)) rfl (kX4_add (xG X) sk32 e19) cw_X11_225 rfl rfl (Nat.le_of_ble_eq_true rfl) (zq2 hR rfl rfl) (zrcs hcs) dX11_pin_117 ?_
      refine r_iload_n (i := 2) C dX11_pin_120 rfl 2 rfl ?_
      cases hf
      exact r_iret C (hE.1 rfl) dX11_pin_121
    clear hf
    have hf := r6
    refine r_if_eq C 56 dX11_pin_26 (by decide) (fun c7 => ?_) (fun c7 => ?_)
    · rw [if_pos c7] at hf
      exact k4 (Option.some.inj hf).symm
    · rw [if_neg c7] at hf
      refine r_aload_n (i := 0) C dX11_pin_29 rfl 0 rfl ?_
      refine g_X11_54 C dX11_pin_30 ?_
      refine r_iload_n (i := 2) C dX11_pin_33 rfl 2 rfl ?_
      refine r_callNVi (As := [.int (h (32 + 6) a1.toNatClampNeg)]) (st := []) C 32 (sky_d0 sk32) (sky_l0 sk32) rfl (kX7_hasPin (xG X) sk32) cw_X11_151 rfl rfl (Nat.le_of_ble_eq_true rfl) (zq2 hR rfl rfl) (zrcs hcs) dX11_pin_34 ?_
      refine r_if_ne C 56 dX11_pin_37 (by decide) (fun c8 => ?_) (fun c8 => ?_)
      · rw [if_neg c8] at hf
        exact k4 (Option.some.inj hf).symm
      · rw [if_pos c8] at hf
        refine r_aload_n (i := 0) C dX11_pin_40 rfl 0 rfl ?_
        refine g_X11_54 C dX11_pin_41 ?_
        refine g_X11_188 sk32 C dX11_pin_44 ?_
        refine g_X11_200 sk32 C dX11_pin_47 ?_
        refine r_iload_n (i := 1) C dX11_pin_50 rfl 1 rfl ?_
        obtain ⟨g9, hf⟩ := gd_of hf
        refine r_iald C (32 + 8) (sky_dsc sk32 8 (by decide)) (sky_lt sk32 8 (by decide)) g9 dX11_pin_51 ?_
        refine r_iconst (v := 1) C dX11_pin_52 (by decide) ?_
        refine r_icmp_ge C 64 dX11_pin_53 (by decide) (fun c10 => ?_) (fun c10 => ?_)
        · rw [if_pos c10] at hf
          exact k5 (Option.some.inj hf).symm
        · rw [if_neg c10] at hf
          exact k4 (Option.some.inj hf).symm
  · rw [if_neg c1] at hf
    cases hf
    exact r_callXVv (As := [.int a1]) (st := []) C 0 rfl (by decide) rfl (kX11_checkPinner (xG X)) cw_X11_185 rfl rfl (Nat.le_of_ble_eq_true rfl) (zq2 hR rfl rfl) (zqc hR (Or.inr rfl)) dX11_pin_2 (fun q0 => hE.2 q0) (fun q0 => absurd q0 c1)
def fX11_change (h : Hp) (a1 : Int32) : Option (Int32 × Nat × Hp) := (if (fX11_checkPinner h a1) = 0 then gd (inb a1 5) (cl9 ((if (fX7_hasLadder h 32 (h (32 + 6) a1.toNatClampNeg)) = (0 : Int32) then some true else (if (fX7_hasPin h 32 (h (32 + 6) a1.toNatClampNeg)) = (0 : Int32) then some true else gd (inb a1 5) ((if (1 : Int32) ≤ (h (32 + 8) a1.toNatClampNeg) then some false else some true)))) : Option Bool) (fun q3 => if q3 = true then some ((0 : Int32), 4, h) else cl9 (fX5_remember h 32) (fun h11 => gd (inb (h (32 + 6) a1.toNatClampNeg) 16) (gd (inb a1 5) (gd (inb a1 5) (lt9 (up2 h11 (32 + 8) a1.toNatClampNeg ((h11 (32 + 8) a1.toNatClampNeg) - (1 : Int32))) (fun h16 => cl9 (fX7_setPin h16 32 (h (32 + 6) a1.toNatClampNeg) (0 : Int32)) (fun h17 => cl9 (fX4_add h17 32 (h17 32 13) (h (32 + 6) a1.toNatClampNeg) (1 : Int32) (h11 (32 + 4) (h (32 + 6) a1.toNatClampNeg).toNatClampNeg)) (fun h19 => some ((h11 (32 + 4) (h (32 + 6) a1.toNatClampNeg).toNatClampNeg), 0, h19)))))))))) else some ((0 : Int32), (fX11_checkPinner h a1), h))
set_option maxHeartbeats 4000000 in
set_option maxRecDepth 100000 in
theorem kX11_change (G : Gx)  {h : Hp} {a1 : Int32} {rr : Int32} {kk : Nat} {hh : Hp} (hf : fX11_change h a1 = some (rr, kk, hh)) : MX G yX11_change cX11_change 4 (some .int) 7 448 h [.ref (gad G 0), .int a1] (some (.int rr)) kk hh := by
  refine MX.of RX11 (by decide) rfl (Nat.le_of_ble_eq_true rfl) rfl (fun X C hG hR hE => ?_)
  subst hG
  have hcs : True := trivial
  unfold fX11_change at hf
  refine r_aload_n (i := 0) C dX11_change_0 rfl 0 rfl ?_
  refine r_iload_n (i := 1) C dX11_change_1 rfl 1 rfl ?_
  by_cases c1 : (fX11_checkPinner h a1) = 0
  · rw [if_pos c1] at hf
    refine r_callXVv (As := [.int a1]) (st := []) C 0 rfl (by decide) rfl (kX11_checkPinner (xG X)) cw_X11_185 rfl rfl (Nat.le_of_ble_eq_true rfl) (zq2 hR rfl rfl) (zqc hR (Or.inl c1)) dX11_change_2 (fun q0 => absurd c1 q0) (fun _ => ?_)
    refine r_aload_n (i := 0) C dX11_change_5 rfl 0 rfl ?_
    refine g_X11_54 C dX11_change_6 ?_
    refine g_X11_188 sk32 C dX11_change_9 ?_
    refine g_X11_192 sk32 C dX11_change_12 ?_
    refine r_iload_n (i := 1) C dX11_change_15 rfl 1 rfl ?_
    obtain ⟨g2, hf⟩ := gd_of hf
    refine r_iald C (32 + 6) (sky_dsc sk32 6 (by decide)) (sky_lt sk32 6 (by decide)) g2 dX11_change_16 ?_
    refine r_istore_n (i := 2) (lv' := [(0, .ref (gad (xG X) 0)), (1, .int a1), (2, .int (h (32 + 6) a1.toNatClampNeg))]) C dX11_change_17 rfl (by decide) [1, 2, 0] rfl ?_
    refine r_aload_n (i := 0) C dX11_change_18 rfl 0 rfl ?_
    refine g_X11_54 C dX11_change_19 ?_
    refine r_iload_n (i := 2) C dX11_change_22 rfl 2 rfl ?_
    refine r_callNVi (As := [.int (h (32 + 6) a1.toNatClampNeg)]) (st := []) C 32 (sky_d0 sk32) (sky_l0 sk32) rfl (kX7_hasLadder (xG X) sk32) cw_X11_148 rfl rfl (Nat.le_of_ble_eq_true rfl) (zq2 hR rfl rfl) (zrcs hcs) dX11_change_23 ?_
    obtain ⟨q3, r6, hf⟩ := cl_of hf
    have k4 : q3 = true → VW X 4 h 0 0 56 [(0, .ref (gad (xG X) 0)), (1, .int a1), (2, .int (h (32 + 6) a1.toNatClampNeg))] [] := fun qq => by
      rw [if_pos qq] at hf
      cases hf
      exact r_throw C (by decide) (hE.2 (by decide)) (zqt (by decide) hR rfl rfl) tw_4 (Nat.le_of_ble_eq_true rfl) dX11_change_56 dX11_change_59 dX11_change_60 dX11_change_63
    have k5 : q3 = false → VW X 4 h 0 0 64 [(0, .ref (gad (xG X) 0)), (1, .int a1), (2, .int (h (32 + 6) a1.toNatClampNeg))] [] := fun qq => by
      rw [if_neg (by rw [qq]; decide)] at hf
      refine r_aload_n (i := 0) C dX11_change_64 rfl 0 rfl ?_
      refine g_X11_40 C dX11_change_65 ?_
      refine r_aload_n (i := 0) C dX11_change_68 rfl 0 rfl ?_
      refine g_X11_54 C dX11_change_69 ?_
      obtain ⟨h11, e12, hf⟩ := cl_of hf
      refine r_callNVv (As := [.ref (gad (xG X) 32)]) (st := []) C 18 rfl (by decide) rfl (kX5_remember (xG X) sk32 e12) cw_X11_209 rfl rfl (Nat.le_of_ble_eq_true rfl) (zq2 hR rfl rfl) (zrcs hcs) dX11_change_72 ?_
      refine r_aload_n (i := 0) C dX11_change_75 rfl 0 rfl ?_
      refine g_X11_54 C dX11_change_76 ?_
      refine g_X11_154 sk32 C dX11_change_79 ?_
      refine r_iload_n (i := 2) C dX11_change_82 rfl 2 rfl ?_
      obtain ⟨g13, hf⟩ := gd_of hf
      refine r_iald C (32 + 4) (sky_dsc sk32 4 (by decide)) (sky_lt sk32 4 (by decide)) g13 dX11_change_83 ?_
      refine r_istore_n (i := 3) (lv' := [(0, .ref (gad (xG X) 0)), (1, .int a1), (2, .int (h (32 + 6) a1.toNatClampNeg)), (3, .int (h11 (32 + 4) (h (32 + 6) a1.toNatClampNeg).toNatClampNeg))]) C dX11_change_84 rfl (by decide) [1, 2, 3, 0] rfl ?_
      refine r_aload_n (i := 0) C dX11_change_85 rfl 0 rfl ?_
      refine g_X11_54 C dX11_change_86 ?_
      refine g_X11_188 sk32 C dX11_change_89 ?_
      refine g_X11_200 sk32 C dX11_change_92 ?_
      refine r_iload_n (i := 1) C dX11_change_95 rfl 1 rfl ?_
      refine r_dup2 C dX11_change_96 rfl rfl ?_
      obtain ⟨g14, hf⟩ := gd_of hf
      refine r_iald C (32 + 8) (sky_dsc sk32 8 (by decide)) (sky_lt sk32 8 (by decide)) g14 dX11_change_97 ?_
      refine r_iconst (v := 1) C dX11_change_98 (by decide) ?_
      refine r_isub C dX11_change_99 ?_
      obtain ⟨g15, hf⟩ := gd_of hf
      obtain ⟨h16, eh16, hf⟩ := lt_of hf
      refine r_iast C (32 + 8) eh16 (sky_dsc sk32 8 (by decide)) (sky_lt sk32 8 (by decide)) g15 dX11_change_100 ?_
      refine r_aload_n (i := 0) C dX11_change_101 rfl 0 rfl ?_
      refine g_X11_54 C dX11_change_102 ?_
      refine r_iload_n (i := 2) C dX11_change_105 rfl 2 rfl ?_
      refine r_iconst (v := 0) C dX11_change_106 (by decide) ?_
      obtain ⟨h17, e18, hf⟩ := cl_of hf
      refine r_callNVv (As := [.int (h (32 + 6) a1.toNatClampNeg), .int (0 : Int32)]) (st := []) C 32 (sky_d0 sk32) (sky_l0 sk32) rfl (kX7_setPin (xG X) sk32 e18) cw_X11_212 rfl rfl (Nat.le_of_ble_eq_true rfl) (zq2 hR rfl rfl) (zrcs hcs) dX11_change_107 ?_
      refine r_aload_n (i := 0) C dX11_change_110 rfl 0 rfl ?_
      refine g_X11_54 C dX11_change_111 ?_
      refine g_X11_216 sk32 C dX11_change_114 ?_
      refine r_aload_n (i := 0) C dX11_change_117 rfl 0 rfl ?_
      refine g_X11_54 C dX11_change_118 ?_
      refine g_X11_220 sk32 C dX11_change_121 ?_
      refine r_iload_n (i := 2) C dX11_change_124 rfl 2 rfl ?_
      refine r_iconst (v := 1) C dX11_change_125 (by decide) ?_
      refine r_iload_n (i := 3) C dX11_change_126 rfl 3 rfl ?_
      obtain ⟨h19, e20, hf⟩ := cl_of hf
      refine r_callNVv (As := [.int (h17 32 13), .int (h (32 + 6) a1.toNatClampNeg), .int (1 : Int32), .int (h11 (32 + 4) (h (32 + 6) a1.toNatClampNeg).toNatClampNeg)]) (st := []) C (32 + 9) (sky_dsc sk32 9 (by decide)) (sky_lt sk32 9 (by decide)) rfl (kX4_add (xG X) sk32 e20) cw_X11_225 rfl rfl (Nat.le_of_ble_eq_true rfl) (zq2 hR rfl rfl) (zrcs hcs) dX11_change_127 ?_
      refine r_iload_n (i := 3) C dX11_change_130 rfl 3 rfl ?_
      cases hf
      exact r_iret C (hE.1 rfl) dX11_change_131
    clear hf
    have hf := r6
    refine r_if_eq C 56 dX11_change_26 (by decide) (fun c7 => ?_) (fun c7 => ?_)
    · rw [if_pos c7] at hf
      exact k4 (Option.some.inj hf).symm
    · rw [if_neg c7] at hf
      refine r_aload_n (i := 0) C dX11_change_29 rfl 0 rfl ?_
      refine g_X11_54 C dX11_change_30 ?_
      refine r_iload_n (i := 2) C dX11_change_33 rfl 2 rfl ?_
      refine r_callNVi (As := [.int (h (32 + 6) a1.toNatClampNeg)]) (st := []) C 32 (sky_d0 sk32) (sky_l0 sk32) rfl (kX7_hasPin (xG X) sk32) cw_X11_151 rfl rfl (Nat.le_of_ble_eq_true rfl) (zq2 hR rfl rfl) (zrcs hcs) dX11_change_34 ?_
      refine r_if_eq C 56 dX11_change_37 (by decide) (fun c8 => ?_) (fun c8 => ?_)
      · rw [if_pos c8] at hf
        exact k4 (Option.some.inj hf).symm
      · rw [if_neg c8] at hf
        refine r_aload_n (i := 0) C dX11_change_40 rfl 0 rfl ?_
        refine g_X11_54 C dX11_change_41 ?_
        refine g_X11_188 sk32 C dX11_change_44 ?_
        refine g_X11_200 sk32 C dX11_change_47 ?_
        refine r_iload_n (i := 1) C dX11_change_50 rfl 1 rfl ?_
        obtain ⟨g9, hf⟩ := gd_of hf
        refine r_iald C (32 + 8) (sky_dsc sk32 8 (by decide)) (sky_lt sk32 8 (by decide)) g9 dX11_change_51 ?_
        refine r_iconst (v := 1) C dX11_change_52 (by decide) ?_
        refine r_icmp_ge C 64 dX11_change_53 (by decide) (fun c10 => ?_) (fun c10 => ?_)
        · rw [if_pos c10] at hf
          exact k5 (Option.some.inj hf).symm
        · rw [if_neg c10] at hf
          exact k4 (Option.some.inj hf).symm
  · rw [if_neg c1] at hf
    cases hf
    exact r_callXVv (As := [.int a1]) (st := []) C 0 rfl (by decide) rfl (kX11_checkPinner (xG X)) cw_X11_185 rfl rfl (Nat.le_of_ble_eq_true rfl) (zq2 hR rfl rfl) (zqc hR (Or.inr rfl)) dX11_change_2 (fun q0 => hE.2 q0) (fun q0 => absurd q0 c1)
def fX11_go (h : Hp) (a1 : Int32) (a2 : Int32) : Option (Int32 × Nat × Hp) := (if (fX11_checkPinner h a1) = 0 then (if (fX11_checkPlace a2) = 0 then gd (inb a1 5) (lt9 (jabs ((h (32 + 6) a1.toNatClampNeg) - a2)) (fun x4 => gd (inb a1 5) ((if x4 ≤ (h (32 + 7) a1.toNatClampNeg) then cl9 (fX5_remember h 32) (fun h7 => gd (inb a1 5) (lt9 (up2 h7 (32 + 6) a1.toNatClampNeg a2) (fun h10 => some (x4, 0, h10)))) else some ((0 : Int32), 3, h))))) else some ((0 : Int32), (fX11_checkPlace a2), h)) else some ((0 : Int32), (fX11_checkPinner h a1), h))
set_option maxHeartbeats 4000000 in
set_option maxRecDepth 100000 in
theorem kX11_go (G : Gx)  {h : Hp} {a1 : Int32} {a2 : Int32} {rr : Int32} {kk : Nat} {hh : Hp} (hf : fX11_go h a1 a2 = some (rr, kk, hh)) : MX G yX11_go cX11_go 4 (some .int) 8 512 h [.ref (gad G 0), .int a1, .int a2] (some (.int rr)) kk hh := by
  refine MX.of RX11 (by decide) rfl (Nat.le_of_ble_eq_true rfl) rfl (fun X C hG hR hE => ?_)
  subst hG
  have hcs : True := trivial
  unfold fX11_go at hf
  refine r_aload_n (i := 0) C dX11_go_0 rfl 0 rfl ?_
  refine r_iload_n (i := 1) C dX11_go_1 rfl 1 rfl ?_
  by_cases c1 : (fX11_checkPinner h a1) = 0
  · rw [if_pos c1] at hf
    refine r_callXVv (As := [.int a1]) (st := []) C 0 rfl (by decide) rfl (kX11_checkPinner (xG X)) cw_X11_185 rfl rfl (Nat.le_of_ble_eq_true rfl) (zq2 hR rfl rfl) (zqc hR (Or.inl c1)) dX11_go_2 (fun q0 => absurd c1 q0) (fun _ => ?_)
    refine r_iload_n (i := 2) C dX11_go_5 rfl 2 rfl ?_
    by_cases c2 : (fX11_checkPlace a2) = 0
    · rw [if_pos c2] at hf
      refine r_callXSv (As := [.int a2]) (st := []) C (kX11_checkPlace (xG X)) cw_X11_136 rfl rfl (Nat.le_of_ble_eq_true rfl) (zq2 hR rfl rfl) (zqc hR (Or.inl c2)) dX11_go_6 (fun q0 => absurd c2 q0) (fun _ => ?_)
      refine r_aload_n (i := 0) C dX11_go_9 rfl 0 rfl ?_
      refine g_X11_54 C dX11_go_10 ?_
      refine g_X11_188 sk32 C dX11_go_13 ?_
      refine g_X11_192 sk32 C dX11_go_16 ?_
      refine r_iload_n (i := 1) C dX11_go_19 rfl 1 rfl ?_
      obtain ⟨g3, hf⟩ := gd_of hf
      refine r_iald C (32 + 6) (sky_dsc sk32 6 (by decide)) (sky_lt sk32 6 (by decide)) g3 dX11_go_20 ?_
      refine r_iload_n (i := 2) C dX11_go_21 rfl 2 rfl ?_
      refine r_isub C dX11_go_22 ?_
      refine r_mabs9 C gw_1262 gm_abs_s gm_i gm_abs_c (zq1 hR rfl) (zq0 hR (Nat.le_of_ble_eq_true rfl)) (zrcs hcs) dX11_go_23 ?_
      obtain ⟨x4, ex4, hf⟩ := lt_of hf
      refine r_top ex4 ?_
      refine r_istore_n (i := 3) (lv' := [(0, .ref (gad (xG X) 0)), (1, .int a1), (2, .int a2), (3, .int x4)]) C dX11_go_26 rfl (by decide) [1, 2, 3, 0] rfl ?_
      refine r_iload_n (i := 3) C dX11_go_27 rfl 3 rfl ?_
      refine r_aload_n (i := 0) C dX11_go_28 rfl 0 rfl ?_
      refine g_X11_54 C dX11_go_29 ?_
      refine g_X11_188 sk32 C dX11_go_32 ?_
      refine g_X11_197 sk32 C dX11_go_35 ?_
      refine r_iload_n (i := 1) C dX11_go_38 rfl 1 rfl ?_
      obtain ⟨g5, hf⟩ := gd_of hf
      refine r_iald C (32 + 7) (sky_dsc sk32 7 (by decide)) (sky_lt sk32 7 (by decide)) g5 dX11_go_39 ?_
      refine r_icmp_le C 51 dX11_go_40 (by decide) (fun c6 => ?_) (fun c6 => ?_)
      · rw [if_pos c6] at hf
        refine r_aload_n (i := 0) C dX11_go_51 rfl 0 rfl ?_
        refine g_X11_40 C dX11_go_52 ?_
        refine r_aload_n (i := 0) C dX11_go_55 rfl 0 rfl ?_
        refine g_X11_54 C dX11_go_56 ?_
        obtain ⟨h7, e8, hf⟩ := cl_of hf
        refine r_callNVv (As := [.ref (gad (xG X) 32)]) (st := []) C 18 rfl (by decide) rfl (kX5_remember (xG X) sk32 e8) cw_X11_209 rfl rfl (Nat.le_of_ble_eq_true rfl) (zq2 hR rfl rfl) (zrcs hcs) dX11_go_59 ?_
        refine r_aload_n (i := 0) C dX11_go_62 rfl 0 rfl ?_
        refine g_X11_54 C dX11_go_63 ?_
        refine g_X11_188 sk32 C dX11_go_66 ?_
        refine g_X11_192 sk32 C dX11_go_69 ?_
        refine r_iload_n (i := 1) C dX11_go_72 rfl 1 rfl ?_
        refine r_iload_n (i := 2) C dX11_go_73 rfl 2 rfl ?_
        obtain ⟨g9, hf⟩ := gd_of hf
        obtain ⟨h10, eh10, hf⟩ := lt_of hf
        refine r_iast C (32 + 6) eh10 (sky_dsc sk32 6 (by decide)) (sky_lt sk32 6 (by decide)) g9 dX11_go_74 ?_
        refine r_iload_n (i := 3) C dX11_go_75 rfl 3 rfl ?_
        cases hf
        exact r_iret C (hE.1 rfl) dX11_go_76
      · rw [if_neg c6] at hf
        cases hf
        exact r_throw C (by decide) (hE.2 (by decide)) (zqt (by decide) hR rfl rfl) tw_3 (Nat.le_of_ble_eq_true rfl) dX11_go_43 dX11_go_46 dX11_go_47 dX11_go_50
    · rw [if_neg c2] at hf
      cases hf
      exact r_callXSv (As := [.int a2]) (st := []) C (kX11_checkPlace (xG X)) cw_X11_136 rfl rfl (Nat.le_of_ble_eq_true rfl) (zq2 hR rfl rfl) (zqc hR (Or.inr rfl)) dX11_go_6 (fun q0 => hE.2 q0) (fun q0 => absurd q0 c2)
  · rw [if_neg c1] at hf
    cases hf
    exact r_callXVv (As := [.int a1]) (st := []) C 0 rfl (by decide) rfl (kX11_checkPinner (xG X)) cw_X11_185 rfl rfl (Nat.le_of_ble_eq_true rfl) (zq2 hR rfl rfl) (zqc hR (Or.inr rfl)) dX11_go_2 (fun q0 => hE.2 q0) (fun q0 => absurd q0 c1)
def fX11_pull (h : Hp) (a1 : Int32) : Option (Int32 × Nat × Hp) := (if (fX11_checkPlace a1) = 0 then (if (fX7_hasPin h 32 a1) = (0 : Int32) then some ((0 : Int32), 4, h) else cl9 (fX5_remember h 32) (fun h3 => gd (inb a1 16) (cl9 (fX7_takePin h3 32 a1) (fun h6 => cl9 (fX4_add h6 32 (h6 32 13) a1 (2 : Int32) (h3 (32 + 4) a1.toNatClampNeg)) (fun h8 => lt9 (up2 h8 32 12 (jmin ((h8 32 12) + (1 : Int32)) (999 : Int32))) (fun h10 => some ((h3 (32 + 4) a1.toNatClampNeg), 0, h10))))))) else some ((0 : Int32), (fX11_checkPlace a1), h))
set_option maxHeartbeats 4000000 in
set_option maxRecDepth 100000 in
theorem kX11_pull (G : Gx)  {h : Hp} {a1 : Int32} {rr : Int32} {kk : Nat} {hh : Hp} (hf : fX11_pull h a1 = some (rr, kk, hh)) : MX G yX11_pull cX11_pull 3 (some .int) 8 512 h [.ref (gad G 0), .int a1] (some (.int rr)) kk hh := by
  refine MX.of RX11 (by decide) rfl (Nat.le_of_ble_eq_true rfl) rfl (fun X C hG hR hE => ?_)
  subst hG
  have hcs : True := trivial
  unfold fX11_pull at hf
  refine r_iload_n (i := 1) C dX11_pull_0 rfl 1 rfl ?_
  by_cases c1 : (fX11_checkPlace a1) = 0
  · rw [if_pos c1] at hf
    refine r_callXSv (As := [.int a1]) (st := []) C (kX11_checkPlace (xG X)) cw_X11_136 rfl rfl (Nat.le_of_ble_eq_true rfl) (zq2 hR rfl rfl) (zqc hR (Or.inl c1)) dX11_pull_1 (fun q0 => absurd c1 q0) (fun _ => ?_)
    refine r_aload_n (i := 0) C dX11_pull_4 rfl 0 rfl ?_
    refine g_X11_54 C dX11_pull_5 ?_
    refine r_iload_n (i := 1) C dX11_pull_8 rfl 1 rfl ?_
    refine r_callNVi (As := [.int a1]) (st := []) C 32 (sky_d0 sk32) (sky_l0 sk32) rfl (kX7_hasPin (xG X) sk32) cw_X11_151 rfl rfl (Nat.le_of_ble_eq_true rfl) (zq2 hR rfl rfl) (zrcs hcs) dX11_pull_9 ?_
    refine r_if_ne C 23 dX11_pull_12 (by decide) (fun c2 => ?_) (fun c2 => ?_)
    · rw [if_neg c2] at hf
      refine r_aload_n (i := 0) C dX11_pull_23 rfl 0 rfl ?_
      refine g_X11_40 C dX11_pull_24 ?_
      refine r_aload_n (i := 0) C dX11_pull_27 rfl 0 rfl ?_
      refine g_X11_54 C dX11_pull_28 ?_
      obtain ⟨h3, e4, hf⟩ := cl_of hf
      refine r_callNVv (As := [.ref (gad (xG X) 32)]) (st := []) C 18 rfl (by decide) rfl (kX5_remember (xG X) sk32 e4) cw_X11_209 rfl rfl (Nat.le_of_ble_eq_true rfl) (zq2 hR rfl rfl) (zrcs hcs) dX11_pull_31 ?_
      refine r_aload_n (i := 0) C dX11_pull_34 rfl 0 rfl ?_
      refine g_X11_54 C dX11_pull_35 ?_
      refine g_X11_154 sk32 C dX11_pull_38 ?_
      refine r_iload_n (i := 1) C dX11_pull_41 rfl 1 rfl ?_
      obtain ⟨g5, hf⟩ := gd_of hf
      refine r_iald C (32 + 4) (sky_dsc sk32 4 (by decide)) (sky_lt sk32 4 (by decide)) g5 dX11_pull_42 ?_
      refine r_istore_n (i := 2) (lv' := [(0, .ref (gad (xG X) 0)), (1, .int a1), (2, .int (h3 (32 + 4) a1.toNatClampNeg))]) C dX11_pull_43 rfl (by decide) [1, 2, 0] rfl ?_
      refine r_aload_n (i := 0) C dX11_pull_44 rfl 0 rfl ?_
      refine g_X11_54 C dX11_pull_45 ?_
      refine r_iload_n (i := 1) C dX11_pull_48 rfl 1 rfl ?_
      obtain ⟨h6, e7, hf⟩ := cl_of hf
      refine r_callNVv (As := [.int a1]) (st := []) C 32 (sky_d0 sk32) (sky_l0 sk32) rfl (kX7_takePin (xG X) sk32 e7) cw_X11_234 rfl rfl (Nat.le_of_ble_eq_true rfl) (zq2 hR rfl rfl) (zrcs hcs) dX11_pull_49 ?_
      refine r_aload_n (i := 0) C dX11_pull_52 rfl 0 rfl ?_
      refine g_X11_54 C dX11_pull_53 ?_
      refine g_X11_216 sk32 C dX11_pull_56 ?_
      refine r_aload_n (i := 0) C dX11_pull_59 rfl 0 rfl ?_
      refine g_X11_54 C dX11_pull_60 ?_
      refine g_X11_220 sk32 C dX11_pull_63 ?_
      refine r_iload_n (i := 1) C dX11_pull_66 rfl 1 rfl ?_
      refine r_iconst (v := 2) C dX11_pull_67 (by decide) ?_
      refine r_iload_n (i := 2) C dX11_pull_68 rfl 2 rfl ?_
      obtain ⟨h8, e9, hf⟩ := cl_of hf
      refine r_callNVv (As := [.int (h6 32 13), .int a1, .int (2 : Int32), .int (h3 (32 + 4) a1.toNatClampNeg)]) (st := []) C (32 + 9) (sky_dsc sk32 9 (by decide)) (sky_lt sk32 9 (by decide)) rfl (kX4_add (xG X) sk32 e9) cw_X11_225 rfl rfl (Nat.le_of_ble_eq_true rfl) (zq2 hR rfl rfl) (zrcs hcs) dX11_pull_69 ?_
      refine r_aload_n (i := 0) C dX11_pull_72 rfl 0 rfl ?_
      refine g_X11_54 C dX11_pull_73 ?_
      refine r_aload_n (i := 0) C dX11_pull_76 rfl 0 rfl ?_
      refine g_X11_54 C dX11_pull_77 ?_
      refine g_X11_237 sk32 C dX11_pull_80 ?_
      refine r_iconst (v := 1) C dX11_pull_83 (by decide) ?_
      refine r_iadd C dX11_pull_84 ?_
      refine r_sipush (v := 999) C dX11_pull_85 (by decide) ?_
      refine r_mmin9 C gw_1273 gm_min_s gm_i gm_min_c (zq1 hR rfl) (zq0 hR (Nat.le_of_ble_eq_true rfl)) (zrcs hcs) dX11_pull_88 ?_
      obtain ⟨h10, eh10, hf⟩ := lt_of hf
      refine p_X11_237 sk32 C eh10 dX11_pull_91 ?_
      refine r_iload_n (i := 2) C dX11_pull_94 rfl 2 rfl ?_
      cases hf
      exact r_iret C (hE.1 rfl) dX11_pull_95
    · rw [if_pos c2] at hf
      cases hf
      exact r_throw C (by decide) (hE.2 (by decide)) (zqt (by decide) hR rfl rfl) tw_4 (Nat.le_of_ble_eq_true rfl) dX11_pull_15 dX11_pull_18 dX11_pull_19 dX11_pull_22
  · rw [if_neg c1] at hf
    cases hf
    exact r_callXSv (As := [.int a1]) (st := []) C (kX11_checkPlace (xG X)) cw_X11_136 rfl rfl (Nat.le_of_ble_eq_true rfl) (zq2 hR rfl rfl) (zqc hR (Or.inr rfl)) dX11_pull_1 (fun q0 => hE.2 q0) (fun q0 => absurd q0 c1)
def fX11_hand (h : Hp) (a1 : Int32) (a2 : Int32) : Option (Int32 × Nat × Hp) := (if (fX11_checkPinner h a1) = 0 then (if (fX11_checkNumber a2 (1 : Int32) (30 : Int32)) = 0 then cl9 ((if (h 32 12) < a2 then some true else gd (inb a1 5) ((if ((h (32 + 8) a1.toNatClampNeg) + a2) ≤ (30 : Int32) then some false else some true))) : Option Bool) (fun q3 => if q3 = true then some ((0 : Int32), 4, h) else cl9 (fX5_remember h 32) (fun h10 => lt9 (up2 h10 32 12 ((h10 32 12) - a2)) (fun h12 => gd (inb a1 5) (gd (inb a1 5) (lt9 (up2 h12 (32 + 8) a1.toNatClampNeg ((h12 (32 + 8) a1.toNatClampNeg) + a2)) (fun h15 => gd (inb a1 5) (some ((h15 (32 + 8) a1.toNatClampNeg), 0, h15)))))))) else some ((0 : Int32), (fX11_checkNumber a2 (1 : Int32) (30 : Int32)), h)) else some ((0 : Int32), (fX11_checkPinner h a1), h))
set_option maxHeartbeats 4000000 in
set_option maxRecDepth 100000 in
theorem kX11_hand (G : Gx)  {h : Hp} {a1 : Int32} {a2 : Int32} {rr : Int32} {kk : Nat} {hh : Hp} (hf : fX11_hand h a1 a2 = some (rr, kk, hh)) : MX G yX11_hand cX11_hand 3 (some .int) 7 448 h [.ref (gad G 0), .int a1, .int a2] (some (.int rr)) kk hh := by
  refine MX.of RX11 (by decide) rfl (Nat.le_of_ble_eq_true rfl) rfl (fun X C hG hR hE => ?_)
  subst hG
  have hcs : True := trivial
  unfold fX11_hand at hf
  refine r_aload_n (i := 0) C dX11_hand_0 rfl 0 rfl ?_
  refine r_iload_n (i := 1) C dX11_hand_1 rfl 1 rfl ?_
  by_cases c1 : (fX11_checkPinner h a1) = 0
  · rw [if_pos c1] at hf
    refine r_callXVv (As := [.int a1]) (st := []) C 0 rfl (by decide) rfl (kX11_checkPinner (xG X)) cw_X11_185 rfl rfl (Nat.le_of_ble_eq_true rfl) (zq2 hR rfl rfl) (zqc hR (Or.inl c1)) dX11_hand_2 (fun q0 => absurd c1 q0) (fun _ => ?_)
    refine r_iload_n (i := 2) C dX11_hand_5 rfl 2 rfl ?_
    refine r_iconst (v := 1) C dX11_hand_6 (by decide) ?_
    refine r_bipush (v := 30) C dX11_hand_7 (by decide) ?_
    by_cases c2 : (fX11_checkNumber a2 (1 : Int32) (30 : Int32)) = 0
    · rw [if_pos c2] at hf
      refine r_callXSv (As := [.int a2, .int (1 : Int32), .int (30 : Int32)]) (st := []) C (kX11_checkNumber (xG X)) cw_X11_244 rfl rfl (Nat.le_of_ble_eq_true rfl) (zq2 hR rfl rfl) (zqc hR (Or.inl c2)) dX11_hand_9 (fun q0 => absurd c2 q0) (fun _ => ?_)
      refine r_aload_n (i := 0) C dX11_hand_12 rfl 0 rfl ?_
      refine g_X11_54 C dX11_hand_13 ?_
      refine g_X11_237 sk32 C dX11_hand_16 ?_
      refine r_iload_n (i := 2) C dX11_hand_19 rfl 2 rfl ?_
      obtain ⟨q3, r6, hf⟩ := cl_of hf
      have k4 : q3 = true → VW X 3 h 0 0 42 [(0, .ref (gad (xG X) 0)), (1, .int a1), (2, .int a2)] [] := fun qq => by
        rw [if_pos qq] at hf
        cases hf
        exact r_throw C (by decide) (hE.2 (by decide)) (zqt (by decide) hR rfl rfl) tw_4 (Nat.le_of_ble_eq_true rfl) dX11_hand_42 dX11_hand_45 dX11_hand_46 dX11_hand_49
      have k5 : q3 = false → VW X 3 h 0 0 50 [(0, .ref (gad (xG X) 0)), (1, .int a1), (2, .int a2)] [] := fun qq => by
        rw [if_neg (by rw [qq]; decide)] at hf
        refine r_aload_n (i := 0) C dX11_hand_50 rfl 0 rfl ?_
        refine g_X11_40 C dX11_hand_51 ?_
        refine r_aload_n (i := 0) C dX11_hand_54 rfl 0 rfl ?_
        refine g_X11_54 C dX11_hand_55 ?_
        obtain ⟨h10, e11, hf⟩ := cl_of hf
        refine r_callNVv (As := [.ref (gad (xG X) 32)]) (st := []) C 18 rfl (by decide) rfl (kX5_remember (xG X) sk32 e11) cw_X11_209 rfl rfl (Nat.le_of_ble_eq_true rfl) (zq2 hR rfl rfl) (zrcs hcs) dX11_hand_58 ?_
        refine r_aload_n (i := 0) C dX11_hand_61 rfl 0 rfl ?_
        refine g_X11_54 C dX11_hand_62 ?_
        refine r_dup C dX11_hand_65 rfl ?_
        refine g_X11_237 sk32 C dX11_hand_66 ?_
        refine r_iload_n (i := 2) C dX11_hand_69 rfl 2 rfl ?_
        refine r_isub C dX11_hand_70 ?_
        obtain ⟨h12, eh12, hf⟩ := lt_of hf
        refine p_X11_237 sk32 C eh12 dX11_hand_71 ?_
        refine r_aload_n (i := 0) C dX11_hand_74 rfl 0 rfl ?_
        refine g_X11_54 C dX11_hand_75 ?_
        refine g_X11_188 sk32 C dX11_hand_78 ?_
        refine g_X11_200 sk32 C dX11_hand_81 ?_
        refine r_iload_n (i := 1) C dX11_hand_84 rfl 1 rfl ?_
        refine r_dup2 C dX11_hand_85 rfl rfl ?_
        obtain ⟨g13, hf⟩ := gd_of hf
        refine r_iald C (32 + 8) (sky_dsc sk32 8 (by decide)) (sky_lt sk32 8 (by decide)) g13 dX11_hand_86 ?_
        refine r_iload_n (i := 2) C dX11_hand_87 rfl 2 rfl ?_
        refine r_iadd C dX11_hand_88 ?_
        obtain ⟨g14, hf⟩ := gd_of hf
        obtain ⟨h15, eh15, hf⟩ := lt_of hf
        refine r_iast C (32 + 8) eh15 (sky_dsc sk32 8 (by decide)) (sky_lt sk32 8 (by decide)) g14 dX11_hand_89 ?_
        refine r_aload_n (i := 0) C dX11_hand_90 rfl 0 rfl ?_
        refine g_X11_54 C dX11_hand_91 ?_
        refine g_X11_188 sk32 C dX11_hand_94 ?_
        refine g_X11_200 sk32 C dX11_hand_97 ?_
        refine r_iload_n (i := 1) C dX11_hand_100 rfl 1 rfl ?_
        obtain ⟨g16, hf⟩ := gd_of hf
        refine r_iald C (32 + 8) (sky_dsc sk32 8 (by decide)) (sky_lt sk32 8 (by decide)) g16 dX11_hand_101 ?_
        cases hf
        exact r_iret C (hE.1 rfl) dX11_hand_102
      clear hf
      have hf := r6
      refine r_icmp_lt C 42 dX11_hand_20 (by decide) (fun c7 => ?_) (fun c7 => ?_)
      · rw [if_pos c7] at hf
        exact k4 (Option.some.inj hf).symm
      · rw [if_neg c7] at hf
        refine r_aload_n (i := 0) C dX11_hand_23 rfl 0 rfl ?_
        refine g_X11_54 C dX11_hand_24 ?_
        refine g_X11_188 sk32 C dX11_hand_27 ?_
        refine g_X11_200 sk32 C dX11_hand_30 ?_
        refine r_iload_n (i := 1) C dX11_hand_33 rfl 1 rfl ?_
        obtain ⟨g8, hf⟩ := gd_of hf
        refine r_iald C (32 + 8) (sky_dsc sk32 8 (by decide)) (sky_lt sk32 8 (by decide)) g8 dX11_hand_34 ?_
        refine r_iload_n (i := 2) C dX11_hand_35 rfl 2 rfl ?_
        refine r_iadd C dX11_hand_36 ?_
        refine r_bipush (v := 30) C dX11_hand_37 (by decide) ?_
        refine r_icmp_le C 50 dX11_hand_39 (by decide) (fun c9 => ?_) (fun c9 => ?_)
        · rw [if_pos c9] at hf
          exact k5 (Option.some.inj hf).symm
        · rw [if_neg c9] at hf
          exact k4 (Option.some.inj hf).symm
    · rw [if_neg c2] at hf
      cases hf
      exact r_callXSv (As := [.int a2, .int (1 : Int32), .int (30 : Int32)]) (st := []) C (kX11_checkNumber (xG X)) cw_X11_244 rfl rfl (Nat.le_of_ble_eq_true rfl) (zq2 hR rfl rfl) (zqc hR (Or.inr rfl)) dX11_hand_9 (fun q0 => hE.2 q0) (fun q0 => absurd q0 c2)
  · rw [if_neg c1] at hf
    cases hf
    exact r_callXVv (As := [.int a1]) (st := []) C 0 rfl (by decide) rfl (kX11_checkPinner (xG X)) cw_X11_185 rfl rfl (Nat.le_of_ble_eq_true rfl) (zq2 hR rfl rfl) (zqc hR (Or.inr rfl)) dX11_hand_2 (fun q0 => hE.2 q0) (fun q0 => absurd q0 c1)
def fX11_fell (h : Hp) (a1 : Int32) : Option (Int32 × Nat × Hp) := (if (fX11_checkPlace a1) = 0 then cl9 (fX5_remember h 32) (fun h2 => gd (inb a1 16) (gd (inb a1 16) (lt9 (up2 h2 (32 + 3) a1.toNatClampNeg (0 : Int32)) (fun h6 => some ((h2 (32 + 3) a1.toNatClampNeg), 0, h6))))) else some ((0 : Int32), (fX11_checkPlace a1), h))
set_option maxHeartbeats 4000000 in
set_option maxRecDepth 100000 in
theorem kX11_fell (G : Gx)  {h : Hp} {a1 : Int32} {rr : Int32} {kk : Nat} {hh : Hp} (hf : fX11_fell h a1 = some (rr, kk, hh)) : MX G yX11_fell cX11_fell 3 (some .int) 7 448 h [.ref (gad G 0), .int a1] (some (.int rr)) kk hh := by
  refine MX.of RX11 (by decide) rfl (Nat.le_of_ble_eq_true rfl) rfl (fun X C hG hR hE => ?_)
  subst hG
  have hcs : True := trivial
  unfold fX11_fell at hf
  refine r_iload_n (i := 1) C dX11_fell_0 rfl 1 rfl ?_
  by_cases c1 : (fX11_checkPlace a1) = 0
  · rw [if_pos c1] at hf
    refine r_callXSv (As := [.int a1]) (st := []) C (kX11_checkPlace (xG X)) cw_X11_136 rfl rfl (Nat.le_of_ble_eq_true rfl) (zq2 hR rfl rfl) (zqc hR (Or.inl c1)) dX11_fell_1 (fun q0 => absurd c1 q0) (fun _ => ?_)
    refine r_aload_n (i := 0) C dX11_fell_4 rfl 0 rfl ?_
    refine g_X11_40 C dX11_fell_5 ?_
    refine r_aload_n (i := 0) C dX11_fell_8 rfl 0 rfl ?_
    refine g_X11_54 C dX11_fell_9 ?_
    obtain ⟨h2, e3, hf⟩ := cl_of hf
    refine r_callNVv (As := [.ref (gad (xG X) 32)]) (st := []) C 18 rfl (by decide) rfl (kX5_remember (xG X) sk32 e3) cw_X11_209 rfl rfl (Nat.le_of_ble_eq_true rfl) (zq2 hR rfl rfl) (zrcs hcs) dX11_fell_12 ?_
    refine r_aload_n (i := 0) C dX11_fell_15 rfl 0 rfl ?_
    refine g_X11_54 C dX11_fell_16 ?_
    refine g_X11_145 sk32 C dX11_fell_19 ?_
    refine r_iload_n (i := 1) C dX11_fell_22 rfl 1 rfl ?_
    obtain ⟨g4, hf⟩ := gd_of hf
    refine r_iald C (32 + 3) (sky_dsc sk32 3 (by decide)) (sky_lt sk32 3 (by decide)) g4 dX11_fell_23 ?_
    refine r_istore_n (i := 2) (lv' := [(0, .ref (gad (xG X) 0)), (1, .int a1), (2, .int (h2 (32 + 3) a1.toNatClampNeg))]) C dX11_fell_24 rfl (by decide) [1, 2, 0] rfl ?_
    refine r_aload_n (i := 0) C dX11_fell_25 rfl 0 rfl ?_
    refine g_X11_54 C dX11_fell_26 ?_
    refine g_X11_145 sk32 C dX11_fell_29 ?_
    refine r_iload_n (i := 1) C dX11_fell_32 rfl 1 rfl ?_
    refine r_iconst (v := 0) C dX11_fell_33 (by decide) ?_
    obtain ⟨g5, hf⟩ := gd_of hf
    obtain ⟨h6, eh6, hf⟩ := lt_of hf
    refine r_iast C (32 + 3) eh6 (sky_dsc sk32 3 (by decide)) (sky_lt sk32 3 (by decide)) g5 dX11_fell_34 ?_
    refine r_iload_n (i := 2) C dX11_fell_35 rfl 2 rfl ?_
    cases hf
    exact r_iret C (hE.1 rfl) dX11_fell_36
  · rw [if_neg c1] at hf
    cases hf
    exact r_callXSv (As := [.int a1]) (st := []) C (kX11_checkPlace (xG X)) cw_X11_136 rfl rfl (Nat.le_of_ble_eq_true rfl) (zq2 hR rfl rfl) (zqc hR (Or.inr rfl)) dX11_fell_1 (fun q0 => hE.2 q0) (fun q0 => absurd q0 c1)

def BX12_undo_0  (rec : Hp → Int32 → Option (Int32 × Hp)) (h : Hp) (y1 : Int32) : Option (Int32 × Hp) := (if (333 : Int32) ≤ y1 then some ((1 : Int32), h) else gd (inb (((333 : Int32) * (h 208 7)) + y1) 3996) (gd (inb y1 2031) (lt9 (up2 h 209 y1.toNatClampNeg (h 213 (((333 : Int32) * (h 208 7)) + y1).toNatClampNeg)) (fun h4 => lt9 (y1 + (1 : Int32)) (fun x5 => rec h4 x5)))))
def LX12_undo  : Nat → Hp → Int32 → Option (Int32 × Hp)
  | 0, _, _ => none
  | n + 1, h, y1 => BX12_undo_0  (LX12_undo  n) h y1
def fX12_undo (h : Hp) : Option (Int32 × Hp) := lt9 (up2 h 208 0 (0 : Int32)) (fun h6 => (if (h6 208 7) = (0 : Int32) then some ((0 : Int32), h6) else lt9 (up2 h6 208 7 ((h6 208 7) - (1 : Int32))) (fun h8 => LX12_undo big h8 (0 : Int32))))
set_option maxHeartbeats 4000000 in
set_option maxRecDepth 100000 in
theorem wX12_undo {X : Cx}  {rr : Int32} {hh : Hp} (C : OK X cX12_undo 2 RX12 (some .boolean)) (hR : xR X = { frames := 1, cells := 0, slots := 0, locals := 64 }) (hcs : True) (hF : FinR X (some (.int rr)) hh) : ∀ n : Nat, (∀ (h : Hp) (y1 : Int32), LX12_undo  n h y1 = some (rr, hh) → VW X 2 h 0 0 26 [(0, .ref (gad (xG X) 208)), (1, .int y1)] []) := by
  intro n
  induction n with
  | zero => exact (fun _ _ hf => (by rw [LX12_undo] at hf; cases hf))
  | succ n ih =>
    intro h y1 hf
    rw [LX12_undo] at hf
    unfold BX12_undo_0 at hf
    refine r_iload_n (i := 1) C dX12_undo_26 rfl 1 rfl ?_
    refine r_sipush (v := 333) C dX12_undo_27 (by decide) ?_
    refine r_icmp_ge C 60 dX12_undo_30 (by decide) (fun c1 => ?_) (fun c1 => ?_)
    · rw [if_pos c1] at hf
      refine r_iconst (v := 1) C dX12_undo_60 (by decide) ?_
      have zz : (1 : Int32) = 0 ∨ (1 : Int32) = 1 := (Or.inr rfl)
      cases hf
      exact r_zret C zz hF dX12_undo_61
    · rw [if_neg c1] at hf
      refine r_aload_n (i := 0) C dX12_undo_33 rfl 0 rfl ?_
      refine g_X12_13 C dX12_undo_34 ?_
      refine r_iload_n (i := 1) C dX12_undo_37 rfl 1 rfl ?_
      refine r_aload_n (i := 0) C dX12_undo_38 rfl 0 rfl ?_
      refine g_X12_26 C dX12_undo_39 ?_
      refine r_sipush (v := 333) C dX12_undo_42 (by decide) ?_
      refine r_aload_n (i := 0) C dX12_undo_45 rfl 0 rfl ?_
      refine g_X12_58 C dX12_undo_46 ?_
      refine r_imul C dX12_undo_49 ?_
      refine r_iload_n (i := 1) C dX12_undo_50 rfl 1 rfl ?_
      refine r_iadd C dX12_undo_51 ?_
      obtain ⟨g2, hf⟩ := gd_of hf
      refine r_iald C 213 rfl (by decide) g2 dX12_undo_52 ?_
      obtain ⟨g3, hf⟩ := gd_of hf
      obtain ⟨h4, eh4, hf⟩ := lt_of hf
      refine r_iast C 209 eh4 rfl (by decide) g3 dX12_undo_53 ?_
      obtain ⟨x5, ex5, hf⟩ := lt_of hf
      refine r_iinc (j := 1) (v := x5) (lv' := [(0, .ref (gad (xG X) 208)), (1, .int x5)]) C dX12_undo_54 rfl (by rw [ex5]; rfl) (by decide) [1, 0] rfl ?_
      refine r_goto C 26 dX12_undo_57 (by decide) ?_
      exact r_lv [0, 1] rfl (ih _ _ hf)
set_option maxHeartbeats 4000000 in
set_option maxRecDepth 100000 in
theorem kX12_undo (G : Gx)  {h : Hp}  {rr : Int32} {hh : Hp} (hf : fX12_undo h = some (rr, hh)) : MC G yX12_undo cX12_undo 2 (some .boolean) 1 64 h [.ref (gad G 208)] (some (.int rr)) hh := by
  refine MC.of RX12 (by decide) rfl (Nat.le_of_ble_eq_true rfl) rfl (fun X C hG hR hF => ?_)
  subst hG
  have hcs : True := trivial
  unfold fX12_undo at hf
  refine r_aload_n (i := 0) C dX12_undo_0 rfl 0 rfl ?_
  refine r_iconst (v := 0) C dX12_undo_1 (by decide) ?_
  obtain ⟨h6, eh6, hf⟩ := lt_of hf
  refine p_X12_3 C eh6 dX12_undo_2 ?_
  refine r_aload_n (i := 0) C dX12_undo_5 rfl 0 rfl ?_
  refine g_X12_58 C dX12_undo_6 ?_
  refine r_if_ne C 14 dX12_undo_9 (by decide) (fun c7 => ?_) (fun c7 => ?_)
  · rw [if_neg c7] at hf
    refine r_aload_n (i := 0) C dX12_undo_14 rfl 0 rfl ?_
    refine r_dup C dX12_undo_15 rfl ?_
    refine g_X12_58 C dX12_undo_16 ?_
    refine r_iconst (v := 1) C dX12_undo_19 (by decide) ?_
    refine r_isub C dX12_undo_20 ?_
    obtain ⟨h8, eh8, hf⟩ := lt_of hf
    refine p_X12_58 C eh8 dX12_undo_21 ?_
    refine r_iconst (v := 0) C dX12_undo_24 (by decide) ?_
    refine r_istore_n (i := 1) (lv' := [(0, .ref (gad (xG X) 208)), (1, .int (0 : Int32))]) C dX12_undo_25 rfl (by decide) [1, 0] rfl ?_
    exact r_lv [0, 1] rfl ((wX12_undo  C hR hcs hF big) _ _ hf)
  · rw [if_pos c7] at hf
    refine r_iconst (v := 0) C dX12_undo_12 (by decide) ?_
    have zz : (0 : Int32) = 0 ∨ (0 : Int32) = 1 := (Or.inl rfl)
    cases hf
    exact r_zret C zz hF dX12_undo_13
def fX12_pinners (h : Hp) : Int32 := (h 209 0)
set_option maxHeartbeats 4000000 in
set_option maxRecDepth 100000 in
theorem kX12_pinners (G : Gx)  {h : Hp}  : MC G yX12_pinners cX12_pinners 1 (some .int) 1 64 h [.ref (gad G 208)] (some (.int (fX12_pinners h))) h := by
  refine MC.of RX12 (by decide) rfl (Nat.le_of_ble_eq_true rfl) rfl (fun X C hG hR hF => ?_)
  subst hG
  have hcs : True := trivial
  obtain ⟨rr, hf⟩ : ∃ rr, fX12_pinners h = rr := ⟨_, rfl⟩
  rw [hf] at hF
  unfold fX12_pinners at hf
  refine r_aload_n (i := 0) C dX12_pinners_0 rfl 0 rfl ?_
  refine g_X12_13 C dX12_pinners_1 ?_
  refine r_iconst (v := 0) C dX12_pinners_4 (by decide) ?_
  refine r_ialdc C 209 (m := 0) rfl (by decide) (by decide) (show inb 0 2031 by decide) dX12_pinners_5 ?_
  subst hf
  exact r_iret C hF dX12_pinners_6
def fX12_at (a1 : Int32) (a2 : Int32) : Int32 := (((78 : Int32) + ((3 : Int32) * a1)) + a2)
set_option maxHeartbeats 4000000 in
set_option maxRecDepth 100000 in
theorem kX12_at (G : Gx)  {h : Hp} {a1 : Int32} {a2 : Int32} : MC G yX12_at cX12_at 2 (some .int) 1 64 h [.int a1, .int a2] (some (.int (fX12_at a1 a2))) h := by
  refine MC.of RX12 (by decide) rfl (Nat.le_of_ble_eq_true rfl) rfl (fun X C hG hR hF => ?_)
  subst hG
  have hcs : True := trivial
  obtain ⟨rr, hf⟩ : ∃ rr, fX12_at a1 a2 = rr := ⟨_, rfl⟩
  rw [hf] at hF
  unfold fX12_at at hf
  refine r_bipush (v := 78) C dX12_at_0 (by decide) ?_
  refine r_iconst (v := 3) C dX12_at_2 (by decide) ?_
  refine r_iload_n (i := 0) C dX12_at_3 rfl 0 rfl ?_
  refine r_imul C dX12_at_4 ?_
  refine r_iadd C dX12_at_5 ?_
  refine r_iload_n (i := 1) C dX12_at_6 rfl 1 rfl ?_
  refine r_iadd C dX12_at_7 ?_
  subst hf
  exact r_iret C hF dX12_at_8
def fX12_of (h : Hp) (a1 : Int32) (a2 : Int32) : Option (Int32) := gd (inb (fX12_at a1 a2) 2031) (some (h 209 (fX12_at a1 a2).toNatClampNeg))
set_option maxHeartbeats 4000000 in
set_option maxRecDepth 100000 in
theorem kX12_of (G : Gx)  {h : Hp} {a1 : Int32} {a2 : Int32} {rr : Int32} (hf : fX12_of h a1 a2 = some rr) : MC G yX12_of cX12_of 3 (some .int) 2 128 h [.ref (gad G 208), .int a1, .int a2] (some (.int rr)) h := by
  refine MC.of RX12 (by decide) rfl (Nat.le_of_ble_eq_true rfl) rfl (fun X C hG hR hF => ?_)
  subst hG
  have hcs : True := trivial
  unfold fX12_of at hf
  refine r_aload_n (i := 0) C dX12_of_0 rfl 0 rfl ?_
  refine g_X12_13 C dX12_of_1 ?_
  refine r_iload_n (i := 1) C dX12_of_4 rfl 1 rfl ?_
  refine r_iload_n (i := 2) C dX12_of_5 rfl 2 rfl ?_
  refine r_callSi (As := [.int a1, .int a2]) (st := [.ref (gad (xG X) 209)]) C (kX12_at (xG X)) cw_X12_61 rfl rfl (Nat.le_of_ble_eq_true rfl) (zr2 hR rfl rfl) (zrcs hcs) dX12_of_6 ?_
  obtain ⟨g1, hf⟩ := gd_of hf
  refine r_iald C 209 rfl (by decide) g1 dX12_of_9 ?_
  cases hf
  exact r_iret C hF dX12_of_10
def fX12_pins (h : Hp) : Int32 := (h 209 7)
set_option maxHeartbeats 4000000 in
set_option maxRecDepth 100000 in
theorem kX12_pins (G : Gx)  {h : Hp}  : MC G yX12_pins cX12_pins 1 (some .int) 1 64 h [.ref (gad G 208)] (some (.int (fX12_pins h))) h := by
  refine MC.of RX12 (by decide) rfl (Nat.le_of_ble_eq_true rfl) rfl (fun X C hG hR hF => ?_)
  subst hG
  have hcs : True := trivial
  obtain ⟨rr, hf⟩ : ∃ rr, fX12_pins h = rr := ⟨_, rfl⟩
  rw [hf] at hF
  unfold fX12_pins at hf
  refine r_aload_n (i := 0) C dX12_pins_0 rfl 0 rfl ?_
  refine g_X12_13 C dX12_pins_1 ?_
  refine r_bipush (v := 7) C dX12_pins_4 (by decide) ?_
  refine r_ialdc C 209 (m := 7) rfl (by decide) (by decide) (show inb 7 2031 by decide) dX12_pins_6 ?_
  subst hf
  exact r_iret C hF dX12_pins_7
def fX12_hasPin (h : Hp) (a1 : Int32) : Int32 := (fX12_has (fX12_pins h) a1)
set_option maxHeartbeats 4000000 in
set_option maxRecDepth 100000 in
theorem kX12_hasPin (G : Gx)  {h : Hp} {a1 : Int32} : MC G yX12_hasPin cX12_hasPin 2 (some .boolean) 2 128 h [.ref (gad G 208), .int a1] (some (.int (fX12_hasPin h a1))) h := by
  refine MC.of RX12 (by decide) rfl (Nat.le_of_ble_eq_true rfl) rfl (fun X C hG hR hF => ?_)
  subst hG
  have hcs : True := trivial
  obtain ⟨rr, hf⟩ : ∃ rr, fX12_hasPin h a1 = rr := ⟨_, rfl⟩
  rw [hf] at hF
  unfold fX12_hasPin at hf
  refine r_aload_n (i := 0) C dX12_hasPin_0 rfl 0 rfl ?_
  refine r_callVi (As := []) (st := []) C 208 rfl (by decide) rfl (kX12_pins (xG X)) cw_X12_65 rfl rfl (Nat.le_of_ble_eq_true rfl) (zr2 hR rfl rfl) (zrcs hcs) dX12_hasPin_1 ?_
  refine r_iload_n (i := 1) C dX12_hasPin_4 rfl 1 rfl ?_
  refine r_callSi (As := [.int (fX12_pins h), .int a1]) (st := []) C (kX12_has (xG X)) cw_X12_69 rfl rfl (Nat.le_of_ble_eq_true rfl) (zr2 hR rfl rfl) (zrcs hcs) dX12_hasPin_5 ?_
  subst hf
  exact r_zret C (zX12_has) hF dX12_hasPin_8
theorem zX12_hasPin {h : Hp}  {a1 : Int32} : fX12_hasPin h a1 = 0 ∨ fX12_hasPin h a1 = 1 := by
  unfold fX12_hasPin
  exact by repeat' (first | exact Or.inl rfl | exact Or.inr rfl | (apply b_ite) | (unfold lt9) | assumption | exact zqq)
def fX12_hasLadder (h : Hp) (a1 : Int32) : Int32 := (if (fX12_has (h 209 13) a1) = (0 : Int32) then (1 : Int32) else (0 : Int32))
set_option maxHeartbeats 4000000 in
set_option maxRecDepth 100000 in
theorem kX12_hasLadder (G : Gx)  {h : Hp} {a1 : Int32} : MC G yX12_hasLadder cX12_hasLadder 2 (some .boolean) 2 128 h [.ref (gad G 208), .int a1] (some (.int (fX12_hasLadder h a1))) h := by
  refine MC.of RX12 (by decide) rfl (Nat.le_of_ble_eq_true rfl) rfl (fun X C hG hR hF => ?_)
  subst hG
  have hcs : True := trivial
  obtain ⟨rr, hf⟩ : ∃ rr, fX12_hasLadder h a1 = rr := ⟨_, rfl⟩
  rw [hf] at hF
  unfold fX12_hasLadder at hf
  refine r_aload_n (i := 0) C dX12_hasLadder_0 rfl 0 rfl ?_
  refine g_X12_13 C dX12_hasLadder_1 ?_
  refine r_bipush (v := 13) C dX12_hasLadder_4 (by decide) ?_
  refine r_ialdc C 209 (m := 13) rfl (by decide) (by decide) (show inb 13 2031 by decide) dX12_hasLadder_6 ?_
  refine r_iload_n (i := 1) C dX12_hasLadder_7 rfl 1 rfl ?_
  refine r_callSi (As := [.int (h 209 13), .int a1]) (st := []) C (kX12_has (xG X)) cw_X12_69 rfl rfl (Nat.le_of_ble_eq_true rfl) (zr2 hR rfl rfl) (zrcs hcs) dX12_hasLadder_8 ?_
  refine r_if_ne C 18 dX12_hasLadder_11 (by decide) (fun c1 => ?_) (fun c1 => ?_)
  · rw [if_neg c1] at hf
    refine r_iconst (v := 0) C dX12_hasLadder_18 (by decide) ?_
    subst hf
    exact r_zret C (Or.inl rfl) hF dX12_hasLadder_19
  · rw [if_pos c1] at hf
    refine r_iconst (v := 1) C dX12_hasLadder_14 (by decide) ?_
    refine r_goto C 19 dX12_hasLadder_15 (by decide) ?_
    subst hf
    exact r_zret C (Or.inr rfl) hF dX12_hasLadder_19
theorem zX12_hasLadder {h : Hp}  {a1 : Int32} : fX12_hasLadder h a1 = 0 ∨ fX12_hasLadder h a1 = 1 := by
  unfold fX12_hasLadder
  exact by repeat' (first | exact Or.inl rfl | exact Or.inr rfl | (apply b_ite) | (unfold lt9) | assumption | exact zqq)
def fX12_noPinner (h : Hp) (a1 : Int32) : Int32 := (if (fX12_in a1 (0 : Int32) ((fX12_pinners h) - (1 : Int32))) = (0 : Int32) then (1 : Int32) else (0 : Int32))
set_option maxHeartbeats 4000000 in
set_option maxRecDepth 100000 in
theorem kX12_noPinner (G : Gx)  {h : Hp} {a1 : Int32} : MC G yX12_noPinner cX12_noPinner 2 (some .boolean) 2 128 h [.ref (gad G 208), .int a1] (some (.int (fX12_noPinner h a1))) h := by
  refine MC.of RX12 (by decide) rfl (Nat.le_of_ble_eq_true rfl) rfl (fun X C hG hR hF => ?_)
  subst hG
  have hcs : True := trivial
  obtain ⟨rr, hf⟩ : ∃ rr, fX12_noPinner h a1 = rr := ⟨_, rfl⟩
  rw [hf] at hF
  unfold fX12_noPinner at hf
  refine r_iload_n (i := 1) C dX12_noPinner_0 rfl 1 rfl ?_
  refine r_iconst (v := 0) C dX12_noPinner_1 (by decide) ?_
  refine r_aload_n (i := 0) C dX12_noPinner_2 rfl 0 rfl ?_
  refine r_callVi (As := []) (st := [.int (0 : Int32), .int a1]) C 208 rfl (by decide) rfl (kX12_pinners (xG X)) cw_X12_73 rfl rfl (Nat.le_of_ble_eq_true rfl) (zr2 hR rfl rfl) (zrcs hcs) dX12_noPinner_3 ?_
  refine r_iconst (v := 1) C dX12_noPinner_6 (by decide) ?_
  refine r_isub C dX12_noPinner_7 ?_
  refine r_callSi (As := [.int a1, .int (0 : Int32), .int ((fX12_pinners h) - (1 : Int32))]) (st := []) C (kX12_in (xG X)) cw_X12_76 rfl rfl (Nat.le_of_ble_eq_true rfl) (zr2 hR rfl rfl) (zrcs hcs) dX12_noPinner_8 ?_
  refine r_if_ne C 18 dX12_noPinner_11 (by decide) (fun c1 => ?_) (fun c1 => ?_)
  · rw [if_neg c1] at hf
    refine r_iconst (v := 0) C dX12_noPinner_18 (by decide) ?_
    subst hf
    exact r_zret C (Or.inl rfl) hF dX12_noPinner_19
  · rw [if_pos c1] at hf
    refine r_iconst (v := 1) C dX12_noPinner_14 (by decide) ?_
    refine r_goto C 19 dX12_noPinner_15 (by decide) ?_
    subst hf
    exact r_zret C (Or.inr rfl) hF dX12_noPinner_19
theorem zX12_noPinner {h : Hp}  {a1 : Int32} : fX12_noPinner h a1 = 0 ∨ fX12_noPinner h a1 = 1 := by
  unfold fX12_noPinner
  exact by repeat' (first | exact Or.inl rfl | exact Or.inr rfl | (apply b_ite) | (unfold lt9) | assumption | exact zqq)
def fX12_noPlace (a1 : Int32) : Int32 := (if (fX12_in a1 (0 : Int32) (15 : Int32)) = (0 : Int32) then (1 : Int32) else (0 : Int32))
set_option maxHeartbeats 4000000 in
set_option maxRecDepth 100000 in
theorem kX12_noPlace (G : Gx)  {h : Hp} {a1 : Int32} : MC G yX12_noPlace cX12_noPlace 1 (some .boolean) 2 128 h [.int a1] (some (.int (fX12_noPlace a1))) h := by
  refine MC.of RX12 (by decide) rfl (Nat.le_of_ble_eq_true rfl) rfl (fun X C hG hR hF => ?_)
  subst hG
  have hcs : True := trivial
  obtain ⟨rr, hf⟩ : ∃ rr, fX12_noPlace a1 = rr := ⟨_, rfl⟩
  rw [hf] at hF
  unfold fX12_noPlace at hf
  refine r_iload_n (i := 0) C dX12_noPlace_0 rfl 0 rfl ?_
  refine r_iconst (v := 0) C dX12_noPlace_1 (by decide) ?_
  refine r_bipush (v := 15) C dX12_noPlace_2 (by decide) ?_
  refine r_callSi (As := [.int a1, .int (0 : Int32), .int (15 : Int32)]) (st := []) C (kX12_in (xG X)) cw_X12_76 rfl rfl (Nat.le_of_ble_eq_true rfl) (zr2 hR rfl rfl) (zrcs hcs) dX12_noPlace_4 ?_
  refine r_if_ne C 14 dX12_noPlace_7 (by decide) (fun c1 => ?_) (fun c1 => ?_)
  · rw [if_neg c1] at hf
    refine r_iconst (v := 0) C dX12_noPlace_14 (by decide) ?_
    subst hf
    exact r_zret C (Or.inl rfl) hF dX12_noPlace_15
  · rw [if_pos c1] at hf
    refine r_iconst (v := 1) C dX12_noPlace_10 (by decide) ?_
    refine r_goto C 15 dX12_noPlace_11 (by decide) ?_
    subst hf
    exact r_zret C (Or.inr rfl) hF dX12_noPlace_15
theorem zX12_noPlace  {a1 : Int32} : fX12_noPlace a1 = 0 ∨ fX12_noPlace a1 = 1 := by
  unfold fX12_noPlace
  exact by repeat' (first | exact Or.inl rfl | exact Or.inr rfl | (apply b_ite) | (unfold lt9) | assumption | exact zqq)
def fX12_openPlaces (h : Hp) : Int32 := (((65535 : Int32) &&& ((h 209 13) ^^^ (-1 : Int32))) &&& ((fX12_pins h) ^^^ (-1 : Int32)))
set_option maxHeartbeats 4000000 in
set_option maxRecDepth 100000 in
theorem kX12_openPlaces (G : Gx)  {h : Hp}  : MC G yX12_openPlaces cX12_openPlaces 1 (some .int) 2 128 h [.ref (gad G 208)] (some (.int (fX12_openPlaces h))) h := by
  refine MC.of RX12 (by decide) rfl (Nat.le_of_ble_eq_true rfl) rfl (fun X C hG hR hF => ?_)
  subst hG
  have hcs : True := trivial
  obtain ⟨rr, hf⟩ : ∃ rr, fX12_openPlaces h = rr := ⟨_, rfl⟩
  rw [hf] at hF
  unfold fX12_openPlaces at hf
  refine r_ldc (v := 65535) C dX12_openPlaces_0 gw_1835 ?_
  refine r_aload_n (i := 0) C dX12_openPlaces_2 rfl 0 rfl ?_
  refine g_X12_13 C dX12_openPlaces_3 ?_
  refine r_bipush (v := 13) C dX12_openPlaces_6 (by decide) ?_
  refine r_ialdc C 209 (m := 13) rfl (by decide) (by decide) (show inb 13 2031 by decide) dX12_openPlaces_8 ?_
  refine r_iconst (v := (-1)) C dX12_openPlaces_9 (by decide) ?_
  refine r_ixor C dX12_openPlaces_10 ?_
  refine r_iand C dX12_openPlaces_11 ?_
  refine r_aload_n (i := 0) C dX12_openPlaces_12 rfl 0 rfl ?_
  refine r_callVi (As := []) (st := [.int ((65535 : Int32) &&& ((h 209 13) ^^^ (-1 : Int32)))]) C 208 rfl (by decide) rfl (kX12_pins (xG X)) cw_X12_65 rfl rfl (Nat.le_of_ble_eq_true rfl) (zr2 hR rfl rfl) (zrcs hcs) dX12_openPlaces_13 ?_
  refine r_iconst (v := (-1)) C dX12_openPlaces_16 (by decide) ?_
  refine r_ixor C dX12_openPlaces_17 ?_
  refine r_iand C dX12_openPlaces_18 ?_
  subst hf
  exact r_iret C hF dX12_openPlaces_19
def fX12_drawn (h : Hp) (a1 : Int32) : Option (Int32 × Hp) := gd (inb (12 : Int32) 2031) (lt9 (up2 h 209 (12 : Int32).toNatClampNeg (((1103515245 : Int32) * (h 209 12)) + (12345 : Int32))) (fun h2 => gd (¬ a1 = 0) (some ((irem (((h2 209 12) >>> ((16 : Int32) &&& 31)) &&& (32767 : Int32)) a1), h2))))
set_option maxHeartbeats 4000000 in
set_option maxRecDepth 100000 in
theorem kX12_drawn (G : Gx)  {h : Hp} {a1 : Int32} {rr : Int32} {hh : Hp} (hf : fX12_drawn h a1 = some (rr, hh)) : MC G yX12_drawn cX12_drawn 2 (some .int) 1 64 h [.ref (gad G 208), .int a1] (some (.int rr)) hh := by
  refine MC.of RX12 (by decide) rfl (Nat.le_of_ble_eq_true rfl) rfl (fun X C hG hR hF => ?_)
  subst hG
  have hcs : True := trivial
  unfold fX12_drawn at hf
  refine r_aload_n (i := 0) C dX12_drawn_0 rfl 0 rfl ?_
  refine g_X12_13 C dX12_drawn_1 ?_
  refine r_bipush (v := 12) C dX12_drawn_4 (by decide) ?_
  refine r_ldc (v := 1103515245) C dX12_drawn_6 gw_1904 ?_
  refine r_aload_n (i := 0) C dX12_drawn_8 rfl 0 rfl ?_
  refine g_X12_13 C dX12_drawn_9 ?_
  refine r_bipush (v := 12) C dX12_drawn_12 (by decide) ?_
  refine r_ialdc C 209 (m := 12) rfl (by decide) (by decide) (show inb 12 2031 by decide) dX12_drawn_14 ?_
  refine r_imul C dX12_drawn_15 ?_
  refine r_sipush (v := 12345) C dX12_drawn_16 (by decide) ?_
  refine r_iadd C dX12_drawn_19 ?_
  obtain ⟨g1, hf⟩ := gd_of hf
  obtain ⟨h2, eh2, hf⟩ := lt_of hf
  refine r_iast C 209 eh2 rfl (by decide) g1 dX12_drawn_20 ?_
  refine r_aload_n (i := 0) C dX12_drawn_21 rfl 0 rfl ?_
  refine g_X12_13 C dX12_drawn_22 ?_
  refine r_bipush (v := 12) C dX12_drawn_25 (by decide) ?_
  refine r_ialdc C 209 (m := 12) rfl (by decide) (by decide) (show inb 12 2031 by decide) dX12_drawn_27 ?_
  refine r_bipush (v := 16) C dX12_drawn_28 (by decide) ?_
  refine r_ishr C dX12_drawn_30 ?_
  refine r_sipush (v := 32767) C dX12_drawn_31 (by decide) ?_
  refine r_iand C dX12_drawn_34 ?_
  refine r_iload_n (i := 1) C dX12_drawn_35 rfl 1 rfl ?_
  obtain ⟨g3, hf⟩ := gd_of hf
  refine r_irem C dX12_drawn_36 g3 ?_
  cases hf
  exact r_iret C hF dX12_drawn_37
def BX12_feed_0  (rec : Hp → Int32 → Option (Int32 × Hp)) (h : Hp) (y6 : Int32) : Option (Int32 × Hp) := (if (20 : Int32) ≤ y6 then lt9 (up2 h 208 9 ((h 208 9) + (20 : Int32))) (fun h2 => some ((h2 208 9), h2)) else gd (inb (y6 / (4 : Int32)) 5) (gd (inb ((h 208 9) + y6) 400) (lt9 (up2 h 214 ((h 208 9) + y6).toNatClampNeg (vp_nar .byte (((h 215 (y6 / (4 : Int32)).toNatClampNeg) >>> (((24 : Int32) - ((8 : Int32) * (irem y6 (4 : Int32)))) &&& 31)).toInt8.toInt32))) (fun h5 => lt9 (y6 + (1 : Int32)) (fun x6 => rec h5 x6)))))
def LX12_feed  : Nat → Hp → Int32 → Option (Int32 × Hp)
  | 0, _, _ => none
  | n + 1, h, y6 => BX12_feed_0  (LX12_feed  n) h y6
def fX12_feed (h : Hp) (a1 : Int32) (a2 : Int32) (a3 : Int32) (a4 : Int32) (a5 : Int32) : Option (Int32 × Hp) := lt9 (up2 h 208 0 (0 : Int32)) (fun h7 => (if ((h7 208 9) + (20 : Int32)) ≤ (400 : Int32) then gd (inb (0 : Int32) 5) (lt9 (up2 h7 215 (0 : Int32).toNatClampNeg a1) (fun h10 => gd (inb (1 : Int32) 5) (lt9 (up2 h10 215 (1 : Int32).toNatClampNeg a2) (fun h12 => gd (inb (2 : Int32) 5) (lt9 (up2 h12 215 (2 : Int32).toNatClampNeg a3) (fun h14 => gd (inb (3 : Int32) 5) (lt9 (up2 h14 215 (3 : Int32).toNatClampNeg a4) (fun h16 => gd (inb (4 : Int32) 5) (lt9 (up2 h16 215 (4 : Int32).toNatClampNeg a5) (fun h18 => LX12_feed big h18 (0 : Int32))))))))))) else some ((-1 : Int32), h7)))
set_option maxHeartbeats 4000000 in
set_option maxRecDepth 100000 in
theorem wX12_feed {X : Cx}  {rr : Int32} {hh : Hp} (C : OK X cX12_feed 7 RX12 (some .int)) (hR : xR X = { frames := 1, cells := 0, slots := 0, locals := 64 }) (hcs : True) (hF : FinR X (some (.int rr)) hh) : ∀ n : Nat, (∀ (h : Hp) (y6 : Int32), LX12_feed  n h y6 = some (rr, hh) → VW X 7 h 0 0 60 [(0, .ref (gad (xG X) 208)), (6, .int y6)] []) := by
  intro n
  induction n with
  | zero => exact (fun _ _ hf => (by rw [LX12_feed] at hf; cases hf))
  | succ n ih =>
    intro h y6 hf
    rw [LX12_feed] at hf
    unfold BX12_feed_0 at hf
    refine r_iload (i := 6) C dX12_feed_60 1 rfl ?_
    refine r_bipush (v := 20) C dX12_feed_62 (by decide) ?_
    refine r_icmp_ge C 106 dX12_feed_64 (by decide) (fun c1 => ?_) (fun c1 => ?_)
    · rw [if_pos c1] at hf
      refine r_aload_n (i := 0) C dX12_feed_106 rfl 0 rfl ?_
      refine r_dup C dX12_feed_107 rfl ?_
      refine g_X12_82 C dX12_feed_108 ?_
      refine r_bipush (v := 20) C dX12_feed_111 (by decide) ?_
      refine r_iadd C dX12_feed_113 ?_
      obtain ⟨h2, eh2, hf⟩ := lt_of hf
      refine p_X12_82 C eh2 dX12_feed_114 ?_
      refine r_aload_n (i := 0) C dX12_feed_117 rfl 0 rfl ?_
      refine g_X12_82 C dX12_feed_118 ?_
      cases hf
      exact r_iret C hF dX12_feed_121
    · rw [if_neg c1] at hf
      refine r_aload_n (i := 0) C dX12_feed_67 rfl 0 rfl ?_
      refine g_X12_29 C dX12_feed_68 ?_
      refine r_aload_n (i := 0) C dX12_feed_71 rfl 0 rfl ?_
      refine g_X12_82 C dX12_feed_72 ?_
      refine r_iload (i := 6) C dX12_feed_75 1 rfl ?_
      refine r_iadd C dX12_feed_77 ?_
      refine r_aload_n (i := 0) C dX12_feed_78 rfl 0 rfl ?_
      refine g_X12_36 C dX12_feed_79 ?_
      refine r_iload (i := 6) C dX12_feed_82 1 rfl ?_
      refine r_iconst (v := 4) C dX12_feed_84 (by decide) ?_
      refine r_idiv C dX12_feed_85 (by decide) ?_
      obtain ⟨g3, hf⟩ := gd_of hf
      refine r_iald C 215 rfl (by decide) g3 dX12_feed_86 ?_
      refine r_bipush (v := 24) C dX12_feed_87 (by decide) ?_
      refine r_bipush (v := 8) C dX12_feed_89 (by decide) ?_
      refine r_iload (i := 6) C dX12_feed_91 1 rfl ?_
      refine r_iconst (v := 4) C dX12_feed_93 (by decide) ?_
      refine r_irem C dX12_feed_94 (by decide) ?_
      refine r_imul C dX12_feed_95 ?_
      refine r_isub C dX12_feed_96 ?_
      refine r_ishr C dX12_feed_97 ?_
      refine r_i2b C dX12_feed_98 ?_
      obtain ⟨g4, hf⟩ := gd_of hf
      obtain ⟨h5, eh5, hf⟩ := lt_of hf
      refine r_bast C 214 eh5 rfl (by decide) g4 dX12_feed_99 ?_
      obtain ⟨x6, ex6, hf⟩ := lt_of hf
      refine r_iinc (j := 1) (v := x6) (lv' := [(0, .ref (gad (xG X) 208)), (6, .int x6)]) C dX12_feed_100 rfl (by rw [ex6]; rfl) (by decide) [1, 0] rfl ?_
      refine r_goto C 60 dX12_feed_103 (by decide) ?_
      exact r_lv [0, 1] rfl (ih _ _ hf)
set_option maxHeartbeats 4000000 in
set_option maxRecDepth 100000 in
theorem kX12_feed (G : Gx)  {h : Hp} {a1 : Int32} {a2 : Int32} {a3 : Int32} {a4 : Int32} {a5 : Int32} {rr : Int32} {hh : Hp} (hf : fX12_feed h a1 a2 a3 a4 a5 = some (rr, hh)) : MC G yX12_feed cX12_feed 7 (some .int) 1 64 h [.ref (gad G 208), .int a1, .int a2, .int a3, .int a4, .int a5] (some (.int rr)) hh := by
  refine MC.of RX12 (by decide) rfl (Nat.le_of_ble_eq_true rfl) rfl (fun X C hG hR hF => ?_)
  subst hG
  have hcs : True := trivial
  unfold fX12_feed at hf
  refine r_aload_n (i := 0) C dX12_feed_0 rfl 0 rfl ?_
  refine r_iconst (v := 0) C dX12_feed_1 (by decide) ?_
  obtain ⟨h7, eh7, hf⟩ := lt_of hf
  refine p_X12_3 C eh7 dX12_feed_2 ?_
  refine r_aload_n (i := 0) C dX12_feed_5 rfl 0 rfl ?_
  refine g_X12_82 C dX12_feed_6 ?_
  refine r_bipush (v := 20) C dX12_feed_9 (by decide) ?_
  refine r_iadd C dX12_feed_11 ?_
  refine r_sipush (v := 400) C dX12_feed_12 (by decide) ?_
  refine r_icmp_le C 20 dX12_feed_15 (by decide) (fun c8 => ?_) (fun c8 => ?_)
  · rw [if_pos c8] at hf
    refine r_aload_n (i := 0) C dX12_feed_20 rfl 0 rfl ?_
    refine g_X12_36 C dX12_feed_21 ?_
    refine r_iconst (v := 0) C dX12_feed_24 (by decide) ?_
    refine r_iload_n (i := 1) C dX12_feed_25 rfl 1 rfl ?_
    obtain ⟨g9, hf⟩ := gd_of hf
    obtain ⟨h10, eh10, hf⟩ := lt_of hf
    refine r_iast C 215 eh10 rfl (by decide) g9 dX12_feed_26 ?_
    refine r_aload_n (i := 0) C dX12_feed_27 rfl 0 rfl ?_
    refine g_X12_36 C dX12_feed_28 ?_
    refine r_iconst (v := 1) C dX12_feed_31 (by decide) ?_
    refine r_iload_n (i := 2) C dX12_feed_32 rfl 2 rfl ?_
    obtain ⟨g11, hf⟩ := gd_of hf
    obtain ⟨h12, eh12, hf⟩ := lt_of hf
    refine r_iast C 215 eh12 rfl (by decide) g11 dX12_feed_33 ?_
    refine r_aload_n (i := 0) C dX12_feed_34 rfl 0 rfl ?_
    refine g_X12_36 C dX12_feed_35 ?_
    refine r_iconst (v := 2) C dX12_feed_38 (by decide) ?_
    refine r_iload_n (i := 3) C dX12_feed_39 rfl 3 rfl ?_
    obtain ⟨g13, hf⟩ := gd_of hf
    obtain ⟨h14, eh14, hf⟩ := lt_of hf
    refine r_iast C 215 eh14 rfl (by decide) g13 dX12_feed_40 ?_
    refine r_aload_n (i := 0) C dX12_feed_41 rfl 0 rfl ?_
    refine g_X12_36 C dX12_feed_42 ?_
    refine r_iconst (v := 3) C dX12_feed_45 (by decide) ?_
    refine r_iload (i := 4) C dX12_feed_46 4 rfl ?_
    obtain ⟨g15, hf⟩ := gd_of hf
    obtain ⟨h16, eh16, hf⟩ := lt_of hf
    refine r_iast C 215 eh16 rfl (by decide) g15 dX12_feed_48 ?_
    refine r_aload_n (i := 0) C dX12_feed_49 rfl 0 rfl ?_
    refine g_X12_36 C dX12_feed_50 ?_
    refine r_iconst (v := 4) C dX12_feed_53 (by decide) ?_
    refine r_iload (i := 5) C dX12_feed_54 5 rfl ?_
    obtain ⟨g17, hf⟩ := gd_of hf
    obtain ⟨h18, eh18, hf⟩ := lt_of hf
    refine r_iast C 215 eh18 rfl (by decide) g17 dX12_feed_56 ?_
    refine r_iconst (v := 0) C dX12_feed_57 (by decide) ?_
    refine r_istore (i := 6) (lv' := [(0, .ref (gad (xG X) 208)), (1, .int a1), (2, .int a2), (3, .int a3), (4, .int a4), (5, .int a5), (6, .int (0 : Int32))]) C dX12_feed_58 (by decide) [1, 2, 3, 4, 5, 6, 0] rfl ?_
    exact r_lv [0, 6] rfl ((wX12_feed  C hR hcs hF big) _ _ hf)
  · rw [if_neg c8] at hf
    refine r_iconst (v := (-1)) C dX12_feed_18 (by decide) ?_
    cases hf
    exact r_iret C hF dX12_feed_19
def fX12_end (h : Hp) (a1 : Int32) : Option (Int32 × Hp) := lt9 (up2 h 208 0 (0 : Int32)) (fun h1 => cl9 ((if a1 < (0 : Int32) then some true else (if a1 ≤ (h1 208 9) then some false else some true)) : Option Bool) (fun q2 => if q2 = true then some ((0 : Int32), h1) else lt9 (up2 h1 208 9 a1) (fun h8 => some ((1 : Int32), h8))))
set_option maxHeartbeats 4000000 in
set_option maxRecDepth 100000 in
theorem kX12_end (G : Gx)  {h : Hp} {a1 : Int32} {rr : Int32} {hh : Hp} (hf : fX12_end h a1 = some (rr, hh)) : MC G yX12_end cX12_end 2 (some .boolean) 1 64 h [.ref (gad G 208), .int a1] (some (.int rr)) hh := by
  refine MC.of RX12 (by decide) rfl (Nat.le_of_ble_eq_true rfl) rfl (fun X C hG hR hF => ?_)
  subst hG
  have hcs : True := trivial
  unfold fX12_end at hf
  refine r_aload_n (i := 0) C dX12_end_0 rfl 0 rfl ?_
  refine r_iconst (v := 0) C dX12_end_1 (by decide) ?_
  obtain ⟨h1, eh1, hf⟩ := lt_of hf
  refine p_X12_3 C eh1 dX12_end_2 ?_
  refine r_iload_n (i := 1) C dX12_end_5 rfl 1 rfl ?_
  obtain ⟨q2, r5, hf⟩ := cl_of hf
  have k3 : q2 = true → VW X 2 h1 0 0 17 [(0, .ref (gad (xG X) 208)), (1, .int a1)] [] := fun qq => by
    rw [if_pos qq] at hf
    refine r_iconst (v := 0) C dX12_end_17 (by decide) ?_
    have zz : (0 : Int32) = 0 ∨ (0 : Int32) = 1 := (Or.inl rfl)
    cases hf
    exact r_zret C zz hF dX12_end_18
  have k4 : q2 = false → VW X 2 h1 0 0 19 [(0, .ref (gad (xG X) 208)), (1, .int a1)] [] := fun qq => by
    rw [if_neg (by rw [qq]; decide)] at hf
    refine r_aload_n (i := 0) C dX12_end_19 rfl 0 rfl ?_
    refine r_iload_n (i := 1) C dX12_end_20 rfl 1 rfl ?_
    obtain ⟨h8, eh8, hf⟩ := lt_of hf
    refine p_X12_82 C eh8 dX12_end_21 ?_
    refine r_iconst (v := 1) C dX12_end_24 (by decide) ?_
    have zz : (1 : Int32) = 0 ∨ (1 : Int32) = 1 := (Or.inr rfl)
    cases hf
    exact r_zret C zz hF dX12_end_25
  clear hf
  have hf := r5
  refine r_if_lt C 17 dX12_end_6 (by decide) (fun c6 => ?_) (fun c6 => ?_)
  · rw [if_pos c6] at hf
    exact k3 (Option.some.inj hf).symm
  · rw [if_neg c6] at hf
    refine r_iload_n (i := 1) C dX12_end_9 rfl 1 rfl ?_
    refine r_aload_n (i := 0) C dX12_end_10 rfl 0 rfl ?_
    refine g_X12_82 C dX12_end_11 ?_
    refine r_icmp_le C 19 dX12_end_14 (by decide) (fun c7 => ?_) (fun c7 => ?_)
    · rw [if_pos c7] at hf
      exact k4 (Option.some.inj hf).symm
    · rw [if_neg c7] at hf
      exact k3 (Option.some.inj hf).symm
def fX12_isAt (h : Hp) (a1 : Int32) (a2 : Int32) : Option (Int32) := (if (h 208 11) ≤ (h 208 10) then some (0 : Int32) else gd (inb (h 208 10) 400) ((if (h 214 (h 208 10).toNatClampNeg) < a1 then some (0 : Int32) else gd (inb (h 208 10) 400) ((if a2 < (h 214 (h 208 10).toNatClampNeg) then some (0 : Int32) else some (1 : Int32))))))
set_option maxHeartbeats 4000000 in
set_option maxRecDepth 100000 in
theorem kX12_isAt (G : Gx)  {h : Hp} {a1 : Int32} {a2 : Int32} {rr : Int32} (hf : fX12_isAt h a1 a2 = some rr) : MC G yX12_isAt cX12_isAt 3 (some .boolean) 1 64 h [.ref (gad G 208), .int a1, .int a2] (some (.int rr)) h := by
  refine MC.of RX12 (by decide) rfl (Nat.le_of_ble_eq_true rfl) rfl (fun X C hG hR hF => ?_)
  subst hG
  have hcs : True := trivial
  unfold fX12_isAt at hf
  refine r_aload_n (i := 0) C dX12_isAt_0 rfl 0 rfl ?_
  refine g_X12_85 C dX12_isAt_1 ?_
  refine r_aload_n (i := 0) C dX12_isAt_4 rfl 0 rfl ?_
  refine g_X12_88 C dX12_isAt_5 ?_
  refine r_icmp_ge C 41 dX12_isAt_8 (by decide) (fun c1 => ?_) (fun c1 => ?_)
  · rw [if_pos c1] at hf
    refine r_iconst (v := 0) C dX12_isAt_41 (by decide) ?_
    have zz : (0 : Int32) = 0 ∨ (0 : Int32) = 1 := (Or.inl rfl)
    cases hf
    exact r_zret C zz hF dX12_isAt_42
  · rw [if_neg c1] at hf
    refine r_aload_n (i := 0) C dX12_isAt_11 rfl 0 rfl ?_
    refine g_X12_29 C dX12_isAt_12 ?_
    refine r_aload_n (i := 0) C dX12_isAt_15 rfl 0 rfl ?_
    refine g_X12_85 C dX12_isAt_16 ?_
    obtain ⟨g2, hf⟩ := gd_of hf
    refine r_bald C 214 rfl (by decide) g2 dX12_isAt_19 ?_
    refine r_iload_n (i := 1) C dX12_isAt_20 rfl 1 rfl ?_
    refine r_icmp_lt C 41 dX12_isAt_21 (by decide) (fun c3 => ?_) (fun c3 => ?_)
    · rw [if_pos c3] at hf
      refine r_iconst (v := 0) C dX12_isAt_41 (by decide) ?_
      have zz : (0 : Int32) = 0 ∨ (0 : Int32) = 1 := (Or.inl rfl)
      cases hf
      exact r_zret C zz hF dX12_isAt_42
    · rw [if_neg c3] at hf
      refine r_aload_n (i := 0) C dX12_isAt_24 rfl 0 rfl ?_
      refine g_X12_29 C dX12_isAt_25 ?_
      refine r_aload_n (i := 0) C dX12_isAt_28 rfl 0 rfl ?_
      refine g_X12_85 C dX12_isAt_29 ?_
      obtain ⟨g4, hf⟩ := gd_of hf
      refine r_bald C 214 rfl (by decide) g4 dX12_isAt_32 ?_
      refine r_iload_n (i := 2) C dX12_isAt_33 rfl 2 rfl ?_
      refine r_icmp_gt C 41 dX12_isAt_34 (by decide) (fun c5 => ?_) (fun c5 => ?_)
      · rw [if_pos c5] at hf
        refine r_iconst (v := 0) C dX12_isAt_41 (by decide) ?_
        have zz : (0 : Int32) = 0 ∨ (0 : Int32) = 1 := (Or.inl rfl)
        cases hf
        exact r_zret C zz hF dX12_isAt_42
      · rw [if_neg c5] at hf
        refine r_iconst (v := 1) C dX12_isAt_37 (by decide) ?_
        refine r_goto C 42 dX12_isAt_38 (by decide) ?_
        have zz : (1 : Int32) = 0 ∨ (1 : Int32) = 1 := (Or.inr rfl)
        cases hf
        exact r_zret C zz hF dX12_isAt_42
def BX12_blanks_0  (rec : Hp → Option (Hp)) (h : Hp) : Option (Hp) := cl9 (fX12_isAt h (32 : Int32) (32 : Int32)) (fun x1 => (if x1 = (0 : Int32) then lt9 (up2 h 208 12 (h 208 10)) (fun h4 => some h4) else lt9 (up2 h 208 10 ((h 208 10) + (1 : Int32))) (fun h5 => rec h5)))
def LX12_blanks  : Nat → Hp → Option (Hp)
  | 0, _ => none
  | n + 1, h => BX12_blanks_0  (LX12_blanks  n) h
def fX12_blanks (h : Hp) : Option (Hp) := LX12_blanks big h
set_option maxHeartbeats 4000000 in
set_option maxRecDepth 100000 in
theorem wX12_blanks {X : Cx}  {hh : Hp} (C : OK X cX12_blanks 1 RX12 none) (hR : xR X = { frames := 2, cells := 0, slots := 0, locals := 128 }) (hcs : True) (hF : FinR X none hh) : ∀ n : Nat, (∀ (h : Hp), LX12_blanks  n h = some hh → VW X 1 h 0 0 0 [(0, .ref (gad (xG X) 208))] []) := by
  intro n
  induction n with
  | zero => exact (fun _ hf => (by rw [LX12_blanks] at hf; cases hf))
  | succ n ih =>
    intro h hf
    rw [LX12_blanks] at hf
    unfold BX12_blanks_0 at hf
    refine r_aload_n (i := 0) C dX12_blanks_0 rfl 0 rfl ?_
    refine r_bipush (v := 32) C dX12_blanks_1 (by decide) ?_
    refine r_bipush (v := 32) C dX12_blanks_3 (by decide) ?_
    obtain ⟨x1, e2, hf⟩ := cl_of hf
    refine r_callVi (As := [.int (32 : Int32), .int (32 : Int32)]) (st := []) C 208 rfl (by decide) rfl (kX12_isAt (xG X) e2) cw_X12_91 rfl rfl (Nat.le_of_ble_eq_true rfl) (zr2 hR rfl rfl) (zrcs hcs) dX12_blanks_5 ?_
    refine r_if_eq C 24 dX12_blanks_8 (by decide) (fun c3 => ?_) (fun c3 => ?_)
    · rw [if_pos c3] at hf
      refine r_aload_n (i := 0) C dX12_blanks_24 rfl 0 rfl ?_
      refine r_aload_n (i := 0) C dX12_blanks_25 rfl 0 rfl ?_
      refine g_X12_85 C dX12_blanks_26 ?_
      obtain ⟨h4, eh4, hf⟩ := lt_of hf
      refine p_X12_94 C eh4 dX12_blanks_29 ?_
      cases hf
      exact r_vret C hF dX12_blanks_32
    · rw [if_neg c3] at hf
      refine r_aload_n (i := 0) C dX12_blanks_11 rfl 0 rfl ?_
      refine r_dup C dX12_blanks_12 rfl ?_
      refine g_X12_85 C dX12_blanks_13 ?_
      refine r_iconst (v := 1) C dX12_blanks_16 (by decide) ?_
      refine r_iadd C dX12_blanks_17 ?_
      obtain ⟨h5, eh5, hf⟩ := lt_of hf
      refine p_X12_85 C eh5 dX12_blanks_18 ?_
      refine r_goto C 0 dX12_blanks_21 (by decide) ?_
      exact r_lv [0] rfl (ih _ hf)
set_option maxHeartbeats 4000000 in
set_option maxRecDepth 100000 in
theorem kX12_blanks (G : Gx)  {h : Hp}  {hh : Hp} (hf : fX12_blanks h = some hh) : MC G yX12_blanks cX12_blanks 1 none 2 128 h [.ref (gad G 208)] none hh := by
  refine MC.of RX12 (by decide) rfl (Nat.le_of_ble_eq_true rfl) rfl (fun X C hG hR hF => ?_)
  subst hG
  have hcs : True := trivial
  unfold fX12_blanks at hf
  exact r_lv [0] rfl ((wX12_blanks  C hR hcs hF big) _ hf)
def BX12_letters_0  (rec : Hp → Option (Hp)) (h : Hp) : Option (Hp) := cl9 (fX12_isAt h (97 : Int32) (122 : Int32)) (fun x1 => (if x1 = (0 : Int32) then some h else lt9 (up2 h 208 10 ((h 208 10) + (1 : Int32))) (fun h4 => rec h4)))
def LX12_letters  : Nat → Hp → Option (Hp)
  | 0, _ => none
  | n + 1, h => BX12_letters_0  (LX12_letters  n) h
def fX12_letters (h : Hp) : Option (Hp) := cl9 (fX12_blanks h) (fun h5 => LX12_letters big h5)
set_option maxHeartbeats 4000000 in
set_option maxRecDepth 100000 in
theorem wX12_letters {X : Cx}  {hh : Hp} (C : OK X cX12_letters 1 RX12 none) (hR : xR X = { frames := 3, cells := 0, slots := 0, locals := 192 }) (hcs : True) (hF : FinR X none hh) : ∀ n : Nat, (∀ (h : Hp), LX12_letters  n h = some hh → VW X 1 h 0 0 4 [(0, .ref (gad (xG X) 208))] []) := by
  intro n
  induction n with
  | zero => exact (fun _ hf => (by rw [LX12_letters] at hf; cases hf))
  | succ n ih =>
    intro h hf
    rw [LX12_letters] at hf
    unfold BX12_letters_0 at hf
    refine r_aload_n (i := 0) C dX12_letters_4 rfl 0 rfl ?_
    refine r_bipush (v := 97) C dX12_letters_5 (by decide) ?_
    refine r_bipush (v := 122) C dX12_letters_7 (by decide) ?_
    obtain ⟨x1, e2, hf⟩ := cl_of hf
    refine r_callVi (As := [.int (97 : Int32), .int (122 : Int32)]) (st := []) C 208 rfl (by decide) rfl (kX12_isAt (xG X) e2) cw_X12_91 rfl rfl (Nat.le_of_ble_eq_true rfl) (zr2 hR rfl rfl) (zrcs hcs) dX12_letters_9 ?_
    refine r_if_eq C 28 dX12_letters_12 (by decide) (fun c3 => ?_) (fun c3 => ?_)
    · rw [if_pos c3] at hf
      cases hf
      exact r_vret C hF dX12_letters_28
    · rw [if_neg c3] at hf
      refine r_aload_n (i := 0) C dX12_letters_15 rfl 0 rfl ?_
      refine r_dup C dX12_letters_16 rfl ?_
      refine g_X12_85 C dX12_letters_17 ?_
      refine r_iconst (v := 1) C dX12_letters_20 (by decide) ?_
      refine r_iadd C dX12_letters_21 ?_
      obtain ⟨h4, eh4, hf⟩ := lt_of hf
      refine p_X12_85 C eh4 dX12_letters_22 ?_
      refine r_goto C 4 dX12_letters_25 (by decide) ?_
      exact r_lv [0] rfl (ih _ hf)
set_option maxHeartbeats 4000000 in
set_option maxRecDepth 100000 in
theorem kX12_letters (G : Gx)  {h : Hp}  {hh : Hp} (hf : fX12_letters h = some hh) : MC G yX12_letters cX12_letters 1 none 3 192 h [.ref (gad G 208)] none hh := by
  refine MC.of RX12 (by decide) rfl (Nat.le_of_ble_eq_true rfl) rfl (fun X C hG hR hF => ?_)
  subst hG
  have hcs : True := trivial
  unfold fX12_letters at hf
  refine r_aload_n (i := 0) C dX12_letters_0 rfl 0 rfl ?_
  obtain ⟨h5, e6, hf⟩ := cl_of hf
  refine r_callVv (As := []) (st := []) C 208 rfl (by decide) rfl (kX12_blanks (xG X) e6) cw_X12_97 rfl rfl (Nat.le_of_ble_eq_true rfl) (zr2 hR rfl rfl) (zrcs hcs) dX12_letters_1 ?_
  exact r_lv [0] rfl ((wX12_letters  C hR hcs hF big) _ hf)
def BX12_isWord_0 (h : Hp) (w : List Int32) (rec : Int32 → Int32 → Option (Int32)) (y2 : Int32) (y3 : Int32) : Option (Int32) := (if y2 = (0 : Int32) then gd (y2 = 0 ∨ y2 = 1) (some y2) else (if (Int32.ofNat w.length) ≤ y3 then gd (y2 = 0 ∨ y2 = 1) (some y2) else gd (inb ((h 208 12) + y3) 400) (gd (inb y3 w.length) ((if (h 214 ((h 208 12) + y3).toNatClampNeg) = (jch (w.getD y3.toNatClampNeg 0)) then lt9 (y3 + (1 : Int32)) (fun x7 => rec (1 : Int32) x7) else lt9 (y3 + (1 : Int32)) (fun x6 => rec (0 : Int32) x6))))))
def LX12_isWord (h : Hp) (w : List Int32) : Nat → Int32 → Int32 → Option (Int32)
  | 0, _, _ => none
  | n + 1, y2, y3 => BX12_isWord_0 h w (LX12_isWord h w n) y2 y3
def fX12_isWord (h : Hp) (w : List Int32) : Option (Int32) := (if ((h 208 10) - (h 208 12)) = (Int32.ofNat w.length) then LX12_isWord h w big (1 : Int32) (0 : Int32) else LX12_isWord h w big (0 : Int32) (0 : Int32))
set_option maxHeartbeats 4000000 in
set_option maxRecDepth 100000 in
theorem wX12_isWord {X : Cx} {h : Hp} {se : Nat} {so sx : String} {sn : Nat} {w : List Int32} (he : STR[se]? = some (so, sn, sx, w)) {rr : Int32} (C : OK X cX12_isWord 4 RX12 (some .boolean)) (hR : xR X = { frames := 5, cells := 0, slots := 0, locals := 320 }) (hcs : True) (hF : FinR X (some (.int rr)) h) : ∀ n : Nat, (∀ (y2 : Int32) (y3 : Int32), LX12_isWord h w n y2 y3 = some rr → VW X 4 h 0 0 24 [(0, .ref (gad (xG X) 208)), (1, .ref (gsK (xG X) se)), (2, .int y2), (3, .int y3)] []) := by
  intro n
  induction n with
  | zero => exact (fun _ _ hf => (by rw [LX12_isWord] at hf; cases hf))
  | succ n ih =>
    intro y2 y3 hf
    rw [LX12_isWord] at hf
    unfold BX12_isWord_0 at hf
    refine r_iload_n (i := 2) C dX12_isWord_24 rfl 2 rfl ?_
    refine r_if_eq C 67 dX12_isWord_25 (by decide) (fun c1 => ?_) (fun c1 => ?_)
    · rw [if_pos c1] at hf
      refine r_iload_n (i := 2) C dX12_isWord_67 rfl 2 rfl ?_
      obtain ⟨zz, hf⟩ := gd_of hf
      cases hf
      exact r_zret C zz hF dX12_isWord_68
    · rw [if_neg c1] at hf
      refine r_iload_n (i := 3) C dX12_isWord_28 rfl 3 rfl ?_
      refine r_aload_n (i := 1) C dX12_isWord_29 rfl 1 rfl ?_
      refine r_slen C he gw_1622 (zrS hR rfl rfl) (zrcs hcs) (Nat.le_of_ble_eq_true rfl) dX12_isWord_30 ?_
      refine r_icmp_ge C 67 dX12_isWord_33 (by decide) (fun c2 => ?_) (fun c2 => ?_)
      · rw [if_pos c2] at hf
        refine r_iload_n (i := 2) C dX12_isWord_67 rfl 2 rfl ?_
        obtain ⟨zz, hf⟩ := gd_of hf
        cases hf
        exact r_zret C zz hF dX12_isWord_68
      · rw [if_neg c2] at hf
        refine r_aload_n (i := 0) C dX12_isWord_36 rfl 0 rfl ?_
        refine g_X12_29 C dX12_isWord_37 ?_
        refine r_aload_n (i := 0) C dX12_isWord_40 rfl 0 rfl ?_
        refine g_X12_94 C dX12_isWord_41 ?_
        refine r_iload_n (i := 3) C dX12_isWord_44 rfl 3 rfl ?_
        refine r_iadd C dX12_isWord_45 ?_
        obtain ⟨g3, hf⟩ := gd_of hf
        refine r_bald C 214 rfl (by decide) g3 dX12_isWord_46 ?_
        refine r_aload_n (i := 1) C dX12_isWord_47 rfl 1 rfl ?_
        refine r_iload_n (i := 3) C dX12_isWord_48 rfl 3 rfl ?_
        obtain ⟨g4, hf⟩ := gd_of hf
        refine r_charAt C he g4 gw_1623 (zrS hR rfl rfl) (zrcs hcs) (Nat.le_of_ble_eq_true rfl) dX12_isWord_49 ?_
        refine r_icmp_ne C 59 dX12_isWord_52 (by decide) (fun c5 => ?_) (fun c5 => ?_)
        · rw [if_neg c5] at hf
          refine r_iconst (v := 0) C dX12_isWord_59 (by decide) ?_
          refine r_istore_n (i := 2) (lv' := [(0, .ref (gad (xG X) 208)), (1, .ref (gsK (xG X) se)), (2, .int (0 : Int32)), (3, .int y3)]) C dX12_isWord_60 rfl (by decide) [1, 2, 0, 3] rfl ?_
          obtain ⟨x6, ex6, hf⟩ := lt_of hf
          refine r_iinc (j := 3) (v := x6) (lv' := [(0, .ref (gad (xG X) 208)), (1, .ref (gsK (xG X) se)), (2, .int (0 : Int32)), (3, .int x6)]) C dX12_isWord_61 rfl (by rw [ex6]; rfl) (by decide) [1, 2, 3, 0] rfl ?_
          refine r_goto C 24 dX12_isWord_64 (by decide) ?_
          exact r_lv [0, 1, 2, 3] rfl (ih _ _ hf)
        · rw [if_pos c5] at hf
          refine r_iconst (v := 1) C dX12_isWord_55 (by decide) ?_
          refine r_goto C 60 dX12_isWord_56 (by decide) ?_
          refine r_istore_n (i := 2) (lv' := [(0, .ref (gad (xG X) 208)), (1, .ref (gsK (xG X) se)), (2, .int (1 : Int32)), (3, .int y3)]) C dX12_isWord_60 rfl (by decide) [1, 2, 0, 3] rfl ?_
          obtain ⟨x7, ex7, hf⟩ := lt_of hf
          refine r_iinc (j := 3) (v := x7) (lv' := [(0, .ref (gad (xG X) 208)), (1, .ref (gsK (xG X) se)), (2, .int (1 : Int32)), (3, .int x7)]) C dX12_isWord_61 rfl (by rw [ex7]; rfl) (by decide) [1, 2, 3, 0] rfl ?_
          refine r_goto C 24 dX12_isWord_64 (by decide) ?_
          exact r_lv [0, 1, 2, 3] rfl (ih _ _ hf)
set_option maxHeartbeats 4000000 in
set_option maxRecDepth 100000 in
theorem kX12_isWord (G : Gx) {se : Nat} {so sx : String} {sn : Nat} {w : List Int32} (he : STR[se]? = some (so, sn, sx, w)) {h : Hp}  {rr : Int32} (hf : fX12_isWord h w = some rr) : MC G yX12_isWord cX12_isWord 4 (some .boolean) 5 320 h [.ref (gad G 208), .ref (gsK G se)] (some (.int rr)) h := by
  refine MC.of RX12 (by decide) rfl (Nat.le_of_ble_eq_true rfl) rfl (fun X C hG hR hF => ?_)
  subst hG
  have hcs : True := trivial
  unfold fX12_isWord at hf
  refine r_aload_n (i := 0) C dX12_isWord_0 rfl 0 rfl ?_
  refine g_X12_85 C dX12_isWord_1 ?_
  refine r_aload_n (i := 0) C dX12_isWord_4 rfl 0 rfl ?_
  refine g_X12_94 C dX12_isWord_5 ?_
  refine r_isub C dX12_isWord_8 ?_
  refine r_aload_n (i := 1) C dX12_isWord_9 rfl 1 rfl ?_
  refine r_slen C he gw_1622 (zrS hR rfl rfl) (zrcs hcs) (Nat.le_of_ble_eq_true rfl) dX12_isWord_10 ?_
  refine r_icmp_ne C 20 dX12_isWord_13 (by decide) (fun c8 => ?_) (fun c8 => ?_)
  · rw [if_neg c8] at hf
    refine r_iconst (v := 0) C dX12_isWord_20 (by decide) ?_
    refine r_istore_n (i := 2) (lv' := [(0, .ref (gad (xG X) 208)), (1, .ref (gsK (xG X) se)), (2, .int (0 : Int32))]) C dX12_isWord_21 rfl (by decide) [1, 2, 0] rfl ?_
    refine r_iconst (v := 0) C dX12_isWord_22 (by decide) ?_
    refine r_istore_n (i := 3) (lv' := [(0, .ref (gad (xG X) 208)), (1, .ref (gsK (xG X) se)), (2, .int (0 : Int32)), (3, .int (0 : Int32))]) C dX12_isWord_23 rfl (by decide) [1, 2, 3, 0] rfl ?_
    exact r_lv [0, 1, 2, 3] rfl ((wX12_isWord he C hR hcs hF big) _ _ hf)
  · rw [if_pos c8] at hf
    refine r_iconst (v := 1) C dX12_isWord_16 (by decide) ?_
    refine r_goto C 21 dX12_isWord_17 (by decide) ?_
    refine r_istore_n (i := 2) (lv' := [(0, .ref (gad (xG X) 208)), (1, .ref (gsK (xG X) se)), (2, .int (1 : Int32))]) C dX12_isWord_21 rfl (by decide) [1, 2, 0] rfl ?_
    refine r_iconst (v := 0) C dX12_isWord_22 (by decide) ?_
    refine r_istore_n (i := 3) (lv' := [(0, .ref (gad (xG X) 208)), (1, .ref (gsK (xG X) se)), (2, .int (1 : Int32)), (3, .int (0 : Int32))]) C dX12_isWord_23 rfl (by decide) [1, 2, 3, 0] rfl ?_
    exact r_lv [0, 1, 2, 3] rfl ((wX12_isWord he C hR hcs hF big) _ _ hf)
def fX12_passes (h : Hp) (w : List Int32) : Option (Int32 × Hp) := cl9 (fX12_letters h) (fun h1 => cl9 (fX12_isWord h1 w) (fun x3 => (if x3 = (0 : Int32) then lt9 (up2 h1 208 10 (h1 208 12)) (fun h6 => some ((0 : Int32), h6)) else some ((1 : Int32), h1))))
set_option maxHeartbeats 4000000 in
set_option maxRecDepth 100000 in
theorem kX12_passes (G : Gx) {se : Nat} {so sx : String} {sn : Nat} {w : List Int32} (he : STR[se]? = some (so, sn, sx, w)) {h : Hp}  {rr : Int32} {hh : Hp} (hf : fX12_passes h w = some (rr, hh)) : MC G yX12_passes cX12_passes 2 (some .boolean) 6 384 h [.ref (gad G 208), .ref (gsK G se)] (some (.int rr)) hh := by
  refine MC.of RX12 (by decide) rfl (Nat.le_of_ble_eq_true rfl) rfl (fun X C hG hR hF => ?_)
  subst hG
  have hcs : True := trivial
  unfold fX12_passes at hf
  refine r_aload_n (i := 0) C dX12_passes_0 rfl 0 rfl ?_
  obtain ⟨h1, e2, hf⟩ := cl_of hf
  refine r_callVv (As := []) (st := []) C 208 rfl (by decide) rfl (kX12_letters (xG X) e2) cw_X12_109 rfl rfl (Nat.le_of_ble_eq_true rfl) (zr2 hR rfl rfl) (zrcs hcs) dX12_passes_1 ?_
  refine r_aload_n (i := 0) C dX12_passes_4 rfl 0 rfl ?_
  refine r_aload_n (i := 1) C dX12_passes_5 rfl 1 rfl ?_
  obtain ⟨x3, e4, hf⟩ := cl_of hf
  refine r_callVi (As := [.ref (gsK (xG X) se)]) (st := []) C 208 rfl (by decide) rfl (kX12_isWord (xG X) he e4) cw_X12_112 rfl rfl (Nat.le_of_ble_eq_true rfl) (zr2 hR rfl rfl) (zrcs hcs) dX12_passes_6 ?_
  refine r_if_eq C 14 dX12_passes_9 (by decide) (fun c5 => ?_) (fun c5 => ?_)
  · rw [if_pos c5] at hf
    refine r_aload_n (i := 0) C dX12_passes_14 rfl 0 rfl ?_
    refine r_aload_n (i := 0) C dX12_passes_15 rfl 0 rfl ?_
    refine g_X12_94 C dX12_passes_16 ?_
    obtain ⟨h6, eh6, hf⟩ := lt_of hf
    refine p_X12_85 C eh6 dX12_passes_19 ?_
    refine r_iconst (v := 0) C dX12_passes_22 (by decide) ?_
    have zz : (0 : Int32) = 0 ∨ (0 : Int32) = 1 := (Or.inl rfl)
    cases hf
    exact r_zret C zz hF dX12_passes_23
  · rw [if_neg c5] at hf
    refine r_iconst (v := 1) C dX12_passes_12 (by decide) ?_
    have zz : (1 : Int32) = 0 ∨ (1 : Int32) = 1 := (Or.inr rfl)
    cases hf
    exact r_zret C zz hF dX12_passes_13
def fX12_sign (h : Hp) (a1 : Int32) : Option (Int32 × Hp) := cl9 (fX12_blanks h) (fun h1 => cl9 (fX12_isAt h1 a1 a1) (fun x3 => (if x3 = (0 : Int32) then some ((0 : Int32), h1) else lt9 (up2 h1 208 10 ((h1 208 10) + (1 : Int32))) (fun h6 => some ((1 : Int32), h6)))))
set_option maxHeartbeats 4000000 in
set_option maxRecDepth 100000 in
theorem kX12_sign (G : Gx)  {h : Hp} {a1 : Int32} {rr : Int32} {hh : Hp} (hf : fX12_sign h a1 = some (rr, hh)) : MC G yX12_sign cX12_sign 2 (some .boolean) 3 192 h [.ref (gad G 208), .int a1] (some (.int rr)) hh := by
  refine MC.of RX12 (by decide) rfl (Nat.le_of_ble_eq_true rfl) rfl (fun X C hG hR hF => ?_)
  subst hG
  have hcs : True := trivial
  unfold fX12_sign at hf
  refine r_aload_n (i := 0) C dX12_sign_0 rfl 0 rfl ?_
  obtain ⟨h1, e2, hf⟩ := cl_of hf
  refine r_callVv (As := []) (st := []) C 208 rfl (by decide) rfl (kX12_blanks (xG X) e2) cw_X12_97 rfl rfl (Nat.le_of_ble_eq_true rfl) (zr2 hR rfl rfl) (zrcs hcs) dX12_sign_1 ?_
  refine r_aload_n (i := 0) C dX12_sign_4 rfl 0 rfl ?_
  refine r_iload_n (i := 1) C dX12_sign_5 rfl 1 rfl ?_
  refine r_iload_n (i := 1) C dX12_sign_6 rfl 1 rfl ?_
  obtain ⟨x3, e4, hf⟩ := cl_of hf
  refine r_callVi (As := [.int a1, .int a1]) (st := []) C 208 rfl (by decide) rfl (kX12_isAt (xG X) e4) cw_X12_91 rfl rfl (Nat.le_of_ble_eq_true rfl) (zr2 hR rfl rfl) (zrcs hcs) dX12_sign_7 ?_
  refine r_if_ne C 15 dX12_sign_10 (by decide) (fun c5 => ?_) (fun c5 => ?_)
  · rw [if_neg c5] at hf
    refine r_aload_n (i := 0) C dX12_sign_15 rfl 0 rfl ?_
    refine r_dup C dX12_sign_16 rfl ?_
    refine g_X12_85 C dX12_sign_17 ?_
    refine r_iconst (v := 1) C dX12_sign_20 (by decide) ?_
    refine r_iadd C dX12_sign_21 ?_
    obtain ⟨h6, eh6, hf⟩ := lt_of hf
    refine p_X12_85 C eh6 dX12_sign_22 ?_
    refine r_iconst (v := 1) C dX12_sign_25 (by decide) ?_
    have zz : (1 : Int32) = 0 ∨ (1 : Int32) = 1 := (Or.inr rfl)
    cases hf
    exact r_zret C zz hF dX12_sign_26
  · rw [if_pos c5] at hf
    refine r_iconst (v := 0) C dX12_sign_13 (by decide) ?_
    have zz : (0 : Int32) = 0 ∨ (0 : Int32) = 1 := (Or.inl rfl)
    cases hf
    exact r_zret C zz hF dX12_sign_14
def BX12_number_0  (rec : Hp → Int32 → Int32 → Int32 → Option (Int32 × Hp)) (h : Hp) (y1 : Int32) (y2 : Int32) (y3 : Int32) : Option (Int32 × Hp) := cl9 (fX12_isAt h (48 : Int32) (57 : Int32)) (fun x1 => (if x1 = (0 : Int32) then (if (h 208 10) = (h 208 12) then some ((-1 : Int32), h) else (if (3 : Int32) < ((h 208 10) - (h 208 12)) then some ((-1 : Int32), h) else (if y3 < y1 then some ((-1 : Int32), h) else (if y3 ≤ y2 then some (y3, h) else some ((-1 : Int32), h))))) else cl9 ((if (3 : Int32) ≤ ((h 208 10) - (h 208 12)) then some y3 else gd (inb (h 208 10) 400) (some ((((10 : Int32) * y3) + (h 214 (h 208 10).toNatClampNeg)) - (48 : Int32)))) : Option (Int32)) (fun v8 => lt9 (up2 h 208 10 ((h 208 10) + (1 : Int32))) (fun h13 => rec h13 y1 y2 v8))))
def LX12_number  : Nat → Hp → Int32 → Int32 → Int32 → Option (Int32 × Hp)
  | 0, _, _, _, _ => none
  | n + 1, h, y1, y2, y3 => BX12_number_0  (LX12_number  n) h y1 y2 y3
def fX12_number (h : Hp) (a1 : Int32) (a2 : Int32) : Option (Int32 × Hp) := cl9 (fX12_blanks h) (fun h14 => LX12_number big h14 a1 a2 (0 : Int32))
set_option maxHeartbeats 4000000 in
set_option maxRecDepth 100000 in
theorem wX12_number {X : Cx}  {rr : Int32} {hh : Hp} (C : OK X cX12_number 4 RX12 (some .int)) (hR : xR X = { frames := 3, cells := 0, slots := 0, locals := 192 }) (hcs : True) (hF : FinR X (some (.int rr)) hh) : ∀ n : Nat, (∀ (h : Hp) (y1 : Int32) (y2 : Int32) (y3 : Int32), LX12_number  n h y1 y2 y3 = some (rr, hh) → VW X 4 h 0 0 6 [(0, .ref (gad (xG X) 208)), (1, .int y1), (2, .int y2), (3, .int y3)] []) := by
  intro n
  induction n with
  | zero => exact (fun _ _ _ _ hf => (by rw [LX12_number] at hf; cases hf))
  | succ n ih =>
    intro h y1 y2 y3 hf
    rw [LX12_number] at hf
    unfold BX12_number_0 at hf
    refine r_aload_n (i := 0) C dX12_number_6 rfl 0 rfl ?_
    refine r_bipush (v := 48) C dX12_number_7 (by decide) ?_
    refine r_bipush (v := 57) C dX12_number_9 (by decide) ?_
    obtain ⟨x1, e2, hf⟩ := cl_of hf
    refine r_callVi (As := [.int (48 : Int32), .int (57 : Int32)]) (st := []) C 208 rfl (by decide) rfl (kX12_isAt (xG X) e2) cw_X12_91 rfl rfl (Nat.le_of_ble_eq_true rfl) (zr2 hR rfl rfl) (zrcs hcs) dX12_number_11 ?_
    refine r_if_eq C 65 dX12_number_14 (by decide) (fun c3 => ?_) (fun c3 => ?_)
    · rw [if_pos c3] at hf
      refine r_aload_n (i := 0) C dX12_number_65 rfl 0 rfl ?_
      refine g_X12_85 C dX12_number_66 ?_
      refine r_aload_n (i := 0) C dX12_number_69 rfl 0 rfl ?_
      refine g_X12_94 C dX12_number_70 ?_
      refine r_icmp_eq C 99 dX12_number_73 (by decide) (fun c4 => ?_) (fun c4 => ?_)
      · rw [if_pos c4] at hf
        refine r_iconst (v := (-1)) C dX12_number_99 (by decide) ?_
        refine r_goto C 104 dX12_number_100 (by decide) ?_
        cases hf
        exact r_iret C hF dX12_number_104
      · rw [if_neg c4] at hf
        refine r_aload_n (i := 0) C dX12_number_76 rfl 0 rfl ?_
        refine g_X12_85 C dX12_number_77 ?_
        refine r_aload_n (i := 0) C dX12_number_80 rfl 0 rfl ?_
        refine g_X12_94 C dX12_number_81 ?_
        refine r_isub C dX12_number_84 ?_
        refine r_iconst (v := 3) C dX12_number_85 (by decide) ?_
        refine r_icmp_gt C 99 dX12_number_86 (by decide) (fun c5 => ?_) (fun c5 => ?_)
        · rw [if_pos c5] at hf
          refine r_iconst (v := (-1)) C dX12_number_99 (by decide) ?_
          refine r_goto C 104 dX12_number_100 (by decide) ?_
          cases hf
          exact r_iret C hF dX12_number_104
        · rw [if_neg c5] at hf
          refine r_iload_n (i := 3) C dX12_number_89 rfl 3 rfl ?_
          refine r_iload_n (i := 1) C dX12_number_90 rfl 1 rfl ?_
          refine r_icmp_lt C 99 dX12_number_91 (by decide) (fun c6 => ?_) (fun c6 => ?_)
          · rw [if_pos c6] at hf
            refine r_iconst (v := (-1)) C dX12_number_99 (by decide) ?_
            refine r_goto C 104 dX12_number_100 (by decide) ?_
            cases hf
            exact r_iret C hF dX12_number_104
          · rw [if_neg c6] at hf
            refine r_iload_n (i := 3) C dX12_number_94 rfl 3 rfl ?_
            refine r_iload_n (i := 2) C dX12_number_95 rfl 2 rfl ?_
            refine r_icmp_le C 103 dX12_number_96 (by decide) (fun c7 => ?_) (fun c7 => ?_)
            · rw [if_pos c7] at hf
              refine r_iload_n (i := 3) C dX12_number_103 rfl 3 rfl ?_
              cases hf
              exact r_iret C hF dX12_number_104
            · rw [if_neg c7] at hf
              refine r_iconst (v := (-1)) C dX12_number_99 (by decide) ?_
              refine r_goto C 104 dX12_number_100 (by decide) ?_
              cases hf
              exact r_iret C hF dX12_number_104
    · rw [if_neg c3] at hf
      refine r_aload_n (i := 0) C dX12_number_17 rfl 0 rfl ?_
      refine g_X12_85 C dX12_number_18 ?_
      refine r_aload_n (i := 0) C dX12_number_21 rfl 0 rfl ?_
      refine g_X12_94 C dX12_number_22 ?_
      refine r_isub C dX12_number_25 ?_
      refine r_iconst (v := 3) C dX12_number_26 (by decide) ?_
      obtain ⟨v8, r10, hf⟩ := cl_of hf
      have k9 : VW X 4 h 0 0 51 [(0, .ref (gad (xG X) 208)), (1, .int y1), (2, .int y2)] [.int v8] := by
        refine r_istore_n (i := 3) (lv' := [(0, .ref (gad (xG X) 208)), (1, .int y1), (2, .int y2), (3, .int v8)]) C dX12_number_51 rfl (by decide) [1, 2, 3, 0] rfl ?_
        refine r_aload_n (i := 0) C dX12_number_52 rfl 0 rfl ?_
        refine r_dup C dX12_number_53 rfl ?_
        refine g_X12_85 C dX12_number_54 ?_
        refine r_iconst (v := 1) C dX12_number_57 (by decide) ?_
        refine r_iadd C dX12_number_58 ?_
        obtain ⟨h13, eh13, hf⟩ := lt_of hf
        refine p_X12_85 C eh13 dX12_number_59 ?_
        refine r_goto C 6 dX12_number_62 (by decide) ?_
        exact r_lv [0, 1, 2, 3] rfl (ih _ _ _ _ hf)
      clear hf
      have hf := r10
      refine r_icmp_ge C 50 dX12_number_27 (by decide) (fun c11 => ?_) (fun c11 => ?_)
      · rw [if_pos c11] at hf
        refine r_iload_n (i := 3) C dX12_number_50 rfl 3 rfl ?_
        cases hf
        exact r_lv [0, 1, 2] rfl k9
      · rw [if_neg c11] at hf
        refine r_bipush (v := 10) C dX12_number_30 (by decide) ?_
        refine r_iload_n (i := 3) C dX12_number_32 rfl 3 rfl ?_
        refine r_imul C dX12_number_33 ?_
        refine r_aload_n (i := 0) C dX12_number_34 rfl 0 rfl ?_
        refine g_X12_29 C dX12_number_35 ?_
        refine r_aload_n (i := 0) C dX12_number_38 rfl 0 rfl ?_
        refine g_X12_85 C dX12_number_39 ?_
        obtain ⟨g12, hf⟩ := gd_of hf
        refine r_bald C 214 rfl (by decide) g12 dX12_number_42 ?_
        refine r_iadd C dX12_number_43 ?_
        refine r_bipush (v := 48) C dX12_number_44 (by decide) ?_
        refine r_isub C dX12_number_46 ?_
        refine r_goto C 51 dX12_number_47 (by decide) ?_
        cases hf
        exact r_lv [0, 1, 2] rfl k9
set_option maxHeartbeats 4000000 in
set_option maxRecDepth 100000 in
theorem kX12_number (G : Gx)  {h : Hp} {a1 : Int32} {a2 : Int32} {rr : Int32} {hh : Hp} (hf : fX12_number h a1 a2 = some (rr, hh)) : MC G yX12_number cX12_number 4 (some .int) 3 192 h [.ref (gad G 208), .int a1, .int a2] (some (.int rr)) hh := by
  refine MC.of RX12 (by decide) rfl (Nat.le_of_ble_eq_true rfl) rfl (fun X C hG hR hF => ?_)
  subst hG
  have hcs : True := trivial
  unfold fX12_number at hf
  refine r_aload_n (i := 0) C dX12_number_0 rfl 0 rfl ?_
  obtain ⟨h14, e15, hf⟩ := cl_of hf
  refine r_callVv (As := []) (st := []) C 208 rfl (by decide) rfl (kX12_blanks (xG X) e15) cw_X12_97 rfl rfl (Nat.le_of_ble_eq_true rfl) (zr2 hR rfl rfl) (zrcs hcs) dX12_number_1 ?_
  refine r_iconst (v := 0) C dX12_number_4 (by decide) ?_
  refine r_istore_n (i := 3) (lv' := [(0, .ref (gad (xG X) 208)), (1, .int a1), (2, .int a2), (3, .int (0 : Int32))]) C dX12_number_5 rfl (by decide) [1, 2, 3, 0] rfl ?_
  exact r_lv [0, 1, 2, 3] rfl ((wX12_number  C hR hcs hF big) _ _ _ _ hf)
def fX12_after (h : Hp) (w : List Int32) (a1 : Int32) (a2 : Int32) : Option (Int32 × Hp) := cl9 (fX12_letters h) (fun h1 => cl9 (fX12_isWord h1 w) (fun x3 => (if x3 = (0 : Int32) then some ((-1 : Int32), h1) else cl2 (fX12_number h1 a1 a2) (fun x8 h6 => some (x8, h6)))))
set_option maxHeartbeats 4000000 in
set_option maxRecDepth 100000 in
theorem kX12_after (G : Gx) {se : Nat} {so sx : String} {sn : Nat} {w : List Int32} (he : STR[se]? = some (so, sn, sx, w)) {h : Hp} {a1 : Int32} {a2 : Int32} {rr : Int32} {hh : Hp} (hf : fX12_after h w a1 a2 = some (rr, hh)) : MC G yX12_after cX12_after 4 (some .int) 6 384 h [.ref (gad G 208), .ref (gsK G se), .int a1, .int a2] (some (.int rr)) hh := by
  refine MC.of RX12 (by decide) rfl (Nat.le_of_ble_eq_true rfl) rfl (fun X C hG hR hF => ?_)
  subst hG
  have hcs : True := trivial
  unfold fX12_after at hf
  refine r_aload_n (i := 0) C dX12_after_0 rfl 0 rfl ?_
  obtain ⟨h1, e2, hf⟩ := cl_of hf
  refine r_callVv (As := []) (st := []) C 208 rfl (by decide) rfl (kX12_letters (xG X) e2) cw_X12_109 rfl rfl (Nat.le_of_ble_eq_true rfl) (zr2 hR rfl rfl) (zrcs hcs) dX12_after_1 ?_
  refine r_aload_n (i := 0) C dX12_after_4 rfl 0 rfl ?_
  refine r_aload_n (i := 1) C dX12_after_5 rfl 1 rfl ?_
  obtain ⟨x3, e4, hf⟩ := cl_of hf
  refine r_callVi (As := [.ref (gsK (xG X) se)]) (st := []) C 208 rfl (by decide) rfl (kX12_isWord (xG X) he e4) cw_X12_112 rfl rfl (Nat.le_of_ble_eq_true rfl) (zr2 hR rfl rfl) (zrcs hcs) dX12_after_6 ?_
  refine r_if_eq C 21 dX12_after_9 (by decide) (fun c5 => ?_) (fun c5 => ?_)
  · rw [if_pos c5] at hf
    refine r_iconst (v := (-1)) C dX12_after_21 (by decide) ?_
    cases hf
    exact r_iret C hF dX12_after_22
  · rw [if_neg c5] at hf
    refine r_aload_n (i := 0) C dX12_after_12 rfl 0 rfl ?_
    refine r_iload_n (i := 2) C dX12_after_13 rfl 2 rfl ?_
    refine r_iload_n (i := 3) C dX12_after_14 rfl 3 rfl ?_
    obtain ⟨x8, h6, e7, hf⟩ := cl2_of hf
    refine r_callVi (As := [.int a1, .int a2]) (st := []) C 208 rfl (by decide) rfl (kX12_number (xG X) e7) cw_X12_116 rfl rfl (Nat.le_of_ble_eq_true rfl) (zr2 hR rfl rfl) (zrcs hcs) dX12_after_15 ?_
    refine r_goto C 22 dX12_after_18 (by decide) ?_
    cases hf
    exact r_iret C hF dX12_after_22
def fX12_fault (h : Hp) : Option (Int32 × Hp) := lt9 (up2 h 208 0 (0 : Int32)) (fun h1 => some ((h1 208 14), h1))
set_option maxHeartbeats 4000000 in
set_option maxRecDepth 100000 in
theorem kX12_fault (G : Gx)  {h : Hp}  {rr : Int32} {hh : Hp} (hf : fX12_fault h = some (rr, hh)) : MC G yX12_fault cX12_fault 1 (some .int) 1 64 h [.ref (gad G 208)] (some (.int rr)) hh := by
  refine MC.of RX12 (by decide) rfl (Nat.le_of_ble_eq_true rfl) rfl (fun X C hG hR hF => ?_)
  subst hG
  have hcs : True := trivial
  unfold fX12_fault at hf
  refine r_aload_n (i := 0) C dX12_fault_0 rfl 0 rfl ?_
  refine r_iconst (v := 0) C dX12_fault_1 (by decide) ?_
  obtain ⟨h1, eh1, hf⟩ := lt_of hf
  refine p_X12_3 C eh1 dX12_fault_2 ?_
  refine r_aload_n (i := 0) C dX12_fault_5 rfl 0 rfl ?_
  refine g_X12_33 C dX12_fault_6 ?_
  cases hf
  exact r_iret C hF dX12_fault_9
def fX12_uses (h : Hp) : Option (Hp) := lt9 (up2 h 208 0 (0 : Int32)) (fun h1 => lt9 (up2 h1 208 11 (h1 208 9)) (fun h2 => lt9 (up2 h2 208 9 (0 : Int32)) (fun h3 => lt9 (up2 h3 208 10 (0 : Int32)) (fun h4 => some h4))))
set_option maxHeartbeats 4000000 in
set_option maxRecDepth 100000 in
theorem kX12_uses (G : Gx)  {h : Hp}  {hh : Hp} (hf : fX12_uses h = some hh) : MC G yX12_uses cX12_uses 1 none 1 64 h [.ref (gad G 208)] none hh := by
  refine MC.of RX12 (by decide) rfl (Nat.le_of_ble_eq_true rfl) rfl (fun X C hG hR hF => ?_)
  subst hG
  have hcs : True := trivial
  unfold fX12_uses at hf
  refine r_aload_n (i := 0) C dX12_uses_0 rfl 0 rfl ?_
  refine r_iconst (v := 0) C dX12_uses_1 (by decide) ?_
  obtain ⟨h1, eh1, hf⟩ := lt_of hf
  refine p_X12_3 C eh1 dX12_uses_2 ?_
  refine r_aload_n (i := 0) C dX12_uses_5 rfl 0 rfl ?_
  refine r_aload_n (i := 0) C dX12_uses_6 rfl 0 rfl ?_
  refine g_X12_82 C dX12_uses_7 ?_
  obtain ⟨h2, eh2, hf⟩ := lt_of hf
  refine p_X12_88 C eh2 dX12_uses_10 ?_
  refine r_aload_n (i := 0) C dX12_uses_13 rfl 0 rfl ?_
  refine r_iconst (v := 0) C dX12_uses_14 (by decide) ?_
  obtain ⟨h3, eh3, hf⟩ := lt_of hf
  refine p_X12_82 C eh3 dX12_uses_15 ?_
  refine r_aload_n (i := 0) C dX12_uses_18 rfl 0 rfl ?_
  refine r_iconst (v := 0) C dX12_uses_19 (by decide) ?_
  obtain ⟨h4, eh4, hf⟩ := lt_of hf
  refine p_X12_85 C eh4 dX12_uses_20 ?_
  cases hf
  exact r_vret C hF dX12_uses_23
def fX12_placeTold (h : Hp) : Option (Int32 × Hp) := cl2 (fX12_number h (0 : Int32) (15 : Int32)) (fun x3 h1 => some (x3, h1))
set_option maxHeartbeats 4000000 in
set_option maxRecDepth 100000 in
theorem kX12_placeTold (G : Gx)  {h : Hp}  {rr : Int32} {hh : Hp} (hf : fX12_placeTold h = some (rr, hh)) : MC G yX12_placeTold cX12_placeTold 1 (some .int) 4 256 h [.ref (gad G 208)] (some (.int rr)) hh := by
  refine MC.of RX12 (by decide) rfl (Nat.le_of_ble_eq_true rfl) rfl (fun X C hG hR hF => ?_)
  subst hG
  have hcs : True := trivial
  unfold fX12_placeTold at hf
  refine r_aload_n (i := 0) C dX12_placeTold_0 rfl 0 rfl ?_
  refine r_iconst (v := 0) C dX12_placeTold_1 (by decide) ?_
  refine r_bipush (v := 15) C dX12_placeTold_2 (by decide) ?_
  obtain ⟨x3, h1, e2, hf⟩ := cl2_of hf
  refine r_callVi (As := [.int (0 : Int32), .int (15 : Int32)]) (st := []) C 208 rfl (by decide) rfl (kX12_number (xG X) e2) cw_X12_116 rfl rfl (Nat.le_of_ble_eq_true rfl) (zr2 hR rfl rfl) (zrcs hcs) dX12_placeTold_4 ?_
  cases hf
  exact r_iret C hF dX12_placeTold_7
def fX12_readPin (h : Hp) : Option (Int32 × Hp) := cl2 (fX12_placeTold h) (fun x3 h1 => cl9 ((if x3 < (0 : Int32) then some true else (if (fX12_hasPin h1 x3) = (0 : Int32) then some false else some true)) : Option Bool) (fun q4 => if q4 = true then some ((0 : Int32), h1) else cl2 (fX12_passes h1 sw29) (fun x12 h10 => cl2 ((if x12 = (0 : Int32) then some ((0 : Int32), h10) else cl2 (fX12_number h10 (0 : Int32) (99 : Int32)) (fun x20 h18 => some (x20, h18))) : Option (Int32 × Hp)) (fun v13 h14 => (if (0 : Int32) ≤ v13 then gd (inb (7 : Int32) 2031) (lt9 (up2 h14 209 (7 : Int32).toNatClampNeg ((h14 209 7) ||| ((1 : Int32) <<< (x3 &&& 31)))) (fun h23 => gd (inb ((62 : Int32) + x3) 2031) (lt9 (up2 h23 209 ((62 : Int32) + x3).toNatClampNeg v13) (fun h25 => some ((1 : Int32), h25))))) else some ((0 : Int32), h14))))))
set_option maxHeartbeats 4000000 in
set_option maxRecDepth 100000 in
theorem kX12_readPin (G : Gx)  {h : Hp}  {rr : Int32} {hh : Hp} (hf : fX12_readPin h = some (rr, hh)) : MC G yX12_readPin cX12_readPin 3 (some .boolean) 7 448 h [.ref (gad G 208)] (some (.int rr)) hh := by
  refine MC.of RX12 (by decide) rfl (Nat.le_of_ble_eq_true rfl) rfl (fun X C hG hR hF => ?_)
  subst hG
  have hcs : True := trivial
  unfold fX12_readPin at hf
  refine r_aload_n (i := 0) C dX12_readPin_0 rfl 0 rfl ?_
  obtain ⟨x3, h1, e2, hf⟩ := cl2_of hf
  refine r_callVi (As := []) (st := []) C 208 rfl (by decide) rfl (kX12_placeTold (xG X) e2) cw_X12_119 rfl rfl (Nat.le_of_ble_eq_true rfl) (zr2 hR rfl rfl) (zrcs hcs) dX12_readPin_1 ?_
  refine r_istore_n (i := 1) (lv' := [(0, .ref (gad (xG X) 208)), (1, .int x3)]) C dX12_readPin_4 rfl (by decide) [1, 0] rfl ?_
  refine r_iload_n (i := 1) C dX12_readPin_5 rfl 1 rfl ?_
  obtain ⟨q4, r7, hf⟩ := cl_of hf
  have k5 : q4 = true → VW X 3 h1 0 0 17 [(0, .ref (gad (xG X) 208)), (1, .int x3)] [] := fun qq => by
    rw [if_pos qq] at hf
    refine r_iconst (v := 0) C dX12_readPin_17 (by decide) ?_
    have zz : (0 : Int32) = 0 ∨ (0 : Int32) = 1 := (Or.inl rfl)
    cases hf
    exact r_zret C zz hF dX12_readPin_18
  have k6 : q4 = false → VW X 3 h1 0 0 19 [(0, .ref (gad (xG X) 208)), (1, .int x3)] [] := fun qq => by
    rw [if_neg (by rw [qq]; decide)] at hf
    refine r_aload_n (i := 0) C dX12_readPin_19 rfl 0 rfl ?_
    refine r_ldcS (e := 29) C st29 dX12_readPin_20 ?_
    obtain ⟨x12, h10, e11, hf⟩ := cl2_of hf
    refine r_callVi (As := [.ref (gsK (xG X) 29)]) (st := []) C 208 rfl (by decide) rfl (kX12_passes (xG X) st29 e11) cw_X12_128 rfl rfl (Nat.le_of_ble_eq_true rfl) (zr2 hR rfl rfl) (zrcs hcs) dX12_readPin_22 ?_
    obtain ⟨v13, h14, r16, hf⟩ := cl2_of hf
    have k15 : VW X 3 h14 0 0 39 [(0, .ref (gad (xG X) 208)), (1, .int x3)] [.int v13] := by
      refine r_istore_n (i := 2) (lv' := [(0, .ref (gad (xG X) 208)), (1, .int x3), (2, .int v13)]) C dX12_readPin_39 rfl (by decide) [1, 2, 0] rfl ?_
      refine r_iload_n (i := 2) C dX12_readPin_40 rfl 2 rfl ?_
      refine r_if_ge C 46 dX12_readPin_41 (by decide) (fun c21 => ?_) (fun c21 => ?_)
      · rw [if_pos c21] at hf
        refine r_aload_n (i := 0) C dX12_readPin_46 rfl 0 rfl ?_
        refine g_X12_13 C dX12_readPin_47 ?_
        refine r_bipush (v := 7) C dX12_readPin_50 (by decide) ?_
        refine r_dup2 C dX12_readPin_52 rfl rfl ?_
        refine r_ialdc C 209 (m := 7) rfl (by decide) (by decide) (show inb 7 2031 by decide) dX12_readPin_53 ?_
        refine r_iconst (v := 1) C dX12_readPin_54 (by decide) ?_
        refine r_iload_n (i := 1) C dX12_readPin_55 rfl 1 rfl ?_
        refine r_ishl C dX12_readPin_56 ?_
        refine r_ior C dX12_readPin_57 ?_
        obtain ⟨g22, hf⟩ := gd_of hf
        obtain ⟨h23, eh23, hf⟩ := lt_of hf
        refine r_iast C 209 eh23 rfl (by decide) g22 dX12_readPin_58 ?_
        refine r_aload_n (i := 0) C dX12_readPin_59 rfl 0 rfl ?_
        refine g_X12_13 C dX12_readPin_60 ?_
        refine r_bipush (v := 62) C dX12_readPin_63 (by decide) ?_
        refine r_iload_n (i := 1) C dX12_readPin_65 rfl 1 rfl ?_
        refine r_iadd C dX12_readPin_66 ?_
        refine r_iload_n (i := 2) C dX12_readPin_67 rfl 2 rfl ?_
        obtain ⟨g24, hf⟩ := gd_of hf
        obtain ⟨h25, eh25, hf⟩ := lt_of hf
        refine r_iast C 209 eh25 rfl (by decide) g24 dX12_readPin_68 ?_
        refine r_iconst (v := 1) C dX12_readPin_69 (by decide) ?_
        have zz : (1 : Int32) = 0 ∨ (1 : Int32) = 1 := (Or.inr rfl)
        cases hf
        exact r_zret C zz hF dX12_readPin_70
      · rw [if_neg c21] at hf
        refine r_iconst (v := 0) C dX12_readPin_44 (by decide) ?_
        have zz : (0 : Int32) = 0 ∨ (0 : Int32) = 1 := (Or.inl rfl)
        cases hf
        exact r_zret C zz hF dX12_readPin_45
    clear hf
    have hf := r16
    refine r_if_eq C 38 dX12_readPin_25 (by decide) (fun c17 => ?_) (fun c17 => ?_)
    · rw [if_pos c17] at hf
      refine r_iconst (v := 0) C dX12_readPin_38 (by decide) ?_
      cases hf
      exact k15
    · rw [if_neg c17] at hf
      refine r_aload_n (i := 0) C dX12_readPin_28 rfl 0 rfl ?_
      refine r_iconst (v := 0) C dX12_readPin_29 (by decide) ?_
      refine r_bipush (v := 99) C dX12_readPin_30 (by decide) ?_
      obtain ⟨x20, h18, e19, hf⟩ := cl2_of hf
      refine r_callVi (As := [.int (0 : Int32), .int (99 : Int32)]) (st := []) C 208 rfl (by decide) rfl (kX12_number (xG X) e19) cw_X12_116 rfl rfl (Nat.le_of_ble_eq_true rfl) (zr2 hR rfl rfl) (zrcs hcs) dX12_readPin_32 ?_
      refine r_goto C 39 dX12_readPin_35 (by decide) ?_
      cases hf
      exact k15
  clear hf
  have hf := r7
  refine r_if_lt C 17 dX12_readPin_6 (by decide) (fun c8 => ?_) (fun c8 => ?_)
  · rw [if_pos c8] at hf
    exact k5 (Option.some.inj hf).symm
  · rw [if_neg c8] at hf
    refine r_aload_n (i := 0) C dX12_readPin_9 rfl 0 rfl ?_
    refine r_iload_n (i := 1) C dX12_readPin_10 rfl 1 rfl ?_
    refine r_callVi (As := [.int x3]) (st := []) C 208 rfl (by decide) rfl (kX12_hasPin (xG X)) cw_X12_122 rfl rfl (Nat.le_of_ble_eq_true rfl) (zr2 hR rfl rfl) (zrcs hcs) dX12_readPin_11 ?_
    refine r_if_eq C 19 dX12_readPin_14 (by decide) (fun c9 => ?_) (fun c9 => ?_)
    · rw [if_pos c9] at hf
      exact k6 (Option.some.inj hf).symm
    · rw [if_neg c9] at hf
      exact k5 (Option.some.inj hf).symm
def fX12_readNumber (h : Hp) (a1 : Int32) (a2 : Int32) (a3 : Int32) : Option (Int32 × Hp) := cl2 (fX12_number h a2 a3) (fun x3 h1 => cl9 ((if (0 : Int32) ≤ x3 then some x3 else gd (inb a1 2031) (some (h1 209 a1.toNatClampNeg))) : Option (Int32)) (fun v4 => gd (inb a1 2031) (lt9 (up2 h1 209 a1.toNatClampNeg v4) (fun h10 => (if x3 < (0 : Int32) then some ((0 : Int32), h10) else some ((1 : Int32), h10))))))
set_option maxHeartbeats 4000000 in
set_option maxRecDepth 100000 in
theorem kX12_readNumber (G : Gx)  {h : Hp} {a1 : Int32} {a2 : Int32} {a3 : Int32} {rr : Int32} {hh : Hp} (hf : fX12_readNumber h a1 a2 a3 = some (rr, hh)) : MC G yX12_readNumber cX12_readNumber 5 (some .boolean) 4 256 h [.ref (gad G 208), .int a1, .int a2, .int a3] (some (.int rr)) hh := by
  refine MC.of RX12 (by decide) rfl (Nat.le_of_ble_eq_true rfl) rfl (fun X C hG hR hF => ?_)
  subst hG
  have hcs : True := trivial
  unfold fX12_readNumber at hf
  refine r_aload_n (i := 0) C dX12_readNumber_0 rfl 0 rfl ?_
  refine r_iload_n (i := 2) C dX12_readNumber_1 rfl 2 rfl ?_
  refine r_iload_n (i := 3) C dX12_readNumber_2 rfl 3 rfl ?_
  obtain ⟨x3, h1, e2, hf⟩ := cl2_of hf
  refine r_callVi (As := [.int a2, .int a3]) (st := []) C 208 rfl (by decide) rfl (kX12_number (xG X) e2) cw_X12_116 rfl rfl (Nat.le_of_ble_eq_true rfl) (zr2 hR rfl rfl) (zrcs hcs) dX12_readNumber_3 ?_
  refine r_istore (i := 4) (lv' := [(0, .ref (gad (xG X) 208)), (1, .int a1), (2, .int a2), (3, .int a3), (4, .int x3)]) C dX12_readNumber_6 (by decide) [1, 2, 3, 4, 0] rfl ?_
  refine r_aload_n (i := 0) C dX12_readNumber_8 rfl 0 rfl ?_
  refine g_X12_13 C dX12_readNumber_9 ?_
  refine r_iload_n (i := 1) C dX12_readNumber_12 rfl 1 rfl ?_
  refine r_iload (i := 4) C dX12_readNumber_13 4 rfl ?_
  obtain ⟨v4, r6, hf⟩ := cl_of hf
  have k5 : VW X 5 h1 0 0 29 [(0, .ref (gad (xG X) 208)), (4, .int x3)] [.int v4, .int a1, .ref (gad (xG X) 209)] := by
    obtain ⟨g9, hf⟩ := gd_of hf
    obtain ⟨h10, eh10, hf⟩ := lt_of hf
    refine r_iast C 209 eh10 rfl (by decide) g9 dX12_readNumber_29 ?_
    refine r_iload (i := 4) C dX12_readNumber_30 1 rfl ?_
    refine r_if_lt C 39 dX12_readNumber_32 (by decide) (fun c11 => ?_) (fun c11 => ?_)
    · rw [if_pos c11] at hf
      refine r_iconst (v := 0) C dX12_readNumber_39 (by decide) ?_
      have zz : (0 : Int32) = 0 ∨ (0 : Int32) = 1 := (Or.inl rfl)
      cases hf
      exact r_zret C zz hF dX12_readNumber_40
    · rw [if_neg c11] at hf
      refine r_iconst (v := 1) C dX12_readNumber_35 (by decide) ?_
      refine r_goto C 40 dX12_readNumber_36 (by decide) ?_
      have zz : (1 : Int32) = 0 ∨ (1 : Int32) = 1 := (Or.inr rfl)
      cases hf
      exact r_zret C zz hF dX12_readNumber_40
  clear hf
  have hf := r6
  refine r_if_ge C 27 dX12_readNumber_15 (by decide) (fun c7 => ?_) (fun c7 => ?_)
  · rw [if_pos c7] at hf
    refine r_iload (i := 4) C dX12_readNumber_27 4 rfl ?_
    cases hf
    exact r_lv [0, 4] rfl k5
  · rw [if_neg c7] at hf
    refine r_aload_n (i := 0) C dX12_readNumber_18 rfl 0 rfl ?_
    refine g_X12_13 C dX12_readNumber_19 ?_
    refine r_iload_n (i := 1) C dX12_readNumber_22 rfl 1 rfl ?_
    obtain ⟨g8, hf⟩ := gd_of hf
    refine r_iald C 209 rfl (by decide) g8 dX12_readNumber_23 ?_
    refine r_goto C 29 dX12_readNumber_24 (by decide) ?_
    cases hf
    exact r_lv [0, 4] rfl k5
def fX12_readBare (h : Hp) : Option (Int32 × Hp) := cl2 (fX12_placeTold h) (fun x3 h1 => cl9 ((if x3 < (0 : Int32) then some h1 else gd (inb (13 : Int32) 2031) (lt9 (up2 h1 209 (13 : Int32).toNatClampNeg ((h1 209 13) ||| ((1 : Int32) <<< (x3 &&& 31)))) (fun h9 => some h9))) : Option (Hp)) (fun h4 => (if x3 < (0 : Int32) then some ((0 : Int32), h4) else some ((1 : Int32), h4))))
set_option maxHeartbeats 4000000 in
set_option maxRecDepth 100000 in
theorem kX12_readBare (G : Gx)  {h : Hp}  {rr : Int32} {hh : Hp} (hf : fX12_readBare h = some (rr, hh)) : MC G yX12_readBare cX12_readBare 2 (some .boolean) 5 320 h [.ref (gad G 208)] (some (.int rr)) hh := by
  refine MC.of RX12 (by decide) rfl (Nat.le_of_ble_eq_true rfl) rfl (fun X C hG hR hF => ?_)
  subst hG
  have hcs : True := trivial
  unfold fX12_readBare at hf
  refine r_aload_n (i := 0) C dX12_readBare_0 rfl 0 rfl ?_
  obtain ⟨x3, h1, e2, hf⟩ := cl2_of hf
  refine r_callVi (As := []) (st := []) C 208 rfl (by decide) rfl (kX12_placeTold (xG X) e2) cw_X12_119 rfl rfl (Nat.le_of_ble_eq_true rfl) (zr2 hR rfl rfl) (zrcs hcs) dX12_readBare_1 ?_
  refine r_istore_n (i := 1) (lv' := [(0, .ref (gad (xG X) 208)), (1, .int x3)]) C dX12_readBare_4 rfl (by decide) [1, 0] rfl ?_
  refine r_iload_n (i := 1) C dX12_readBare_5 rfl 1 rfl ?_
  obtain ⟨h4, r6, hf⟩ := cl_of hf
  have k5 : VW X 2 h4 0 0 22 [(0, .ref (gad (xG X) 208)), (1, .int x3)] [] := by
    refine r_iload_n (i := 1) C dX12_readBare_22 rfl 1 rfl ?_
    refine r_if_lt C 30 dX12_readBare_23 (by decide) (fun c10 => ?_) (fun c10 => ?_)
    · rw [if_pos c10] at hf
      refine r_iconst (v := 0) C dX12_readBare_30 (by decide) ?_
      have zz : (0 : Int32) = 0 ∨ (0 : Int32) = 1 := (Or.inl rfl)
      cases hf
      exact r_zret C zz hF dX12_readBare_31
    · rw [if_neg c10] at hf
      refine r_iconst (v := 1) C dX12_readBare_26 (by decide) ?_
      refine r_goto C 31 dX12_readBare_27 (by decide) ?_
      have zz : (1 : Int32) = 0 ∨ (1 : Int32) = 1 := (Or.inr rfl)
      cases hf
      exact r_zret C zz hF dX12_readBare_31
  clear hf
  have hf := r6
  refine r_if_lt C 22 dX12_readBare_6 (by decide) (fun c7 => ?_) (fun c7 => ?_)
  · rw [if_pos c7] at hf
    cases hf
    exact k5
  · rw [if_neg c7] at hf
    refine r_aload_n (i := 0) C dX12_readBare_9 rfl 0 rfl ?_
    refine g_X12_13 C dX12_readBare_10 ?_
    refine r_bipush (v := 13) C dX12_readBare_13 (by decide) ?_
    refine r_dup2 C dX12_readBare_15 rfl rfl ?_
    refine r_ialdc C 209 (m := 13) rfl (by decide) (by decide) (show inb 13 2031 by decide) dX12_readBare_16 ?_
    refine r_iconst (v := 1) C dX12_readBare_17 (by decide) ?_
    refine r_iload_n (i := 1) C dX12_readBare_18 rfl 1 rfl ?_
    refine r_ishl C dX12_readBare_19 ?_
    refine r_ior C dX12_readBare_20 ?_
    obtain ⟨g8, hf⟩ := gd_of hf
    obtain ⟨h9, eh9, hf⟩ := lt_of hf
    refine r_iast C 209 eh9 rfl (by decide) g8 dX12_readBare_21 ?_
    cases hf
    exact k5
def fX12_readPinner (h : Hp) : Option (Int32 × Hp) := lt9 (fX12_pinners h) (fun x1 => (if x1 = (5 : Int32) then some ((0 : Int32), h) else cl2 (fX12_placeTold h) (fun x5 h3 => cl2 ((if (0 : Int32) ≤ x5 then cl2 (fX12_after h3 sw35 (1 : Int32) (9 : Int32)) (fun x13 h11 => some (x13, h11)) else some ((-1 : Int32), h3)) : Option (Int32 × Hp)) (fun v6 h7 => cl2 ((if (0 : Int32) ≤ v6 then cl2 (fX12_after h7 sw36 (0 : Int32) (30 : Int32)) (fun x21 h19 => some (x21, h19)) else some ((-1 : Int32), h7)) : Option (Int32 × Hp)) (fun v14 h15 => (if (0 : Int32) ≤ v14 then gd (inb (fX12_at x1 (0 : Int32)) 2031) (lt9 (up2 h15 209 (fX12_at x1 (0 : Int32)).toNatClampNeg x5) (fun h24 => gd (inb (fX12_at x1 (1 : Int32)) 2031) (lt9 (up2 h24 209 (fX12_at x1 (1 : Int32)).toNatClampNeg v6) (fun h26 => gd (inb (fX12_at x1 (2 : Int32)) 2031) (lt9 (up2 h26 209 (fX12_at x1 (2 : Int32)).toNatClampNeg v14) (fun h28 => gd (inb (0 : Int32) 2031) (lt9 (up2 h28 209 (0 : Int32).toNatClampNeg ((h28 209 0) + (1 : Int32))) (fun h30 => some ((1 : Int32), h30))))))))) else some ((0 : Int32), h15)))))))
set_option maxHeartbeats 4000000 in
set_option maxRecDepth 100000 in
theorem kX12_readPinner (G : Gx)  {h : Hp}  {rr : Int32} {hh : Hp} (hf : fX12_readPinner h = some (rr, hh)) : MC G yX12_readPinner cX12_readPinner 5 (some .boolean) 7 448 h [.ref (gad G 208)] (some (.int rr)) hh := by
  refine MC.of RX12 (by decide) rfl (Nat.le_of_ble_eq_true rfl) rfl (fun X C hG hR hF => ?_)
  subst hG
  have hcs : True := trivial
  unfold fX12_readPinner at hf
  refine r_aload_n (i := 0) C dX12_readPinner_0 rfl 0 rfl ?_
  refine r_callVi (As := []) (st := []) C 208 rfl (by decide) rfl (kX12_pinners (xG X)) cw_X12_73 rfl rfl (Nat.le_of_ble_eq_true rfl) (zr2 hR rfl rfl) (zrcs hcs) dX12_readPinner_1 ?_
  obtain ⟨x1, ex1, hf⟩ := lt_of hf
  refine r_top ex1 ?_
  refine r_istore_n (i := 1) (lv' := [(0, .ref (gad (xG X) 208)), (1, .int x1)]) C dX12_readPinner_4 rfl (by decide) [1, 0] rfl ?_
  refine r_iload_n (i := 1) C dX12_readPinner_5 rfl 1 rfl ?_
  refine r_iconst (v := 5) C dX12_readPinner_6 (by decide) ?_
  refine r_icmp_ne C 12 dX12_readPinner_7 (by decide) (fun c2 => ?_) (fun c2 => ?_)
  · rw [if_neg c2] at hf
    refine r_aload_n (i := 0) C dX12_readPinner_12 rfl 0 rfl ?_
    obtain ⟨x5, h3, e4, hf⟩ := cl2_of hf
    refine r_callVi (As := []) (st := []) C 208 rfl (by decide) rfl (kX12_placeTold (xG X) e4) cw_X12_119 rfl rfl (Nat.le_of_ble_eq_true rfl) (zr2 hR rfl rfl) (zrcs hcs) dX12_readPinner_13 ?_
    refine r_istore_n (i := 2) (lv' := [(0, .ref (gad (xG X) 208)), (1, .int x1), (2, .int x5)]) C dX12_readPinner_16 rfl (by decide) [1, 2, 0] rfl ?_
    refine r_iload_n (i := 2) C dX12_readPinner_17 rfl 2 rfl ?_
    obtain ⟨v6, h7, r9, hf⟩ := cl2_of hf
    have k8 : VW X 5 h7 0 0 34 [(0, .ref (gad (xG X) 208)), (1, .int x1), (2, .int x5)] [.int v6] := by
      refine r_istore_n (i := 3) (lv' := [(0, .ref (gad (xG X) 208)), (1, .int x1), (2, .int x5), (3, .int v6)]) C dX12_readPinner_34 rfl (by decide) [1, 2, 3, 0] rfl ?_
      refine r_iload_n (i := 3) C dX12_readPinner_35 rfl 3 rfl ?_
      obtain ⟨v14, h15, r17, hf⟩ := cl2_of hf
      have k16 : VW X 5 h15 0 0 52 [(0, .ref (gad (xG X) 208)), (1, .int x1), (2, .int x5), (3, .int v6)] [.int v14] := by
        refine r_istore (i := 4) (lv' := [(0, .ref (gad (xG X) 208)), (1, .int x1), (2, .int x5), (3, .int v6), (4, .int v14)]) C dX12_readPinner_52 (by decide) [1, 2, 3, 4, 0] rfl ?_
        refine r_iload (i := 4) C dX12_readPinner_54 4 rfl ?_
        refine r_if_ge C 61 dX12_readPinner_56 (by decide) (fun c22 => ?_) (fun c22 => ?_)
        · rw [if_pos c22] at hf
          refine r_aload_n (i := 0) C dX12_readPinner_61 rfl 0 rfl ?_
          refine g_X12_13 C dX12_readPinner_62 ?_
          refine r_iload_n (i := 1) C dX12_readPinner_65 rfl 1 rfl ?_
          refine r_iconst (v := 0) C dX12_readPinner_66 (by decide) ?_
          refine r_callSi (As := [.int x1, .int (0 : Int32)]) (st := [.ref (gad (xG X) 209)]) C (kX12_at (xG X)) cw_X12_61 rfl rfl (Nat.le_of_ble_eq_true rfl) (zr2 hR rfl rfl) (zrcs hcs) dX12_readPinner_67 ?_
          refine r_iload_n (i := 2) C dX12_readPinner_70 rfl 2 rfl ?_
          obtain ⟨g23, hf⟩ := gd_of hf
          obtain ⟨h24, eh24, hf⟩ := lt_of hf
          refine r_iast C 209 eh24 rfl (by decide) g23 dX12_readPinner_71 ?_
          refine r_aload_n (i := 0) C dX12_readPinner_72 rfl 0 rfl ?_
          refine g_X12_13 C dX12_readPinner_73 ?_
          refine r_iload_n (i := 1) C dX12_readPinner_76 rfl 1 rfl ?_
          refine r_iconst (v := 1) C dX12_readPinner_77 (by decide) ?_
          refine r_callSi (As := [.int x1, .int (1 : Int32)]) (st := [.ref (gad (xG X) 209)]) C (kX12_at (xG X)) cw_X12_61 rfl rfl (Nat.le_of_ble_eq_true rfl) (zr2 hR rfl rfl) (zrcs hcs) dX12_readPinner_78 ?_
          refine r_iload_n (i := 3) C dX12_readPinner_81 rfl 3 rfl ?_
          obtain ⟨g25, hf⟩ := gd_of hf
          obtain ⟨h26, eh26, hf⟩ := lt_of hf
          refine r_iast C 209 eh26 rfl (by decide) g25 dX12_readPinner_82 ?_
          refine r_aload_n (i := 0) C dX12_readPinner_83 rfl 0 rfl ?_
          refine g_X12_13 C dX12_readPinner_84 ?_
          refine r_iload_n (i := 1) C dX12_readPinner_87 rfl 1 rfl ?_
          refine r_iconst (v := 2) C dX12_readPinner_88 (by decide) ?_
          refine r_callSi (As := [.int x1, .int (2 : Int32)]) (st := [.ref (gad (xG X) 209)]) C (kX12_at (xG X)) cw_X12_61 rfl rfl (Nat.le_of_ble_eq_true rfl) (zr2 hR rfl rfl) (zrcs hcs) dX12_readPinner_89 ?_
          refine r_iload (i := 4) C dX12_readPinner_92 4 rfl ?_
          obtain ⟨g27, hf⟩ := gd_of hf
          obtain ⟨h28, eh28, hf⟩ := lt_of hf
          refine r_iast C 209 eh28 rfl (by decide) g27 dX12_readPinner_94 ?_
          refine r_aload_n (i := 0) C dX12_readPinner_95 rfl 0 rfl ?_
          refine g_X12_13 C dX12_readPinner_96 ?_
          refine r_iconst (v := 0) C dX12_readPinner_99 (by decide) ?_
          refine r_dup2 C dX12_readPinner_100 rfl rfl ?_
          refine r_ialdc C 209 (m := 0) rfl (by decide) (by decide) (show inb 0 2031 by decide) dX12_readPinner_101 ?_
          refine r_iconst (v := 1) C dX12_readPinner_102 (by decide) ?_
          refine r_iadd C dX12_readPinner_103 ?_
          obtain ⟨g29, hf⟩ := gd_of hf
          obtain ⟨h30, eh30, hf⟩ := lt_of hf
          refine r_iast C 209 eh30 rfl (by decide) g29 dX12_readPinner_104 ?_
          refine r_iconst (v := 1) C dX12_readPinner_105 (by decide) ?_
          have zz : (1 : Int32) = 0 ∨ (1 : Int32) = 1 := (Or.inr rfl)
          cases hf
          exact r_zret C zz hF dX12_readPinner_106
        · rw [if_neg c22] at hf
          refine r_iconst (v := 0) C dX12_readPinner_59 (by decide) ?_
          have zz : (0 : Int32) = 0 ∨ (0 : Int32) = 1 := (Or.inl rfl)
          cases hf
          exact r_zret C zz hF dX12_readPinner_60
      clear hf
      have hf := r17
      refine r_if_ge C 43 dX12_readPinner_36 (by decide) (fun c18 => ?_) (fun c18 => ?_)
      · rw [if_pos c18] at hf
        refine r_aload_n (i := 0) C dX12_readPinner_43 rfl 0 rfl ?_
        refine r_ldcS (e := 36) C st36 dX12_readPinner_44 ?_
        refine r_iconst (v := 0) C dX12_readPinner_46 (by decide) ?_
        refine r_bipush (v := 30) C dX12_readPinner_47 (by decide) ?_
        obtain ⟨x21, h19, e20, hf⟩ := cl2_of hf
        refine r_callVi (As := [.ref (gsK (xG X) 36), .int (0 : Int32), .int (30 : Int32)]) (st := []) C 208 rfl (by decide) rfl (kX12_after (xG X) st36 e20) cw_X12_136 rfl rfl (Nat.le_of_ble_eq_true rfl) (zr2 hR rfl rfl) (zrcs hcs) dX12_readPinner_49 ?_
        cases hf
        exact k16
      · rw [if_neg c18] at hf
        refine r_iconst (v := (-1)) C dX12_readPinner_39 (by decide) ?_
        refine r_goto C 52 dX12_readPinner_40 (by decide) ?_
        cases hf
        exact k16
    clear hf
    have hf := r9
    refine r_if_ge C 25 dX12_readPinner_18 (by decide) (fun c10 => ?_) (fun c10 => ?_)
    · rw [if_pos c10] at hf
      refine r_aload_n (i := 0) C dX12_readPinner_25 rfl 0 rfl ?_
      refine r_ldcS (e := 35) C st35 dX12_readPinner_26 ?_
      refine r_iconst (v := 1) C dX12_readPinner_28 (by decide) ?_
      refine r_bipush (v := 9) C dX12_readPinner_29 (by decide) ?_
      obtain ⟨x13, h11, e12, hf⟩ := cl2_of hf
      refine r_callVi (As := [.ref (gsK (xG X) 35), .int (1 : Int32), .int (9 : Int32)]) (st := []) C 208 rfl (by decide) rfl (kX12_after (xG X) st35 e12) cw_X12_136 rfl rfl (Nat.le_of_ble_eq_true rfl) (zr2 hR rfl rfl) (zrcs hcs) dX12_readPinner_31 ?_
      cases hf
      exact k8
    · rw [if_neg c10] at hf
      refine r_iconst (v := (-1)) C dX12_readPinner_21 (by decide) ?_
      refine r_goto C 34 dX12_readPinner_22 (by decide) ?_
      cases hf
      exact k8
  · rw [if_pos c2] at hf
    refine r_iconst (v := 0) C dX12_readPinner_10 (by decide) ?_
    have zz : (0 : Int32) = 0 ∨ (0 : Int32) = 1 := (Or.inl rfl)
    cases hf
    exact r_zret C zz hF dX12_readPinner_11
def fX12_emits (h : Hp) (a1 : Int32) (a2 : Int32) : Option (Hp) := gd (inb ((1231 : Int32) + ((2 : Int32) * (h 208 16))) 2031) (lt9 (up2 h 209 ((1231 : Int32) + ((2 : Int32) * (h 208 16))).toNatClampNeg a1) (fun h2 => gd (inb (((1231 : Int32) + ((2 : Int32) * (h2 208 16))) + (1 : Int32)) 2031) (lt9 (up2 h2 209 (((1231 : Int32) + ((2 : Int32) * (h2 208 16))) + (1 : Int32)).toNatClampNeg a2) (fun h4 => lt9 (up2 h4 208 16 ((h4 208 16) + (1 : Int32))) (fun h5 => some h5)))))
set_option maxHeartbeats 4000000 in
set_option maxRecDepth 100000 in
theorem kX12_emits (G : Gx)  {h : Hp} {a1 : Int32} {a2 : Int32} {hh : Hp} (hf : fX12_emits h a1 a2 = some hh) : MC G yX12_emits cX12_emits 3 none 1 64 h [.ref (gad G 208), .int a1, .int a2] none hh := by
  refine MC.of RX12 (by decide) rfl (Nat.le_of_ble_eq_true rfl) rfl (fun X C hG hR hF => ?_)
  subst hG
  have hcs : True := trivial
  unfold fX12_emits at hf
  refine r_aload_n (i := 0) C dX12_emits_0 rfl 0 rfl ?_
  refine g_X12_13 C dX12_emits_1 ?_
  refine r_sipush (v := 1231) C dX12_emits_4 (by decide) ?_
  refine r_iconst (v := 2) C dX12_emits_7 (by decide) ?_
  refine r_aload_n (i := 0) C dX12_emits_8 rfl 0 rfl ?_
  refine g_X12_177 C dX12_emits_9 ?_
  refine r_imul C dX12_emits_12 ?_
  refine r_iadd C dX12_emits_13 ?_
  refine r_iload_n (i := 1) C dX12_emits_14 rfl 1 rfl ?_
  obtain ⟨g1, hf⟩ := gd_of hf
  obtain ⟨h2, eh2, hf⟩ := lt_of hf
  refine r_iast C 209 eh2 rfl (by decide) g1 dX12_emits_15 ?_
  refine r_aload_n (i := 0) C dX12_emits_16 rfl 0 rfl ?_
  refine g_X12_13 C dX12_emits_17 ?_
  refine r_sipush (v := 1231) C dX12_emits_20 (by decide) ?_
  refine r_iconst (v := 2) C dX12_emits_23 (by decide) ?_
  refine r_aload_n (i := 0) C dX12_emits_24 rfl 0 rfl ?_
  refine g_X12_177 C dX12_emits_25 ?_
  refine r_imul C dX12_emits_28 ?_
  refine r_iadd C dX12_emits_29 ?_
  refine r_iconst (v := 1) C dX12_emits_30 (by decide) ?_
  refine r_iadd C dX12_emits_31 ?_
  refine r_iload_n (i := 2) C dX12_emits_32 rfl 2 rfl ?_
  obtain ⟨g3, hf⟩ := gd_of hf
  obtain ⟨h4, eh4, hf⟩ := lt_of hf
  refine r_iast C 209 eh4 rfl (by decide) g3 dX12_emits_33 ?_
  refine r_aload_n (i := 0) C dX12_emits_34 rfl 0 rfl ?_
  refine r_dup C dX12_emits_35 rfl ?_
  refine g_X12_177 C dX12_emits_36 ?_
  refine r_iconst (v := 1) C dX12_emits_39 (by decide) ?_
  refine r_iadd C dX12_emits_40 ?_
  obtain ⟨h5, eh5, hf⟩ := lt_of hf
  refine p_X12_177 C eh5 dX12_emits_41 ?_
  cases hf
  exact r_vret C hF dX12_emits_44

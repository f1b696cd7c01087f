def fX9_takeSign (h : Hp) (a1 : Int32) : Option (Int32 × Hp) := cl9 (fX9_skipBlanks h) (fun h1 => cl9 ((if (fX9_failed h1) = (0 : Int32) then cl9 (fX9_byteAt h1 (h1 1 3)) (fun x8 => (if x8 = a1 then some false else some true)) else some true) : Option Bool) (fun q3 => if q3 = true then some ((0 : Int32), h1) else lt9 (up2 h1 1 4 (h1 1 3)) (fun h11 => lt9 (up2 h11 1 3 ((h11 1 3) + (1 : Int32))) (fun h12 => some ((1 : Int32), h12)))))
set_option maxHeartbeats 4000000 in
set_option maxRecDepth 100000 in
theorem kX9_takeSign (G : Gx)  {h : Hp} {a1 : Int32} {rr : Int32} {hh : Hp} (hf : fX9_takeSign h a1 = some (rr, hh)) : MC G yX9_takeSign cX9_takeSign 2 (some .boolean) 2 128 h [.ref (gad G 1), .int a1] (some (.int rr)) hh := by
  refine MC.of RX9 (by decide) rfl (Nat.le_of_ble_eq_true rfl) rfl (fun X C hG hR hF => ?_)
  subst hG
  have hcs : True := trivial
  unfold fX9_takeSign at hf
  refine r_aload_n (i := 0) C dX9_takeSign_0 rfl 0 rfl ?_
  obtain ⟨h1, e2, hf⟩ := cl_of hf
  refine r_callVv (As := []) (st := []) C 1 rfl (by decide) rfl (kX9_skipBlanks (xG X) e2) cw_X9_31 rfl rfl (Nat.le_of_ble_eq_true rfl) (zr2 hR rfl rfl) (zrcs hcs) dX9_takeSign_1 ?_
  refine r_aload_n (i := 0) C dX9_takeSign_4 rfl 0 rfl ?_
  refine r_callVi (As := []) (st := []) C 1 rfl (by decide) rfl (kX9_failed (xG X)) cw_X9_46 rfl rfl (Nat.le_of_ble_eq_true rfl) (zr2 hR rfl rfl) (zrcs hcs) dX9_takeSign_5 ?_
  obtain ⟨q3, r6, hf⟩ := cl_of hf
  have k4 : q3 = true → VW X 2 h1 0 0 23 [(0, .ref (gad (xG X) 1)), (1, .int a1)] [] := fun qq => by
    rw [if_pos qq] at hf
    refine r_iconst (v := 0) C dX9_takeSign_23 (by decide) ?_
    have zz : (0 : Int32) = 0 ∨ (0 : Int32) = 1 := (Or.inl rfl)
    cases hf
    exact r_zret C zz hF dX9_takeSign_24
  have k5 : q3 = false → VW X 2 h1 0 0 25 [(0, .ref (gad (xG X) 1)), (1, .int a1)] [] := fun qq => by
    rw [if_neg (by rw [qq]; decide)] at hf
    refine r_aload_n (i := 0) C dX9_takeSign_25 rfl 0 rfl ?_
    refine r_aload_n (i := 0) C dX9_takeSign_26 rfl 0 rfl ?_
    refine g_X9_25 C dX9_takeSign_27 ?_
    obtain ⟨h11, eh11, hf⟩ := lt_of hf
    refine p_X9_28 C eh11 dX9_takeSign_30 ?_
    refine r_aload_n (i := 0) C dX9_takeSign_33 rfl 0 rfl ?_
    refine r_dup C dX9_takeSign_34 rfl ?_
    refine g_X9_25 C dX9_takeSign_35 ?_
    refine r_iconst (v := 1) C dX9_takeSign_38 (by decide) ?_
    refine r_iadd C dX9_takeSign_39 ?_
    obtain ⟨h12, eh12, hf⟩ := lt_of hf
    refine p_X9_25 C eh12 dX9_takeSign_40 ?_
    refine r_iconst (v := 1) C dX9_takeSign_43 (by decide) ?_
    have zz : (1 : Int32) = 0 ∨ (1 : Int32) = 1 := (Or.inr rfl)
    cases hf
    exact r_zret C zz hF dX9_takeSign_44
  clear hf
  have hf := r6
  refine r_if_ne C 23 dX9_takeSign_8 (by decide) (fun c7 => ?_) (fun c7 => ?_)
  · rw [if_neg c7] at hf
    exact k4 (Option.some.inj hf).symm
  · rw [if_pos c7] at hf
    refine r_aload_n (i := 0) C dX9_takeSign_11 rfl 0 rfl ?_
    refine r_aload_n (i := 0) C dX9_takeSign_12 rfl 0 rfl ?_
    refine g_X9_25 C dX9_takeSign_13 ?_
    obtain ⟨x8, e9, hf⟩ := cl_of hf
    refine r_callVi (As := [.int (h1 1 3)]) (st := []) C 1 rfl (by decide) rfl (kX9_byteAt (xG X) e9) cw_X9_38 rfl rfl (Nat.le_of_ble_eq_true rfl) (zr2 hR rfl rfl) (zrcs hcs) dX9_takeSign_16 ?_
    refine r_iload_n (i := 1) C dX9_takeSign_19 rfl 1 rfl ?_
    refine r_icmp_eq C 25 dX9_takeSign_20 (by decide) (fun c10 => ?_) (fun c10 => ?_)
    · rw [if_pos c10] at hf
      exact k5 (Option.some.inj hf).symm
    · rw [if_neg c10] at hf
      exact k4 (Option.some.inj hf).symm
def BX9_wordLength_0 (h : Hp) (rec : Int32 → Option (Int32)) (y1 : Int32) : Option (Int32) := cl9 ((if (h 1 2) ≤ y1 then some false else gd (inb y1 400) ((if (h 2 y1.toNatClampNeg) < (97 : Int32) then some false else gd (inb y1 400) ((if (122 : Int32) < (h 2 y1.toNatClampNeg) then some false else some true))))) : Option Bool) (fun q1 => if q1 = true then lt9 (y1 + (1 : Int32)) (fun x10 => rec x10) else some (y1 - (h 1 3)))
def LX9_wordLength (h : Hp) : Nat → Int32 → Option (Int32)
  | 0, _ => none
  | n + 1, y1 => BX9_wordLength_0 h (LX9_wordLength h n) y1
def fX9_wordLength (h : Hp) : Option (Int32) := LX9_wordLength h big (h 1 3)
set_option maxHeartbeats 4000000 in
set_option maxRecDepth 100000 in
theorem wX9_wordLength {X : Cx} {h : Hp}  {rr : Int32} (C : OK X cX9_wordLength 2 RX9 (some .int)) (hR : xR X = { frames := 1, cells := 0, slots := 0, locals := 64 }) (hcs : True) (hF : FinR X (some (.int rr)) h) : ∀ n : Nat, (∀ (y1 : Int32), LX9_wordLength h n y1 = some rr → VW X 2 h 0 0 5 [(0, .ref (gad (xG X) 1)), (1, .int y1)] []) := by
  intro n
  induction n with
  | zero => exact (fun _ hf => (by rw [LX9_wordLength] at hf; cases hf))
  | succ n ih =>
    intro y1 hf
    rw [LX9_wordLength] at hf
    unfold BX9_wordLength_0 at hf
    refine r_iload_n (i := 1) C dX9_wordLength_5 rfl 1 rfl ?_
    refine r_aload_n (i := 0) C dX9_wordLength_6 rfl 0 rfl ?_
    refine g_X9_22 C dX9_wordLength_7 ?_
    obtain ⟨q1, r4, hf⟩ := cl_of hf
    have k2 : q1 = true → VW X 2 h 0 0 35 [(0, .ref (gad (xG X) 1)), (1, .int y1)] [] := fun qq => by
      rw [if_pos qq] at hf
      obtain ⟨x10, ex10, hf⟩ := lt_of hf
      refine r_iinc (j := 1) (v := x10) (lv' := [(0, .ref (gad (xG X) 1)), (1, .int x10)]) C dX9_wordLength_35 rfl (by rw [ex10]; rfl) (by decide) [1, 0] rfl ?_
      refine r_goto C 5 dX9_wordLength_38 (by decide) ?_
      exact r_lv [0, 1] rfl (ih _ hf)
    have k3 : q1 = false → VW X 2 h 0 0 41 [(0, .ref (gad (xG X) 1)), (1, .int y1)] [] := fun qq => by
      rw [if_neg (by rw [qq]; decide)] at hf
      refine r_iload_n (i := 1) C dX9_wordLength_41 rfl 1 rfl ?_
      refine r_aload_n (i := 0) C dX9_wordLength_42 rfl 0 rfl ?_
      refine g_X9_25 C dX9_wordLength_43 ?_
      refine r_isub C dX9_wordLength_46 ?_
      cases hf
      exact r_iret C hF dX9_wordLength_47
    clear hf
    have hf := r4
    refine r_icmp_ge C 41 dX9_wordLength_10 (by decide) (fun c5 => ?_) (fun c5 => ?_)
    · rw [if_pos c5] at hf
      exact k3 (Option.some.inj hf).symm
    · rw [if_neg c5] at hf
      refine r_aload_n (i := 0) C dX9_wordLength_13 rfl 0 rfl ?_
      refine g_X9_11 C dX9_wordLength_14 ?_
      refine r_iload_n (i := 1) C dX9_wordLength_17 rfl 1 rfl ?_
      obtain ⟨g6, hf⟩ := gd_of hf
      refine r_bald C 2 rfl (by decide) g6 dX9_wordLength_18 ?_
      refine r_bipush (v := 97) C dX9_wordLength_19 (by decide) ?_
      refine r_icmp_lt C 41 dX9_wordLength_21 (by decide) (fun c7 => ?_) (fun c7 => ?_)
      · rw [if_pos c7] at hf
        exact k3 (Option.some.inj hf).symm
      · rw [if_neg c7] at hf
        refine r_aload_n (i := 0) C dX9_wordLength_24 rfl 0 rfl ?_
        refine g_X9_11 C dX9_wordLength_25 ?_
        refine r_iload_n (i := 1) C dX9_wordLength_28 rfl 1 rfl ?_
        obtain ⟨g8, hf⟩ := gd_of hf
        refine r_bald C 2 rfl (by decide) g8 dX9_wordLength_29 ?_
        refine r_bipush (v := 122) C dX9_wordLength_30 (by decide) ?_
        refine r_icmp_gt C 41 dX9_wordLength_32 (by decide) (fun c9 => ?_) (fun c9 => ?_)
        · rw [if_pos c9] at hf
          exact k3 (Option.some.inj hf).symm
        · rw [if_neg c9] at hf
          exact k2 (Option.some.inj hf).symm
set_option maxHeartbeats 4000000 in
set_option maxRecDepth 100000 in
theorem kX9_wordLength (G : Gx)  {h : Hp}  {rr : Int32} (hf : fX9_wordLength h = some rr) : MC G yX9_wordLength cX9_wordLength 2 (some .int) 1 64 h [.ref (gad G 1)] (some (.int rr)) h := by
  refine MC.of RX9 (by decide) rfl (Nat.le_of_ble_eq_true rfl) rfl (fun X C hG hR hF => ?_)
  subst hG
  have hcs : True := trivial
  unfold fX9_wordLength at hf
  refine r_aload_n (i := 0) C dX9_wordLength_0 rfl 0 rfl ?_
  refine g_X9_25 C dX9_wordLength_1 ?_
  refine r_istore_n (i := 1) (lv' := [(0, .ref (gad (xG X) 1)), (1, .int (h 1 3))]) C dX9_wordLength_4 rfl (by decide) [1, 0] rfl ?_
  exact r_lv [0, 1] rfl ((wX9_wordLength  C hR hcs hF big) _ hf)
def fX9_isDigit (a1 : Int32) : Int32 := (if a1 < (48 : Int32) then (0 : Int32) else (if (57 : Int32) < a1 then (0 : Int32) else (1 : Int32)))
set_option maxHeartbeats 4000000 in
set_option maxRecDepth 100000 in
theorem kX9_isDigit (G : Gx)  {h : Hp} {a1 : Int32} : MC G yX9_isDigit cX9_isDigit 1 (some .boolean) 1 64 h [.int a1] (some (.int (fX9_isDigit a1))) h := by
  refine MC.of RX9 (by decide) rfl (Nat.le_of_ble_eq_true rfl) rfl (fun X C hG hR hF => ?_)
  subst hG
  have hcs : True := trivial
  obtain ⟨rr, hf⟩ : ∃ rr, fX9_isDigit a1 = rr := ⟨_, rfl⟩
  rw [hf] at hF
  unfold fX9_isDigit at hf
  refine r_iload_n (i := 0) C dX9_isDigit_0 rfl 0 rfl ?_
  refine r_bipush (v := 48) C dX9_isDigit_1 (by decide) ?_
  refine r_icmp_lt C 16 dX9_isDigit_3 (by decide) (fun c1 => ?_) (fun c1 => ?_)
  · rw [if_pos c1] at hf
    refine r_iconst (v := 0) C dX9_isDigit_16 (by decide) ?_
    subst hf
    exact r_zret C (Or.inl rfl) hF dX9_isDigit_17
  · rw [if_neg c1] at hf
    refine r_iload_n (i := 0) C dX9_isDigit_6 rfl 0 rfl ?_
    refine r_bipush (v := 57) C dX9_isDigit_7 (by decide) ?_
    refine r_icmp_gt C 16 dX9_isDigit_9 (by decide) (fun c2 => ?_) (fun c2 => ?_)
    · rw [if_pos c2] at hf
      refine r_iconst (v := 0) C dX9_isDigit_16 (by decide) ?_
      subst hf
      exact r_zret C (Or.inl rfl) hF dX9_isDigit_17
    · rw [if_neg c2] at hf
      refine r_iconst (v := 1) C dX9_isDigit_12 (by decide) ?_
      refine r_goto C 17 dX9_isDigit_13 (by decide) ?_
      subst hf
      exact r_zret C (Or.inr rfl) hF dX9_isDigit_17
theorem zX9_isDigit  {a1 : Int32} : fX9_isDigit a1 = 0 ∨ fX9_isDigit a1 = 1 := by
  unfold fX9_isDigit
  exact by repeat' (first | exact Or.inl rfl | exact Or.inr rfl | (apply b_ite) | (unfold lt9) | assumption | exact zqq)
def fX11_feed (h : Hp) (a1 : Int32) (a2 : Int32) (a3 : Int32) (a4 : Int32) (a5 : Int32) : Option (Int32 × Hp) := (if (fX9_hasRoom h) = (0 : Int32) then some ((-1 : Int32), h) else cl9 (fX9_add h a1) (fun h2 => cl9 (fX9_add h2 a2) (fun h4 => cl9 (fX9_add h4 a3) (fun h6 => cl9 (fX9_add h6 a4) (fun h8 => cl9 (fX9_add h8 a5) (fun h10 => some ((h10 1 1), h10)))))))
set_option maxHeartbeats 4000000 in
set_option maxRecDepth 100000 in
theorem kX11_feed (G : Gx)  {h : Hp} {a1 : Int32} {a2 : Int32} {a3 : Int32} {a4 : Int32} {a5 : Int32} {rr : Int32} {hh : Hp} (hf : fX11_feed h a1 a2 a3 a4 a5 = some (rr, hh)) : MC G yX11_feed cX11_feed 6 (some .int) 2 128 h [.ref (gad G 0), .int a1, .int a2, .int a3, .int a4, .int a5] (some (.int rr)) hh := by
  refine MC.of RX11 (by decide) rfl (Nat.le_of_ble_eq_true rfl) rfl (fun X C hG hR hF => ?_)
  subst hG
  have hcs : True := trivial
  unfold fX11_feed at hf
  refine r_aload_n (i := 0) C dX11_feed_0 rfl 0 rfl ?_
  refine g_X11_10 C dX11_feed_1 ?_
  refine r_callNVi (As := []) (st := []) C 1 rfl (by decide) rfl (kX9_hasRoom (xG X)) cw_X11_85 rfl rfl (Nat.le_of_ble_eq_true rfl) (zr2 hR rfl rfl) (zrcs hcs) dX11_feed_4 ?_
  refine r_if_ne C 12 dX11_feed_7 (by decide) (fun c1 => ?_) (fun c1 => ?_)
  · rw [if_neg c1] at hf
    refine r_aload_n (i := 0) C dX11_feed_12 rfl 0 rfl ?_
    refine g_X11_10 C dX11_feed_13 ?_
    refine r_iload_n (i := 1) C dX11_feed_16 rfl 1 rfl ?_
    obtain ⟨h2, e3, hf⟩ := cl_of hf
    refine r_callNVv (As := [.int a1]) (st := []) C 1 rfl (by decide) rfl (kX9_add (xG X) e3) cw_X11_89 rfl rfl (Nat.le_of_ble_eq_true rfl) (zr2 hR rfl rfl) (zrcs hcs) dX11_feed_17 ?_
    refine r_aload_n (i := 0) C dX11_feed_20 rfl 0 rfl ?_
    refine g_X11_10 C dX11_feed_21 ?_
    refine r_iload_n (i := 2) C dX11_feed_24 rfl 2 rfl ?_
    obtain ⟨h4, e5, hf⟩ := cl_of hf
    refine r_callNVv (As := [.int a2]) (st := []) C 1 rfl (by decide) rfl (kX9_add (xG X) e5) cw_X11_89 rfl rfl (Nat.le_of_ble_eq_true rfl) (zr2 hR rfl rfl) (zrcs hcs) dX11_feed_25 ?_
    refine r_aload_n (i := 0) C dX11_feed_28 rfl 0 rfl ?_
    refine g_X11_10 C dX11_feed_29 ?_
    refine r_iload_n (i := 3) C dX11_feed_32 rfl 3 rfl ?_
    obtain ⟨h6, e7, hf⟩ := cl_of hf
    refine r_callNVv (As := [.int a3]) (st := []) C 1 rfl (by decide) rfl (kX9_add (xG X) e7) cw_X11_89 rfl rfl (Nat.le_of_ble_eq_true rfl) (zr2 hR rfl rfl) (zrcs hcs) dX11_feed_33 ?_
    refine r_aload_n (i := 0) C dX11_feed_36 rfl 0 rfl ?_
    refine g_X11_10 C dX11_feed_37 ?_
    refine r_iload (i := 4) C dX11_feed_40 4 rfl ?_
    obtain ⟨h8, e9, hf⟩ := cl_of hf
    refine r_callNVv (As := [.int a4]) (st := []) C 1 rfl (by decide) rfl (kX9_add (xG X) e9) cw_X11_89 rfl rfl (Nat.le_of_ble_eq_true rfl) (zr2 hR rfl rfl) (zrcs hcs) dX11_feed_42 ?_
    refine r_aload_n (i := 0) C dX11_feed_45 rfl 0 rfl ?_
    refine g_X11_10 C dX11_feed_46 ?_
    refine r_iload (i := 5) C dX11_feed_49 5 rfl ?_
    obtain ⟨h10, e11, hf⟩ := cl_of hf
    refine r_callNVv (As := [.int a5]) (st := []) C 1 rfl (by decide) rfl (kX9_add (xG X) e11) cw_X11_89 rfl rfl (Nat.le_of_ble_eq_true rfl) (zr2 hR rfl rfl) (zrcs hcs) dX11_feed_51 ?_
    refine r_aload_n (i := 0) C dX11_feed_54 rfl 0 rfl ?_
    refine g_X11_10 C dX11_feed_55 ?_
    refine g_X11_93 C dX11_feed_58 ?_
    cases hf
    exact r_iret C hF dX11_feed_61
  · rw [if_pos c1] at hf
    refine r_iconst (v := (-1)) C dX11_feed_10 (by decide) ?_
    cases hf
    exact r_iret C hF dX11_feed_11
def fX11_end (h : Hp) (a1 : Int32) : Option (Int32 × Hp) := cl2 (fX9_cut h a1) (fun x3 h1 => gd (x3 = 0 ∨ x3 = 1) (some (x3, h1)))
set_option maxHeartbeats 4000000 in
set_option maxRecDepth 100000 in
theorem kX11_end (G : Gx)  {h : Hp} {a1 : Int32} {rr : Int32} {hh : Hp} (hf : fX11_end h a1 = some (rr, hh)) : MC G yX11_end cX11_end 2 (some .boolean) 2 128 h [.ref (gad G 0), .int a1] (some (.int rr)) hh := by
  refine MC.of RX11 (by decide) rfl (Nat.le_of_ble_eq_true rfl) rfl (fun X C hG hR hF => ?_)
  subst hG
  have hcs : True := trivial
  unfold fX11_end at hf
  refine r_aload_n (i := 0) C dX11_end_0 rfl 0 rfl ?_
  refine g_X11_10 C dX11_end_1 ?_
  refine r_iload_n (i := 1) C dX11_end_4 rfl 1 rfl ?_
  obtain ⟨x3, h1, e2, hf⟩ := cl2_of hf
  refine r_callNVi (As := [.int a1]) (st := []) C 1 rfl (by decide) rfl (kX9_cut (xG X) e2) cw_X11_96 rfl rfl (Nat.le_of_ble_eq_true rfl) (zr2 hR rfl rfl) (zrcs hcs) dX11_end_5 ?_
  obtain ⟨zz, hf⟩ := gd_of hf
  cases hf
  exact r_zret C zz hF dX11_end_8
def fX11_fault (h : Hp) : Int32 := (h 0 11)
set_option maxHeartbeats 4000000 in
set_option maxRecDepth 100000 in
theorem kX11_fault (G : Gx)  {h : Hp}  : MC G yX11_fault cX11_fault 1 (some .int) 1 64 h [.ref (gad G 0)] (some (.int (fX11_fault h))) h := by
  refine MC.of RX11 (by decide) rfl (Nat.le_of_ble_eq_true rfl) rfl (fun X C hG hR hF => ?_)
  subst hG
  have hcs : True := trivial
  obtain ⟨rr, hf⟩ : ∃ rr, fX11_fault h = rr := ⟨_, rfl⟩
  rw [hf] at hF
  unfold fX11_fault at hf
  refine r_aload_n (i := 0) C dX11_fault_0 rfl 0 rfl ?_
  refine g_X11_71 C dX11_fault_1 ?_
  subst hf
  exact r_iret C hF dX11_fault_4
def fX11_log (h : Hp) (a1 : Int32) (a2 : Int32) : Option (Int32 × Nat × Hp) := cl9 ((if a2 < (0 : Int32) then some true else (if a2 ≤ (3 : Int32) then some false else some true)) : Option Bool) (fun q1 => if q1 = true then some ((0 : Int32), 2, h) else cl9 (fX4_tell h 32 a1 a2) (fun x7 => some (x7, 0, h)))
set_option maxHeartbeats 4000000 in
set_option maxRecDepth 100000 in
theorem kX11_log (G : Gx)  {h : Hp} {a1 : Int32} {a2 : Int32} {rr : Int32} {kk : Nat} {hh : Hp} (hf : fX11_log h a1 a2 = some (rr, kk, hh)) : MX G yX11_log cX11_log 3 (some .int) 6 384 h [.ref (gad G 0), .int a1, .int a2] (some (.int rr)) kk hh := by
  refine MX.of RX11 (by decide) rfl (Nat.le_of_ble_eq_true rfl) rfl (fun X C hG hR hE => ?_)
  subst hG
  have hcs : True := trivial
  unfold fX11_log at hf
  refine r_iload_n (i := 2) C dX11_log_0 rfl 2 rfl ?_
  obtain ⟨q1, r4, hf⟩ := cl_of hf
  have k2 : q1 = true → VW X 3 h 0 0 9 [(0, .ref (gad (xG X) 0)), (1, .int a1), (2, .int a2)] [] := fun qq => by
    rw [if_pos qq] at hf
    cases hf
    exact r_throw C (by decide) (hE.2 (by decide)) (zqt (by decide) hR rfl rfl) tw_2 (Nat.le_of_ble_eq_true rfl) dX11_log_9 dX11_log_12 dX11_log_13 dX11_log_16
  have k3 : q1 = false → VW X 3 h 0 0 17 [(0, .ref (gad (xG X) 0)), (1, .int a1), (2, .int a2)] [] := fun qq => by
    rw [if_neg (by rw [qq]; decide)] at hf
    refine r_aload_n (i := 0) C dX11_log_17 rfl 0 rfl ?_
    refine g_X11_54 C dX11_log_18 ?_
    refine g_X11_216 sk32 C dX11_log_21 ?_
    refine r_iload_n (i := 1) C dX11_log_24 rfl 1 rfl ?_
    refine r_iload_n (i := 2) C dX11_log_25 rfl 2 rfl ?_
    obtain ⟨x7, e8, hf⟩ := cl_of hf
    refine r_callNVi (As := [.int a1, .int a2]) (st := []) C (32 + 9) (sky_dsc sk32 9 (by decide)) (sky_lt sk32 9 (by decide)) rfl (kX4_tell (xG X) sk32 e8) cw_X11_357 rfl rfl (Nat.le_of_ble_eq_true rfl) (zq2 hR rfl rfl) (zrcs hcs) dX11_log_26 ?_
    cases hf
    exact r_iret C (hE.1 rfl) dX11_log_29
  clear hf
  have hf := r4
  refine r_if_lt C 9 dX11_log_1 (by decide) (fun c5 => ?_) (fun c5 => ?_)
  · rw [if_pos c5] at hf
    exact k2 (Option.some.inj hf).symm
  · rw [if_neg c5] at hf
    refine r_iload_n (i := 2) C dX11_log_4 rfl 2 rfl ?_
    refine r_iconst (v := 3) C dX11_log_5 (by decide) ?_
    refine r_icmp_le C 17 dX11_log_6 (by decide) (fun c6 => ?_) (fun c6 => ?_)
    · rw [if_pos c6] at hf
      exact k3 (Option.some.inj hf).symm
    · rw [if_neg c6] at hf
      exact k2 (Option.some.inj hf).symm
def fX11_seed (h : Hp) (a1 : Int32) : Option (Int32 × Hp) := lt9 (up2 h 32 14 a1) (fun h1 => some ((h 32 14), h1))
set_option maxHeartbeats 4000000 in
set_option maxRecDepth 100000 in
theorem kX11_seed (G : Gx)  {h : Hp} {a1 : Int32} {rr : Int32} {hh : Hp} (hf : fX11_seed h a1 = some (rr, hh)) : MC G yX11_seed cX11_seed 3 (some .int) 1 64 h [.ref (gad G 0), .int a1] (some (.int rr)) hh := by
  refine MC.of RX11 (by decide) rfl (Nat.le_of_ble_eq_true rfl) rfl (fun X C hG hR hF => ?_)
  subst hG
  have hcs : True := trivial
  unfold fX11_seed at hf
  refine r_aload_n (i := 0) C dX11_seed_0 rfl 0 rfl ?_
  refine g_X11_54 C dX11_seed_1 ?_
  refine g_X11_348 sk32 C dX11_seed_4 ?_
  refine r_istore_n (i := 2) (lv' := [(0, .ref (gad (xG X) 0)), (1, .int a1), (2, .int (h 32 14))]) C dX11_seed_7 rfl (by decide) [1, 2, 0] rfl ?_
  refine r_aload_n (i := 0) C dX11_seed_8 rfl 0 rfl ?_
  refine g_X11_54 C dX11_seed_9 ?_
  refine r_iload_n (i := 1) C dX11_seed_12 rfl 1 rfl ?_
  obtain ⟨h1, eh1, hf⟩ := lt_of hf
  refine p_X11_348 sk32 C eh1 dX11_seed_13 ?_
  refine r_iload_n (i := 2) C dX11_seed_16 rfl 2 rfl ?_
  cases hf
  exact r_iret C hF dX11_seed_17
def fX11_image (h : Hp) : Option (Hp) := cl9 (fX7_become h 54 32) (fun h1 => cl9 (fX2_become h1 24 6) (fun h3 => lt9 (up2 h3 0 10 (1 : Int32)) (fun h5 => some h5)))
set_option maxHeartbeats 4000000 in
set_option maxRecDepth 100000 in
theorem kX11_image (G : Gx)  {h : Hp}  {hh : Hp} (hf : fX11_image h = some hh) : MC G yX11_image cX11_image 1 none 5 320 h [.ref (gad G 0)] none hh := by
  refine MC.of RX11 (by decide) rfl (Nat.le_of_ble_eq_true rfl) rfl (fun X C hG hR hF => ?_)
  subst hG
  have hcs : True := trivial
  unfold fX11_image at hf
  refine r_aload_n (i := 0) C dX11_image_0 rfl 0 rfl ?_
  refine g_X11_61 C dX11_image_1 ?_
  refine r_aload_n (i := 0) C dX11_image_4 rfl 0 rfl ?_
  refine g_X11_54 C dX11_image_5 ?_
  obtain ⟨h1, e2, hf⟩ := cl_of hf
  refine r_callNVv (As := [.ref (gad (xG X) 32)]) (st := []) C 54 (sky_d0 sk54) (sky_l0 sk54) rfl (kX7_become (xG X) sk54 sk32 e2) cw_X11_101 rfl rfl (Nat.le_of_ble_eq_true rfl) (zr2 hR rfl rfl) (zrcs hcs) dX11_image_8 ?_
  refine r_aload_n (i := 0) C dX11_image_11 rfl 0 rfl ?_
  refine g_X11_67 C dX11_image_12 ?_
  refine r_aload_n (i := 0) C dX11_image_15 rfl 0 rfl ?_
  refine g_X11_19 C dX11_image_16 ?_
  refine g_X11_127 C dX11_image_19 ?_
  obtain ⟨h3, e4, hf⟩ := cl_of hf
  refine r_callNVv (As := [.ref (gad (xG X) 6)]) (st := []) C 24 (law_d0 lk24) (law_l0 lk24) rfl (kX2_become (xG X) lk24 lk6 e4) cw_X11_130 rfl rfl (Nat.le_of_ble_eq_true rfl) (zr2 hR rfl rfl) (zrcs hcs) dX11_image_22 ?_
  refine r_aload_n (i := 0) C dX11_image_25 rfl 0 rfl ?_
  refine r_iconst (v := 1) C dX11_image_26 (by decide) ?_
  obtain ⟨h5, eh5, hf⟩ := lt_of hf
  refine p_X11_364 C eh5 rfl rfl dX11_image_27 ?_
  cases hf
  exact r_vret C hF dX11_image_30
def fX11_back (h : Hp) : Option (Int32 × Hp) := (if (h 0 10) = (0 : Int32) then some ((0 : Int32), h) else cl9 (fX7_become h 32 54) (fun h2 => cl9 (fX2_become h2 6 24) (fun h4 => cl9 (fX5_forget h4) (fun h6 => some ((1 : Int32), h6)))))
set_option maxHeartbeats 4000000 in
set_option maxRecDepth 100000 in
theorem kX11_back (G : Gx)  {h : Hp}  {rr : Int32} {hh : Hp} (hf : fX11_back h = some (rr, hh)) : MC G yX11_back cX11_back 1 (some .boolean) 5 320 h [.ref (gad G 0)] (some (.int rr)) hh := by
  refine MC.of RX11 (by decide) rfl (Nat.le_of_ble_eq_true rfl) rfl (fun X C hG hR hF => ?_)
  subst hG
  have hcs : True := trivial
  unfold fX11_back at hf
  refine r_aload_n (i := 0) C dX11_back_0 rfl 0 rfl ?_
  refine g_X11_364 C dX11_back_1 ?_
  refine r_if_ne C 9 dX11_back_4 (by decide) (fun c1 => ?_) (fun c1 => ?_)
  · rw [if_neg c1] at hf
    refine r_aload_n (i := 0) C dX11_back_9 rfl 0 rfl ?_
    refine g_X11_54 C dX11_back_10 ?_
    refine r_aload_n (i := 0) C dX11_back_13 rfl 0 rfl ?_
    refine g_X11_61 C dX11_back_14 ?_
    obtain ⟨h2, e3, hf⟩ := cl_of hf
    refine r_callNVv (As := [.ref (gad (xG X) 54)]) (st := []) C 32 (sky_d0 sk32) (sky_l0 sk32) rfl (kX7_become (xG X) sk32 sk54 e3) cw_X11_101 rfl rfl (Nat.le_of_ble_eq_true rfl) (zr2 hR rfl rfl) (zrcs hcs) dX11_back_17 ?_
    refine r_aload_n (i := 0) C dX11_back_20 rfl 0 rfl ?_
    refine g_X11_19 C dX11_back_21 ?_
    refine g_X11_127 C dX11_back_24 ?_
    refine r_aload_n (i := 0) C dX11_back_27 rfl 0 rfl ?_
    refine g_X11_67 C dX11_back_28 ?_
    obtain ⟨h4, e5, hf⟩ := cl_of hf
    refine r_callNVv (As := [.ref (gad (xG X) 24)]) (st := []) C 6 (law_d0 lk6) (law_l0 lk6) rfl (kX2_become (xG X) lk6 lk24 e5) cw_X11_130 rfl rfl (Nat.le_of_ble_eq_true rfl) (zr2 hR rfl rfl) (zrcs hcs) dX11_back_31 ?_
    refine r_aload_n (i := 0) C dX11_back_34 rfl 0 rfl ?_
    refine g_X11_40 C dX11_back_35 ?_
    obtain ⟨h6, e7, hf⟩ := cl_of hf
    refine r_callNVv (As := []) (st := []) C 18 rfl (by decide) rfl (kX5_forget (xG X) e7) cw_X11_118 rfl rfl (Nat.le_of_ble_eq_true rfl) (zr2 hR rfl rfl) (zrcs hcs) dX11_back_38 ?_
    refine r_iconst (v := 1) C dX11_back_41 (by decide) ?_
    have zz : (1 : Int32) = 0 ∨ (1 : Int32) = 1 := (Or.inr rfl)
    cases hf
    exact r_zret C zz hF dX11_back_42
  · rw [if_pos c1] at hf
    refine r_iconst (v := 0) C dX11_back_7 (by decide) ?_
    have zz : (0 : Int32) = 0 ∨ (0 : Int32) = 1 := (Or.inl rfl)
    cases hf
    exact r_zret C zz hF dX11_back_8
def fX11_count (h : Hp) (a1 : Int32) : Option (Int32) := (if a1 = (0 : Int32) then some (h (32 + 5) 0) else (if a1 = (1 : Int32) then some (h 32 16) else (if a1 = (2 : Int32) then some (h 6 0) else (if a1 = (3 : Int32) then some (h 32 13) else (if a1 = (4 : Int32) then some (h 32 8) else (if a1 = (5 : Int32) then some (h 32 9) else (if a1 = (6 : Int32) then some (h 32 12) else (if a1 = (7 : Int32) then some (h 32 5) else (if a1 = (8 : Int32) then cl9 (fX0_brassOfAll h 32) (fun x10 => some x10) else (if a1 = (9 : Int32) then some (h 32 15) else (if a1 = (10 : Int32) then some (h (32 + 9) 1) else (if a1 = (11 : Int32) then some (h 18 1) else some (-1 : Int32)))))))))))))
set_option maxHeartbeats 4000000 in
set_option maxRecDepth 100000 in
theorem kX11_count (G : Gx)  {h : Hp} {a1 : Int32} {rr : Int32} (hf : fX11_count h a1 = some rr) : MC G yX11_count cX11_count 2 (some .int) 2 128 h [.ref (gad G 0), .int a1] (some (.int rr)) h := by
  refine MC.of RX11 (by decide) rfl (Nat.le_of_ble_eq_true rfl) rfl (fun X C hG hR hF => ?_)
  subst hG
  have hcs : True := trivial
  unfold fX11_count at hf
  refine r_iload_n (i := 1) C dX11_count_0 rfl 1 rfl ?_
  by_cases c1 : a1 = (0 : Int32)
  · rw [if_pos c1] at hf
    refine r_tableIn C 64 dX11_count_1 (by rw [c1] <;> decide) (by rw [c1] <;> decide) (by rw [c1] <;> rfl) (by decide) ?_
    refine r_aload_n (i := 0) C dX11_count_64 rfl 0 rfl ?_
    refine g_X11_54 C dX11_count_65 ?_
    refine g_X11_188 sk32 C dX11_count_68 ?_
    refine g_X11_305 sk32 C dX11_count_71 ?_
    cases hf
    exact r_iret C hF dX11_count_74
  · rw [if_neg c1] at hf
    by_cases c2 : a1 = (1 : Int32)
    · rw [if_pos c2] at hf
      refine r_tableIn C 75 dX11_count_1 (by rw [c2] <;> decide) (by rw [c2] <;> decide) (by rw [c2] <;> rfl) (by decide) ?_
      refine r_aload_n (i := 0) C dX11_count_75 rfl 0 rfl ?_
      refine g_X11_54 C dX11_count_76 ?_
      refine g_X11_112 sk32 C dX11_count_79 ?_
      cases hf
      exact r_iret C hF dX11_count_82
    · rw [if_neg c2] at hf
      by_cases c3 : a1 = (2 : Int32)
      · rw [if_pos c3] at hf
        refine r_tableIn C 83 dX11_count_1 (by rw [c3] <;> decide) (by rw [c3] <;> decide) (by rw [c3] <;> rfl) (by decide) ?_
        refine r_aload_n (i := 0) C dX11_count_83 rfl 0 rfl ?_
        refine g_X11_19 C dX11_count_84 ?_
        refine g_X11_127 C dX11_count_87 ?_
        refine g_X11_133 lk6 C dX11_count_90 ?_
        cases hf
        exact r_iret C hF dX11_count_93
      · rw [if_neg c3] at hf
        by_cases c4 : a1 = (3 : Int32)
        · rw [if_pos c4] at hf
          refine r_tableIn C 94 dX11_count_1 (by rw [c4] <;> decide) (by rw [c4] <;> decide) (by rw [c4] <;> rfl) (by decide) ?_
          refine r_aload_n (i := 0) C dX11_count_94 rfl 0 rfl ?_
          refine g_X11_54 C dX11_count_95 ?_
          refine g_X11_220 sk32 C dX11_count_98 ?_
          cases hf
          exact r_iret C hF dX11_count_101
        · rw [if_neg c4] at hf
          by_cases c5 : a1 = (4 : Int32)
          · rw [if_pos c5] at hf
            refine r_tableIn C 102 dX11_count_1 (by rw [c5] <;> decide) (by rw [c5] <;> decide) (by rw [c5] <;> rfl) (by decide) ?_
            refine r_aload_n (i := 0) C dX11_count_102 rfl 0 rfl ?_
            refine g_X11_54 C dX11_count_103 ?_
            refine g_X11_169 sk32 C dX11_count_106 ?_
            cases hf
            exact r_iret C hF dX11_count_109
          · rw [if_neg c5] at hf
            by_cases c6 : a1 = (5 : Int32)
            · rw [if_pos c6] at hf
              refine r_tableIn C 110 dX11_count_1 (by rw [c6] <;> decide) (by rw [c6] <;> decide) (by rw [c6] <;> rfl) (by decide) ?_
              refine r_aload_n (i := 0) C dX11_count_110 rfl 0 rfl ?_
              refine g_X11_54 C dX11_count_111 ?_
              refine g_X11_172 sk32 C dX11_count_114 ?_
              cases hf
              exact r_iret C hF dX11_count_117
            · rw [if_neg c6] at hf
              by_cases c7 : a1 = (6 : Int32)
              · rw [if_pos c7] at hf
                refine r_tableIn C 118 dX11_count_1 (by rw [c7] <;> decide) (by rw [c7] <;> decide) (by rw [c7] <;> rfl) (by decide) ?_
                refine r_aload_n (i := 0) C dX11_count_118 rfl 0 rfl ?_
                refine g_X11_54 C dX11_count_119 ?_
                refine g_X11_237 sk32 C dX11_count_122 ?_
                cases hf
                exact r_iret C hF dX11_count_125
              · rw [if_neg c7] at hf
                by_cases c8 : a1 = (7 : Int32)
                · rw [if_pos c8] at hf
                  refine r_tableIn C 126 dX11_count_1 (by rw [c8] <;> decide) (by rw [c8] <;> decide) (by rw [c8] <;> rfl) (by decide) ?_
                  refine r_aload_n (i := 0) C dX11_count_126 rfl 0 rfl ?_
                  refine g_X11_54 C dX11_count_127 ?_
                  refine g_X11_276 sk32 C dX11_count_130 ?_
                  cases hf
                  exact r_iret C hF dX11_count_133
                · rw [if_neg c8] at hf
                  by_cases c9 : a1 = (8 : Int32)
                  · rw [if_pos c9] at hf
                    refine r_tableIn C 134 dX11_count_1 (by rw [c9] <;> decide) (by rw [c9] <;> decide) (by rw [c9] <;> rfl) (by decide) ?_
                    refine r_aload_n (i := 0) C dX11_count_134 rfl 0 rfl ?_
                    refine g_X11_54 C dX11_count_135 ?_
                    refine g_X11_188 sk32 C dX11_count_138 ?_
                    obtain ⟨x10, e11, hf⟩ := cl_of hf
                    refine r_callNVi (As := []) (st := []) C (32 + 5) (sky_dsc sk32 5 (by decide)) (sky_lt sk32 5 (by decide)) rfl (kX0_brassOfAll (xG X) sk32 e11) cw_X11_368 rfl rfl (Nat.le_of_ble_eq_true rfl) (zr2 hR rfl rfl) (zrcs hcs) dX11_count_141 ?_
                    cases hf
                    exact r_iret C hF dX11_count_144
                  · rw [if_neg c9] at hf
                    by_cases c12 : a1 = (9 : Int32)
                    · rw [if_pos c12] at hf
                      refine r_tableIn C 145 dX11_count_1 (by rw [c12] <;> decide) (by rw [c12] <;> decide) (by rw [c12] <;> rfl) (by decide) ?_
                      refine r_aload_n (i := 0) C dX11_count_145 rfl 0 rfl ?_
                      refine g_X11_54 C dX11_count_146 ?_
                      refine g_X11_371 sk32 C dX11_count_149 ?_
                      cases hf
                      exact r_iret C hF dX11_count_152
                    · rw [if_neg c12] at hf
                      by_cases c13 : a1 = (10 : Int32)
                      · rw [if_pos c13] at hf
                        refine r_tableIn C 153 dX11_count_1 (by rw [c13] <;> decide) (by rw [c13] <;> decide) (by rw [c13] <;> rfl) (by decide) ?_
                        refine r_aload_n (i := 0) C dX11_count_153 rfl 0 rfl ?_
                        refine g_X11_54 C dX11_count_154 ?_
                        refine g_X11_216 sk32 C dX11_count_157 ?_
                        refine g_X11_374 sk32 C dX11_count_160 ?_
                        cases hf
                        exact r_iret C hF dX11_count_163
                      · rw [if_neg c13] at hf
                        by_cases c14 : a1 = (11 : Int32)
                        · rw [if_pos c14] at hf
                          refine r_tableIn C 164 dX11_count_1 (by rw [c14] <;> decide) (by rw [c14] <;> decide) (by rw [c14] <;> rfl) (by decide) ?_
                          refine r_aload_n (i := 0) C dX11_count_164 rfl 0 rfl ?_
                          refine g_X11_40 C dX11_count_165 ?_
                          refine g_X11_375 C dX11_count_168 ?_
                          cases hf
                          exact r_iret C hF dX11_count_171
                        · rw [if_neg c14] at hf
                          refine r_tableOut C 172 dX11_count_1 (sw_out2 (0) (11) 12 (by decide) ?_ (by decide) (by decide)) (by decide) ?_
                          · intro k9 h9
                            match k9, h9 with
                            | 0, _ => exact fun e9 => c1 (e9.trans (by decide))
                            | 1, _ => exact fun e9 => c2 (e9.trans (by decide))
                            | 2, _ => exact fun e9 => c3 (e9.trans (by decide))
                            | 3, _ => exact fun e9 => c4 (e9.trans (by decide))
                            | 4, _ => exact fun e9 => c5 (e9.trans (by decide))
                            | 5, _ => exact fun e9 => c6 (e9.trans (by decide))
                            | 6, _ => exact fun e9 => c7 (e9.trans (by decide))
                            | 7, _ => exact fun e9 => c8 (e9.trans (by decide))
                            | 8, _ => exact fun e9 => c9 (e9.trans (by decide))
                            | 9, _ => exact fun e9 => c12 (e9.trans (by decide))
                            | 10, _ => exact fun e9 => c13 (e9.trans (by decide))
                            | 11, _ => exact fun e9 => c14 (e9.trans (by decide))
                            | k9 + 12, h9 => exact absurd h9 (by omega)
                          refine r_iconst (v := (-1)) C dX11_count_172 (by decide) ?_
                          cases hf
                          exact r_iret C hF dX11_count_173
def fX11_checkPlace (a1 : Int32) : Nat := lt9 ((if a1 < (0 : Int32) then true else (if a1 < (16 : Int32) then false else true)) : Bool) (fun q1 => if q1 = true then 1 else 0)
set_option maxHeartbeats 4000000 in
set_option maxRecDepth 100000 in
theorem kX11_checkPlace (G : Gx)  {h : Hp} {a1 : Int32} : MX G yX11_checkPlace cX11_checkPlace 1 none 6 384 h [.int a1] none (fX11_checkPlace a1) h := by
  obtain ⟨kk, hf⟩ : ∃ kk, fX11_checkPlace a1 = kk := ⟨_, rfl⟩
  rw [hf]
  refine MX.of RX11 (by decide) rfl (Nat.le_of_ble_eq_true rfl) rfl (fun X C hG hR hE => ?_)
  subst hG
  have hcs : True := trivial
  unfold fX11_checkPlace at hf
  refine r_iload_n (i := 0) C dX11_checkPlace_0 rfl 0 rfl ?_
  obtain ⟨q1, r4, hf⟩ := lt_of hf
  have k2 : q1 = true → VW X 1 h 0 0 10 [(0, .int a1)] [] := fun qq => by
    rw [if_pos qq] at hf
    subst hf
    exact r_throw C (by decide) (hE.2 (by decide)) (zqt (by decide) hR rfl rfl) tw_1 (Nat.le_of_ble_eq_true rfl) dX11_checkPlace_10 dX11_checkPlace_13 dX11_checkPlace_14 dX11_checkPlace_17
  have k3 : q1 = false → VW X 1 h 0 0 18 [(0, .int a1)] [] := fun qq => by
    rw [if_neg (by rw [qq]; decide)] at hf
    subst hf
    exact r_vret C (hE.1 rfl) dX11_checkPlace_18
  clear hf
  have hf := r4.symm
  refine r_if_lt C 10 dX11_checkPlace_1 (by decide) (fun c5 => ?_) (fun c5 => ?_)
  · rw [if_pos c5] at hf
    exact k2 (hf.symm)
  · rw [if_neg c5] at hf
    refine r_iload_n (i := 0) C dX11_checkPlace_4 rfl 0 rfl ?_
    refine r_bipush (v := 16) C dX11_checkPlace_5 (by decide) ?_
    refine r_icmp_lt C 18 dX11_checkPlace_7 (by decide) (fun c6 => ?_) (fun c6 => ?_)
    · rw [if_pos c6] at hf
      exact k3 (hf.symm)
    · rw [if_neg c6] at hf
      exact k2 (hf.symm)
def fX11_checkPinner (h : Hp) (a1 : Int32) : Nat := lt9 ((if a1 < (0 : Int32) then true else (if a1 < (h (32 + 5) 0) then false else true)) : Bool) (fun q1 => if q1 = true then 1 else 0)
set_option maxHeartbeats 4000000 in
set_option maxRecDepth 100000 in
theorem kX11_checkPinner (G : Gx)  {h : Hp} {a1 : Int32} : MX G yX11_checkPinner cX11_checkPinner 2 none 6 384 h [.ref (gad G 0), .int a1] none (fX11_checkPinner h a1) h := by
  obtain ⟨kk, hf⟩ : ∃ kk, fX11_checkPinner h a1 = kk := ⟨_, rfl⟩
  rw [hf]
  refine MX.of RX11 (by decide) rfl (Nat.le_of_ble_eq_true rfl) rfl (fun X C hG hR hE => ?_)
  subst hG
  have hcs : True := trivial
  unfold fX11_checkPinner at hf
  refine r_iload_n (i := 1) C dX11_checkPinner_0 rfl 1 rfl ?_
  obtain ⟨q1, r4, hf⟩ := lt_of hf
  have k2 : q1 = true → VW X 2 h 0 0 18 [(0, .ref (gad (xG X) 0)), (1, .int a1)] [] := fun qq => by
    rw [if_pos qq] at hf
    subst hf
    exact r_throw C (by decide) (hE.2 (by decide)) (zqt (by decide) hR rfl rfl) tw_1 (Nat.le_of_ble_eq_true rfl) dX11_checkPinner_18 dX11_checkPinner_21 dX11_checkPinner_22 dX11_checkPinner_25
  have k3 : q1 = false → VW X 2 h 0 0 26 [(0, .ref (gad (xG X) 0)), (1, .int a1)] [] := fun qq => by
    rw [if_neg (by rw [qq]; decide)] at hf
    subst hf
    exact r_vret C (hE.1 rfl) dX11_checkPinner_26
  clear hf
  have hf := r4.symm
  refine r_if_lt C 18 dX11_checkPinner_1 (by decide) (fun c5 => ?_) (fun c5 => ?_)
  · rw [if_pos c5] at hf
    exact k2 (hf.symm)
  · rw [if_neg c5] at hf
    refine r_iload_n (i := 1) C dX11_checkPinner_4 rfl 1 rfl ?_
    refine r_aload_n (i := 0) C dX11_checkPinner_5 rfl 0 rfl ?_
    refine g_X11_54 C dX11_checkPinner_6 ?_
    refine g_X11_188 sk32 C dX11_checkPinner_9 ?_
    refine g_X11_305 sk32 C dX11_checkPinner_12 ?_
    refine r_icmp_lt C 26 dX11_checkPinner_15 (by decide) (fun c6 => ?_) (fun c6 => ?_)
    · rw [if_pos c6] at hf
      exact k3 (hf.symm)
    · rw [if_neg c6] at hf
      exact k2 (hf.symm)
def fX11_checkNumber (a1 : Int32) (a2 : Int32) (a3 : Int32) : Nat := lt9 ((if a1 < a2 then true else (if a1 ≤ a3 then false else true)) : Bool) (fun q1 => if q1 = true then 3 else 0)
set_option maxHeartbeats 4000000 in
set_option maxRecDepth 100000 in
theorem kX11_checkNumber (G : Gx)  {h : Hp} {a1 : Int32} {a2 : Int32} {a3 : Int32} : MX G yX11_checkNumber cX11_checkNumber 3 none 6 384 h [.int a1, .int a2, .int a3] none (fX11_checkNumber a1 a2 a3) h := by
  obtain ⟨kk, hf⟩ : ∃ kk, fX11_checkNumber a1 a2 a3 = kk := ⟨_, rfl⟩
  rw [hf]
  refine MX.of RX11 (by decide) rfl (Nat.le_of_ble_eq_true rfl) rfl (fun X C hG hR hE => ?_)
  subst hG
  have hcs : True := trivial
  unfold fX11_checkNumber at hf
  refine r_iload_n (i := 0) C dX11_checkNumber_0 rfl 0 rfl ?_
  refine r_iload_n (i := 1) C dX11_checkNumber_1 rfl 1 rfl ?_
  obtain ⟨q1, r4, hf⟩ := lt_of hf
  have k2 : q1 = true → VW X 3 h 0 0 10 [(0, .int a1), (1, .int a2), (2, .int a3)] [] := fun qq => by
    rw [if_pos qq] at hf
    subst hf
    exact r_throw C (by decide) (hE.2 (by decide)) (zqt (by decide) hR rfl rfl) tw_3 (Nat.le_of_ble_eq_true rfl) dX11_checkNumber_10 dX11_checkNumber_13 dX11_checkNumber_14 dX11_checkNumber_17
  have k3 : q1 = false → VW X 3 h 0 0 18 [(0, .int a1), (1, .int a2), (2, .int a3)] [] := fun qq => by
    rw [if_neg (by rw [qq]; decide)] at hf
    subst hf
    exact r_vret C (hE.1 rfl) dX11_checkNumber_18
  clear hf
  have hf := r4.symm
  refine r_icmp_lt C 10 dX11_checkNumber_2 (by decide) (fun c5 => ?_) (fun c5 => ?_)
  · rw [if_pos c5] at hf
    exact k2 (hf.symm)
  · rw [if_neg c5] at hf
    refine r_iload_n (i := 0) C dX11_checkNumber_5 rfl 0 rfl ?_
    refine r_iload_n (i := 2) C dX11_checkNumber_6 rfl 2 rfl ?_
    refine r_icmp_le C 18 dX11_checkNumber_7 (by decide) (fun c6 => ?_) (fun c6 => ?_)
    · rw [if_pos c6] at hf
      exact k3 (hf.symm)
    · rw [if_neg c6] at hf
      exact k2 (hf.symm)
def fX11_has (a1 : Int32) (a2 : Int32) : Int32 := (if ((ushr a1 a2) &&& (1 : Int32)) = (0 : Int32) then (0 : Int32) else (1 : Int32))
set_option maxHeartbeats 4000000 in
set_option maxRecDepth 100000 in
theorem kX11_has (G : Gx)  {h : Hp} {a1 : Int32} {a2 : Int32} : MC G yX11_has cX11_has 2 (some .boolean) 1 64 h [.int a1, .int a2] (some (.int (fX11_has a1 a2))) h := by
  refine MC.of RX11 (by decide) rfl (Nat.le_of_ble_eq_true rfl) rfl (fun X C hG hR hF => ?_)
  subst hG
  have hcs : True := trivial
  obtain ⟨rr, hf⟩ : ∃ rr, fX11_has a1 a2 = rr := ⟨_, rfl⟩
  rw [hf] at hF
  unfold fX11_has at hf
  refine r_iload_n (i := 0) C dX11_has_0 rfl 0 rfl ?_
  refine r_iload_n (i := 1) C dX11_has_1 rfl 1 rfl ?_
  refine r_iushr C dX11_has_2 ?_
  refine r_iconst (v := 1) C dX11_has_3 (by decide) ?_
  refine r_iand C dX11_has_4 ?_
  refine r_if_eq C 12 dX11_has_5 (by decide) (fun c1 => ?_) (fun c1 => ?_)
  · rw [if_pos c1] at hf
    refine r_iconst (v := 0) C dX11_has_12 (by decide) ?_
    subst hf
    exact r_zret C (Or.inl rfl) hF dX11_has_13
  · rw [if_neg c1] at hf
    refine r_iconst (v := 1) C dX11_has_8 (by decide) ?_
    refine r_goto C 13 dX11_has_9 (by decide) ?_
    subst hf
    exact r_zret C (Or.inr rfl) hF dX11_has_13
theorem zX11_has  {a1 : Int32} {a2 : Int32} : fX11_has a1 a2 = 0 ∨ fX11_has a1 a2 = 1 := by
  unfold fX11_has
  exact by repeat' (first | exact Or.inl rfl | exact Or.inr rfl | (apply b_ite) | (unfold lt9) | assumption | exact zqq)
def BX11_distance_0 (h : Hp) (rec : Int32 → Int32 → Int32 → Option (Int32)) (y0 : Int32) (y2 : Int32) (y3 : Int32) : Option (Int32) := (if (16 : Int32) ≤ y3 then some (16 : Int32) else (if (y0 &&& ((y2 <<< (y3 &&& 31)) ||| (ushr y2 y3))) = (0 : Int32) then lt9 (y3 + (1 : Int32)) (fun x3 => rec y0 y2 x3) else some y3))
def LX11_distance (h : Hp) : Nat → Int32 → Int32 → Int32 → Option (Int32)
  | 0, _, _, _ => none
  | n + 1, y0, y2, y3 => BX11_distance_0 h (LX11_distance h n) y0 y2 y3
def fX11_distance (h : Hp) (a1 : Int32) (a2 : Int32) : Option (Int32) := lt9 ((1 : Int32) <<< (a2 &&& 31)) (fun x4 => LX11_distance h big a1 x4 (0 : Int32))
set_option maxHeartbeats 4000000 in
set_option maxRecDepth 100000 in
theorem wX11_distance {X : Cx} {h : Hp}  {rr : Int32} (C : OK X cX11_distance 4 RX11 (some .int)) (hR : xR X = { frames := 1, cells := 0, slots := 0, locals := 64 }) (hcs : True) (hF : FinR X (some (.int rr)) h) : ∀ n : Nat, (∀ (y0 : Int32) (y2 : Int32) (y3 : Int32), LX11_distance h n y0 y2 y3 = some rr → VW X 4 h 0 0 6 [(0, .int y0), (2, .int y2), (3, .int y3)] []) := by
  intro n
  induction n with
  | zero => exact (fun _ _ _ hf => (by rw [LX11_distance] at hf; cases hf))
  | succ n ih =>
    intro y0 y2 y3 hf
    rw [LX11_distance] at hf
    unfold BX11_distance_0 at hf
    refine r_iload_n (i := 3) C dX11_distance_6 rfl 2 rfl ?_
    refine r_bipush (v := 16) C dX11_distance_7 (by decide) ?_
    refine r_icmp_ge C 32 dX11_distance_9 (by decide) (fun c1 => ?_) (fun c1 => ?_)
    · rw [if_pos c1] at hf
      refine r_bipush (v := 16) C dX11_distance_32 (by decide) ?_
      cases hf
      exact r_iret C hF dX11_distance_34
    · rw [if_neg c1] at hf
      refine r_iload_n (i := 0) C dX11_distance_12 rfl 0 rfl ?_
      refine r_iload_n (i := 2) C dX11_distance_13 rfl 1 rfl ?_
      refine r_iload_n (i := 3) C dX11_distance_14 rfl 2 rfl ?_
      refine r_ishl C dX11_distance_15 ?_
      refine r_iload_n (i := 2) C dX11_distance_16 rfl 1 rfl ?_
      refine r_iload_n (i := 3) C dX11_distance_17 rfl 2 rfl ?_
      refine r_iushr C dX11_distance_18 ?_
      refine r_ior C dX11_distance_19 ?_
      refine r_iand C dX11_distance_20 ?_
      refine r_if_eq C 26 dX11_distance_21 (by decide) (fun c2 => ?_) (fun c2 => ?_)
      · rw [if_pos c2] at hf
        obtain ⟨x3, ex3, hf⟩ := lt_of hf
        refine r_iinc (j := 2) (v := x3) (lv' := [(0, .int y0), (2, .int y2), (3, .int x3)]) C dX11_distance_26 rfl (by rw [ex3]; rfl) (by decide) [1, 2, 0] rfl ?_
        refine r_goto C 6 dX11_distance_29 (by decide) ?_
        exact r_lv [0, 1, 2] rfl (ih _ _ _ hf)
      · rw [if_neg c2] at hf
        refine r_iload_n (i := 3) C dX11_distance_24 rfl 2 rfl ?_
        cases hf
        exact r_iret C hF dX11_distance_25
set_option maxHeartbeats 4000000 in
set_option maxRecDepth 100000 in
theorem kX11_distance (G : Gx)  {h : Hp} {a1 : Int32} {a2 : Int32} {rr : Int32} (hf : fX11_distance h a1 a2 = some rr) : MC G yX11_distance cX11_distance 4 (some .int) 1 64 h [.int a1, .int a2] (some (.int rr)) h := by
  refine MC.of RX11 (by decide) rfl (Nat.le_of_ble_eq_true rfl) rfl (fun X C hG hR hF => ?_)
  subst hG
  have hcs : True := trivial
  unfold fX11_distance at hf
  refine r_iconst (v := 1) C dX11_distance_0 (by decide) ?_
  refine r_iload_n (i := 1) C dX11_distance_1 rfl 1 rfl ?_
  refine r_ishl C dX11_distance_2 ?_
  obtain ⟨x4, ex4, hf⟩ := lt_of hf
  refine r_top ex4 ?_
  refine r_istore_n (i := 2) (lv' := [(0, .int a1), (1, .int a2), (2, .int x4)]) C dX11_distance_3 rfl (by decide) [1, 2, 0] rfl ?_
  refine r_iconst (v := 0) C dX11_distance_4 (by decide) ?_
  refine r_istore_n (i := 3) (lv' := [(0, .int a1), (1, .int a2), (2, .int x4), (3, .int (0 : Int32))]) C dX11_distance_5 rfl (by decide) [1, 2, 3, 0] rfl ?_
  exact r_lv [0, 2, 3] rfl ((wX11_distance  C hR hcs hF big) _ _ _ hf)
def fX11_bitOf (a1 : Int32) : Int32 := (if a1 = (-1 : Int32) then (0 : Int32) else ((1 : Int32) <<< (a1 &&& 31)))
set_option maxHeartbeats 4000000 in
set_option maxRecDepth 100000 in
theorem kX11_bitOf (G : Gx)  {h : Hp} {a1 : Int32} : MC G yX11_bitOf cX11_bitOf 1 (some .int) 1 64 h [.int a1] (some (.int (fX11_bitOf a1))) h := by
  refine MC.of RX11 (by decide) rfl (Nat.le_of_ble_eq_true rfl) rfl (fun X C hG hR hF => ?_)
  subst hG
  have hcs : True := trivial
  obtain ⟨rr, hf⟩ : ∃ rr, fX11_bitOf a1 = rr := ⟨_, rfl⟩
  rw [hf] at hF
  unfold fX11_bitOf at hf
  refine r_iload_n (i := 0) C dX11_bitOf_0 rfl 0 rfl ?_
  refine r_iconst (v := (-1)) C dX11_bitOf_1 (by decide) ?_
  refine r_icmp_ne C 9 dX11_bitOf_2 (by decide) (fun c1 => ?_) (fun c1 => ?_)
  · rw [if_neg c1] at hf
    refine r_iconst (v := 1) C dX11_bitOf_9 (by decide) ?_
    refine r_iload_n (i := 0) C dX11_bitOf_10 rfl 0 rfl ?_
    refine r_ishl C dX11_bitOf_11 ?_
    subst hf
    exact r_iret C hF dX11_bitOf_12
  · rw [if_pos c1] at hf
    refine r_iconst (v := 0) C dX11_bitOf_5 (by decide) ?_
    refine r_goto C 12 dX11_bitOf_6 (by decide) ?_
    subst hf
    exact r_iret C hF dX11_bitOf_12
def BX11_tellsHeights_0 (h : Hp) (rec : Int32 → Option (Int32)) (y1 : Int32) : Option (Int32) := (if (h 1 2) ≤ y1 then some (1 : Int32) else cl9 (fX9_byteAt h y1) (fun x2 => (if x2 ≤ (15 : Int32) then lt9 (y1 + (2 : Int32)) (fun x5 => rec x5) else some (0 : Int32))))
def LX11_tellsHeights (h : Hp) : Nat → Int32 → Option (Int32)
  | 0, _ => none
  | n + 1, y1 => BX11_tellsHeights_0 h (LX11_tellsHeights h n) y1
def fX11_tellsHeights (h : Hp) : Option (Int32) := (if (40 : Int32) < (h 1 2) then some (0 : Int32) else (if (irem (h 1 2) (2 : Int32)) = (0 : Int32) then LX11_tellsHeights h big (0 : Int32) else some (0 : Int32)))
set_option maxHeartbeats 4000000 in
set_option maxRecDepth 100000 in
theorem wX11_tellsHeights {X : Cx} {h : Hp}  {rr : Int32} (C : OK X cX11_tellsHeights 2 RX11 (some .boolean)) (hR : xR X = { frames := 2, cells := 0, slots := 0, locals := 128 }) (hcs : True) (hF : FinR X (some (.int rr)) h) : ∀ n : Nat, (∀ (y1 : Int32), LX11_tellsHeights h n y1 = some rr → VW X 2 h 0 0 28 [(0, .ref (gad (xG X) 0)), (1, .int y1)] []) := by
  intro n
  induction n with
  | zero => exact (fun _ hf => (by rw [LX11_tellsHeights] at hf; cases hf))
  | succ n ih =>
    intro y1 hf
    rw [LX11_tellsHeights] at hf
    unfold BX11_tellsHeights_0 at hf
    refine r_iload_n (i := 1) C dX11_tellsHeights_28 rfl 1 rfl ?_
    refine r_aload_n (i := 0) C dX11_tellsHeights_29 rfl 0 rfl ?_
    refine g_X11_10 C dX11_tellsHeights_30 ?_
    refine g_X11_382 C dX11_tellsHeights_33 ?_
    refine r_icmp_ge C 60 dX11_tellsHeights_36 (by decide) (fun c1 => ?_) (fun c1 => ?_)
    · rw [if_pos c1] at hf
      refine r_iconst (v := 1) C dX11_tellsHeights_60 (by decide) ?_
      have zz : (1 : Int32) = 0 ∨ (1 : Int32) = 1 := (Or.inr rfl)
      cases hf
      exact r_zret C zz hF dX11_tellsHeights_61
    · rw [if_neg c1] at hf
      refine r_aload_n (i := 0) C dX11_tellsHeights_39 rfl 0 rfl ?_
      refine g_X11_10 C dX11_tellsHeights_40 ?_
      refine r_iload_n (i := 1) C dX11_tellsHeights_43 rfl 1 rfl ?_
      obtain ⟨x2, e3, hf⟩ := cl_of hf
      refine r_callNVi (As := [.int y1]) (st := []) C 1 rfl (by decide) rfl (kX9_byteAt (xG X) e3) cw_X11_385 rfl rfl (Nat.le_of_ble_eq_true rfl) (zr2 hR rfl rfl) (zrcs hcs) dX11_tellsHeights_44 ?_
      refine r_bipush (v := 15) C dX11_tellsHeights_47 (by decide) ?_
      refine r_icmp_le C 54 dX11_tellsHeights_49 (by decide) (fun c4 => ?_) (fun c4 => ?_)
      · rw [if_pos c4] at hf
        obtain ⟨x5, ex5, hf⟩ := lt_of hf
        refine r_iinc (j := 1) (v := x5) (lv' := [(0, .ref (gad (xG X) 0)), (1, .int x5)]) C dX11_tellsHeights_54 rfl (by rw [ex5]; rfl) (by decide) [1, 0] rfl ?_
        refine r_goto C 28 dX11_tellsHeights_57 (by decide) ?_
        exact r_lv [0, 1] rfl (ih _ hf)
      · rw [if_neg c4] at hf
        refine r_iconst (v := 0) C dX11_tellsHeights_52 (by decide) ?_
        have zz : (0 : Int32) = 0 ∨ (0 : Int32) = 1 := (Or.inl rfl)
        cases hf
        exact r_zret C zz hF dX11_tellsHeights_53
set_option maxHeartbeats 4000000 in
set_option maxRecDepth 100000 in
theorem kX11_tellsHeights (G : Gx)  {h : Hp}  {rr : Int32} (hf : fX11_tellsHeights h = some rr) : MC G yX11_tellsHeights cX11_tellsHeights 2 (some .boolean) 2 128 h [.ref (gad G 0)] (some (.int rr)) h := by
  refine MC.of RX11 (by decide) rfl (Nat.le_of_ble_eq_true rfl) rfl (fun X C hG hR hF => ?_)
  subst hG
  have hcs : True := trivial
  unfold fX11_tellsHeights at hf
  refine r_aload_n (i := 0) C dX11_tellsHeights_0 rfl 0 rfl ?_
  refine g_X11_10 C dX11_tellsHeights_1 ?_
  refine g_X11_382 C dX11_tellsHeights_4 ?_
  refine r_bipush (v := 40) C dX11_tellsHeights_7 (by decide) ?_
  refine r_icmp_gt C 24 dX11_tellsHeights_9 (by decide) (fun c6 => ?_) (fun c6 => ?_)
  · rw [if_pos c6] at hf
    refine r_iconst (v := 0) C dX11_tellsHeights_24 (by decide) ?_
    have zz : (0 : Int32) = 0 ∨ (0 : Int32) = 1 := (Or.inl rfl)
    cases hf
    exact r_zret C zz hF dX11_tellsHeights_25
  · rw [if_neg c6] at hf
    refine r_aload_n (i := 0) C dX11_tellsHeights_12 rfl 0 rfl ?_
    refine g_X11_10 C dX11_tellsHeights_13 ?_
    refine g_X11_382 C dX11_tellsHeights_16 ?_
    refine r_iconst (v := 2) C dX11_tellsHeights_19 (by decide) ?_
    refine r_irem C dX11_tellsHeights_20 (by decide) ?_
    refine r_if_eq C 26 dX11_tellsHeights_21 (by decide) (fun c7 => ?_) (fun c7 => ?_)
    · rw [if_pos c7] at hf
      refine r_iconst (v := 0) C dX11_tellsHeights_26 (by decide) ?_
      refine r_istore_n (i := 1) (lv' := [(0, .ref (gad (xG X) 0)), (1, .int (0 : Int32))]) C dX11_tellsHeights_27 rfl (by decide) [1, 0] rfl ?_
      exact r_lv [0, 1] rfl ((wX11_tellsHeights  C hR hcs hF big) _ hf)
    · rw [if_neg c7] at hf
      refine r_iconst (v := 0) C dX11_tellsHeights_24 (by decide) ?_
      have zz : (0 : Int32) = 0 ∨ (0 : Int32) = 1 := (Or.inl rfl)
      cases hf
      exact r_zret C zz hF dX11_tellsHeights_25
def fX11_canChoose (a1 : Int32) (a2 : Int32) : Int32 := (if a2 = (-1 : Int32) then (1 : Int32) else (if (fX11_has a1 a2) = (0 : Int32) then (0 : Int32) else (1 : Int32)))
set_option maxHeartbeats 4000000 in
set_option maxRecDepth 100000 in
theorem kX11_canChoose (G : Gx)  {h : Hp} {a1 : Int32} {a2 : Int32} : MC G yX11_canChoose cX11_canChoose 2 (some .boolean) 2 128 h [.int a1, .int a2] (some (.int (fX11_canChoose a1 a2))) h := by
  refine MC.of RX11 (by decide) rfl (Nat.le_of_ble_eq_true rfl) rfl (fun X C hG hR hF => ?_)
  subst hG
  have hcs : True := trivial
  obtain ⟨rr, hf⟩ : ∃ rr, fX11_canChoose a1 a2 = rr := ⟨_, rfl⟩
  rw [hf] at hF
  unfold fX11_canChoose at hf
  refine r_iload_n (i := 1) C dX11_canChoose_0 rfl 1 rfl ?_
  refine r_iconst (v := (-1)) C dX11_canChoose_1 (by decide) ?_
  refine r_icmp_eq C 13 dX11_canChoose_2 (by decide) (fun c1 => ?_) (fun c1 => ?_)
  · rw [if_pos c1] at hf
    refine r_iconst (v := 1) C dX11_canChoose_13 (by decide) ?_
    refine r_goto C 18 dX11_canChoose_14 (by decide) ?_
    subst hf
    exact r_zret C (Or.inr rfl) hF dX11_canChoose_18
  · rw [if_neg c1] at hf
    refine r_iload_n (i := 0) C dX11_canChoose_5 rfl 0 rfl ?_
    refine r_iload_n (i := 1) C dX11_canChoose_6 rfl 1 rfl ?_
    refine r_callSi (As := [.int a1, .int a2]) (st := []) C (kX11_has (xG X)) cw_X11_165 rfl rfl (Nat.le_of_ble_eq_true rfl) (zr2 hR rfl rfl) (zrcs hcs) dX11_canChoose_7 ?_
    refine r_if_eq C 17 dX11_canChoose_10 (by decide) (fun c2 => ?_) (fun c2 => ?_)
    · rw [if_pos c2] at hf
      refine r_iconst (v := 0) C dX11_canChoose_17 (by decide) ?_
      subst hf
      exact r_zret C (Or.inl rfl) hF dX11_canChoose_18
    · rw [if_neg c2] at hf
      refine r_iconst (v := 1) C dX11_canChoose_13 (by decide) ?_
      refine r_goto C 18 dX11_canChoose_14 (by decide) ?_
      subst hf
      exact r_zret C (Or.inr rfl) hF dX11_canChoose_18
theorem zX11_canChoose  {a1 : Int32} {a2 : Int32} : fX11_canChoose a1 a2 = 0 ∨ fX11_canChoose a1 a2 = 1 := by
  unfold fX11_canChoose
  exact by repeat' (first | exact Or.inl rfl | exact Or.inr rfl | (apply b_ite) | (unfold lt9) | assumption | exact zqq)
def fX11_pair (a1 : Int32) (a2 : Int32) : Int32 := ((((a1 + (1 : Int32)) * (17 : Int32)) + a2) + (1 : Int32))
set_option maxHeartbeats 4000000 in
set_option maxRecDepth 100000 in
theorem kX11_pair (G : Gx)  {h : Hp} {a1 : Int32} {a2 : Int32} : MC G yX11_pair cX11_pair 2 (some .int) 1 64 h [.int a1, .int a2] (some (.int (fX11_pair a1 a2))) h := by
  refine MC.of RX11 (by decide) rfl (Nat.le_of_ble_eq_true rfl) rfl (fun X C hG hR hF => ?_)
  subst hG
  have hcs : True := trivial
  obtain ⟨rr, hf⟩ : ∃ rr, fX11_pair a1 a2 = rr := ⟨_, rfl⟩
  rw [hf] at hF
  unfold fX11_pair at hf
  refine r_iload_n (i := 0) C dX11_pair_0 rfl 0 rfl ?_
  refine r_iconst (v := 1) C dX11_pair_1 (by decide) ?_
  refine r_iadd C dX11_pair_2 ?_
  refine r_bipush (v := 17) C dX11_pair_3 (by decide) ?_
  refine r_imul C dX11_pair_5 ?_
  refine r_iload_n (i := 1) C dX11_pair_6 rfl 1 rfl ?_
  refine r_iadd C dX11_pair_7 ?_
  refine r_iconst (v := 1) C dX11_pair_8 (by decide) ?_
  refine r_iadd C dX11_pair_9 ?_
  subst hf
  exact r_iret C hF dX11_pair_10
def BX11_dukeRests_0 (h : Hp) (rec : Int32 → Int32 → Int32 → Option (Int32)) (y2 : Int32) (y3 : Int32) (y4 : Int32) : Option (Int32) := (if (16 : Int32) ≤ y4 then some (1 : Int32) else (if (fX11_canChoose (h 32 5) y4) = (0 : Int32) then lt9 (y4 + (1 : Int32)) (fun x3 => rec y2 y3 x3) else gd (inb (fX11_pair y4 y2) 289) ((if y3 ≤ (h 31 (fX11_pair y4 y2).toNatClampNeg) then lt9 (y4 + (1 : Int32)) (fun x6 => rec y2 y3 x6) else some (0 : Int32)))))
def LX11_dukeRests (h : Hp) : Nat → Int32 → Int32 → Int32 → Option (Int32)
  | 0, _, _, _ => none
  | n + 1, y2, y3, y4 => BX11_dukeRests_0 h (LX11_dukeRests h n) y2 y3 y4
def fX11_dukeRests (h : Hp) (a1 : Int32) (a2 : Int32) : Option (Int32) := gd (inb (fX11_pair a1 a2) 289) (LX11_dukeRests h big a2 (h 31 (fX11_pair a1 a2).toNatClampNeg) (-1 : Int32))
set_option maxHeartbeats 4000000 in
set_option maxRecDepth 100000 in
theorem wX11_dukeRests {X : Cx} {h : Hp}  {rr : Int32} (C : OK X cX11_dukeRests 5 RX11 (some .boolean)) (hR : xR X = { frames := 3, cells := 0, slots := 0, locals := 192 }) (hcs : True) (hF : FinR X (some (.int rr)) h) : ∀ n : Nat, (∀ (y2 : Int32) (y3 : Int32) (y4 : Int32), LX11_dukeRests h n y2 y3 y4 = some rr → VW X 5 h 0 0 14 [(0, .ref (gad (xG X) 0)), (2, .int y2), (3, .int y3), (4, .int y4)] []) := by
  intro n
  induction n with
  | zero => exact (fun _ _ _ hf => (by rw [LX11_dukeRests] at hf; cases hf))
  | succ n ih =>
    intro y2 y3 y4 hf
    rw [LX11_dukeRests] at hf
    unfold BX11_dukeRests_0 at hf
    refine r_iload (i := 4) C dX11_dukeRests_14 3 rfl ?_
    refine r_bipush (v := 16) C dX11_dukeRests_16 (by decide) ?_
    refine r_icmp_ge C 59 dX11_dukeRests_18 (by decide) (fun c1 => ?_) (fun c1 => ?_)
    · rw [if_pos c1] at hf
      refine r_iconst (v := 1) C dX11_dukeRests_59 (by decide) ?_
      have zz : (1 : Int32) = 0 ∨ (1 : Int32) = 1 := (Or.inr rfl)
      cases hf
      exact r_zret C zz hF dX11_dukeRests_60
    · rw [if_neg c1] at hf
      refine r_aload_n (i := 0) C dX11_dukeRests_21 rfl 0 rfl ?_
      refine g_X11_54 C dX11_dukeRests_22 ?_
      refine g_X11_276 sk32 C dX11_dukeRests_25 ?_
      refine r_iload (i := 4) C dX11_dukeRests_28 3 rfl ?_
      refine r_callSi (As := [.int (h 32 5), .int y4]) (st := []) C (kX11_canChoose (xG X)) cw_X11_318 rfl rfl (Nat.le_of_ble_eq_true rfl) (zr2 hR rfl rfl) (zrcs hcs) dX11_dukeRests_30 ?_
      refine r_if_eq C 53 dX11_dukeRests_33 (by decide) (fun c2 => ?_) (fun c2 => ?_)
      · rw [if_pos c2] at hf
        obtain ⟨x3, ex3, hf⟩ := lt_of hf
        refine r_iinc (j := 3) (v := x3) (lv' := [(0, .ref (gad (xG X) 0)), (2, .int y2), (3, .int y3), (4, .int x3)]) C dX11_dukeRests_53 rfl (by rw [ex3]; rfl) (by decide) [1, 2, 3, 0] rfl ?_
        refine r_goto C 14 dX11_dukeRests_56 (by decide) ?_
        exact r_lv [0, 1, 2, 3] rfl (ih _ _ _ hf)
      · rw [if_neg c2] at hf
        refine r_aload_n (i := 0) C dX11_dukeRests_36 rfl 0 rfl ?_
        refine g_X11_82 C dX11_dukeRests_37 ?_
        refine r_iload (i := 4) C dX11_dukeRests_40 3 rfl ?_
        refine r_iload_n (i := 2) C dX11_dukeRests_42 rfl 1 rfl ?_
        refine r_callSi (As := [.int y4, .int y2]) (st := [.ref (gad (xG X) 31)]) C (kX11_pair (xG X)) cw_X11_403 rfl rfl (Nat.le_of_ble_eq_true rfl) (zr2 hR rfl rfl) (zrcs hcs) dX11_dukeRests_43 ?_
        obtain ⟨g4, hf⟩ := gd_of hf
        refine r_iald C 31 rfl (by decide) g4 dX11_dukeRests_46 ?_
        refine r_iload_n (i := 3) C dX11_dukeRests_47 rfl 2 rfl ?_
        refine r_icmp_ge C 53 dX11_dukeRests_48 (by decide) (fun c5 => ?_) (fun c5 => ?_)
        · rw [if_pos c5] at hf
          obtain ⟨x6, ex6, hf⟩ := lt_of hf
          refine r_iinc (j := 3) (v := x6) (lv' := [(0, .ref (gad (xG X) 0)), (2, .int y2), (3, .int y3), (4, .int x6)]) C dX11_dukeRests_53 rfl (by rw [ex6]; rfl) (by decide) [1, 2, 3, 0] rfl ?_
          refine r_goto C 14 dX11_dukeRests_56 (by decide) ?_
          exact r_lv [0, 1, 2, 3] rfl (ih _ _ _ hf)
        · rw [if_neg c5] at hf
          refine r_iconst (v := 0) C dX11_dukeRests_51 (by decide) ?_
          have zz : (0 : Int32) = 0 ∨ (0 : Int32) = 1 := (Or.inl rfl)
          cases hf
          exact r_zret C zz hF dX11_dukeRests_52
set_option maxHeartbeats 4000000 in
set_option maxRecDepth 100000 in
theorem kX11_dukeRests (G : Gx)  {h : Hp} {a1 : Int32} {a2 : Int32} {rr : Int32} (hf : fX11_dukeRests h a1 a2 = some rr) : MC G yX11_dukeRests cX11_dukeRests 5 (some .boolean) 3 192 h [.ref (gad G 0), .int a1, .int a2] (some (.int rr)) h := by
  refine MC.of RX11 (by decide) rfl (Nat.le_of_ble_eq_true rfl) rfl (fun X C hG hR hF => ?_)
  subst hG
  have hcs : True := trivial
  unfold fX11_dukeRests at hf
  refine r_aload_n (i := 0) C dX11_dukeRests_0 rfl 0 rfl ?_
  refine g_X11_82 C dX11_dukeRests_1 ?_
  refine r_iload_n (i := 1) C dX11_dukeRests_4 rfl 1 rfl ?_
  refine r_iload_n (i := 2) C dX11_dukeRests_5 rfl 2 rfl ?_
  refine r_callSi (As := [.int a1, .int a2]) (st := [.ref (gad (xG X) 31)]) C (kX11_pair (xG X)) cw_X11_403 rfl rfl (Nat.le_of_ble_eq_true rfl) (zr2 hR rfl rfl) (zrcs hcs) dX11_dukeRests_6 ?_
  obtain ⟨g7, hf⟩ := gd_of hf
  refine r_iald C 31 rfl (by decide) g7 dX11_dukeRests_9 ?_
  refine r_istore_n (i := 3) (lv' := [(0, .ref (gad (xG X) 0)), (1, .int a1), (2, .int a2), (3, .int (h 31 (fX11_pair a1 a2).toNatClampNeg))]) C dX11_dukeRests_10 rfl (by decide) [1, 2, 3, 0] rfl ?_
  refine r_iconst (v := (-1)) C dX11_dukeRests_11 (by decide) ?_
  refine r_istore (i := 4) (lv' := [(0, .ref (gad (xG X) 0)), (1, .int a1), (2, .int a2), (3, .int (h 31 (fX11_pair a1 a2).toNatClampNeg)), (4, .int (-1 : Int32))]) C dX11_dukeRests_12 (by decide) [1, 2, 3, 4, 0] rfl ?_
  exact r_lv [0, 2, 3, 4] rfl ((wX11_dukeRests  C hR hcs hF big) _ _ _ hf)
def BX11_guildRests_0 (h : Hp) (rec : Int32 → Int32 → Int32 → Int32 → Option (Int32)) (y1 : Int32) (y3 : Int32) (y4 : Int32) (y5 : Int32) : Option (Int32) := (if (16 : Int32) ≤ y5 then some (1 : Int32) else (if (fX11_canChoose y3 y5) = (0 : Int32) then lt9 (y5 + (1 : Int32)) (fun x3 => rec y1 y3 y4 x3) else gd (inb (fX11_pair y1 y5) 289) ((if (h 31 (fX11_pair y1 y5).toNatClampNeg) ≤ y4 then lt9 (y5 + (1 : Int32)) (fun x6 => rec y1 y3 y4 x6) else some (0 : Int32)))))
def LX11_guildRests (h : Hp) : Nat → Int32 → Int32 → Int32 → Int32 → Option (Int32)
  | 0, _, _, _, _ => none
  | n + 1, y1, y3, y4, y5 => BX11_guildRests_0 h (LX11_guildRests h n) y1 y3 y4 y5
def fX11_guildRests (h : Hp) (a1 : Int32) (a2 : Int32) (a3 : Int32) : Option (Int32) := gd (inb (fX11_pair a1 a2) 289) (LX11_guildRests h big a1 a3 (h 31 (fX11_pair a1 a2).toNatClampNeg) (-1 : Int32))
set_option maxHeartbeats 4000000 in
set_option maxRecDepth 100000 in
theorem wX11_guildRests {X : Cx} {h : Hp}  {rr : Int32} (C : OK X cX11_guildRests 6 RX11 (some .boolean)) (hR : xR X = { frames := 3, cells := 0, slots := 0, locals := 192 }) (hcs : True) (hF : FinR X (some (.int rr)) h) : ∀ n : Nat, (∀ (y1 : Int32) (y3 : Int32) (y4 : Int32) (y5 : Int32), LX11_guildRests h n y1 y3 y4 y5 = some rr → VW X 6 h 0 0 15 [(0, .ref (gad (xG X) 0)), (1, .int y1), (3, .int y3), (4, .int y4), (5, .int y5)] []) := by
  intro n
  induction n with
  | zero => exact (fun _ _ _ _ hf => (by rw [LX11_guildRests] at hf; cases hf))
  | succ n ih =>
    intro y1 y3 y4 y5 hf
    rw [LX11_guildRests] at hf
    unfold BX11_guildRests_0 at hf
    refine r_iload (i := 5) C dX11_guildRests_15 4 rfl ?_
    refine r_bipush (v := 16) C dX11_guildRests_17 (by decide) ?_
    refine r_icmp_ge C 55 dX11_guildRests_19 (by decide) (fun c1 => ?_) (fun c1 => ?_)
    · rw [if_pos c1] at hf
      refine r_iconst (v := 1) C dX11_guildRests_55 (by decide) ?_
      have zz : (1 : Int32) = 0 ∨ (1 : Int32) = 1 := (Or.inr rfl)
      cases hf
      exact r_zret C zz hF dX11_guildRests_56
    · rw [if_neg c1] at hf
      refine r_iload_n (i := 3) C dX11_guildRests_22 rfl 2 rfl ?_
      refine r_iload (i := 5) C dX11_guildRests_23 4 rfl ?_
      refine r_callSi (As := [.int y3, .int y5]) (st := []) C (kX11_canChoose (xG X)) cw_X11_318 rfl rfl (Nat.le_of_ble_eq_true rfl) (zr2 hR rfl rfl) (zrcs hcs) dX11_guildRests_25 ?_
      refine r_if_eq C 49 dX11_guildRests_28 (by decide) (fun c2 => ?_) (fun c2 => ?_)
      · rw [if_pos c2] at hf
        obtain ⟨x3, ex3, hf⟩ := lt_of hf
        refine r_iinc (j := 4) (v := x3) (lv' := [(0, .ref (gad (xG X) 0)), (1, .int y1), (3, .int y3), (4, .int y4), (5, .int x3)]) C dX11_guildRests_49 rfl (by rw [ex3]; rfl) (by decide) [1, 2, 3, 4, 0] rfl ?_
        refine r_goto C 15 dX11_guildRests_52 (by decide) ?_
        exact r_lv [0, 1, 2, 3, 4] rfl (ih _ _ _ _ hf)
      · rw [if_neg c2] at hf
        refine r_aload_n (i := 0) C dX11_guildRests_31 rfl 0 rfl ?_
        refine g_X11_82 C dX11_guildRests_32 ?_
        refine r_iload_n (i := 1) C dX11_guildRests_35 rfl 1 rfl ?_
        refine r_iload (i := 5) C dX11_guildRests_36 4 rfl ?_
        refine r_callSi (As := [.int y1, .int y5]) (st := [.ref (gad (xG X) 31)]) C (kX11_pair (xG X)) cw_X11_403 rfl rfl (Nat.le_of_ble_eq_true rfl) (zr2 hR rfl rfl) (zrcs hcs) dX11_guildRests_38 ?_
        obtain ⟨g4, hf⟩ := gd_of hf
        refine r_iald C 31 rfl (by decide) g4 dX11_guildRests_41 ?_
        refine r_iload (i := 4) C dX11_guildRests_42 3 rfl ?_
        refine r_icmp_le C 49 dX11_guildRests_44 (by decide) (fun c5 => ?_) (fun c5 => ?_)
        · rw [if_pos c5] at hf
          obtain ⟨x6, ex6, hf⟩ := lt_of hf
          refine r_iinc (j := 4) (v := x6) (lv' := [(0, .ref (gad (xG X) 0)), (1, .int y1), (3, .int y3), (4, .int y4), (5, .int x6)]) C dX11_guildRests_49 rfl (by rw [ex6]; rfl) (by decide) [1, 2, 3, 4, 0] rfl ?_
          refine r_goto C 15 dX11_guildRests_52 (by decide) ?_
          exact r_lv [0, 1, 2, 3, 4] rfl (ih _ _ _ _ hf)
        · rw [if_neg c5] at hf
          refine r_iconst (v := 0) C dX11_guildRests_47 (by decide) ?_
          have zz : (0 : Int32) = 0 ∨ (0 : Int32) = 1 := (Or.inl rfl)
          cases hf
          exact r_zret C zz hF dX11_guildRests_48
set_option maxHeartbeats 4000000 in
set_option maxRecDepth 100000 in
theorem kX11_guildRests (G : Gx)  {h : Hp} {a1 : Int32} {a2 : Int32} {a3 : Int32} {rr : Int32} (hf : fX11_guildRests h a1 a2 a3 = some rr) : MC G yX11_guildRests cX11_guildRests 6 (some .boolean) 3 192 h [.ref (gad G 0), .int a1, .int a2, .int a3] (some (.int rr)) h := by
  refine MC.of RX11 (by decide) rfl (Nat.le_of_ble_eq_true rfl) rfl (fun X C hG hR hF => ?_)
  subst hG
  have hcs : True := trivial
  unfold fX11_guildRests at hf
  refine r_aload_n (i := 0) C dX11_guildRests_0 rfl 0 rfl ?_
  refine g_X11_82 C dX11_guildRests_1 ?_
  refine r_iload_n (i := 1) C dX11_guildRests_4 rfl 1 rfl ?_
  refine r_iload_n (i := 2) C dX11_guildRests_5 rfl 2 rfl ?_
  refine r_callSi (As := [.int a1, .int a2]) (st := [.ref (gad (xG X) 31)]) C (kX11_pair (xG X)) cw_X11_403 rfl rfl (Nat.le_of_ble_eq_true rfl) (zr2 hR rfl rfl) (zrcs hcs) dX11_guildRests_6 ?_
  obtain ⟨g7, hf⟩ := gd_of hf
  refine r_iald C 31 rfl (by decide) g7 dX11_guildRests_9 ?_
  refine r_istore (i := 4) (lv' := [(0, .ref (gad (xG X) 0)), (1, .int a1), (2, .int a2), (3, .int a3), (4, .int (h 31 (fX11_pair a1 a2).toNatClampNeg))]) C dX11_guildRests_10 (by decide) [1, 2, 3, 4, 0] rfl ?_
  refine r_iconst (v := (-1)) C dX11_guildRests_12 (by decide) ?_
  refine r_istore (i := 5) (lv' := [(0, .ref (gad (xG X) 0)), (1, .int a1), (2, .int a2), (3, .int a3), (4, .int (h 31 (fX11_pair a1 a2).toNatClampNeg)), (5, .int (-1 : Int32))]) C dX11_guildRests_13 (by decide) [1, 2, 3, 4, 5, 0] rfl ?_
  exact r_lv [0, 1, 3, 4, 5] rfl ((wX11_guildRests  C hR hcs hF big) _ _ _ _ hf)
def BX11_power_0 (h : Hp) (rec : Int64 → Int32 → Int64 → Int32 → Option (Int64)) (y0 : Int64) (y2 : Int32) (y3 : Int64) (y5 : Int32) : Option (Int64) := (if y2 ≤ y5 then some y3 else lt9 (y3 * y0) (fun x2 => lt9 (y5 + (1 : Int32)) (fun x3 => rec y0 y2 x2 x3)))
def LX11_power (h : Hp) : Nat → Int64 → Int32 → Int64 → Int32 → Option (Int64)
  | 0, _, _, _, _ => none
  | n + 1, y0, y2, y3, y5 => BX11_power_0 h (LX11_power h n) y0 y2 y3 y5
def fX11_power (h : Hp) (a1 : Int64) (a2 : Int32) : Option (Int64) := LX11_power h big a1 a2 (1 : Int64) (0 : Int32)
set_option maxHeartbeats 4000000 in
set_option maxRecDepth 100000 in
theorem wX11_power {X : Cx} {h : Hp}  {rr : Int64} (C : OK X cX11_power 6 RX11 (some .long)) (hR : xR X = { frames := 1, cells := 0, slots := 0, locals := 64 }) (hcs : True) (hF : FinR X (some (.long rr)) h) : ∀ n : Nat, (∀ (y0 : Int64) (y2 : Int32) (y3 : Int64) (y5 : Int32), LX11_power h n y0 y2 y3 y5 = some rr → VW X 6 h 0 0 5 [(0, .long y0), (2, .int y2), (3, .long y3), (5, .int y5)] []) := by
  intro n
  induction n with
  | zero => exact (fun _ _ _ _ hf => (by rw [LX11_power] at hf; cases hf))
  | succ n ih =>
    intro y0 y2 y3 y5 hf
    rw [LX11_power] at hf
    unfold BX11_power_0 at hf
    refine r_iload (i := 5) C dX11_power_5 3 rfl ?_
    refine r_iload_n (i := 2) C dX11_power_7 rfl 1 rfl ?_
    refine r_icmp_ge C 21 dX11_power_8 (by decide) (fun c1 => ?_) (fun c1 => ?_)
    · rw [if_pos c1] at hf
      refine r_lload_n (i := 3) C dX11_power_21 rfl 2 rfl ?_
      cases hf
      exact r_lret C hF dX11_power_22
    · rw [if_neg c1] at hf
      refine r_lload_n (i := 3) C dX11_power_11 rfl 2 rfl ?_
      refine r_lload_n (i := 0) C dX11_power_12 rfl 0 rfl ?_
      refine r_lmul C dX11_power_13 ?_
      obtain ⟨x2, ex2, hf⟩ := lt_of hf
      refine r_topl ex2 ?_
      refine r_lstore_n (i := 3) (lv' := [(0, .long y0), (2, .int y2), (3, .long x2), (5, .int y5)]) C dX11_power_14 rfl (by decide) [1, 2, 0, 3] rfl ?_
      obtain ⟨x3, ex3, hf⟩ := lt_of hf
      refine r_iinc (j := 3) (v := x3) (lv' := [(0, .long y0), (2, .int y2), (3, .long x2), (5, .int x3)]) C dX11_power_15 rfl (by rw [ex3]; rfl) (by decide) [1, 2, 3, 0] rfl ?_
      refine r_goto C 5 dX11_power_18 (by decide) ?_
      exact r_lv [0, 1, 2, 3] rfl (ih _ _ _ _ hf)
set_option maxHeartbeats 4000000 in
set_option maxRecDepth 100000 in
theorem kX11_power (G : Gx)  {h : Hp} {a1 : Int64} {a2 : Int32} {rr : Int64} (hf : fX11_power h a1 a2 = some rr) : MC G yX11_power cX11_power 6 (some .long) 1 64 h [.long a1, .int a2] (some (.long rr)) h := by
  refine MC.of RX11 (by decide) rfl (Nat.le_of_ble_eq_true rfl) rfl (fun X C hG hR hF => ?_)
  subst hG
  have hcs : True := trivial
  unfold fX11_power at hf
  refine r_lconst (v := 1) C dX11_power_0 (by decide) ?_
  refine r_lstore_n (i := 3) (lv' := [(0, .long a1), (2, .int a2), (3, .long (1 : Int64))]) C dX11_power_1 rfl (by decide) [1, 2, 0] rfl ?_
  refine r_iconst (v := 0) C dX11_power_2 (by decide) ?_
  refine r_istore (i := 5) (lv' := [(0, .long a1), (2, .int a2), (3, .long (1 : Int64)), (5, .int (0 : Int32))]) C dX11_power_3 (by decide) [1, 2, 3, 0] rfl ?_
  exact r_lv [0, 1, 2, 3] rfl ((wX11_power  C hR hcs hF big) _ _ _ _ hf)
def BX11_choices_0 (h : Hp) (rec : Int32 → Int32 → Int64 → Int32 → Option (Int64)) (y0 : Int32) (y1 : Int32) (y2 : Int64) (y4 : Int32) : Option (Int64) := (if y1 < y4 then some y2 else gd (¬ (y4.toInt64) = 0) (lt9 ((y2 * ((((y0 - y4) + (1 : Int32))).toInt64)) / (y4.toInt64)) (fun x3 => lt9 (y4 + (1 : Int32)) (fun x4 => rec y0 y1 x3 x4))))
def LX11_choices (h : Hp) : Nat → Int32 → Int32 → Int64 → Int32 → Option (Int64)
  | 0, _, _, _, _ => none
  | n + 1, y0, y1, y2, y4 => BX11_choices_0 h (LX11_choices h n) y0 y1 y2 y4
def fX11_choices (h : Hp) (a1 : Int32) (a2 : Int32) : Option (Int64) := LX11_choices h big a1 a2 (1 : Int64) (1 : Int32)
set_option maxHeartbeats 4000000 in
set_option maxRecDepth 100000 in
theorem wX11_choices {X : Cx} {h : Hp}  {rr : Int64} (C : OK X cX11_choices 5 RX11 (some .long)) (hR : xR X = { frames := 1, cells := 0, slots := 0, locals := 64 }) (hcs : True) (hF : FinR X (some (.long rr)) h) : ∀ n : Nat, (∀ (y0 : Int32) (y1 : Int32) (y2 : Int64) (y4 : Int32), LX11_choices h n y0 y1 y2 y4 = some rr → VW X 5 h 0 0 5 [(0, .int y0), (1, .int y1), (2, .long y2), (4, .int y4)] []) := by
  intro n
  induction n with
  | zero => exact (fun _ _ _ _ hf => (by rw [LX11_choices] at hf; cases hf))
  | succ n ih =>
    intro y0 y1 y2 y4 hf
    rw [LX11_choices] at hf
    unfold BX11_choices_0 at hf
    refine r_iload (i := 4) C dX11_choices_5 3 rfl ?_
    refine r_iload_n (i := 1) C dX11_choices_7 rfl 1 rfl ?_
    refine r_icmp_gt C 31 dX11_choices_8 (by decide) (fun c1 => ?_) (fun c1 => ?_)
    · rw [if_pos c1] at hf
      refine r_lload_n (i := 2) C dX11_choices_31 rfl 2 rfl ?_
      cases hf
      exact r_lret C hF dX11_choices_32
    · rw [if_neg c1] at hf
      refine r_lload_n (i := 2) C dX11_choices_11 rfl 2 rfl ?_
      refine r_iload_n (i := 0) C dX11_choices_12 rfl 0 rfl ?_
      refine r_iload (i := 4) C dX11_choices_13 3 rfl ?_
      refine r_isub C dX11_choices_15 ?_
      refine r_iconst (v := 1) C dX11_choices_16 (by decide) ?_
      refine r_iadd C dX11_choices_17 ?_
      refine r_i2l C dX11_choices_18 ?_
      refine r_lmul C dX11_choices_19 ?_
      refine r_iload (i := 4) C dX11_choices_20 3 rfl ?_
      refine r_i2l C dX11_choices_22 ?_
      obtain ⟨g2, hf⟩ := gd_of hf
      refine r_ldiv C dX11_choices_23 g2 ?_
      obtain ⟨x3, ex3, hf⟩ := lt_of hf
      refine r_topl ex3 ?_
      refine r_lstore_n (i := 2) (lv' := [(0, .int y0), (1, .int y1), (2, .long x3), (4, .int y4)]) C dX11_choices_24 rfl (by decide) [1, 2, 0, 3] rfl ?_
      obtain ⟨x4, ex4, hf⟩ := lt_of hf
      refine r_iinc (j := 3) (v := x4) (lv' := [(0, .int y0), (1, .int y1), (2, .long x3), (4, .int x4)]) C dX11_choices_25 rfl (by rw [ex4]; rfl) (by decide) [1, 2, 3, 0] rfl ?_
      refine r_goto C 5 dX11_choices_28 (by decide) ?_
      exact r_lv [0, 1, 2, 3] rfl (ih _ _ _ _ hf)
set_option maxHeartbeats 4000000 in
set_option maxRecDepth 100000 in
theorem kX11_choices (G : Gx)  {h : Hp} {a1 : Int32} {a2 : Int32} {rr : Int64} (hf : fX11_choices h a1 a2 = some rr) : MC G yX11_choices cX11_choices 5 (some .long) 1 64 h [.int a1, .int a2] (some (.long rr)) h := by
  refine MC.of RX11 (by decide) rfl (Nat.le_of_ble_eq_true rfl) rfl (fun X C hG hR hF => ?_)
  subst hG
  have hcs : True := trivial
  unfold fX11_choices at hf
  refine r_lconst (v := 1) C dX11_choices_0 (by decide) ?_
  refine r_lstore_n (i := 2) (lv' := [(0, .int a1), (1, .int a2), (2, .long (1 : Int64))]) C dX11_choices_1 rfl (by decide) [1, 2, 0] rfl ?_
  refine r_iconst (v := 1) C dX11_choices_2 (by decide) ?_
  refine r_istore (i := 4) (lv' := [(0, .int a1), (1, .int a2), (2, .long (1 : Int64)), (4, .int (1 : Int32))]) C dX11_choices_3 (by decide) [1, 2, 3, 0] rfl ?_
  exact r_lv [0, 1, 2, 3] rfl ((wX11_choices  C hR hcs hF big) _ _ _ _ hf)
def fX12_thrown (h : Hp) : Int32 := (h 208 0)
set_option maxHeartbeats 4000000 in
set_option maxRecDepth 100000 in
theorem kX12_thrown (G : Gx)  {h : Hp}  : MC G yX12_thrown cX12_thrown 1 (some .int) 1 64 h [.ref (gad G 208)] (some (.int (fX12_thrown h))) h := by
  refine MC.of RX12 (by decide) rfl (Nat.le_of_ble_eq_true rfl) rfl (fun X C hG hR hF => ?_)
  subst hG
  have hcs : True := trivial
  obtain ⟨rr, hf⟩ : ∃ rr, fX12_thrown h = rr := ⟨_, rfl⟩
  rw [hf] at hF
  unfold fX12_thrown at hf
  refine r_aload_n (i := 0) C dX12_thrown_0 rfl 0 rfl ?_
  refine g_X12_3 C dX12_thrown_1 ?_
  subst hf
  exact r_iret C hF dX12_thrown_4
def fX12_throwsIf (h : Hp) (a1 : Int32) (a2 : Int32) : Option (Int32 × Hp) := (if a1 = (0 : Int32) then gd (a1 = 0 ∨ a1 = 1) (some (a1, h)) else lt9 (up2 h 208 0 a2) (fun h2 => gd (a1 = 0 ∨ a1 = 1) (some (a1, h2))))
set_option maxHeartbeats 4000000 in
set_option maxRecDepth 100000 in
theorem kX12_throwsIf (G : Gx)  {h : Hp} {a1 : Int32} {a2 : Int32} {rr : Int32} {hh : Hp} (hf : fX12_throwsIf h a1 a2 = some (rr, hh)) : MC G yX12_throwsIf cX12_throwsIf 3 (some .boolean) 1 64 h [.ref (gad G 208), .int a1, .int a2] (some (.int rr)) hh := by
  refine MC.of RX12 (by decide) rfl (Nat.le_of_ble_eq_true rfl) rfl (fun X C hG hR hF => ?_)
  subst hG
  have hcs : True := trivial
  unfold fX12_throwsIf at hf
  refine r_iload_n (i := 1) C dX12_throwsIf_0 rfl 1 rfl ?_
  refine r_if_eq C 9 dX12_throwsIf_1 (by decide) (fun c1 => ?_) (fun c1 => ?_)
  · rw [if_pos c1] at hf
    refine r_iload_n (i := 1) C dX12_throwsIf_9 rfl 1 rfl ?_
    obtain ⟨zz, hf⟩ := gd_of hf
    cases hf
    exact r_zret C zz hF dX12_throwsIf_10
  · rw [if_neg c1] at hf
    refine r_aload_n (i := 0) C dX12_throwsIf_4 rfl 0 rfl ?_
    refine r_iload_n (i := 2) C dX12_throwsIf_5 rfl 2 rfl ?_
    obtain ⟨h2, eh2, hf⟩ := lt_of hf
    refine p_X12_3 C eh2 dX12_throwsIf_6 ?_
    refine r_iload_n (i := 1) C dX12_throwsIf_9 rfl 1 rfl ?_
    obtain ⟨zz, hf⟩ := gd_of hf
    cases hf
    exact r_zret C zz hF dX12_throwsIf_10
def fX12_in (a1 : Int32) (a2 : Int32) (a3 : Int32) : Int32 := (if a1 < a2 then (0 : Int32) else (if a3 < a1 then (0 : Int32) else (1 : Int32)))
set_option maxHeartbeats 4000000 in
set_option maxRecDepth 100000 in
theorem kX12_in (G : Gx)  {h : Hp} {a1 : Int32} {a2 : Int32} {a3 : Int32} : MC G yX12_in cX12_in 3 (some .boolean) 1 64 h [.int a1, .int a2, .int a3] (some (.int (fX12_in a1 a2 a3))) h := by
  refine MC.of RX12 (by decide) rfl (Nat.le_of_ble_eq_true rfl) rfl (fun X C hG hR hF => ?_)
  subst hG
  have hcs : True := trivial
  obtain ⟨rr, hf⟩ : ∃ rr, fX12_in a1 a2 a3 = rr := ⟨_, rfl⟩
  rw [hf] at hF
  unfold fX12_in at hf
  refine r_iload_n (i := 0) C dX12_in_0 rfl 0 rfl ?_
  refine r_iload_n (i := 1) C dX12_in_1 rfl 1 rfl ?_
  refine r_icmp_lt C 14 dX12_in_2 (by decide) (fun c1 => ?_) (fun c1 => ?_)
  · rw [if_pos c1] at hf
    refine r_iconst (v := 0) C dX12_in_14 (by decide) ?_
    subst hf
    exact r_zret C (Or.inl rfl) hF dX12_in_15
  · rw [if_neg c1] at hf
    refine r_iload_n (i := 0) C dX12_in_5 rfl 0 rfl ?_
    refine r_iload_n (i := 2) C dX12_in_6 rfl 2 rfl ?_
    refine r_icmp_gt C 14 dX12_in_7 (by decide) (fun c2 => ?_) (fun c2 => ?_)
    · rw [if_pos c2] at hf
      refine r_iconst (v := 0) C dX12_in_14 (by decide) ?_
      subst hf
      exact r_zret C (Or.inl rfl) hF dX12_in_15
    · rw [if_neg c2] at hf
      refine r_iconst (v := 1) C dX12_in_10 (by decide) ?_
      refine r_goto C 15 dX12_in_11 (by decide) ?_
      subst hf
      exact r_zret C (Or.inr rfl) hF dX12_in_15
theorem zX12_in  {a1 : Int32} {a2 : Int32} {a3 : Int32} : fX12_in a1 a2 a3 = 0 ∨ fX12_in a1 a2 a3 = 1 := by
  unfold fX12_in
  exact by repeat' (first | exact Or.inl rfl | exact Or.inr rfl | (apply b_ite) | (unfold lt9) | assumption | exact zqq)
def fX12_has (a1 : Int32) (a2 : Int32) : Int32 := (if ((a1 >>> (a2 &&& 31)) &&& (1 : Int32)) = (1 : Int32) then (1 : Int32) else (0 : Int32))
set_option maxHeartbeats 4000000 in
set_option maxRecDepth 100000 in
theorem kX12_has (G : Gx)  {h : Hp} {a1 : Int32} {a2 : Int32} : MC G yX12_has cX12_has 2 (some .boolean) 1 64 h [.int a1, .int a2] (some (.int (fX12_has a1 a2))) h := by
  refine MC.of RX12 (by decide) rfl (Nat.le_of_ble_eq_true rfl) rfl (fun X C hG hR hF => ?_)
  subst hG
  have hcs : True := trivial
  obtain ⟨rr, hf⟩ : ∃ rr, fX12_has a1 a2 = rr := ⟨_, rfl⟩
  rw [hf] at hF
  unfold fX12_has at hf
  refine r_iload_n (i := 0) C dX12_has_0 rfl 0 rfl ?_
  refine r_iload_n (i := 1) C dX12_has_1 rfl 1 rfl ?_
  refine r_ishr C dX12_has_2 ?_
  refine r_iconst (v := 1) C dX12_has_3 (by decide) ?_
  refine r_iand C dX12_has_4 ?_
  refine r_iconst (v := 1) C dX12_has_5 (by decide) ?_
  refine r_icmp_ne C 13 dX12_has_6 (by decide) (fun c1 => ?_) (fun c1 => ?_)
  · rw [if_neg c1] at hf
    refine r_iconst (v := 0) C dX12_has_13 (by decide) ?_
    subst hf
    exact r_zret C (Or.inl rfl) hF dX12_has_14
  · rw [if_pos c1] at hf
    refine r_iconst (v := 1) C dX12_has_9 (by decide) ?_
    refine r_goto C 14 dX12_has_10 (by decide) ?_
    subst hf
    exact r_zret C (Or.inr rfl) hF dX12_has_14
theorem zX12_has  {a1 : Int32} {a2 : Int32} : fX12_has a1 a2 = 0 ∨ fX12_has a1 a2 = 1 := by
  unfold fX12_has
  exact by repeat' (first | exact Or.inl rfl | exact Or.inr rfl | (apply b_ite) | (unfold lt9) | assumption | exact zqq)
def BX12_image_0  (rec : Hp → Int32 → Option (Hp)) (h : Hp) (y1 : Int32) : Option (Hp) := (if (1182 : Int32) ≤ y1 then lt9 (up2 h 208 6 (1 : Int32)) (fun h2 => some h2) else gd (inb y1 2031) (gd (inb y1 1182) (lt9 (up2 h 210 y1.toNatClampNeg (h 209 y1.toNatClampNeg)) (fun h5 => lt9 (y1 + (1 : Int32)) (fun x6 => rec h5 x6)))))
def LX12_image  : Nat → Hp → Int32 → Option (Hp)
  | 0, _, _ => none
  | n + 1, h, y1 => BX12_image_0  (LX12_image  n) h y1
def fX12_image (h : Hp) : Option (Hp) := lt9 (up2 h 208 0 (0 : Int32)) (fun h7 => LX12_image big h7 (0 : Int32))
set_option maxHeartbeats 4000000 in
set_option maxRecDepth 100000 in
theorem wX12_image {X : Cx}  {hh : Hp} (C : OK X cX12_image 2 RX12 none) (hR : xR X = { frames := 1, cells := 0, slots := 0, locals := 64 }) (hcs : True) (hF : FinR X none hh) : ∀ n : Nat, (∀ (h : Hp) (y1 : Int32), LX12_image  n h y1 = some hh → VW X 2 h 0 0 7 [(0, .ref (gad (xG X) 208)), (1, .int y1)] []) := by
  intro n
  induction n with
  | zero => exact (fun _ _ hf => (by rw [LX12_image] at hf; cases hf))
  | succ n ih =>
    intro h y1 hf
    rw [LX12_image] at hf
    unfold BX12_image_0 at hf
    refine r_iload_n (i := 1) C dX12_image_7 rfl 1 rfl ?_
    refine r_sipush (v := 1182) C dX12_image_8 (by decide) ?_
    refine r_icmp_ge C 32 dX12_image_11 (by decide) (fun c1 => ?_) (fun c1 => ?_)
    · rw [if_pos c1] at hf
      refine r_aload_n (i := 0) C dX12_image_32 rfl 0 rfl ?_
      refine r_iconst (v := 1) C dX12_image_33 (by decide) ?_
      obtain ⟨h2, eh2, hf⟩ := lt_of hf
      refine p_X12_54 C eh2 rfl rfl dX12_image_34 ?_
      cases hf
      exact r_vret C hF dX12_image_37
    · rw [if_neg c1] at hf
      refine r_aload_n (i := 0) C dX12_image_14 rfl 0 rfl ?_
      refine g_X12_17 C dX12_image_15 ?_
      refine r_iload_n (i := 1) C dX12_image_18 rfl 1 rfl ?_
      refine r_aload_n (i := 0) C dX12_image_19 rfl 0 rfl ?_
      refine g_X12_13 C dX12_image_20 ?_
      refine r_iload_n (i := 1) C dX12_image_23 rfl 1 rfl ?_
      obtain ⟨g3, hf⟩ := gd_of hf
      refine r_iald C 209 rfl (by decide) g3 dX12_image_24 ?_
      obtain ⟨g4, hf⟩ := gd_of hf
      obtain ⟨h5, eh5, hf⟩ := lt_of hf
      refine r_iast C 210 eh5 rfl (by decide) g4 dX12_image_25 ?_
      obtain ⟨x6, ex6, hf⟩ := lt_of hf
      refine r_iinc (j := 1) (v := x6) (lv' := [(0, .ref (gad (xG X) 208)), (1, .int x6)]) C dX12_image_26 rfl (by rw [ex6]; rfl) (by decide) [1, 0] rfl ?_
      refine r_goto C 7 dX12_image_29 (by decide) ?_
      exact r_lv [0, 1] rfl (ih _ _ hf)
set_option maxHeartbeats 4000000 in
set_option maxRecDepth 100000 in
theorem kX12_image (G : Gx)  {h : Hp}  {hh : Hp} (hf : fX12_image h = some hh) : MC G yX12_image cX12_image 2 none 1 64 h [.ref (gad G 208)] none hh := by
  refine MC.of RX12 (by decide) rfl (Nat.le_of_ble_eq_true rfl) rfl (fun X C hG hR hF => ?_)
  subst hG
  have hcs : True := trivial
  unfold fX12_image at hf
  refine r_aload_n (i := 0) C dX12_image_0 rfl 0 rfl ?_
  refine r_iconst (v := 0) C dX12_image_1 (by decide) ?_
  obtain ⟨h7, eh7, hf⟩ := lt_of hf
  refine p_X12_3 C eh7 dX12_image_2 ?_
  refine r_iconst (v := 0) C dX12_image_5 (by decide) ?_
  refine r_istore_n (i := 1) (lv' := [(0, .ref (gad (xG X) 208)), (1, .int (0 : Int32))]) C dX12_image_6 rfl (by decide) [1, 0] rfl ?_
  exact r_lv [0, 1] rfl ((wX12_image  C hR hcs hF big) _ _ hf)
def BX12_back_0  (rec : Hp → Int32 → Option (Int32 × Hp)) (h : Hp) (y1 : Int32) : Option (Int32 × Hp) := (if (1182 : Int32) ≤ y1 then lt9 (up2 h 208 7 (0 : Int32)) (fun h2 => some ((1 : Int32), h2)) else gd (inb y1 1182) (gd (inb y1 2031) (lt9 (up2 h 209 y1.toNatClampNeg (h 210 y1.toNatClampNeg)) (fun h5 => lt9 (y1 + (1 : Int32)) (fun x6 => rec h5 x6)))))
def LX12_back  : Nat → Hp → Int32 → Option (Int32 × Hp)
  | 0, _, _ => none
  | n + 1, h, y1 => BX12_back_0  (LX12_back  n) h y1
def fX12_back (h : Hp) : Option (Int32 × Hp) := lt9 (up2 h 208 0 (0 : Int32)) (fun h7 => (if (h7 208 6) = (0 : Int32) then some ((0 : Int32), h7) else LX12_back big h7 (0 : Int32)))
set_option maxHeartbeats 4000000 in
set_option maxRecDepth 100000 in
theorem wX12_back {X : Cx}  {rr : Int32} {hh : Hp} (C : OK X cX12_back 2 RX12 (some .boolean)) (hR : xR X = { frames := 1, cells := 0, slots := 0, locals := 64 }) (hcs : True) (hF : FinR X (some (.int rr)) hh) : ∀ n : Nat, (∀ (h : Hp) (y1 : Int32), LX12_back  n h y1 = some (rr, hh) → VW X 2 h 0 0 16 [(0, .ref (gad (xG X) 208)), (1, .int y1)] []) := by
  intro n
  induction n with
  | zero => exact (fun _ _ hf => (by rw [LX12_back] at hf; cases hf))
  | succ n ih =>
    intro h y1 hf
    rw [LX12_back] at hf
    unfold BX12_back_0 at hf
    refine r_iload_n (i := 1) C dX12_back_16 rfl 1 rfl ?_
    refine r_sipush (v := 1182) C dX12_back_17 (by decide) ?_
    refine r_icmp_ge C 41 dX12_back_20 (by decide) (fun c1 => ?_) (fun c1 => ?_)
    · rw [if_pos c1] at hf
      refine r_aload_n (i := 0) C dX12_back_41 rfl 0 rfl ?_
      refine r_iconst (v := 0) C dX12_back_42 (by decide) ?_
      obtain ⟨h2, eh2, hf⟩ := lt_of hf
      refine p_X12_58 C eh2 dX12_back_43 ?_
      refine r_iconst (v := 1) C dX12_back_46 (by decide) ?_
      have zz : (1 : Int32) = 0 ∨ (1 : Int32) = 1 := (Or.inr rfl)
      cases hf
      exact r_zret C zz hF dX12_back_47
    · rw [if_neg c1] at hf
      refine r_aload_n (i := 0) C dX12_back_23 rfl 0 rfl ?_
      refine g_X12_13 C dX12_back_24 ?_
      refine r_iload_n (i := 1) C dX12_back_27 rfl 1 rfl ?_
      refine r_aload_n (i := 0) C dX12_back_28 rfl 0 rfl ?_
      refine g_X12_17 C dX12_back_29 ?_
      refine r_iload_n (i := 1) C dX12_back_32 rfl 1 rfl ?_
      obtain ⟨g3, hf⟩ := gd_of hf
      refine r_iald C 210 rfl (by decide) g3 dX12_back_33 ?_
      obtain ⟨g4, hf⟩ := gd_of hf
      obtain ⟨h5, eh5, hf⟩ := lt_of hf
      refine r_iast C 209 eh5 rfl (by decide) g4 dX12_back_34 ?_
      obtain ⟨x6, ex6, hf⟩ := lt_of hf
      refine r_iinc (j := 1) (v := x6) (lv' := [(0, .ref (gad (xG X) 208)), (1, .int x6)]) C dX12_back_35 rfl (by rw [ex6]; rfl) (by decide) [1, 0] rfl ?_
      refine r_goto C 16 dX12_back_38 (by decide) ?_
      exact r_lv [0, 1] rfl (ih _ _ hf)
set_option maxHeartbeats 4000000 in
set_option maxRecDepth 100000 in
theorem kX12_back (G : Gx)  {h : Hp}  {rr : Int32} {hh : Hp} (hf : fX12_back h = some (rr, hh)) : MC G yX12_back cX12_back 2 (some .boolean) 1 64 h [.ref (gad G 208)] (some (.int rr)) hh := by
  refine MC.of RX12 (by decide) rfl (Nat.le_of_ble_eq_true rfl) rfl (fun X C hG hR hF => ?_)
  subst hG
  have hcs : True := trivial
  unfold fX12_back at hf
  refine r_aload_n (i := 0) C dX12_back_0 rfl 0 rfl ?_
  refine r_iconst (v := 0) C dX12_back_1 (by decide) ?_
  obtain ⟨h7, eh7, hf⟩ := lt_of hf
  refine p_X12_3 C eh7 dX12_back_2 ?_
  refine r_aload_n (i := 0) C dX12_back_5 rfl 0 rfl ?_
  refine g_X12_54 C dX12_back_6 ?_
  refine r_if_ne C 14 dX12_back_9 (by decide) (fun c8 => ?_) (fun c8 => ?_)
  · rw [if_neg c8] at hf
    refine r_iconst (v := 0) C dX12_back_14 (by decide) ?_
    refine r_istore_n (i := 1) (lv' := [(0, .ref (gad (xG X) 208)), (1, .int (0 : Int32))]) C dX12_back_15 rfl (by decide) [1, 0] rfl ?_
    exact r_lv [0, 1] rfl ((wX12_back  C hR hcs hF big) _ _ hf)
  · rw [if_pos c8] at hf
    refine r_iconst (v := 0) C dX12_back_12 (by decide) ?_
    have zz : (0 : Int32) = 0 ∨ (0 : Int32) = 1 := (Or.inl rfl)
    cases hf
    exact r_zret C zz hF dX12_back_13
def BX12_remembers_0  (rec : Nat → Hp → Int32 → Option (Hp)) (h : Hp) (y1 : Int32) : Option (Hp) := (if (3663 : Int32) ≤ y1 then rec 1 h (0 : Int32) else gd (inb (y1 + (333 : Int32)) 3996) (gd (inb y1 3996) (lt9 (up2 h 213 y1.toNatClampNeg (h 213 (y1 + (333 : Int32)).toNatClampNeg)) (fun h4 => lt9 (y1 + (1 : Int32)) (fun x5 => rec 0 h4 x5)))))
def BX12_remembers_1  (rec : Nat → Hp → Int32 → Option (Hp)) (h : Hp) (y1 : Int32) : Option (Hp) := (if (333 : Int32) ≤ y1 then some h else gd (inb y1 2031) (gd (inb (((333 : Int32) * ((h 208 7) - (1 : Int32))) + y1) 3996) (lt9 (up2 h 213 (((333 : Int32) * ((h 208 7) - (1 : Int32))) + y1).toNatClampNeg (h 209 y1.toNatClampNeg)) (fun h9 => lt9 (y1 + (1 : Int32)) (fun x10 => rec 1 h9 x10)))))
def LX12_remembers  : Nat → Nat → Hp → Int32 → Option (Hp)
  | 0, _, _, _ => none
  | n + 1, lab, h, y1 => if lab = 0 then BX12_remembers_0  (LX12_remembers  n) h y1 else if lab = 1 then BX12_remembers_1  (LX12_remembers  n) h y1 else none
def fX12_remembers (h : Hp) : Option (Hp) := (if (h 208 7) = (12 : Int32) then LX12_remembers big 0 h (0 : Int32) else lt9 (up2 h 208 7 ((h 208 7) + (1 : Int32))) (fun h12 => LX12_remembers big 1 h12 (0 : Int32)))
set_option maxHeartbeats 4000000 in
set_option maxRecDepth 100000 in
theorem wX12_remembers {X : Cx}  {hh : Hp} (C : OK X cX12_remembers 2 RX12 none) (hR : xR X = { frames := 1, cells := 0, slots := 0, locals := 64 }) (hcs : True) (hF : FinR X none hh) : ∀ n : Nat, (∀ (h : Hp) (y1 : Int32), LX12_remembers  n 0 h y1 = some hh → VW X 2 h 0 0 11 [(0, .ref (gad (xG X) 208)), (1, .int y1)] []) ∧ (∀ (h : Hp) (y1 : Int32), LX12_remembers  n 1 h y1 = some hh → VW X 2 h 0 0 55 [(0, .ref (gad (xG X) 208)), (1, .int y1)] []) := by
  intro n
  induction n with
  | zero => exact ⟨(fun _ _ hf => (by rw [LX12_remembers] at hf; cases hf)), (fun _ _ hf => (by rw [LX12_remembers] at hf; cases hf))⟩
  | succ n ih =>
    refine ⟨?_, ?_⟩
    · intro h y1 hf
      rw [LX12_remembers, if_pos rfl] at hf
      unfold BX12_remembers_0 at hf
      refine r_iload_n (i := 1) C dX12_remembers_11 rfl 1 rfl ?_
      refine r_sipush (v := 3663) C dX12_remembers_12 (by decide) ?_
      refine r_icmp_ge C 40 dX12_remembers_15 (by decide) (fun c1 => ?_) (fun c1 => ?_)
      · rw [if_pos c1] at hf
        refine r_goto C 53 dX12_remembers_40 (by decide) ?_
        refine r_iconst (v := 0) C dX12_remembers_53 (by decide) ?_
        refine r_istore_n (i := 1) (lv' := [(0, .ref (gad (xG X) 208)), (1, .int (0 : Int32))]) C dX12_remembers_54 rfl (by decide) [1, 0] rfl ?_
        exact r_lv [0, 1] rfl (ih.2 _ _ hf)
      · rw [if_neg c1] at hf
        refine r_aload_n (i := 0) C dX12_remembers_18 rfl 0 rfl ?_
        refine g_X12_26 C dX12_remembers_19 ?_
        refine r_iload_n (i := 1) C dX12_remembers_22 rfl 1 rfl ?_
        refine r_aload_n (i := 0) C dX12_remembers_23 rfl 0 rfl ?_
        refine g_X12_26 C dX12_remembers_24 ?_
        refine r_iload_n (i := 1) C dX12_remembers_27 rfl 1 rfl ?_
        refine r_sipush (v := 333) C dX12_remembers_28 (by decide) ?_
        refine r_iadd C dX12_remembers_31 ?_
        obtain ⟨g2, hf⟩ := gd_of hf
        refine r_iald C 213 rfl (by decide) g2 dX12_remembers_32 ?_
        obtain ⟨g3, hf⟩ := gd_of hf
        obtain ⟨h4, eh4, hf⟩ := lt_of hf
        refine r_iast C 213 eh4 rfl (by decide) g3 dX12_remembers_33 ?_
        obtain ⟨x5, ex5, hf⟩ := lt_of hf
        refine r_iinc (j := 1) (v := x5) (lv' := [(0, .ref (gad (xG X) 208)), (1, .int x5)]) C dX12_remembers_34 rfl (by rw [ex5]; rfl) (by decide) [1, 0] rfl ?_
        refine r_goto C 11 dX12_remembers_37 (by decide) ?_
        exact r_lv [0, 1] rfl (ih.1 _ _ hf)
    · intro h y1 hf
      rw [LX12_remembers, if_neg (by decide), if_pos rfl] at hf
      unfold BX12_remembers_1 at hf
      refine r_iload_n (i := 1) C dX12_remembers_55 rfl 1 rfl ?_
      refine r_sipush (v := 333) C dX12_remembers_56 (by decide) ?_
      refine r_icmp_ge C 91 dX12_remembers_59 (by decide) (fun c6 => ?_) (fun c6 => ?_)
      · rw [if_pos c6] at hf
        cases hf
        exact r_vret C hF dX12_remembers_91
      · rw [if_neg c6] at hf
        refine r_aload_n (i := 0) C dX12_remembers_62 rfl 0 rfl ?_
        refine g_X12_26 C dX12_remembers_63 ?_
        refine r_sipush (v := 333) C dX12_remembers_66 (by decide) ?_
        refine r_aload_n (i := 0) C dX12_remembers_69 rfl 0 rfl ?_
        refine g_X12_58 C dX12_remembers_70 ?_
        refine r_iconst (v := 1) C dX12_remembers_73 (by decide) ?_
        refine r_isub C dX12_remembers_74 ?_
        refine r_imul C dX12_remembers_75 ?_
        refine r_iload_n (i := 1) C dX12_remembers_76 rfl 1 rfl ?_
        refine r_iadd C dX12_remembers_77 ?_
        refine r_aload_n (i := 0) C dX12_remembers_78 rfl 0 rfl ?_
        refine g_X12_13 C dX12_remembers_79 ?_
        refine r_iload_n (i := 1) C dX12_remembers_82 rfl 1 rfl ?_
        obtain ⟨g7, hf⟩ := gd_of hf
        refine r_iald C 209 rfl (by decide) g7 dX12_remembers_83 ?_
        obtain ⟨g8, hf⟩ := gd_of hf
        obtain ⟨h9, eh9, hf⟩ := lt_of hf
        refine r_iast C 213 eh9 rfl (by decide) g8 dX12_remembers_84 ?_
        obtain ⟨x10, ex10, hf⟩ := lt_of hf
        refine r_iinc (j := 1) (v := x10) (lv' := [(0, .ref (gad (xG X) 208)), (1, .int x10)]) C dX12_remembers_85 rfl (by rw [ex10]; rfl) (by decide) [1, 0] rfl ?_
        refine r_goto C 55 dX12_remembers_88 (by decide) ?_
        exact r_lv [0, 1] rfl (ih.2 _ _ hf)
set_option maxHeartbeats 4000000 in
set_option maxRecDepth 100000 in
theorem kX12_remembers (G : Gx)  {h : Hp}  {hh : Hp} (hf : fX12_remembers h = some hh) : MC G yX12_remembers cX12_remembers 2 none 1 64 h [.ref (gad G 208)] none hh := by
  refine MC.of RX12 (by decide) rfl (Nat.le_of_ble_eq_true rfl) rfl (fun X C hG hR hF => ?_)
  subst hG
  have hcs : True := trivial
  unfold fX12_remembers at hf
  refine r_aload_n (i := 0) C dX12_remembers_0 rfl 0 rfl ?_
  refine g_X12_58 C dX12_remembers_1 ?_
  refine r_bipush (v := 12) C dX12_remembers_4 (by decide) ?_
  refine r_icmp_ne C 43 dX12_remembers_6 (by decide) (fun c11 => ?_) (fun c11 => ?_)
  · rw [if_neg c11] at hf
    refine r_aload_n (i := 0) C dX12_remembers_43 rfl 0 rfl ?_
    refine r_dup C dX12_remembers_44 rfl ?_
    refine g_X12_58 C dX12_remembers_45 ?_
    refine r_iconst (v := 1) C dX12_remembers_48 (by decide) ?_
    refine r_iadd C dX12_remembers_49 ?_
    obtain ⟨h12, eh12, hf⟩ := lt_of hf
    refine p_X12_58 C eh12 dX12_remembers_50 ?_
    refine r_iconst (v := 0) C dX12_remembers_53 (by decide) ?_
    refine r_istore_n (i := 1) (lv' := [(0, .ref (gad (xG X) 208)), (1, .int (0 : Int32))]) C dX12_remembers_54 rfl (by decide) [1, 0] rfl ?_
    exact r_lv [0, 1] rfl ((wX12_remembers  C hR hcs hF big).2 _ _ hf)
  · rw [if_pos c11] at hf
    refine r_iconst (v := 0) C dX12_remembers_9 (by decide) ?_
    refine r_istore_n (i := 1) (lv' := [(0, .ref (gad (xG X) 208)), (1, .int (0 : Int32))]) C dX12_remembers_10 rfl (by decide) [1, 0] rfl ?_
    exact r_lv [0, 1] rfl ((wX12_remembers  C hR hcs hF big).1 _ _ hf)

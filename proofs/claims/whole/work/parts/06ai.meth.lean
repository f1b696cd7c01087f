def BX6_send_0 (self : Hp → Nat → Int32 → Int32 → Int32 → Option Hp) (b : Nat) (rec : Hp → Int32 → Int32 → Int32 → Int32 → Option (Hp)) (h : Hp) (y2 : Int32) (y3 : Int32) (y4 : Int32) (y5 : Int32) : Option (Hp) := (if (h (b + 5) 0) ≤ y5 then some h else (if (fX11_has y3 y5) = (0 : Int32) then gd (inb y2 5) (lt9 (up2 h 22 y2.toNatClampNeg y5) (fun h5 => gd (inb y5 5) (cl9 (fX0_daysTo h5 b y2 (h5 21 y5.toNatClampNeg)) (fun x7 => cl9 (self h5 b (y2 + (1 : Int32)) (y3 ||| ((1 : Int32) <<< (y5 &&& 31))) (jmax y4 x7)) (fun h9 => lt9 (y5 + (1 : Int32)) (fun x11 => rec h9 y2 y3 y4 x11)))))) else lt9 (y5 + (1 : Int32)) (fun x3 => rec h y2 y3 y4 x3)))
def LX6_send (self : Hp → Nat → Int32 → Int32 → Int32 → Option Hp) (b : Nat) : Nat → Hp → Int32 → Int32 → Int32 → Int32 → Option (Hp)
  | 0, _, _, _, _, _ => none
  | n + 1, h, y2, y3, y4, y5 => BX6_send_0 self b (LX6_send self b n) h y2 y3 y4 y5
def F9X6_send (h : Hp) (self : Hp → Nat → Int32 → Int32 → Int32 → Option Hp) (b : Nat) (a1 : Int32) (a2 : Int32) (a3 : Int32) : Option (Hp) := (if (h (b + 5) 0) ≤ a1 then (if (h 20 3) ≤ a3 then some h else lt9 (up2 h 20 3 a3) (fun h14 => lt9 (upA h14 23 (va_cpy (h14 22) (h14 23) 0 0 5)) (fun h15 => some h15))) else (if a1 < (5 : Int32) then LX6_send self b big h a1 a2 a3 (0 : Int32) else (if (h 20 3) ≤ a3 then some h else lt9 (up2 h 20 3 a3) (fun h18 => lt9 (upA h18 23 (va_cpy (h18 22) (h18 23) 0 0 5)) (fun h19 => some h19)))))
set_option maxHeartbeats 4000000 in
set_option maxRecDepth 100000 in
theorem wX6_send {X : Cx} {self : Hp → Nat → Int32 → Int32 → Int32 → Option Hp} {fs ls : Nat} (hfs : 20 ≤ fs ∧ 1280 ≤ ls) (hs0 : ∀ {b : Nat} (hb : isSky b) {h : Hp} {a1 : Int32} {a2 : Int32} {a3 : Int32} {hh : Hp}, self h b a1 a2 a3 = some hh → MC (xG X) yX6_send cX6_send 7 none fs ls h [.ref (gad (xG X) 20), .ref (gad (xG X) (b + 5)), .int a1, .int a2, .int a3] none hh) {b : Nat} (hb : isSky b) {hh : Hp} (C : OK X cX6_send 7 RX6 none) (hR : xR X = { frames := (fs + 1), cells := 0, slots := 0, locals := (ls + 64) }) (hcs : True) (hF : FinR X none hh) : ∀ n : Nat, (∀ (h : Hp) (y2 : Int32) (y3 : Int32) (y4 : Int32) (y5 : Int32), LX6_send self b n h y2 y3 y4 y5 = some hh → VW X 7 h 0 0 54 [(0, .ref (gad (xG X) 20)), (1, .ref (gad (xG X) (b + 5))), (2, .int y2), (3, .int y3), (4, .int y4), (5, .int y5)] []) := by
  intro n
  induction n with
  | zero => exact (fun _ _ _ _ _ hf => (by rw [LX6_send] at hf; cases hf))
  | succ n ih =>
    intro h y2 y3 y4 y5 hf
    rw [LX6_send] at hf
    unfold BX6_send_0 at hf
    refine r_iload (i := 5) C dX6_send_54 5 rfl ?_
    refine r_aload_n (i := 1) C dX6_send_56 rfl 1 rfl ?_
    refine g_X6_29 hb C dX6_send_57 ?_
    refine r_icmp_ge C 121 dX6_send_60 (by decide) (fun c1 => ?_) (fun c1 => ?_)
    · rw [if_pos c1] at hf
      cases hf
      exact r_vret C hF dX6_send_121
    · rw [if_neg c1] at hf
      refine r_iload_n (i := 3) C dX6_send_63 rfl 3 rfl ?_
      refine r_iload (i := 5) C dX6_send_64 5 rfl ?_
      refine r_callNSi (As := [.int y3, .int y5]) (st := []) C (kX11_has (xG X)) cw_X6_49 rfl rfl (Nat.le_of_ble_eq_true rfl) (zs2 hR (by omega) (by omega)) (zrcs hcs) dX6_send_66 ?_
      refine r_if_ne C 115 dX6_send_69 (by decide) (fun c2 => ?_) (fun c2 => ?_)
      · rw [if_neg c2] at hf
        obtain ⟨x3, ex3, hf⟩ := lt_of hf
        refine r_iinc (j := 5) (v := x3) (lv' := [(0, .ref (gad (xG X) 20)), (1, .ref (gad (xG X) (b + 5))), (2, .int y2), (3, .int y3), (4, .int y4), (5, .int x3)]) C dX6_send_115 rfl (by rw [ex3]; rfl) (by decide) [1, 2, 3, 4, 5, 0] rfl ?_
        refine r_goto C 54 dX6_send_118 (by decide) ?_
        exact r_lv [0, 1, 2, 3, 4, 5] rfl (ih _ _ _ _ _ hf)
      · rw [if_pos c2] at hf
        refine r_aload_n (i := 0) C dX6_send_72 rfl 0 rfl ?_
        refine g_X6_17 C dX6_send_73 ?_
        refine r_iload_n (i := 2) C dX6_send_76 rfl 2 rfl ?_
        refine r_iload (i := 5) C dX6_send_77 5 rfl ?_
        obtain ⟨g4, hf⟩ := gd_of hf
        obtain ⟨h5, eh5, hf⟩ := lt_of hf
        refine r_iast C 22 eh5 rfl (by decide) g4 dX6_send_79 ?_
        refine r_aload_n (i := 1) C dX6_send_80 rfl 1 rfl ?_
        refine r_iload_n (i := 2) C dX6_send_81 rfl 2 rfl ?_
        refine r_aload_n (i := 0) C dX6_send_82 rfl 0 rfl ?_
        refine g_X6_11 C dX6_send_83 ?_
        refine r_iload (i := 5) C dX6_send_86 5 rfl ?_
        obtain ⟨g6, hf⟩ := gd_of hf
        refine r_iald C 21 rfl (by decide) g6 dX6_send_88 ?_
        obtain ⟨x7, e8, hf⟩ := cl_of hf
        refine r_callNVi (As := [.int y2, .int (h5 21 y5.toNatClampNeg)]) (st := []) C (b + 5) (sky_dsc hb 5 (by decide)) (sky_lt hb 5 (by decide)) rfl (kX0_daysTo (xG X) hb e8) cw_X6_53 rfl rfl (Nat.le_of_ble_eq_true rfl) (zs2 hR (by omega) (by omega)) (zrcs hcs) dX6_send_89 ?_
        refine r_istore (i := 6) (lv' := [(0, .ref (gad (xG X) 20)), (1, .ref (gad (xG X) (b + 5))), (2, .int y2), (3, .int y3), (4, .int y4), (5, .int y5), (6, .int x7)]) C dX6_send_92 (by decide) [1, 2, 3, 4, 5, 6, 0] rfl ?_
        refine r_aload_n (i := 0) C dX6_send_94 rfl 0 rfl ?_
        refine r_aload_n (i := 1) C dX6_send_95 rfl 1 rfl ?_
        refine r_iload_n (i := 2) C dX6_send_96 rfl 2 rfl ?_
        refine r_iconst (v := 1) C dX6_send_97 (by decide) ?_
        refine r_iadd C dX6_send_98 ?_
        refine r_iload_n (i := 3) C dX6_send_99 rfl 3 rfl ?_
        refine r_iconst (v := 1) C dX6_send_100 (by decide) ?_
        refine r_iload (i := 5) C dX6_send_101 5 rfl ?_
        refine r_ishl C dX6_send_103 ?_
        refine r_ior C dX6_send_104 ?_
        refine r_iload (i := 4) C dX6_send_105 4 rfl ?_
        refine r_iload (i := 6) C dX6_send_107 6 rfl ?_
        refine r_mmax9 C gw_1349 gm_max_s gm_i gm_max_c (zs1 hR (by omega)) (zr0 hR (Nat.le_of_ble_eq_true rfl)) (zrcs hcs) dX6_send_109 ?_
        obtain ⟨h9, e10, hf⟩ := cl_of hf
        refine r_callVv (As := [.ref (gad (xG X) (b + 5)), .int (y2 + (1 : Int32)), .int (y3 ||| ((1 : Int32) <<< (y5 &&& 31))), .int (jmax y4 x7)]) (st := []) C 20 rfl (by decide) rfl (hs0 hb e10) cw_X6_39 rfl rfl (Nat.le_of_ble_eq_true rfl) (zs2 hR (by omega) (by omega)) (zrcs hcs) dX6_send_112 ?_
        obtain ⟨x11, ex11, hf⟩ := lt_of hf
        refine r_iinc (j := 5) (v := x11) (lv' := [(0, .ref (gad (xG X) 20)), (1, .ref (gad (xG X) (b + 5))), (2, .int y2), (3, .int y3), (4, .int y4), (5, .int x11), (6, .int x7)]) C dX6_send_115 rfl (by rw [ex11]; rfl) (by decide) [1, 2, 3, 4, 5, 0, 6] rfl ?_
        refine r_goto C 54 dX6_send_118 (by decide) ?_
        exact r_lv [0, 1, 2, 3, 4, 5] rfl (ih _ _ _ _ _ hf)
set_option maxHeartbeats 4000000 in
set_option maxRecDepth 100000 in
theorem g9X6_send (G : Gx) {self : Hp → Nat → Int32 → Int32 → Int32 → Option Hp} {fs ls : Nat} (hfs : 20 ≤ fs ∧ 1280 ≤ ls) (hs0 : ∀ {b : Nat} (hb : isSky b) {h : Hp} {a1 : Int32} {a2 : Int32} {a3 : Int32} {hh : Hp}, self h b a1 a2 a3 = some hh → MC G yX6_send cX6_send 7 none fs ls h [.ref (gad G 20), .ref (gad G (b + 5)), .int a1, .int a2, .int a3] none hh) {b : Nat} (hb : isSky b) {h : Hp} {a1 : Int32} {a2 : Int32} {a3 : Int32} {hh : Hp} (hf : F9X6_send h self b a1 a2 a3 = some hh) : MC G yX6_send cX6_send 7 none (fs + 1) (ls + 64) h [.ref (gad G 20), .ref (gad G (b + 5)), .int a1, .int a2, .int a3] none hh := by
  refine MC.of RX6 (by decide) rfl (Nat.le_of_ble_eq_true rfl) rfl (fun X C hG hR hF => ?_)
  subst hG
  have hcs : True := trivial
  unfold F9X6_send at hf
  refine r_iload_n (i := 2) C dX6_send_0 rfl 2 rfl ?_
  refine r_aload_n (i := 1) C dX6_send_1 rfl 1 rfl ?_
  refine g_X6_29 hb C dX6_send_2 ?_
  refine r_icmp_ge C 17 dX6_send_5 (by decide) (fun c12 => ?_) (fun c12 => ?_)
  · rw [if_pos c12] at hf
    refine r_iload (i := 4) C dX6_send_17 4 rfl ?_
    refine r_aload_n (i := 0) C dX6_send_19 rfl 0 rfl ?_
    refine g_X6_36 C dX6_send_20 ?_
    refine r_icmp_ge C 50 dX6_send_23 (by decide) (fun c13 => ?_) (fun c13 => ?_)
    · rw [if_pos c13] at hf
      cases hf
      exact r_vret C hF dX6_send_50
    · rw [if_neg c13] at hf
      refine r_aload_n (i := 0) C dX6_send_26 rfl 0 rfl ?_
      refine r_iload (i := 4) C dX6_send_27 4 rfl ?_
      obtain ⟨h14, eh14, hf⟩ := lt_of hf
      refine p_X6_36 C eh14 dX6_send_29 ?_
      refine r_aload_n (i := 0) C dX6_send_32 rfl 0 rfl ?_
      refine g_X6_17 C dX6_send_33 ?_
      refine r_iconst (v := 0) C dX6_send_36 (by decide) ?_
      refine r_aload_n (i := 0) C dX6_send_37 rfl 0 rfl ?_
      refine g_X6_20 C dX6_send_38 ?_
      refine r_iconst (v := 0) C dX6_send_41 (by decide) ?_
      refine r_aload_n (i := 0) C dX6_send_42 rfl 0 rfl ?_
      refine g_X6_20 C dX6_send_43 ?_
      refine r_alen (v := 5) C 23 rfl (by decide) (by decide) (by decide) dX6_send_46 ?_
      obtain ⟨h15, eh15, hf⟩ := lt_of hf
      refine r_copyi C 22 23 eh15 rfl rfl (by decide) (by decide) (by decide) (by decide) (by decide) (by decide) (by decide) gw_1342 gm_ac_n gm_ac_s gm_ac_i (zs1 hR (by omega)) (zrac hR rfl) dX6_send_47 ?_
      cases hf
      exact r_vret C hF dX6_send_50
  · rw [if_neg c12] at hf
    refine r_iload_n (i := 2) C dX6_send_8 rfl 2 rfl ?_
    refine r_aload_n (i := 0) C dX6_send_9 rfl 0 rfl ?_
    refine g_X6_17 C dX6_send_10 ?_
    refine r_alen (v := 5) C 22 rfl (by decide) (by decide) (by decide) dX6_send_13 ?_
    refine r_icmp_lt C 51 dX6_send_14 (by decide) (fun c16 => ?_) (fun c16 => ?_)
    · rw [if_pos c16] at hf
      refine r_iconst (v := 0) C dX6_send_51 (by decide) ?_
      refine r_istore (i := 5) (lv' := [(0, .ref (gad (xG X) 20)), (1, .ref (gad (xG X) (b + 5))), (2, .int a1), (3, .int a2), (4, .int a3), (5, .int (0 : Int32))]) C dX6_send_52 (by decide) [1, 2, 3, 4, 5, 0] rfl ?_
      exact r_lv [0, 1, 2, 3, 4, 5] rfl ((wX6_send hfs hs0 hb C hR hcs hF big) _ _ _ _ _ hf)
    · rw [if_neg c16] at hf
      refine r_iload (i := 4) C dX6_send_17 4 rfl ?_
      refine r_aload_n (i := 0) C dX6_send_19 rfl 0 rfl ?_
      refine g_X6_36 C dX6_send_20 ?_
      refine r_icmp_ge C 50 dX6_send_23 (by decide) (fun c17 => ?_) (fun c17 => ?_)
      · rw [if_pos c17] at hf
        cases hf
        exact r_vret C hF dX6_send_50
      · rw [if_neg c17] at hf
        refine r_aload_n (i := 0) C dX6_send_26 rfl 0 rfl ?_
        refine r_iload (i := 4) C dX6_send_27 4 rfl ?_
        obtain ⟨h18, eh18, hf⟩ := lt_of hf
        refine p_X6_36 C eh18 dX6_send_29 ?_
        refine r_aload_n (i := 0) C dX6_send_32 rfl 0 rfl ?_
        refine g_X6_17 C dX6_send_33 ?_
        refine r_iconst (v := 0) C dX6_send_36 (by decide) ?_
        refine r_aload_n (i := 0) C dX6_send_37 rfl 0 rfl ?_
        refine g_X6_20 C dX6_send_38 ?_
        refine r_iconst (v := 0) C dX6_send_41 (by decide) ?_
        refine r_aload_n (i := 0) C dX6_send_42 rfl 0 rfl ?_
        refine g_X6_20 C dX6_send_43 ?_
        refine r_alen (v := 5) C 23 rfl (by decide) (by decide) (by decide) dX6_send_46 ?_
        obtain ⟨h19, eh19, hf⟩ := lt_of hf
        refine r_copyi C 22 23 eh19 rfl rfl (by decide) (by decide) (by decide) (by decide) (by decide) (by decide) (by decide) gw_1342 gm_ac_n gm_ac_s gm_ac_i (zs1 hR (by omega)) (zrac hR rfl) dX6_send_47 ?_
        cases hf
        exact r_vret C hF dX6_send_50
def grp_X6_send : Nat → Hp → Nat → Int32 → Int32 → Int32 → Option Hp
  | 0, _, _, _, _, _ => none
  | d + 1, h, b, a1, a2, a3 => F9X6_send h (grp_X6_send d) b a1 a2 a3
set_option maxHeartbeats 4000000 in
set_option maxRecDepth 100000 in
theorem kgrp_X6_send (G : Gx) : ∀ d : Nat, (∀ {b : Nat} (hb : isSky b) {h : Hp} {a1 : Int32} {a2 : Int32} {a3 : Int32} {hh : Hp}, grp_X6_send d h b a1 a2 a3 = some hh → MC G yX6_send cX6_send 7 none (20 + d) (1280 + 64 * d) h [.ref (gad G 20), .ref (gad G (b + 5)), .int a1, .int a2, .int a3] none hh) := by
  intro d
  induction d with
  | zero =>
    intro b hb h a1 a2 a3 hh hf
    rw [grp_X6_send] at hf
    cases hf
  | succ d ih =>
    intro b hb h a1 a2 a3 hh hf
    rw [grp_X6_send] at hf
    exact g9X6_send G (fs := 20 + d) (ls := 1280 + 64 * d) ⟨by omega, by omega⟩ ih hb hf
def fX6_send (h : Hp) (b : Nat) (a1 : Int32) (a2 : Int32) (a3 : Int32) : Option Hp := grp_X6_send 64 h b a1 a2 a3
theorem kX6_send (G : Gx) {b : Nat} (hb : isSky b) {h : Hp} {a1 : Int32} {a2 : Int32} {a3 : Int32} {hh : Hp} (hf : fX6_send h b a1 a2 a3 = some hh) : MC G yX6_send cX6_send 7 none 84 5376 h [.ref (gad G 20), .ref (gad G (b + 5)), .int a1, .int a2, .int a3] none hh := (kgrp_X6_send G 64) hb hf
def BX12_readCond_0 (self : Nat → Hp → Option (Int32 × Hp)) (rec : Hp → Option (Int32 × Hp)) (h : Hp) : Option (Int32 × Hp) := cl2 (fX12_passes h sw52) (fun x3 h1 => (if x3 = (0 : Int32) then some ((1 : Int32), h1) else cl2 (self 1 h1) (fun x7 h5 => (if x7 = (0 : Int32) then some ((0 : Int32), h5) else cl9 (fX12_emits h5 (14 : Int32) (0 : Int32)) (fun h9 => rec h9)))))
def LX12_readCond (self : Nat → Hp → Option (Int32 × Hp)) : Nat → Hp → Option (Int32 × Hp)
  | 0, _ => none
  | n + 1, h => BX12_readCond_0 self (LX12_readCond self n) h
def F9X12_readCond (h : Hp) (self : Nat → Hp → Option (Int32 × Hp)) : Option (Int32 × Hp) := cl2 (self 1 h) (fun x13 h11 => (if x13 = (0 : Int32) then some ((0 : Int32), h11) else LX12_readCond self big h11))
set_option maxHeartbeats 4000000 in
set_option maxRecDepth 100000 in
theorem wX12_readCond {X : Cx} {self : Nat → Hp → Option (Int32 × Hp)} {fs ls : Nat} (hfs : 20 ≤ fs ∧ 1280 ≤ ls) (hs0 : ∀  {h : Hp}  {rr : Int32} {hh : Hp}, self 0 h = some (rr, hh) → MC (xG X) yX12_readCond cX12_readCond 1 (some .boolean) fs ls h [.ref (gad (xG X) 208)] (some (.int rr)) hh) (hs1 : ∀  {h : Hp}  {rr : Int32} {hh : Hp}, self 1 h = some (rr, hh) → MC (xG X) yX12_readAllOf cX12_readAllOf 1 (some .boolean) fs ls h [.ref (gad (xG X) 208)] (some (.int rr)) hh) (hs2 : ∀  {h : Hp}  {rr : Int32} {hh : Hp}, self 2 h = some (rr, hh) → MC (xG X) yX12_readAtom cX12_readAtom 2 (some .boolean) fs ls h [.ref (gad (xG X) 208)] (some (.int rr)) hh) {rr : Int32} {hh : Hp} (C : OK X cX12_readCond 1 RX12 (some .boolean)) (hR : xR X = { frames := (fs + 1), cells := 0, slots := 0, locals := (ls + 64) }) (hcs : True) (hF : FinR X (some (.int rr)) hh) : ∀ n : Nat, (∀ (h : Hp), LX12_readCond self n h = some (rr, hh) → VW X 1 h 0 0 9 [(0, .ref (gad (xG X) 208))] []) := by
  intro n
  induction n with
  | zero => exact (fun _ hf => (by rw [LX12_readCond] at hf; cases hf))
  | succ n ih =>
    intro h hf
    rw [LX12_readCond] at hf
    unfold BX12_readCond_0 at hf
    refine r_aload_n (i := 0) C dX12_readCond_9 rfl 0 rfl ?_
    refine r_ldcS (e := 52) C st52 dX12_readCond_10 ?_
    obtain ⟨x3, h1, e2, hf⟩ := cl2_of hf
    refine r_callVi (As := [.ref (gsK (xG X) 52)]) (st := []) C 208 rfl (by decide) rfl (kX12_passes (xG X) st52 e2) cw_X12_128 rfl rfl (Nat.le_of_ble_eq_true rfl) (zs2 hR (by omega) (by omega)) (zrcs hcs) dX12_readCond_12 ?_
    refine r_if_eq C 37 dX12_readCond_15 (by decide) (fun c4 => ?_) (fun c4 => ?_)
    · rw [if_pos c4] at hf
      refine r_iconst (v := 1) C dX12_readCond_37 (by decide) ?_
      have zz : (1 : Int32) = 0 ∨ (1 : Int32) = 1 := (Or.inr rfl)
      cases hf
      exact r_zret C zz hF dX12_readCond_38
    · rw [if_neg c4] at hf
      refine r_aload_n (i := 0) C dX12_readCond_18 rfl 0 rfl ?_
      obtain ⟨x7, h5, e6, hf⟩ := cl2_of hf
      refine r_callVi (As := []) (st := []) C 208 rfl (by decide) rfl (hs1 e6) cw_X12_219 rfl rfl (Nat.le_of_ble_eq_true rfl) (zs2 hR (by omega) (by omega)) (zrcs hcs) dX12_readCond_19 ?_
      refine r_if_ne C 27 dX12_readCond_22 (by decide) (fun c8 => ?_) (fun c8 => ?_)
      · rw [if_neg c8] at hf
        refine r_aload_n (i := 0) C dX12_readCond_27 rfl 0 rfl ?_
        refine r_bipush (v := 14) C dX12_readCond_28 (by decide) ?_
        refine r_iconst (v := 0) C dX12_readCond_30 (by decide) ?_
        obtain ⟨h9, e10, hf⟩ := cl_of hf
        refine r_callVv (As := [.int (14 : Int32), .int (0 : Int32)]) (st := []) C 208 rfl (by decide) rfl (kX12_emits (xG X) e10) cw_X12_180 rfl rfl (Nat.le_of_ble_eq_true rfl) (zs2 hR (by omega) (by omega)) (zrcs hcs) dX12_readCond_31 ?_
        refine r_goto C 9 dX12_readCond_34 (by decide) ?_
        exact r_lv [0] rfl (ih _ hf)
      · rw [if_pos c8] at hf
        refine r_iconst (v := 0) C dX12_readCond_25 (by decide) ?_
        have zz : (0 : Int32) = 0 ∨ (0 : Int32) = 1 := (Or.inl rfl)
        cases hf
        exact r_zret C zz hF dX12_readCond_26
set_option maxHeartbeats 4000000 in
set_option maxRecDepth 100000 in
theorem g9X12_readCond (G : Gx) {self : Nat → Hp → Option (Int32 × Hp)} {fs ls : Nat} (hfs : 20 ≤ fs ∧ 1280 ≤ ls) (hs0 : ∀  {h : Hp}  {rr : Int32} {hh : Hp}, self 0 h = some (rr, hh) → MC G yX12_readCond cX12_readCond 1 (some .boolean) fs ls h [.ref (gad G 208)] (some (.int rr)) hh) (hs1 : ∀  {h : Hp}  {rr : Int32} {hh : Hp}, self 1 h = some (rr, hh) → MC G yX12_readAllOf cX12_readAllOf 1 (some .boolean) fs ls h [.ref (gad G 208)] (some (.int rr)) hh) (hs2 : ∀  {h : Hp}  {rr : Int32} {hh : Hp}, self 2 h = some (rr, hh) → MC G yX12_readAtom cX12_readAtom 2 (some .boolean) fs ls h [.ref (gad G 208)] (some (.int rr)) hh) {h : Hp}  {rr : Int32} {hh : Hp} (hf : F9X12_readCond h self = some (rr, hh)) : MC G yX12_readCond cX12_readCond 1 (some .boolean) (fs + 1) (ls + 64) h [.ref (gad G 208)] (some (.int rr)) hh := by
  refine MC.of RX12 (by decide) rfl (Nat.le_of_ble_eq_true rfl) rfl (fun X C hG hR hF => ?_)
  subst hG
  have hcs : True := trivial
  unfold F9X12_readCond at hf
  refine r_aload_n (i := 0) C dX12_readCond_0 rfl 0 rfl ?_
  obtain ⟨x13, h11, e12, hf⟩ := cl2_of hf
  refine r_callVi (As := []) (st := []) C 208 rfl (by decide) rfl (hs1 e12) cw_X12_219 rfl rfl (Nat.le_of_ble_eq_true rfl) (zs2 hR (by omega) (by omega)) (zrcs hcs) dX12_readCond_1 ?_
  refine r_if_ne C 9 dX12_readCond_4 (by decide) (fun c14 => ?_) (fun c14 => ?_)
  · rw [if_neg c14] at hf
    exact r_lv [0] rfl ((wX12_readCond hfs hs0 hs1 hs2 C hR hcs hF big) _ hf)
  · rw [if_pos c14] at hf
    refine r_iconst (v := 0) C dX12_readCond_7 (by decide) ?_
    have zz : (0 : Int32) = 0 ∨ (0 : Int32) = 1 := (Or.inl rfl)
    cases hf
    exact r_zret C zz hF dX12_readCond_8
def BX12_readAllOf_0 (self : Nat → Hp → Option (Int32 × Hp)) (rec : Hp → Option (Int32 × Hp)) (h : Hp) : Option (Int32 × Hp) := cl2 (fX12_passes h sw51) (fun x3 h1 => (if x3 = (0 : Int32) then some ((1 : Int32), h1) else cl2 (self 2 h1) (fun x7 h5 => (if x7 = (0 : Int32) then some ((0 : Int32), h5) else cl9 (fX12_emits h5 (13 : Int32) (0 : Int32)) (fun h9 => rec h9)))))
def LX12_readAllOf (self : Nat → Hp → Option (Int32 × Hp)) : Nat → Hp → Option (Int32 × Hp)
  | 0, _ => none
  | n + 1, h => BX12_readAllOf_0 self (LX12_readAllOf self n) h
def F9X12_readAllOf (h : Hp) (self : Nat → Hp → Option (Int32 × Hp)) : Option (Int32 × Hp) := cl2 (self 2 h) (fun x13 h11 => (if x13 = (0 : Int32) then some ((0 : Int32), h11) else LX12_readAllOf self big h11))
set_option maxHeartbeats 4000000 in
set_option maxRecDepth 100000 in
theorem wX12_readAllOf {X : Cx} {self : Nat → Hp → Option (Int32 × Hp)} {fs ls : Nat} (hfs : 20 ≤ fs ∧ 1280 ≤ ls) (hs0 : ∀  {h : Hp}  {rr : Int32} {hh : Hp}, self 0 h = some (rr, hh) → MC (xG X) yX12_readCond cX12_readCond 1 (some .boolean) fs ls h [.ref (gad (xG X) 208)] (some (.int rr)) hh) (hs1 : ∀  {h : Hp}  {rr : Int32} {hh : Hp}, self 1 h = some (rr, hh) → MC (xG X) yX12_readAllOf cX12_readAllOf 1 (some .boolean) fs ls h [.ref (gad (xG X) 208)] (some (.int rr)) hh) (hs2 : ∀  {h : Hp}  {rr : Int32} {hh : Hp}, self 2 h = some (rr, hh) → MC (xG X) yX12_readAtom cX12_readAtom 2 (some .boolean) fs ls h [.ref (gad (xG X) 208)] (some (.int rr)) hh) {rr : Int32} {hh : Hp} (C : OK X cX12_readAllOf 1 RX12 (some .boolean)) (hR : xR X = { frames := (fs + 1), cells := 0, slots := 0, locals := (ls + 64) }) (hcs : True) (hF : FinR X (some (.int rr)) hh) : ∀ n : Nat, (∀ (h : Hp), LX12_readAllOf self n h = some (rr, hh) → VW X 1 h 0 0 9 [(0, .ref (gad (xG X) 208))] []) := by
  intro n
  induction n with
  | zero => exact (fun _ hf => (by rw [LX12_readAllOf] at hf; cases hf))
  | succ n ih =>
    intro h hf
    rw [LX12_readAllOf] at hf
    unfold BX12_readAllOf_0 at hf
    refine r_aload_n (i := 0) C dX12_readAllOf_9 rfl 0 rfl ?_
    refine r_ldcS (e := 51) C st51 dX12_readAllOf_10 ?_
    obtain ⟨x3, h1, e2, hf⟩ := cl2_of hf
    refine r_callVi (As := [.ref (gsK (xG X) 51)]) (st := []) C 208 rfl (by decide) rfl (kX12_passes (xG X) st51 e2) cw_X12_128 rfl rfl (Nat.le_of_ble_eq_true rfl) (zs2 hR (by omega) (by omega)) (zrcs hcs) dX12_readAllOf_12 ?_
    refine r_if_eq C 37 dX12_readAllOf_15 (by decide) (fun c4 => ?_) (fun c4 => ?_)
    · rw [if_pos c4] at hf
      refine r_iconst (v := 1) C dX12_readAllOf_37 (by decide) ?_
      have zz : (1 : Int32) = 0 ∨ (1 : Int32) = 1 := (Or.inr rfl)
      cases hf
      exact r_zret C zz hF dX12_readAllOf_38
    · rw [if_neg c4] at hf
      refine r_aload_n (i := 0) C dX12_readAllOf_18 rfl 0 rfl ?_
      obtain ⟨x7, h5, e6, hf⟩ := cl2_of hf
      refine r_callVi (As := []) (st := []) C 208 rfl (by decide) rfl (hs2 e6) cw_X12_208 rfl rfl (Nat.le_of_ble_eq_true rfl) (zs2 hR (by omega) (by omega)) (zrcs hcs) dX12_readAllOf_19 ?_
      refine r_if_ne C 27 dX12_readAllOf_22 (by decide) (fun c8 => ?_) (fun c8 => ?_)
      · rw [if_neg c8] at hf
        refine r_aload_n (i := 0) C dX12_readAllOf_27 rfl 0 rfl ?_
        refine r_bipush (v := 13) C dX12_readAllOf_28 (by decide) ?_
        refine r_iconst (v := 0) C dX12_readAllOf_30 (by decide) ?_
        obtain ⟨h9, e10, hf⟩ := cl_of hf
        refine r_callVv (As := [.int (13 : Int32), .int (0 : Int32)]) (st := []) C 208 rfl (by decide) rfl (kX12_emits (xG X) e10) cw_X12_180 rfl rfl (Nat.le_of_ble_eq_true rfl) (zs2 hR (by omega) (by omega)) (zrcs hcs) dX12_readAllOf_31 ?_
        refine r_goto C 9 dX12_readAllOf_34 (by decide) ?_
        exact r_lv [0] rfl (ih _ hf)
      · rw [if_pos c8] at hf
        refine r_iconst (v := 0) C dX12_readAllOf_25 (by decide) ?_
        have zz : (0 : Int32) = 0 ∨ (0 : Int32) = 1 := (Or.inl rfl)
        cases hf
        exact r_zret C zz hF dX12_readAllOf_26
set_option maxHeartbeats 4000000 in
set_option maxRecDepth 100000 in
theorem g9X12_readAllOf (G : Gx) {self : Nat → Hp → Option (Int32 × Hp)} {fs ls : Nat} (hfs : 20 ≤ fs ∧ 1280 ≤ ls) (hs0 : ∀  {h : Hp}  {rr : Int32} {hh : Hp}, self 0 h = some (rr, hh) → MC G yX12_readCond cX12_readCond 1 (some .boolean) fs ls h [.ref (gad G 208)] (some (.int rr)) hh) (hs1 : ∀  {h : Hp}  {rr : Int32} {hh : Hp}, self 1 h = some (rr, hh) → MC G yX12_readAllOf cX12_readAllOf 1 (some .boolean) fs ls h [.ref (gad G 208)] (some (.int rr)) hh) (hs2 : ∀  {h : Hp}  {rr : Int32} {hh : Hp}, self 2 h = some (rr, hh) → MC G yX12_readAtom cX12_readAtom 2 (some .boolean) fs ls h [.ref (gad G 208)] (some (.int rr)) hh) {h : Hp}  {rr : Int32} {hh : Hp} (hf : F9X12_readAllOf h self = some (rr, hh)) : MC G yX12_readAllOf cX12_readAllOf 1 (some .boolean) (fs + 1) (ls + 64) h [.ref (gad G 208)] (some (.int rr)) hh := by
  refine MC.of RX12 (by decide) rfl (Nat.le_of_ble_eq_true rfl) rfl (fun X C hG hR hF => ?_)
  subst hG
  have hcs : True := trivial
  unfold F9X12_readAllOf at hf
  refine r_aload_n (i := 0) C dX12_readAllOf_0 rfl 0 rfl ?_
  obtain ⟨x13, h11, e12, hf⟩ := cl2_of hf
  refine r_callVi (As := []) (st := []) C 208 rfl (by decide) rfl (hs2 e12) cw_X12_208 rfl rfl (Nat.le_of_ble_eq_true rfl) (zs2 hR (by omega) (by omega)) (zrcs hcs) dX12_readAllOf_1 ?_
  refine r_if_ne C 9 dX12_readAllOf_4 (by decide) (fun c14 => ?_) (fun c14 => ?_)
  · rw [if_neg c14] at hf
    exact r_lv [0] rfl ((wX12_readAllOf hfs hs0 hs1 hs2 C hR hcs hF big) _ hf)
  · rw [if_pos c14] at hf
    refine r_iconst (v := 0) C dX12_readAllOf_7 (by decide) ?_
    have zz : (0 : Int32) = 0 ∨ (0 : Int32) = 1 := (Or.inl rfl)
    cases hf
    exact r_zret C zz hF dX12_readAllOf_8
def F9X12_readAtom (h : Hp) (self : Nat → Hp → Option (Int32 × Hp)) : Option (Int32 × Hp) := cl2 (fX12_sign h (40 : Int32)) (fun x3 h1 => (if x3 = (0 : Int32) then cl2 (fX12_passes h1 sw45) (fun x7 h5 => (if x7 = (0 : Int32) then cl2 (fX12_readTag h5) (fun x11 h9 => (if x11 = (0 : Int32) then cl2 (fX12_readSum h9) (fun x15 h13 => (if x15 = (0 : Int32) then some ((0 : Int32), h13) else cl2 (fX12_sign h13 (60 : Int32)) (fun x19 h17 => (if x19 = (0 : Int32) then cl2 (fX12_sign h17 (62 : Int32)) (fun x33 h31 => (if x33 = (0 : Int32) then some ((0 : Int32), h31) else cl2 (fX12_readSum h31) (fun x37 h35 => (if x37 = (0 : Int32) then some ((0 : Int32), h35) else cl9 ((if x19 = (0 : Int32) then some (11 : Int32) else some (10 : Int32)) : Option (Int32)) (fun v39 => cl9 (fX12_emits h35 v39 (0 : Int32)) (fun h43 => some ((1 : Int32), h43))))))) else cl2 (fX12_readSum h17) (fun x23 h21 => (if x23 = (0 : Int32) then some ((0 : Int32), h21) else cl9 ((if x19 = (0 : Int32) then some (11 : Int32) else some (10 : Int32)) : Option (Int32)) (fun v25 => cl9 (fX12_emits h21 v25 (0 : Int32)) (fun h29 => some ((1 : Int32), h29))))))))) else some ((1 : Int32), h9))) else (if (h5 208 13) = (6 : Int32) then some ((0 : Int32), h5) else lt9 (up2 h5 208 13 ((h5 208 13) + (1 : Int32))) (fun h46 => cl2 (self 2 h46) (fun x49 h47 => (if x49 = (0 : Int32) then some ((0 : Int32), h47) else lt9 (up2 h47 208 13 ((h47 208 13) - (1 : Int32))) (fun h51 => cl9 (fX12_emits h51 (12 : Int32) (0 : Int32)) (fun h52 => some ((1 : Int32), h52))))))))) else (if (h1 208 13) = (6 : Int32) then some ((0 : Int32), h1) else lt9 (up2 h1 208 13 ((h1 208 13) + (1 : Int32))) (fun h55 => cl2 (self 0 h55) (fun x58 h56 => (if x58 = (0 : Int32) then some ((0 : Int32), h56) else lt9 (up2 h56 208 13 ((h56 208 13) - (1 : Int32))) (fun h60 => cl2 (fX12_sign h60 (41 : Int32)) (fun x63 h61 => gd (x63 = 0 ∨ x63 = 1) (some (x63, h61))))))))))
set_option maxHeartbeats 4000000 in
set_option maxRecDepth 100000 in
theorem g9X12_readAtom (G : Gx) {self : Nat → Hp → Option (Int32 × Hp)} {fs ls : Nat} (hfs : 20 ≤ fs ∧ 1280 ≤ ls) (hs0 : ∀  {h : Hp}  {rr : Int32} {hh : Hp}, self 0 h = some (rr, hh) → MC G yX12_readCond cX12_readCond 1 (some .boolean) fs ls h [.ref (gad G 208)] (some (.int rr)) hh) (hs1 : ∀  {h : Hp}  {rr : Int32} {hh : Hp}, self 1 h = some (rr, hh) → MC G yX12_readAllOf cX12_readAllOf 1 (some .boolean) fs ls h [.ref (gad G 208)] (some (.int rr)) hh) (hs2 : ∀  {h : Hp}  {rr : Int32} {hh : Hp}, self 2 h = some (rr, hh) → MC G yX12_readAtom cX12_readAtom 2 (some .boolean) fs ls h [.ref (gad G 208)] (some (.int rr)) hh) {h : Hp}  {rr : Int32} {hh : Hp} (hf : F9X12_readAtom h self = some (rr, hh)) : MC G yX12_readAtom cX12_readAtom 2 (some .boolean) (fs + 1) (ls + 64) h [.ref (gad G 208)] (some (.int rr)) hh := by
  refine MC.of RX12 (by decide) rfl (Nat.le_of_ble_eq_true rfl) rfl (fun X C hG hR hF => ?_)
  subst hG
  have hcs : True := trivial
  unfold F9X12_readAtom at hf
  refine r_aload_n (i := 0) C dX12_readAtom_0 rfl 0 rfl ?_
  refine r_bipush (v := 40) C dX12_readAtom_1 (by decide) ?_
  obtain ⟨x3, h1, e2, hf⟩ := cl2_of hf
  refine r_callVi (As := [.int (40 : Int32)]) (st := []) C 208 rfl (by decide) rfl (kX12_sign (xG X) e2) cw_X12_193 rfl rfl (Nat.le_of_ble_eq_true rfl) (zs2 hR (by omega) (by omega)) (zrcs hcs) dX12_readAtom_3 ?_
  refine r_if_eq C 56 dX12_readAtom_6 (by decide) (fun c4 => ?_) (fun c4 => ?_)
  · rw [if_pos c4] at hf
    refine r_aload_n (i := 0) C dX12_readAtom_56 rfl 0 rfl ?_
    refine r_ldcS (e := 45) C st45 dX12_readAtom_57 ?_
    obtain ⟨x7, h5, e6, hf⟩ := cl2_of hf
    refine r_callVi (As := [.ref (gsK (xG X) 45)]) (st := []) C 208 rfl (by decide) rfl (kX12_passes (xG X) st45 e6) cw_X12_128 rfl rfl (Nat.le_of_ble_eq_true rfl) (zs2 hR (by omega) (by omega)) (zrcs hcs) dX12_readAtom_59 ?_
    refine r_if_eq C 114 dX12_readAtom_62 (by decide) (fun c8 => ?_) (fun c8 => ?_)
    · rw [if_pos c8] at hf
      refine r_aload_n (i := 0) C dX12_readAtom_114 rfl 0 rfl ?_
      obtain ⟨x11, h9, e10, hf⟩ := cl2_of hf
      refine r_callVi (As := []) (st := []) C 208 rfl (by decide) rfl (kX12_readTag (xG X) e10) cw_X12_211 rfl rfl (Nat.le_of_ble_eq_true rfl) (zs2 hR (by omega) (by omega)) (zrcs hcs) dX12_readAtom_115 ?_
      refine r_if_eq C 123 dX12_readAtom_118 (by decide) (fun c12 => ?_) (fun c12 => ?_)
      · rw [if_pos c12] at hf
        refine r_aload_n (i := 0) C dX12_readAtom_123 rfl 0 rfl ?_
        obtain ⟨x15, h13, e14, hf⟩ := cl2_of hf
        refine r_callVi (As := []) (st := []) C 208 rfl (by decide) rfl (kX12_readSum (xG X) e14) cw_X12_214 rfl rfl (Nat.le_of_ble_eq_true rfl) (zs2 hR (by omega) (by omega)) (zrcs hcs) dX12_readAtom_124 ?_
        refine r_if_ne C 132 dX12_readAtom_127 (by decide) (fun c16 => ?_) (fun c16 => ?_)
        · rw [if_neg c16] at hf
          refine r_aload_n (i := 0) C dX12_readAtom_132 rfl 0 rfl ?_
          refine r_bipush (v := 60) C dX12_readAtom_133 (by decide) ?_
          obtain ⟨x19, h17, e18, hf⟩ := cl2_of hf
          refine r_callVi (As := [.int (60 : Int32)]) (st := []) C 208 rfl (by decide) rfl (kX12_sign (xG X) e18) cw_X12_193 rfl rfl (Nat.le_of_ble_eq_true rfl) (zs2 hR (by omega) (by omega)) (zrcs hcs) dX12_readAtom_135 ?_
          refine r_istore_n (i := 1) (lv' := [(0, .ref (gad (xG X) 208)), (1, .int x19)]) C dX12_readAtom_138 rfl (by decide) [1, 0] rfl ?_
          refine r_iload_n (i := 1) C dX12_readAtom_139 rfl 1 rfl ?_
          refine r_if_ne C 152 dX12_readAtom_140 (by decide) (fun c20 => ?_) (fun c20 => ?_)
          · rw [if_neg c20] at hf
            refine r_aload_n (i := 0) C dX12_readAtom_152 rfl 0 rfl ?_
            obtain ⟨x23, h21, e22, hf⟩ := cl2_of hf
            refine r_callVi (As := []) (st := []) C 208 rfl (by decide) rfl (kX12_readSum (xG X) e22) cw_X12_214 rfl rfl (Nat.le_of_ble_eq_true rfl) (zs2 hR (by omega) (by omega)) (zrcs hcs) dX12_readAtom_153 ?_
            refine r_if_ne C 161 dX12_readAtom_156 (by decide) (fun c24 => ?_) (fun c24 => ?_)
            · rw [if_neg c24] at hf
              refine r_aload_n (i := 0) C dX12_readAtom_161 rfl 0 rfl ?_
              refine r_iload_n (i := 1) C dX12_readAtom_162 rfl 1 rfl ?_
              obtain ⟨v25, r27, hf⟩ := cl_of hf
              have k26 : VW X 2 h21 0 0 173 [(0, .ref (gad (xG X) 208))] [.int v25, .ref (gad (xG X) 208)] := by
                refine r_iconst (v := 0) C dX12_readAtom_173 (by decide) ?_
                obtain ⟨h29, e30, hf⟩ := cl_of hf
                refine r_callVv (As := [.int v25, .int (0 : Int32)]) (st := []) C 208 rfl (by decide) rfl (kX12_emits (xG X) e30) cw_X12_180 rfl rfl (Nat.le_of_ble_eq_true rfl) (zs2 hR (by omega) (by omega)) (zrcs hcs) dX12_readAtom_174 ?_
                refine r_iconst (v := 1) C dX12_readAtom_177 (by decide) ?_
                have zz : (1 : Int32) = 0 ∨ (1 : Int32) = 1 := (Or.inr rfl)
                cases hf
                exact r_zret C zz hF dX12_readAtom_178
              clear hf
              have hf := r27
              refine r_if_eq C 171 dX12_readAtom_163 (by decide) (fun c28 => ?_) (fun c28 => ?_)
              · rw [if_pos c28] at hf
                refine r_bipush (v := 11) C dX12_readAtom_171 (by decide) ?_
                cases hf
                exact r_lv [0] rfl k26
              · rw [if_neg c28] at hf
                refine r_bipush (v := 10) C dX12_readAtom_166 (by decide) ?_
                refine r_goto C 173 dX12_readAtom_168 (by decide) ?_
                cases hf
                exact r_lv [0] rfl k26
            · rw [if_pos c24] at hf
              refine r_iconst (v := 0) C dX12_readAtom_159 (by decide) ?_
              have zz : (0 : Int32) = 0 ∨ (0 : Int32) = 1 := (Or.inl rfl)
              cases hf
              exact r_zret C zz hF dX12_readAtom_160
          · rw [if_pos c20] at hf
            refine r_aload_n (i := 0) C dX12_readAtom_143 rfl 0 rfl ?_
            refine r_bipush (v := 62) C dX12_readAtom_144 (by decide) ?_
            obtain ⟨x33, h31, e32, hf⟩ := cl2_of hf
            refine r_callVi (As := [.int (62 : Int32)]) (st := []) C 208 rfl (by decide) rfl (kX12_sign (xG X) e32) cw_X12_193 rfl rfl (Nat.le_of_ble_eq_true rfl) (zs2 hR (by omega) (by omega)) (zrcs hcs) dX12_readAtom_146 ?_
            refine r_if_eq C 159 dX12_readAtom_149 (by decide) (fun c34 => ?_) (fun c34 => ?_)
            · rw [if_pos c34] at hf
              refine r_iconst (v := 0) C dX12_readAtom_159 (by decide) ?_
              have zz : (0 : Int32) = 0 ∨ (0 : Int32) = 1 := (Or.inl rfl)
              cases hf
              exact r_zret C zz hF dX12_readAtom_160
            · rw [if_neg c34] at hf
              refine r_aload_n (i := 0) C dX12_readAtom_152 rfl 0 rfl ?_
              obtain ⟨x37, h35, e36, hf⟩ := cl2_of hf
              refine r_callVi (As := []) (st := []) C 208 rfl (by decide) rfl (kX12_readSum (xG X) e36) cw_X12_214 rfl rfl (Nat.le_of_ble_eq_true rfl) (zs2 hR (by omega) (by omega)) (zrcs hcs) dX12_readAtom_153 ?_
              refine r_if_ne C 161 dX12_readAtom_156 (by decide) (fun c38 => ?_) (fun c38 => ?_)
              · rw [if_neg c38] at hf
                refine r_aload_n (i := 0) C dX12_readAtom_161 rfl 0 rfl ?_
                refine r_iload_n (i := 1) C dX12_readAtom_162 rfl 1 rfl ?_
                obtain ⟨v39, r41, hf⟩ := cl_of hf
                have k40 : VW X 2 h35 0 0 173 [(0, .ref (gad (xG X) 208))] [.int v39, .ref (gad (xG X) 208)] := by
                  refine r_iconst (v := 0) C dX12_readAtom_173 (by decide) ?_
                  obtain ⟨h43, e44, hf⟩ := cl_of hf
                  refine r_callVv (As := [.int v39, .int (0 : Int32)]) (st := []) C 208 rfl (by decide) rfl (kX12_emits (xG X) e44) cw_X12_180 rfl rfl (Nat.le_of_ble_eq_true rfl) (zs2 hR (by omega) (by omega)) (zrcs hcs) dX12_readAtom_174 ?_
                  refine r_iconst (v := 1) C dX12_readAtom_177 (by decide) ?_
                  have zz : (1 : Int32) = 0 ∨ (1 : Int32) = 1 := (Or.inr rfl)
                  cases hf
                  exact r_zret C zz hF dX12_readAtom_178
                clear hf
                have hf := r41
                refine r_if_eq C 171 dX12_readAtom_163 (by decide) (fun c42 => ?_) (fun c42 => ?_)
                · rw [if_pos c42] at hf
                  refine r_bipush (v := 11) C dX12_readAtom_171 (by decide) ?_
                  cases hf
                  exact r_lv [0] rfl k40
                · rw [if_neg c42] at hf
                  refine r_bipush (v := 10) C dX12_readAtom_166 (by decide) ?_
                  refine r_goto C 173 dX12_readAtom_168 (by decide) ?_
                  cases hf
                  exact r_lv [0] rfl k40
              · rw [if_pos c38] at hf
                refine r_iconst (v := 0) C dX12_readAtom_159 (by decide) ?_
                have zz : (0 : Int32) = 0 ∨ (0 : Int32) = 1 := (Or.inl rfl)
                cases hf
                exact r_zret C zz hF dX12_readAtom_160
        · rw [if_pos c16] at hf
          refine r_iconst (v := 0) C dX12_readAtom_130 (by decide) ?_
          have zz : (0 : Int32) = 0 ∨ (0 : Int32) = 1 := (Or.inl rfl)
          cases hf
          exact r_zret C zz hF dX12_readAtom_131
      · rw [if_neg c12] at hf
        refine r_iconst (v := 1) C dX12_readAtom_121 (by decide) ?_
        have zz : (1 : Int32) = 0 ∨ (1 : Int32) = 1 := (Or.inr rfl)
        cases hf
        exact r_zret C zz hF dX12_readAtom_122
    · rw [if_neg c8] at hf
      refine r_aload_n (i := 0) C dX12_readAtom_65 rfl 0 rfl ?_
      refine g_X12_200 C dX12_readAtom_66 ?_
      refine r_bipush (v := 6) C dX12_readAtom_69 (by decide) ?_
      refine r_icmp_ne C 76 dX12_readAtom_71 (by decide) (fun c45 => ?_) (fun c45 => ?_)
      · rw [if_neg c45] at hf
        refine r_aload_n (i := 0) C dX12_readAtom_76 rfl 0 rfl ?_
        refine r_dup C dX12_readAtom_77 rfl ?_
        refine g_X12_200 C dX12_readAtom_78 ?_
        refine r_iconst (v := 1) C dX12_readAtom_81 (by decide) ?_
        refine r_iadd C dX12_readAtom_82 ?_
        obtain ⟨h46, eh46, hf⟩ := lt_of hf
        refine p_X12_200 C eh46 dX12_readAtom_83 ?_
        refine r_aload_n (i := 0) C dX12_readAtom_86 rfl 0 rfl ?_
        obtain ⟨x49, h47, e48, hf⟩ := cl2_of hf
        refine r_callVi (As := []) (st := []) C 208 rfl (by decide) rfl (hs2 e48) cw_X12_208 rfl rfl (Nat.le_of_ble_eq_true rfl) (zs2 hR (by omega) (by omega)) (zrcs hcs) dX12_readAtom_87 ?_
        refine r_if_ne C 95 dX12_readAtom_90 (by decide) (fun c50 => ?_) (fun c50 => ?_)
        · rw [if_neg c50] at hf
          refine r_aload_n (i := 0) C dX12_readAtom_95 rfl 0 rfl ?_
          refine r_dup C dX12_readAtom_96 rfl ?_
          refine g_X12_200 C dX12_readAtom_97 ?_
          refine r_iconst (v := 1) C dX12_readAtom_100 (by decide) ?_
          refine r_isub C dX12_readAtom_101 ?_
          obtain ⟨h51, eh51, hf⟩ := lt_of hf
          refine p_X12_200 C eh51 dX12_readAtom_102 ?_
          refine r_aload_n (i := 0) C dX12_readAtom_105 rfl 0 rfl ?_
          refine r_bipush (v := 12) C dX12_readAtom_106 (by decide) ?_
          refine r_iconst (v := 0) C dX12_readAtom_108 (by decide) ?_
          obtain ⟨h52, e53, hf⟩ := cl_of hf
          refine r_callVv (As := [.int (12 : Int32), .int (0 : Int32)]) (st := []) C 208 rfl (by decide) rfl (kX12_emits (xG X) e53) cw_X12_180 rfl rfl (Nat.le_of_ble_eq_true rfl) (zs2 hR (by omega) (by omega)) (zrcs hcs) dX12_readAtom_109 ?_
          refine r_iconst (v := 1) C dX12_readAtom_112 (by decide) ?_
          have zz : (1 : Int32) = 0 ∨ (1 : Int32) = 1 := (Or.inr rfl)
          cases hf
          exact r_zret C zz hF dX12_readAtom_113
        · rw [if_pos c50] at hf
          refine r_iconst (v := 0) C dX12_readAtom_93 (by decide) ?_
          have zz : (0 : Int32) = 0 ∨ (0 : Int32) = 1 := (Or.inl rfl)
          cases hf
          exact r_zret C zz hF dX12_readAtom_94
      · rw [if_pos c45] at hf
        refine r_iconst (v := 0) C dX12_readAtom_74 (by decide) ?_
        have zz : (0 : Int32) = 0 ∨ (0 : Int32) = 1 := (Or.inl rfl)
        cases hf
        exact r_zret C zz hF dX12_readAtom_75
  · rw [if_neg c4] at hf
    refine r_aload_n (i := 0) C dX12_readAtom_9 rfl 0 rfl ?_
    refine g_X12_200 C dX12_readAtom_10 ?_
    refine r_bipush (v := 6) C dX12_readAtom_13 (by decide) ?_
    refine r_icmp_ne C 20 dX12_readAtom_15 (by decide) (fun c54 => ?_) (fun c54 => ?_)
    · rw [if_neg c54] at hf
      refine r_aload_n (i := 0) C dX12_readAtom_20 rfl 0 rfl ?_
      refine r_dup C dX12_readAtom_21 rfl ?_
      refine g_X12_200 C dX12_readAtom_22 ?_
      refine r_iconst (v := 1) C dX12_readAtom_25 (by decide) ?_
      refine r_iadd C dX12_readAtom_26 ?_
      obtain ⟨h55, eh55, hf⟩ := lt_of hf
      refine p_X12_200 C eh55 dX12_readAtom_27 ?_
      refine r_aload_n (i := 0) C dX12_readAtom_30 rfl 0 rfl ?_
      obtain ⟨x58, h56, e57, hf⟩ := cl2_of hf
      refine r_callVi (As := []) (st := []) C 208 rfl (by decide) rfl (hs0 e57) cw_X12_203 rfl rfl (Nat.le_of_ble_eq_true rfl) (zs2 hR (by omega) (by omega)) (zrcs hcs) dX12_readAtom_31 ?_
      refine r_if_ne C 39 dX12_readAtom_34 (by decide) (fun c59 => ?_) (fun c59 => ?_)
      · rw [if_neg c59] at hf
        refine r_aload_n (i := 0) C dX12_readAtom_39 rfl 0 rfl ?_
        refine r_dup C dX12_readAtom_40 rfl ?_
        refine g_X12_200 C dX12_readAtom_41 ?_
        refine r_iconst (v := 1) C dX12_readAtom_44 (by decide) ?_
        refine r_isub C dX12_readAtom_45 ?_
        obtain ⟨h60, eh60, hf⟩ := lt_of hf
        refine p_X12_200 C eh60 dX12_readAtom_46 ?_
        refine r_aload_n (i := 0) C dX12_readAtom_49 rfl 0 rfl ?_
        refine r_bipush (v := 41) C dX12_readAtom_50 (by decide) ?_
        obtain ⟨x63, h61, e62, hf⟩ := cl2_of hf
        refine r_callVi (As := [.int (41 : Int32)]) (st := []) C 208 rfl (by decide) rfl (kX12_sign (xG X) e62) cw_X12_193 rfl rfl (Nat.le_of_ble_eq_true rfl) (zs2 hR (by omega) (by omega)) (zrcs hcs) dX12_readAtom_52 ?_
        obtain ⟨zz, hf⟩ := gd_of hf
        cases hf
        exact r_zret C zz hF dX12_readAtom_55
      · rw [if_pos c59] at hf
        refine r_iconst (v := 0) C dX12_readAtom_37 (by decide) ?_
        have zz : (0 : Int32) = 0 ∨ (0 : Int32) = 1 := (Or.inl rfl)
        cases hf
        exact r_zret C zz hF dX12_readAtom_38
    · rw [if_pos c54] at hf
      refine r_iconst (v := 0) C dX12_readAtom_18 (by decide) ?_
      have zz : (0 : Int32) = 0 ∨ (0 : Int32) = 1 := (Or.inl rfl)
      cases hf
      exact r_zret C zz hF dX12_readAtom_19
def grp_X12_readCond : Nat → Nat → Hp → Option (Int32 × Hp)
  | 0, _, _ => none
  | d + 1, lab, h => if lab = 0 then F9X12_readCond h (grp_X12_readCond d)  else if lab = 1 then F9X12_readAllOf h (grp_X12_readCond d)  else if lab = 2 then F9X12_readAtom h (grp_X12_readCond d)  else none
set_option maxHeartbeats 4000000 in
set_option maxRecDepth 100000 in
theorem kgrp_X12_readCond (G : Gx) : ∀ d : Nat, (∀  {h : Hp}  {rr : Int32} {hh : Hp}, grp_X12_readCond d 0 h = some (rr, hh) → MC G yX12_readCond cX12_readCond 1 (some .boolean) (20 + d) (1280 + 64 * d) h [.ref (gad G 208)] (some (.int rr)) hh) ∧ (∀  {h : Hp}  {rr : Int32} {hh : Hp}, grp_X12_readCond d 1 h = some (rr, hh) → MC G yX12_readAllOf cX12_readAllOf 1 (some .boolean) (20 + d) (1280 + 64 * d) h [.ref (gad G 208)] (some (.int rr)) hh) ∧ (∀  {h : Hp}  {rr : Int32} {hh : Hp}, grp_X12_readCond d 2 h = some (rr, hh) → MC G yX12_readAtom cX12_readAtom 2 (some .boolean) (20 + d) (1280 + 64 * d) h [.ref (gad G 208)] (some (.int rr)) hh) := by
  intro d
  induction d with
  | zero => exact ⟨(fun hf => by rw [grp_X12_readCond] at hf; cases hf), (fun hf => by rw [grp_X12_readCond] at hf; cases hf), (fun hf => by rw [grp_X12_readCond] at hf; cases hf)⟩
  | succ d ih =>
    refine ⟨?_, ?_, ?_⟩
    · intro h rr hh hf
      rw [grp_X12_readCond, if_pos rfl] at hf
      exact g9X12_readCond G (fs := 20 + d) (ls := 1280 + 64 * d) ⟨by omega, by omega⟩ (ih.1) (ih.2.1) (ih.2.2)  hf
    · intro h rr hh hf
      rw [grp_X12_readCond, if_neg (by decide), if_pos rfl] at hf
      exact g9X12_readAllOf G (fs := 20 + d) (ls := 1280 + 64 * d) ⟨by omega, by omega⟩ (ih.1) (ih.2.1) (ih.2.2)  hf
    · intro h rr hh hf
      rw [grp_X12_readCond, if_neg (by decide), if_neg (by decide), if_pos rfl] at hf
      exact g9X12_readAtom G (fs := 20 + d) (ls := 1280 + 64 * d) ⟨by omega, by omega⟩ (ih.1) (ih.2.1) (ih.2.2)  hf
def fX12_readCond (h : Hp) : Option (Int32 × Hp) := grp_X12_readCond 64 0 h
theorem kX12_readCond (G : Gx)  {h : Hp}  {rr : Int32} {hh : Hp} (hf : fX12_readCond h = some (rr, hh)) : MC G yX12_readCond cX12_readCond 1 (some .boolean) 84 5376 h [.ref (gad G 208)] (some (.int rr)) hh := (kgrp_X12_readCond G 64).1  hf
def fX12_readAllOf (h : Hp) : Option (Int32 × Hp) := grp_X12_readCond 64 1 h
theorem kX12_readAllOf (G : Gx)  {h : Hp}  {rr : Int32} {hh : Hp} (hf : fX12_readAllOf h = some (rr, hh)) : MC G yX12_readAllOf cX12_readAllOf 1 (some .boolean) 84 5376 h [.ref (gad G 208)] (some (.int rr)) hh := (kgrp_X12_readCond G 64).2.1  hf
def fX12_readAtom (h : Hp) : Option (Int32 × Hp) := grp_X12_readCond 64 2 h
theorem kX12_readAtom (G : Gx)  {h : Hp}  {rr : Int32} {hh : Hp} (hf : fX12_readAtom h = some (rr, hh)) : MC G yX12_readAtom cX12_readAtom 2 (some .boolean) 84 5376 h [.ref (gad G 208)] (some (.int rr)) hh := (kgrp_X12_readCond G 64).2.2  hf
def fX1_gap (h : Hp) (a1 : Int32) (a2 : Int32) : Option (Int32) := cl9 (fX11_distance h (a1 &&& (((1 : Int32) <<< (a2 &&& 31)) ^^^ (-1 : Int32))) a2) (fun x1 => some x1)
set_option maxHeartbeats 4000000 in
set_option maxRecDepth 100000 in
theorem kX1_gap (G : Gx)  {h : Hp} {a1 : Int32} {a2 : Int32} {rr : Int32} (hf : fX1_gap h a1 a2 = some rr) : MC G yX1_gap cX1_gap 2 (some .int) 2 128 h [.int a1, .int a2] (some (.int rr)) h := by
  refine MC.of RX1 (by decide) rfl (Nat.le_of_ble_eq_true rfl) rfl (fun X C hG hR hF => ?_)
  subst hG
  have hcs : True := trivial
  unfold fX1_gap at hf
  refine r_iload_n (i := 0) C dX1_gap_0 rfl 0 rfl ?_
  refine r_iconst (v := 1) C dX1_gap_1 (by decide) ?_
  refine r_iload_n (i := 1) C dX1_gap_2 rfl 1 rfl ?_
  refine r_ishl C dX1_gap_3 ?_
  refine r_iconst (v := (-1)) C dX1_gap_4 (by decide) ?_
  refine r_ixor C dX1_gap_5 ?_
  refine r_iand C dX1_gap_6 ?_
  refine r_iload_n (i := 1) C dX1_gap_7 rfl 1 rfl ?_
  obtain ⟨x1, e2, hf⟩ := cl_of hf
  refine r_callNSi (As := [.int (a1 &&& (((1 : Int32) <<< (a2 &&& 31)) ^^^ (-1 : Int32))), .int a2]) (st := []) C (kX11_distance (xG X) e2) cw_X1_49 rfl rfl (Nat.le_of_ble_eq_true rfl) (zr2 hR rfl rfl) (zrcs hcs) dX1_gap_8 ?_
  cases hf
  exact r_iret C hF dX1_gap_11
def fX1_startOver (h : Hp) : Option (Hp) := cl9 (fJ_fill h 4 16 (0 : Int32)) (fun h1 => cl9 (fJ_fill h1 5 16 (0 : Int32)) (fun h3 => some h3))
set_option maxHeartbeats 4000000 in
set_option maxRecDepth 100000 in
theorem kX1_startOver (G : Gx)  {h : Hp}  {hh : Hp} (hf : fX1_startOver h = some hh) : MC G yX1_startOver cX1_startOver 1 none 2 128 h [.ref (gad G 3)] none hh := by
  refine MC.of RX1 (by decide) rfl (Nat.le_of_ble_eq_true rfl) rfl (fun X C hG hR hF => ?_)
  subst hG
  have hcs : True := trivial
  unfold fX1_startOver at hf
  refine r_aload_n (i := 0) C dX1_startOver_0 rfl 0 rfl ?_
  refine g_X1_18 C dX1_startOver_1 ?_
  refine r_iconst (v := 0) C dX1_startOver_4 (by decide) ?_
  obtain ⟨h1, e2, hf⟩ := cl_of hf
  refine r_callSv (As := [.ref (gad (xG X) 4), .int (0 : Int32)]) (st := []) C (kJ_fill (xG X) rfl (by decide) e2) cw_X1_52 rfl rfl (Nat.le_of_ble_eq_true rfl) (zr2 hR rfl rfl) (zrcs hcs) dX1_startOver_5 ?_
  refine r_aload_n (i := 0) C dX1_startOver_8 rfl 0 rfl ?_
  refine g_X1_22 C dX1_startOver_9 ?_
  refine r_iconst (v := 0) C dX1_startOver_12 (by decide) ?_
  obtain ⟨h3, e4, hf⟩ := cl_of hf
  refine r_callSv (As := [.ref (gad (xG X) 5), .int (0 : Int32)]) (st := []) C (kJ_fill (xG X) rfl (by decide) e4) cw_X1_52 rfl rfl (Nat.le_of_ble_eq_true rfl) (zr2 hR rfl rfl) (zrcs hcs) dX1_startOver_13 ?_
  cases hf
  exact r_vret C hF dX1_startOver_16
def BX2_lineHolds_0 (h : Hp) (b : Nat) (b2 : Nat) (rec : Int32 → Int32 → Int32 → Int32 → Int32 → Int32 → Int32 → Int32 → Option (Int32)) (y1 : Int32) (y3 : Int32) (y4 : Int32) (y5 : Int32) (y6 : Int32) (y7 : Int32) (y8 : Int32) (y9 : Int32) : Option (Int32) := gd (inb y1 12) ((if (h (b + 3) y1.toNatClampNeg) ≤ y9 then (if (y6 &&& (1 : Int32)) = (0 : Int32) then some (0 : Int32) else some (1 : Int32)) else gd (inb y9 400) ((if (h (b + 4) y9.toNatClampNeg) < (0 : Int32) then (if (h (b + 4) y9.toNatClampNeg) < (-7 : Int32) then (if (h (b + 4) y9.toNatClampNeg) = (-8 : Int32) then lt9 (y9 + (1 : Int32)) (fun x52 => rec y1 y3 y4 y5 y6 y8 (0 : Int32) x52) else (if (h (b + 4) y9.toNatClampNeg) = (-9 : Int32) then cl9 ((if (h (b + 4) y9.toNatClampNeg) = (-9 : Int32) then (if y8 ≤ y7 then some (0 : Int32) else some (1 : Int32)) else (if y7 ≤ y8 then some (0 : Int32) else some (1 : Int32))) : Option (Int32)) (fun v9 => lt9 ((y6 <<< ((1 : Int32) &&& 31)) ||| v9) (fun x15 => lt9 (y9 + (1 : Int32)) (fun x16 => rec y1 y3 y4 y5 x15 y7 (0 : Int32) x16))) else (if (h (b + 4) y9.toNatClampNeg) = (-10 : Int32) then cl9 ((if (h (b + 4) y9.toNatClampNeg) = (-9 : Int32) then (if y8 ≤ y7 then some (0 : Int32) else some (1 : Int32)) else (if y7 ≤ y8 then some (0 : Int32) else some (1 : Int32))) : Option (Int32)) (fun v44 => lt9 ((y6 <<< ((1 : Int32) &&& 31)) ||| v44) (fun x50 => lt9 (y9 + (1 : Int32)) (fun x51 => rec y1 y3 y4 y5 x50 y7 (0 : Int32) x51))) else (if (h (b + 4) y9.toNatClampNeg) = (-11 : Int32) then (if (h (b + 4) y9.toNatClampNeg) = (-11 : Int32) then (if y5 = (0 : Int32) then lt9 ((y6 <<< ((1 : Int32) &&& 31)) ||| (0 : Int32)) (fun x26 => lt9 (y9 + (1 : Int32)) (fun x27 => rec y1 y3 y4 y5 x26 y7 y8 x27)) else lt9 ((y6 <<< ((1 : Int32) &&& 31)) ||| (1 : Int32)) (fun x28 => lt9 (y9 + (1 : Int32)) (fun x29 => rec y1 y3 y4 y5 x28 y7 y8 x29))) else (if ((ushr (h b2 4) y3) &&& (1 : Int32)) = (0 : Int32) then lt9 ((y6 <<< ((1 : Int32) &&& 31)) ||| (1 : Int32)) (fun x23 => lt9 (y9 + (1 : Int32)) (fun x24 => rec y1 y3 y4 y5 x23 y7 y8 x24)) else lt9 ((y6 <<< ((1 : Int32) &&& 31)) ||| (0 : Int32)) (fun x21 => lt9 (y9 + (1 : Int32)) (fun x22 => rec y1 y3 y4 y5 x21 y7 y8 x22)))) else (if (h (b + 4) y9.toNatClampNeg) = (-12 : Int32) then (if (h (b + 4) y9.toNatClampNeg) = (-11 : Int32) then (if y5 = (0 : Int32) then lt9 ((y6 <<< ((1 : Int32) &&& 31)) ||| (0 : Int32)) (fun x40 => lt9 (y9 + (1 : Int32)) (fun x41 => rec y1 y3 y4 y5 x40 y7 y8 x41)) else lt9 ((y6 <<< ((1 : Int32) &&& 31)) ||| (1 : Int32)) (fun x42 => lt9 (y9 + (1 : Int32)) (fun x43 => rec y1 y3 y4 y5 x42 y7 y8 x43))) else (if ((ushr (h b2 4) y3) &&& (1 : Int32)) = (0 : Int32) then lt9 ((y6 <<< ((1 : Int32) &&& 31)) ||| (1 : Int32)) (fun x37 => lt9 (y9 + (1 : Int32)) (fun x38 => rec y1 y3 y4 y5 x37 y7 y8 x38)) else lt9 ((y6 <<< ((1 : Int32) &&& 31)) ||| (0 : Int32)) (fun x35 => lt9 (y9 + (1 : Int32)) (fun x36 => rec y1 y3 y4 y5 x35 y7 y8 x36)))) else lt9 (fX2_joined (h (b + 4) y9.toNatClampNeg) y6) (fun x31 => lt9 (y9 + (1 : Int32)) (fun x32 => rec y1 y3 y4 y5 x31 y7 y8 x32))))))) else cl9 (fX2_partOf h b2 (h (b + 4) y9.toNatClampNeg) y3 y4) (fun x53 => lt9 (y8 + x53) (fun x55 => lt9 (y9 + (1 : Int32)) (fun x56 => rec y1 y3 y4 y5 y6 y7 x55 x56)))) else lt9 (y8 + (h (b + 4) y9.toNatClampNeg)) (fun x57 => lt9 (y9 + (1 : Int32)) (fun x58 => rec y1 y3 y4 y5 y6 y7 x57 x58))))))
def LX2_lineHolds (h : Hp) (b : Nat) (b2 : Nat) : Nat → Int32 → Int32 → Int32 → Int32 → Int32 → Int32 → Int32 → Int32 → Option (Int32)
  | 0, _, _, _, _, _, _, _, _ => none
  | n + 1, y1, y3, y4, y5, y6, y7, y8, y9 => BX2_lineHolds_0 h b b2 (LX2_lineHolds h b b2 n) y1 y3 y4 y5 y6 y7 y8 y9
def fX2_lineHolds (h : Hp) (b : Nat) (b2 : Nat) (a1 : Int32) (a2 : Int32) (a3 : Int32) (a4 : Int32) : Option (Int32) := (if a1 = (0 : Int32) then LX2_lineHolds h b b2 big a1 a2 a3 a4 (1 : Int32) (0 : Int32) (0 : Int32) (0 : Int32) else gd (inb (a1 - (1 : Int32)) 12) (LX2_lineHolds h b b2 big a1 a2 a3 a4 (1 : Int32) (0 : Int32) (0 : Int32) (h (b + 3) (a1 - (1 : Int32)).toNatClampNeg)))
set_option maxHeartbeats 4000000 in
set_option maxRecDepth 100000 in
theorem wX2_lineHolds {X : Cx} {h : Hp} {b : Nat} (hb : isLaw b) {b2 : Nat} (hb2 : isSky b2) {rr : Int32} (C : OK X cX2_lineHolds 11 RX2 (some .boolean)) (hR : xR X = { frames := 2, cells := 0, slots := 0, locals := 128 }) (hcs : True) (hF : FinR X (some (.int rr)) h) : ∀ n : Nat, (∀ (y1 : Int32) (y3 : Int32) (y4 : Int32) (y5 : Int32) (y6 : Int32) (y7 : Int32) (y8 : Int32) (y9 : Int32), LX2_lineHolds h b b2 n y1 y3 y4 y5 y6 y7 y8 y9 = some rr → VW X 11 h 0 0 27 [(0, .ref (gad (xG X) b)), (1, .int y1), (2, .ref (gad (xG X) b2)), (3, .int y3), (4, .int y4), (5, .int y5), (6, .int y6), (7, .int y7), (8, .int y8), (9, .int y9)] []) := by
  intro n
  induction n with
  | zero => exact (fun _ _ _ _ _ _ _ _ hf => (by rw [LX2_lineHolds] at hf; cases hf))
  | succ n ih =>
    intro y1 y3 y4 y5 y6 y7 y8 y9 hf
    rw [LX2_lineHolds] at hf
    unfold BX2_lineHolds_0 at hf
    refine r_iload (i := 9) C dX2_lineHolds_27 9 rfl ?_
    refine r_aload_n (i := 0) C dX2_lineHolds_29 rfl 0 rfl ?_
    refine g_X2_22 hb C dX2_lineHolds_30 ?_
    refine r_iload_n (i := 1) C dX2_lineHolds_33 rfl 1 rfl ?_
    obtain ⟨g1, hf⟩ := gd_of hf
    refine r_iald C (b + 3) (law_dsc hb 3 (by decide)) (law_lt hb 3 (by decide)) g1 dX2_lineHolds_34 ?_
    refine r_icmp_ge C 229 dX2_lineHolds_35 (by decide) (fun c2 => ?_) (fun c2 => ?_)
    · rw [if_pos c2] at hf
      refine r_iload (i := 6) C dX2_lineHolds_229 6 rfl ?_
      refine r_iconst (v := 1) C dX2_lineHolds_231 (by decide) ?_
      refine r_iand C dX2_lineHolds_232 ?_
      refine r_if_eq C 240 dX2_lineHolds_233 (by decide) (fun c3 => ?_) (fun c3 => ?_)
      · rw [if_pos c3] at hf
        refine r_iconst (v := 0) C dX2_lineHolds_240 (by decide) ?_
        have zz : (0 : Int32) = 0 ∨ (0 : Int32) = 1 := (Or.inl rfl)
        cases hf
        exact r_zret C zz hF dX2_lineHolds_241
      · rw [if_neg c3] at hf
        refine r_iconst (v := 1) C dX2_lineHolds_236 (by decide) ?_
        refine r_goto C 241 dX2_lineHolds_237 (by decide) ?_
        have zz : (1 : Int32) = 0 ∨ (1 : Int32) = 1 := (Or.inr rfl)
        cases hf
        exact r_zret C zz hF dX2_lineHolds_241
    · rw [if_neg c2] at hf
      refine r_aload_n (i := 0) C dX2_lineHolds_38 rfl 0 rfl ?_
      refine g_X2_27 hb C dX2_lineHolds_39 ?_
      refine r_iload (i := 9) C dX2_lineHolds_42 9 rfl ?_
      obtain ⟨g4, hf⟩ := gd_of hf
      refine r_iald C (b + 4) (law_dsc hb 4 (by decide)) (law_lt hb 4 (by decide)) g4 dX2_lineHolds_44 ?_
      refine r_istore (i := 10) (lv' := [(0, .ref (gad (xG X) b)), (1, .int y1), (2, .ref (gad (xG X) b2)), (3, .int y3), (4, .int y4), (5, .int y5), (6, .int y6), (7, .int y7), (8, .int y8), (9, .int y9), (10, .int (h (b + 4) y9.toNatClampNeg))]) C dX2_lineHolds_45 (by decide) [1, 2, 3, 4, 5, 6, 7, 8, 9, 10, 0] rfl ?_
      refine r_iload (i := 10) C dX2_lineHolds_47 10 rfl ?_
      refine r_if_lt C 62 dX2_lineHolds_49 (by decide) (fun c5 => ?_) (fun c5 => ?_)
      · rw [if_pos c5] at hf
        refine r_iload (i := 10) C dX2_lineHolds_62 10 rfl ?_
        refine r_bipush (v := (-7)) C dX2_lineHolds_64 (by decide) ?_
        refine r_icmp_lt C 86 dX2_lineHolds_66 (by decide) (fun c6 => ?_) (fun c6 => ?_)
        · rw [if_pos c6] at hf
          refine r_iload (i := 10) C dX2_lineHolds_86 10 rfl ?_
          refine r_bipush (v := (-8)) C dX2_lineHolds_88 (by decide) ?_
          refine r_icmp_ne C 103 dX2_lineHolds_90 (by decide) (fun c7 => ?_) (fun c7 => ?_)
          · rw [if_neg c7] at hf
            refine r_iload (i := 10) C dX2_lineHolds_103 10 rfl ?_
            refine r_bipush (v := (-9)) C dX2_lineHolds_105 (by decide) ?_
            refine r_icmp_eq C 117 dX2_lineHolds_107 (by decide) (fun c8 => ?_) (fun c8 => ?_)
            · rw [if_pos c8] at hf
              refine r_iload (i := 6) C dX2_lineHolds_117 6 rfl ?_
              refine r_iconst (v := 1) C dX2_lineHolds_119 (by decide) ?_
              refine r_ishl C dX2_lineHolds_120 ?_
              refine r_iload (i := 10) C dX2_lineHolds_121 10 rfl ?_
              refine r_bipush (v := (-9)) C dX2_lineHolds_123 (by decide) ?_
              obtain ⟨v9, r11, hf⟩ := cl_of hf
              have k10 : VW X 11 h 0 0 150 [(0, .ref (gad (xG X) b)), (1, .int y1), (2, .ref (gad (xG X) b2)), (3, .int y3), (4, .int y4), (5, .int y5), (7, .int y7), (9, .int y9)] [.int v9, .int (y6 <<< ((1 : Int32) &&& 31))] := by
                refine r_ior C dX2_lineHolds_150 ?_
                obtain ⟨x15, ex15, hf⟩ := lt_of hf
                refine r_top ex15 ?_
                refine r_istore (i := 6) (lv' := [(0, .ref (gad (xG X) b)), (1, .int y1), (2, .ref (gad (xG X) b2)), (3, .int y3), (4, .int y4), (5, .int y5), (6, .int x15), (7, .int y7), (9, .int y9)]) C dX2_lineHolds_151 (by decide) [1, 2, 3, 4, 5, 6, 0, 7, 8] rfl ?_
                refine r_iconst (v := 0) C dX2_lineHolds_153 (by decide) ?_
                refine r_istore (i := 8) (lv' := [(0, .ref (gad (xG X) b)), (1, .int y1), (2, .ref (gad (xG X) b2)), (3, .int y3), (4, .int y4), (5, .int y5), (6, .int x15), (7, .int y7), (8, .int (0 : Int32)), (9, .int y9)]) C dX2_lineHolds_154 (by decide) [1, 2, 3, 4, 5, 6, 7, 8, 0, 9] rfl ?_
                refine r_goto C 223 dX2_lineHolds_156 (by decide) ?_
                obtain ⟨x16, ex16, hf⟩ := lt_of hf
                refine r_iinc (j := 9) (v := x16) (lv' := [(0, .ref (gad (xG X) b)), (1, .int y1), (2, .ref (gad (xG X) b2)), (3, .int y3), (4, .int y4), (5, .int y5), (6, .int x15), (7, .int y7), (8, .int (0 : Int32)), (9, .int x16)]) C dX2_lineHolds_223 rfl (by rw [ex16]; rfl) (by decide) [1, 2, 3, 4, 5, 6, 7, 8, 9, 0] rfl ?_
                refine r_goto C 27 dX2_lineHolds_226 (by decide) ?_
                exact r_lv [0, 1, 2, 3, 4, 5, 6, 7, 8, 9] rfl (ih _ _ _ _ _ _ _ _ hf)
              clear hf
              have hf := r11
              refine r_icmp_ne C 138 dX2_lineHolds_125 (by decide) (fun c12 => ?_) (fun c12 => ?_)
              · rw [if_neg c12] at hf
                refine r_iload (i := 7) C dX2_lineHolds_138 7 rfl ?_
                refine r_iload (i := 8) C dX2_lineHolds_140 8 rfl ?_
                refine r_icmp_le C 149 dX2_lineHolds_142 (by decide) (fun c13 => ?_) (fun c13 => ?_)
                · rw [if_pos c13] at hf
                  refine r_iconst (v := 0) C dX2_lineHolds_149 (by decide) ?_
                  cases hf
                  exact r_lv [0, 1, 2, 3, 4, 5, 7, 9] rfl k10
                · rw [if_neg c13] at hf
                  refine r_iconst (v := 1) C dX2_lineHolds_145 (by decide) ?_
                  refine r_goto C 150 dX2_lineHolds_146 (by decide) ?_
                  cases hf
                  exact r_lv [0, 1, 2, 3, 4, 5, 7, 9] rfl k10
              · rw [if_pos c12] at hf
                refine r_iload (i := 7) C dX2_lineHolds_128 7 rfl ?_
                refine r_iload (i := 8) C dX2_lineHolds_130 8 rfl ?_
                refine r_icmp_ge C 149 dX2_lineHolds_132 (by decide) (fun c14 => ?_) (fun c14 => ?_)
                · rw [if_pos c14] at hf
                  refine r_iconst (v := 0) C dX2_lineHolds_149 (by decide) ?_
                  cases hf
                  exact r_lv [0, 1, 2, 3, 4, 5, 7, 9] rfl k10
                · rw [if_neg c14] at hf
                  refine r_goto C 145 dX2_lineHolds_135 (by decide) ?_
                  refine r_iconst (v := 1) C dX2_lineHolds_145 (by decide) ?_
                  refine r_goto C 150 dX2_lineHolds_146 (by decide) ?_
                  cases hf
                  exact r_lv [0, 1, 2, 3, 4, 5, 7, 9] rfl k10
            · rw [if_neg c8] at hf
              refine r_iload (i := 10) C dX2_lineHolds_110 10 rfl ?_
              refine r_bipush (v := (-10)) C dX2_lineHolds_112 (by decide) ?_
              refine r_icmp_ne C 159 dX2_lineHolds_114 (by decide) (fun c17 => ?_) (fun c17 => ?_)
              · rw [if_neg c17] at hf
                refine r_iload (i := 10) C dX2_lineHolds_159 10 rfl ?_
                refine r_bipush (v := (-11)) C dX2_lineHolds_161 (by decide) ?_
                refine r_icmp_eq C 173 dX2_lineHolds_163 (by decide) (fun c18 => ?_) (fun c18 => ?_)
                · rw [if_pos c18] at hf
                  refine r_iload (i := 6) C dX2_lineHolds_173 6 rfl ?_
                  refine r_iconst (v := 1) C dX2_lineHolds_175 (by decide) ?_
                  refine r_ishl C dX2_lineHolds_176 ?_
                  refine r_iload (i := 10) C dX2_lineHolds_177 10 rfl ?_
                  refine r_bipush (v := (-11)) C dX2_lineHolds_179 (by decide) ?_
                  refine r_icmp_ne C 192 dX2_lineHolds_181 (by decide) (fun c19 => ?_) (fun c19 => ?_)
                  · rw [if_neg c19] at hf
                    refine r_aload_n (i := 2) C dX2_lineHolds_192 rfl 2 rfl ?_
                    refine g_X2_47 hb2 C dX2_lineHolds_193 ?_
                    refine r_iload_n (i := 3) C dX2_lineHolds_196 rfl 3 rfl ?_
                    refine r_iushr C dX2_lineHolds_197 ?_
                    refine r_iconst (v := 1) C dX2_lineHolds_198 (by decide) ?_
                    refine r_iand C dX2_lineHolds_199 ?_
                    refine r_if_ne C 207 dX2_lineHolds_200 (by decide) (fun c20 => ?_) (fun c20 => ?_)
                    · rw [if_neg c20] at hf
                      refine r_iconst (v := 0) C dX2_lineHolds_207 (by decide) ?_
                      refine r_ior C dX2_lineHolds_208 ?_
                      obtain ⟨x21, ex21, hf⟩ := lt_of hf
                      refine r_top ex21 ?_
                      refine r_istore (i := 6) (lv' := [(0, .ref (gad (xG X) b)), (1, .int y1), (2, .ref (gad (xG X) b2)), (3, .int y3), (4, .int y4), (5, .int y5), (6, .int x21), (7, .int y7), (8, .int y8), (9, .int y9), (10, .int (h (b + 4) y9.toNatClampNeg))]) C dX2_lineHolds_209 (by decide) [1, 2, 3, 4, 5, 6, 0, 7, 8, 9, 10] rfl ?_
                      refine r_goto C 223 dX2_lineHolds_211 (by decide) ?_
                      obtain ⟨x22, ex22, hf⟩ := lt_of hf
                      refine r_iinc (j := 9) (v := x22) (lv' := [(0, .ref (gad (xG X) b)), (1, .int y1), (2, .ref (gad (xG X) b2)), (3, .int y3), (4, .int y4), (5, .int y5), (6, .int x21), (7, .int y7), (8, .int y8), (9, .int x22), (10, .int (h (b + 4) y9.toNatClampNeg))]) C dX2_lineHolds_223 rfl (by rw [ex22]; rfl) (by decide) [1, 2, 3, 4, 5, 6, 7, 8, 9, 0, 10] rfl ?_
                      refine r_goto C 27 dX2_lineHolds_226 (by decide) ?_
                      exact r_lv [0, 1, 2, 3, 4, 5, 6, 7, 8, 9] rfl (ih _ _ _ _ _ _ _ _ hf)
                    · rw [if_pos c20] at hf
                      refine r_iconst (v := 1) C dX2_lineHolds_203 (by decide) ?_
                      refine r_goto C 208 dX2_lineHolds_204 (by decide) ?_
                      refine r_ior C dX2_lineHolds_208 ?_
                      obtain ⟨x23, ex23, hf⟩ := lt_of hf
                      refine r_top ex23 ?_
                      refine r_istore (i := 6) (lv' := [(0, .ref (gad (xG X) b)), (1, .int y1), (2, .ref (gad (xG X) b2)), (3, .int y3), (4, .int y4), (5, .int y5), (6, .int x23), (7, .int y7), (8, .int y8), (9, .int y9), (10, .int (h (b + 4) y9.toNatClampNeg))]) C dX2_lineHolds_209 (by decide) [1, 2, 3, 4, 5, 6, 0, 7, 8, 9, 10] rfl ?_
                      refine r_goto C 223 dX2_lineHolds_211 (by decide) ?_
                      obtain ⟨x24, ex24, hf⟩ := lt_of hf
                      refine r_iinc (j := 9) (v := x24) (lv' := [(0, .ref (gad (xG X) b)), (1, .int y1), (2, .ref (gad (xG X) b2)), (3, .int y3), (4, .int y4), (5, .int y5), (6, .int x23), (7, .int y7), (8, .int y8), (9, .int x24), (10, .int (h (b + 4) y9.toNatClampNeg))]) C dX2_lineHolds_223 rfl (by rw [ex24]; rfl) (by decide) [1, 2, 3, 4, 5, 6, 7, 8, 9, 0, 10] rfl ?_
                      refine r_goto C 27 dX2_lineHolds_226 (by decide) ?_
                      exact r_lv [0, 1, 2, 3, 4, 5, 6, 7, 8, 9] rfl (ih _ _ _ _ _ _ _ _ hf)
                  · rw [if_pos c19] at hf
                    refine r_iload (i := 5) C dX2_lineHolds_184 5 rfl ?_
                    refine r_if_eq C 207 dX2_lineHolds_186 (by decide) (fun c25 => ?_) (fun c25 => ?_)
                    · rw [if_pos c25] at hf
                      refine r_iconst (v := 0) C dX2_lineHolds_207 (by decide) ?_
                      refine r_ior C dX2_lineHolds_208 ?_
                      obtain ⟨x26, ex26, hf⟩ := lt_of hf
                      refine r_top ex26 ?_
                      refine r_istore (i := 6) (lv' := [(0, .ref (gad (xG X) b)), (1, .int y1), (2, .ref (gad (xG X) b2)), (3, .int y3), (4, .int y4), (5, .int y5), (6, .int x26), (7, .int y7), (8, .int y8), (9, .int y9), (10, .int (h (b + 4) y9.toNatClampNeg))]) C dX2_lineHolds_209 (by decide) [1, 2, 3, 4, 5, 6, 0, 7, 8, 9, 10] rfl ?_
                      refine r_goto C 223 dX2_lineHolds_211 (by decide) ?_
                      obtain ⟨x27, ex27, hf⟩ := lt_of hf
                      refine r_iinc (j := 9) (v := x27) (lv' := [(0, .ref (gad (xG X) b)), (1, .int y1), (2, .ref (gad (xG X) b2)), (3, .int y3), (4, .int y4), (5, .int y5), (6, .int x26), (7, .int y7), (8, .int y8), (9, .int x27), (10, .int (h (b + 4) y9.toNatClampNeg))]) C dX2_lineHolds_223 rfl (by rw [ex27]; rfl) (by decide) [1, 2, 3, 4, 5, 6, 7, 8, 9, 0, 10] rfl ?_
                      refine r_goto C 27 dX2_lineHolds_226 (by decide) ?_
                      exact r_lv [0, 1, 2, 3, 4, 5, 6, 7, 8, 9] rfl (ih _ _ _ _ _ _ _ _ hf)
                    · rw [if_neg c25] at hf
                      refine r_goto C 203 dX2_lineHolds_189 (by decide) ?_
                      refine r_iconst (v := 1) C dX2_lineHolds_203 (by decide) ?_
                      refine r_goto C 208 dX2_lineHolds_204 (by decide) ?_
                      refine r_ior C dX2_lineHolds_208 ?_
                      obtain ⟨x28, ex28, hf⟩ := lt_of hf
                      refine r_top ex28 ?_
                      refine r_istore (i := 6) (lv' := [(0, .ref (gad (xG X) b)), (1, .int y1), (2, .ref (gad (xG X) b2)), (3, .int y3), (4, .int y4), (5, .int y5), (6, .int x28), (7, .int y7), (8, .int y8), (9, .int y9), (10, .int (h (b + 4) y9.toNatClampNeg))]) C dX2_lineHolds_209 (by decide) [1, 2, 3, 4, 5, 6, 0, 7, 8, 9, 10] rfl ?_
                      refine r_goto C 223 dX2_lineHolds_211 (by decide) ?_
                      obtain ⟨x29, ex29, hf⟩ := lt_of hf
                      refine r_iinc (j := 9) (v := x29) (lv' := [(0, .ref (gad (xG X) b)), (1, .int y1), (2, .ref (gad (xG X) b2)), (3, .int y3), (4, .int y4), (5, .int y5), (6, .int x28), (7, .int y7), (8, .int y8), (9, .int x29), (10, .int (h (b + 4) y9.toNatClampNeg))]) C dX2_lineHolds_223 rfl (by rw [ex29]; rfl) (by decide) [1, 2, 3, 4, 5, 6, 7, 8, 9, 0, 10] rfl ?_
                      refine r_goto C 27 dX2_lineHolds_226 (by decide) ?_
                      exact r_lv [0, 1, 2, 3, 4, 5, 6, 7, 8, 9] rfl (ih _ _ _ _ _ _ _ _ hf)
                · rw [if_neg c18] at hf
                  refine r_iload (i := 10) C dX2_lineHolds_166 10 rfl ?_
                  refine r_bipush (v := (-12)) C dX2_lineHolds_168 (by decide) ?_
                  refine r_icmp_ne C 214 dX2_lineHolds_170 (by decide) (fun c30 => ?_) (fun c30 => ?_)
                  · rw [if_neg c30] at hf
                    refine r_iload (i := 10) C dX2_lineHolds_214 10 rfl ?_
                    refine r_iload (i := 6) C dX2_lineHolds_216 6 rfl ?_
                    refine r_callSi (As := [.int (h (b + 4) y9.toNatClampNeg), .int y6]) (st := []) C (kX2_joined (xG X)) cw_X2_52 rfl rfl (Nat.le_of_ble_eq_true rfl) (zr2 hR rfl rfl) (zrcs hcs) dX2_lineHolds_218 ?_
                    obtain ⟨x31, ex31, hf⟩ := lt_of hf
                    refine r_top ex31 ?_
                    refine r_istore (i := 6) (lv' := [(0, .ref (gad (xG X) b)), (1, .int y1), (2, .ref (gad (xG X) b2)), (3, .int y3), (4, .int y4), (5, .int y5), (6, .int x31), (7, .int y7), (8, .int y8), (9, .int y9), (10, .int (h (b + 4) y9.toNatClampNeg))]) C dX2_lineHolds_221 (by decide) [1, 2, 3, 4, 5, 6, 0, 7, 8, 9, 10] rfl ?_
                    obtain ⟨x32, ex32, hf⟩ := lt_of hf
                    refine r_iinc (j := 9) (v := x32) (lv' := [(0, .ref (gad (xG X) b)), (1, .int y1), (2, .ref (gad (xG X) b2)), (3, .int y3), (4, .int y4), (5, .int y5), (6, .int x31), (7, .int y7), (8, .int y8), (9, .int x32), (10, .int (h (b + 4) y9.toNatClampNeg))]) C dX2_lineHolds_223 rfl (by rw [ex32]; rfl) (by decide) [1, 2, 3, 4, 5, 6, 7, 8, 9, 0, 10] rfl ?_
                    refine r_goto C 27 dX2_lineHolds_226 (by decide) ?_
                    exact r_lv [0, 1, 2, 3, 4, 5, 6, 7, 8, 9] rfl (ih _ _ _ _ _ _ _ _ hf)
                  · rw [if_pos c30] at hf
                    refine r_iload (i := 6) C dX2_lineHolds_173 6 rfl ?_
                    refine r_iconst (v := 1) C dX2_lineHolds_175 (by decide) ?_
                    refine r_ishl C dX2_lineHolds_176 ?_
                    refine r_iload (i := 10) C dX2_lineHolds_177 10 rfl ?_
                    refine r_bipush (v := (-11)) C dX2_lineHolds_179 (by decide) ?_
                    refine r_icmp_ne C 192 dX2_lineHolds_181 (by decide) (fun c33 => ?_) (fun c33 => ?_)
                    · rw [if_neg c33] at hf
                      refine r_aload_n (i := 2) C dX2_lineHolds_192 rfl 2 rfl ?_
                      refine g_X2_47 hb2 C dX2_lineHolds_193 ?_
                      refine r_iload_n (i := 3) C dX2_lineHolds_196 rfl 3 rfl ?_
                      refine r_iushr C dX2_lineHolds_197 ?_
                      refine r_iconst (v := 1) C dX2_lineHolds_198 (by decide) ?_
                      refine r_iand C dX2_lineHolds_199 ?_
                      refine r_if_ne C 207 dX2_lineHolds_200 (by decide) (fun c34 => ?_) (fun c34 => ?_)
                      · rw [if_neg c34] at hf
                        refine r_iconst (v := 0) C dX2_lineHolds_207 (by decide) ?_
                        refine r_ior C dX2_lineHolds_208 ?_
                        obtain ⟨x35, ex35, hf⟩ := lt_of hf
                        refine r_top ex35 ?_
                        refine r_istore (i := 6) (lv' := [(0, .ref (gad (xG X) b)), (1, .int y1), (2, .ref (gad (xG X) b2)), (3, .int y3), (4, .int y4), (5, .int y5), (6, .int x35), (7, .int y7), (8, .int y8), (9, .int y9), (10, .int (h (b + 4) y9.toNatClampNeg))]) C dX2_lineHolds_209 (by decide) [1, 2, 3, 4, 5, 6, 0, 7, 8, 9, 10] rfl ?_
                        refine r_goto C 223 dX2_lineHolds_211 (by decide) ?_
                        obtain ⟨x36, ex36, hf⟩ := lt_of hf
                        refine r_iinc (j := 9) (v := x36) (lv' := [(0, .ref (gad (xG X) b)), (1, .int y1), (2, .ref (gad (xG X) b2)), (3, .int y3), (4, .int y4), (5, .int y5), (6, .int x35), (7, .int y7), (8, .int y8), (9, .int x36), (10, .int (h (b + 4) y9.toNatClampNeg))]) C dX2_lineHolds_223 rfl (by rw [ex36]; rfl) (by decide) [1, 2, 3, 4, 5, 6, 7, 8, 9, 0, 10] rfl ?_
                        refine r_goto C 27 dX2_lineHolds_226 (by decide) ?_
                        exact r_lv [0, 1, 2, 3, 4, 5, 6, 7, 8, 9] rfl (ih _ _ _ _ _ _ _ _ hf)
                      · rw [if_pos c34] at hf
                        refine r_iconst (v := 1) C dX2_lineHolds_203 (by decide) ?_
                        refine r_goto C 208 dX2_lineHolds_204 (by decide) ?_
                        refine r_ior C dX2_lineHolds_208 ?_
                        obtain ⟨x37, ex37, hf⟩ := lt_of hf
                        refine r_top ex37 ?_
                        refine r_istore (i := 6) (lv' := [(0, .ref (gad (xG X) b)), (1, .int y1), (2, .ref (gad (xG X) b2)), (3, .int y3), (4, .int y4), (5, .int y5), (6, .int x37), (7, .int y7), (8, .int y8), (9, .int y9), (10, .int (h (b + 4) y9.toNatClampNeg))]) C dX2_lineHolds_209 (by decide) [1, 2, 3, 4, 5, 6, 0, 7, 8, 9, 10] rfl ?_
                        refine r_goto C 223 dX2_lineHolds_211 (by decide) ?_
                        obtain ⟨x38, ex38, hf⟩ := lt_of hf
                        refine r_iinc (j := 9) (v := x38) (lv' := [(0, .ref (gad (xG X) b)), (1, .int y1), (2, .ref (gad (xG X) b2)), (3, .int y3), (4, .int y4), (5, .int y5), (6, .int x37), (7, .int y7), (8, .int y8), (9, .int x38), (10, .int (h (b + 4) y9.toNatClampNeg))]) C dX2_lineHolds_223 rfl (by rw [ex38]; rfl) (by decide) [1, 2, 3, 4, 5, 6, 7, 8, 9, 0, 10] rfl ?_
                        refine r_goto C 27 dX2_lineHolds_226 (by decide) ?_
                        exact r_lv [0, 1, 2, 3, 4, 5, 6, 7, 8, 9] rfl (ih _ _ _ _ _ _ _ _ hf)
                    · rw [if_pos c33] at hf
                      refine r_iload (i := 5) C dX2_lineHolds_184 5 rfl ?_
                      refine r_if_eq C 207 dX2_lineHolds_186 (by decide) (fun c39 => ?_) (fun c39 => ?_)
                      · rw [if_pos c39] at hf
                        refine r_iconst (v := 0) C dX2_lineHolds_207 (by decide) ?_
                        refine r_ior C dX2_lineHolds_208 ?_
                        obtain ⟨x40, ex40, hf⟩ := lt_of hf
                        refine r_top ex40 ?_
                        refine r_istore (i := 6) (lv' := [(0, .ref (gad (xG X) b)), (1, .int y1), (2, .ref (gad (xG X) b2)), (3, .int y3), (4, .int y4), (5, .int y5), (6, .int x40), (7, .int y7), (8, .int y8), (9, .int y9), (10, .int (h (b + 4) y9.toNatClampNeg))]) C dX2_lineHolds_209 (by decide) [1, 2, 3, 4, 5, 6, 0, 7, 8, 9, 10] rfl ?_
                        refine r_goto C 223 dX2_lineHolds_211 (by decide) ?_
                        obtain ⟨x41, ex41, hf⟩ := lt_of hf
                        refine r_iinc (j := 9) (v := x41) (lv' := [(0, .ref (gad (xG X) b)), (1, .int y1), (2, .ref (gad (xG X) b2)), (3, .int y3), (4, .int y4), (5, .int y5), (6, .int x40), (7, .int y7), (8, .int y8), (9, .int x41), (10, .int (h (b + 4) y9.toNatClampNeg))]) C dX2_lineHolds_223 rfl (by rw [ex41]; rfl) (by decide) [1, 2, 3, 4, 5, 6, 7, 8, 9, 0, 10] rfl ?_
                        refine r_goto C 27 dX2_lineHolds_226 (by decide) ?_
                        exact r_lv [0, 1, 2, 3, 4, 5, 6, 7, 8, 9] rfl (ih _ _ _ _ _ _ _ _ hf)
                      · rw [if_neg c39] at hf
                        refine r_goto C 203 dX2_lineHolds_189 (by decide) ?_
                        refine r_iconst (v := 1) C dX2_lineHolds_203 (by decide) ?_
                        refine r_goto C 208 dX2_lineHolds_204 (by decide) ?_
                        refine r_ior C dX2_lineHolds_208 ?_
                        obtain ⟨x42, ex42, hf⟩ := lt_of hf
                        refine r_top ex42 ?_
                        refine r_istore (i := 6) (lv' := [(0, .ref (gad (xG X) b)), (1, .int y1), (2, .ref (gad (xG X) b2)), (3, .int y3), (4, .int y4), (5, .int y5), (6, .int x42), (7, .int y7), (8, .int y8), (9, .int y9), (10, .int (h (b + 4) y9.toNatClampNeg))]) C dX2_lineHolds_209 (by decide) [1, 2, 3, 4, 5, 6, 0, 7, 8, 9, 10] rfl ?_
                        refine r_goto C 223 dX2_lineHolds_211 (by decide) ?_
                        obtain ⟨x43, ex43, hf⟩ := lt_of hf
                        refine r_iinc (j := 9) (v := x43) (lv' := [(0, .ref (gad (xG X) b)), (1, .int y1), (2, .ref (gad (xG X) b2)), (3, .int y3), (4, .int y4), (5, .int y5), (6, .int x42), (7, .int y7), (8, .int y8), (9, .int x43), (10, .int (h (b + 4) y9.toNatClampNeg))]) C dX2_lineHolds_223 rfl (by rw [ex43]; rfl) (by decide) [1, 2, 3, 4, 5, 6, 7, 8, 9, 0, 10] rfl ?_
                        refine r_goto C 27 dX2_lineHolds_226 (by decide) ?_
                        exact r_lv [0, 1, 2, 3, 4, 5, 6, 7, 8, 9] rfl (ih _ _ _ _ _ _ _ _ hf)
              · rw [if_pos c17] at hf
                refine r_iload (i := 6) C dX2_lineHolds_117 6 rfl ?_
                refine r_iconst (v := 1) C dX2_lineHolds_119 (by decide) ?_
                refine r_ishl C dX2_lineHolds_120 ?_
                refine r_iload (i := 10) C dX2_lineHolds_121 10 rfl ?_
                refine r_bipush (v := (-9)) C dX2_lineHolds_123 (by decide) ?_
                obtain ⟨v44, r46, hf⟩ := cl_of hf
                have k45 : VW X 11 h 0 0 150 [(0, .ref (gad (xG X) b)), (1, .int y1), (2, .ref (gad (xG X) b2)), (3, .int y3), (4, .int y4), (5, .int y5), (7, .int y7), (9, .int y9)] [.int v44, .int (y6 <<< ((1 : Int32) &&& 31))] := by
                  refine r_ior C dX2_lineHolds_150 ?_
                  obtain ⟨x50, ex50, hf⟩ := lt_of hf
                  refine r_top ex50 ?_
                  refine r_istore (i := 6) (lv' := [(0, .ref (gad (xG X) b)), (1, .int y1), (2, .ref (gad (xG X) b2)), (3, .int y3), (4, .int y4), (5, .int y5), (6, .int x50), (7, .int y7), (9, .int y9)]) C dX2_lineHolds_151 (by decide) [1, 2, 3, 4, 5, 6, 0, 7, 8] rfl ?_
                  refine r_iconst (v := 0) C dX2_lineHolds_153 (by decide) ?_
                  refine r_istore (i := 8) (lv' := [(0, .ref (gad (xG X) b)), (1, .int y1), (2, .ref (gad (xG X) b2)), (3, .int y3), (4, .int y4), (5, .int y5), (6, .int x50), (7, .int y7), (8, .int (0 : Int32)), (9, .int y9)]) C dX2_lineHolds_154 (by decide) [1, 2, 3, 4, 5, 6, 7, 8, 0, 9] rfl ?_
                  refine r_goto C 223 dX2_lineHolds_156 (by decide) ?_
                  obtain ⟨x51, ex51, hf⟩ := lt_of hf
                  refine r_iinc (j := 9) (v := x51) (lv' := [(0, .ref (gad (xG X) b)), (1, .int y1), (2, .ref (gad (xG X) b2)), (3, .int y3), (4, .int y4), (5, .int y5), (6, .int x50), (7, .int y7), (8, .int (0 : Int32)), (9, .int x51)]) C dX2_lineHolds_223 rfl (by rw [ex51]; rfl) (by decide) [1, 2, 3, 4, 5, 6, 7, 8, 9, 0] rfl ?_
                  refine r_goto C 27 dX2_lineHolds_226 (by decide) ?_
                  exact r_lv [0, 1, 2, 3, 4, 5, 6, 7, 8, 9] rfl (ih _ _ _ _ _ _ _ _ hf)
                clear hf
                have hf := r46
                refine r_icmp_ne C 138 dX2_lineHolds_125 (by decide) (fun c47 => ?_) (fun c47 => ?_)
                · rw [if_neg c47] at hf
                  refine r_iload (i := 7) C dX2_lineHolds_138 7 rfl ?_
                  refine r_iload (i := 8) C dX2_lineHolds_140 8 rfl ?_
                  refine r_icmp_le C 149 dX2_lineHolds_142 (by decide) (fun c48 => ?_) (fun c48 => ?_)
                  · rw [if_pos c48] at hf
                    refine r_iconst (v := 0) C dX2_lineHolds_149 (by decide) ?_
                    cases hf
                    exact r_lv [0, 1, 2, 3, 4, 5, 7, 9] rfl k45
                  · rw [if_neg c48] at hf
                    refine r_iconst (v := 1) C dX2_lineHolds_145 (by decide) ?_
                    refine r_goto C 150 dX2_lineHolds_146 (by decide) ?_
                    cases hf
                    exact r_lv [0, 1, 2, 3, 4, 5, 7, 9] rfl k45
                · rw [if_pos c47] at hf
                  refine r_iload (i := 7) C dX2_lineHolds_128 7 rfl ?_
                  refine r_iload (i := 8) C dX2_lineHolds_130 8 rfl ?_
                  refine r_icmp_ge C 149 dX2_lineHolds_132 (by decide) (fun c49 => ?_) (fun c49 => ?_)
                  · rw [if_pos c49] at hf
                    refine r_iconst (v := 0) C dX2_lineHolds_149 (by decide) ?_
                    cases hf
                    exact r_lv [0, 1, 2, 3, 4, 5, 7, 9] rfl k45
                  · rw [if_neg c49] at hf
                    refine r_goto C 145 dX2_lineHolds_135 (by decide) ?_
                    refine r_iconst (v := 1) C dX2_lineHolds_145 (by decide) ?_
                    refine r_goto C 150 dX2_lineHolds_146 (by decide) ?_
                    cases hf
                    exact r_lv [0, 1, 2, 3, 4, 5, 7, 9] rfl k45
          · rw [if_pos c7] at hf
            refine r_iload (i := 8) C dX2_lineHolds_93 8 rfl ?_
            refine r_istore (i := 7) (lv' := [(0, .ref (gad (xG X) b)), (1, .int y1), (2, .ref (gad (xG X) b2)), (3, .int y3), (4, .int y4), (5, .int y5), (6, .int y6), (7, .int y8), (8, .int y8), (9, .int y9), (10, .int (h (b + 4) y9.toNatClampNeg))]) C dX2_lineHolds_95 (by decide) [1, 2, 3, 4, 5, 6, 7, 0, 8, 9, 10] rfl ?_
            refine r_iconst (v := 0) C dX2_lineHolds_97 (by decide) ?_
            refine r_istore (i := 8) (lv' := [(0, .ref (gad (xG X) b)), (1, .int y1), (2, .ref (gad (xG X) b2)), (3, .int y3), (4, .int y4), (5, .int y5), (6, .int y6), (7, .int y8), (8, .int (0 : Int32)), (9, .int y9), (10, .int (h (b + 4) y9.toNatClampNeg))]) C dX2_lineHolds_98 (by decide) [1, 2, 3, 4, 5, 6, 7, 8, 0, 9, 10] rfl ?_
            refine r_goto C 223 dX2_lineHolds_100 (by decide) ?_
            obtain ⟨x52, ex52, hf⟩ := lt_of hf
            refine r_iinc (j := 9) (v := x52) (lv' := [(0, .ref (gad (xG X) b)), (1, .int y1), (2, .ref (gad (xG X) b2)), (3, .int y3), (4, .int y4), (5, .int y5), (6, .int y6), (7, .int y8), (8, .int (0 : Int32)), (9, .int x52), (10, .int (h (b + 4) y9.toNatClampNeg))]) C dX2_lineHolds_223 rfl (by rw [ex52]; rfl) (by decide) [1, 2, 3, 4, 5, 6, 7, 8, 9, 0, 10] rfl ?_
            refine r_goto C 27 dX2_lineHolds_226 (by decide) ?_
            exact r_lv [0, 1, 2, 3, 4, 5, 6, 7, 8, 9] rfl (ih _ _ _ _ _ _ _ _ hf)
        · rw [if_neg c6] at hf
          refine r_iload (i := 8) C dX2_lineHolds_69 8 rfl ?_
          refine r_iload (i := 10) C dX2_lineHolds_71 10 rfl ?_
          refine r_aload_n (i := 2) C dX2_lineHolds_73 rfl 2 rfl ?_
          refine r_iload_n (i := 3) C dX2_lineHolds_74 rfl 3 rfl ?_
          refine r_iload (i := 4) C dX2_lineHolds_75 4 rfl ?_
          obtain ⟨x53, e54, hf⟩ := cl_of hf
          refine r_callSi (As := [.int (h (b + 4) y9.toNatClampNeg), .ref (gad (xG X) b2), .int y3, .int y4]) (st := [.int y8]) C (kX2_partOf (xG X) hb2 e54) cw_X2_43 rfl rfl (Nat.le_of_ble_eq_true rfl) (zr2 hR rfl rfl) (zrcs hcs) dX2_lineHolds_77 ?_
          refine r_iadd C dX2_lineHolds_80 ?_
          obtain ⟨x55, ex55, hf⟩ := lt_of hf
          refine r_top ex55 ?_
          refine r_istore (i := 8) (lv' := [(0, .ref (gad (xG X) b)), (1, .int y1), (2, .ref (gad (xG X) b2)), (3, .int y3), (4, .int y4), (5, .int y5), (6, .int y6), (7, .int y7), (8, .int x55), (9, .int y9), (10, .int (h (b + 4) y9.toNatClampNeg))]) C dX2_lineHolds_81 (by decide) [1, 2, 3, 4, 5, 6, 7, 8, 0, 9, 10] rfl ?_
          refine r_goto C 223 dX2_lineHolds_83 (by decide) ?_
          obtain ⟨x56, ex56, hf⟩ := lt_of hf
          refine r_iinc (j := 9) (v := x56) (lv' := [(0, .ref (gad (xG X) b)), (1, .int y1), (2, .ref (gad (xG X) b2)), (3, .int y3), (4, .int y4), (5, .int y5), (6, .int y6), (7, .int y7), (8, .int x55), (9, .int x56), (10, .int (h (b + 4) y9.toNatClampNeg))]) C dX2_lineHolds_223 rfl (by rw [ex56]; rfl) (by decide) [1, 2, 3, 4, 5, 6, 7, 8, 9, 0, 10] rfl ?_
          refine r_goto C 27 dX2_lineHolds_226 (by decide) ?_
          exact r_lv [0, 1, 2, 3, 4, 5, 6, 7, 8, 9] rfl (ih _ _ _ _ _ _ _ _ hf)
      · rw [if_neg c5] at hf
        refine r_iload (i := 8) C dX2_lineHolds_52 8 rfl ?_
        refine r_iload (i := 10) C dX2_lineHolds_54 10 rfl ?_
        refine r_iadd C dX2_lineHolds_56 ?_
        obtain ⟨x57, ex57, hf⟩ := lt_of hf
        refine r_top ex57 ?_
        refine r_istore (i := 8) (lv' := [(0, .ref (gad (xG X) b)), (1, .int y1), (2, .ref (gad (xG X) b2)), (3, .int y3), (4, .int y4), (5, .int y5), (6, .int y6), (7, .int y7), (8, .int x57), (9, .int y9), (10, .int (h (b + 4) y9.toNatClampNeg))]) C dX2_lineHolds_57 (by decide) [1, 2, 3, 4, 5, 6, 7, 8, 0, 9, 10] rfl ?_
        refine r_goto C 223 dX2_lineHolds_59 (by decide) ?_
        obtain ⟨x58, ex58, hf⟩ := lt_of hf
        refine r_iinc (j := 9) (v := x58) (lv' := [(0, .ref (gad (xG X) b)), (1, .int y1), (2, .ref (gad (xG X) b2)), (3, .int y3), (4, .int y4), (5, .int y5), (6, .int y6), (7, .int y7), (8, .int x57), (9, .int x58), (10, .int (h (b + 4) y9.toNatClampNeg))]) C dX2_lineHolds_223 rfl (by rw [ex58]; rfl) (by decide) [1, 2, 3, 4, 5, 6, 7, 8, 9, 0, 10] rfl ?_
        refine r_goto C 27 dX2_lineHolds_226 (by decide) ?_
        exact r_lv [0, 1, 2, 3, 4, 5, 6, 7, 8, 9] rfl (ih _ _ _ _ _ _ _ _ hf)
set_option maxHeartbeats 4000000 in
set_option maxRecDepth 100000 in
theorem kX2_lineHolds (G : Gx) {b : Nat} (hb : isLaw b) {b2 : Nat} (hb2 : isSky b2) {h : Hp} {a1 : Int32} {a2 : Int32} {a3 : Int32} {a4 : Int32} {rr : Int32} (hf : fX2_lineHolds h b b2 a1 a2 a3 a4 = some rr) : MC G yX2_lineHolds cX2_lineHolds 11 (some .boolean) 2 128 h [.ref (gad G b), .int a1, .ref (gad G b2), .int a2, .int a3, .int a4] (some (.int rr)) h := by
  refine MC.of RX2 (by decide) rfl (Nat.le_of_ble_eq_true rfl) rfl (fun X C hG hR hF => ?_)
  subst hG
  have hcs : True := trivial
  unfold fX2_lineHolds at hf
  refine r_iconst (v := 1) C dX2_lineHolds_0 (by decide) ?_
  refine r_istore (i := 6) (lv' := [(0, .ref (gad (xG X) b)), (1, .int a1), (2, .ref (gad (xG X) b2)), (3, .int a2), (4, .int a3), (5, .int a4), (6, .int (1 : Int32))]) C dX2_lineHolds_1 (by decide) [1, 2, 3, 4, 5, 6, 0] rfl ?_
  refine r_iconst (v := 0) C dX2_lineHolds_3 (by decide) ?_
  refine r_istore (i := 7) (lv' := [(0, .ref (gad (xG X) b)), (1, .int a1), (2, .ref (gad (xG X) b2)), (3, .int a2), (4, .int a3), (5, .int a4), (6, .int (1 : Int32)), (7, .int (0 : Int32))]) C dX2_lineHolds_4 (by decide) [1, 2, 3, 4, 5, 6, 7, 0] rfl ?_
  refine r_iconst (v := 0) C dX2_lineHolds_6 (by decide) ?_
  refine r_istore (i := 8) (lv' := [(0, .ref (gad (xG X) b)), (1, .int a1), (2, .ref (gad (xG X) b2)), (3, .int a2), (4, .int a3), (5, .int a4), (6, .int (1 : Int32)), (7, .int (0 : Int32)), (8, .int (0 : Int32))]) C dX2_lineHolds_7 (by decide) [1, 2, 3, 4, 5, 6, 7, 8, 0] rfl ?_
  refine r_iload_n (i := 1) C dX2_lineHolds_9 rfl 1 rfl ?_
  refine r_if_ne C 17 dX2_lineHolds_10 (by decide) (fun c59 => ?_) (fun c59 => ?_)
  · rw [if_neg c59] at hf
    refine r_aload_n (i := 0) C dX2_lineHolds_17 rfl 0 rfl ?_
    refine g_X2_22 hb C dX2_lineHolds_18 ?_
    refine r_iload_n (i := 1) C dX2_lineHolds_21 rfl 1 rfl ?_
    refine r_iconst (v := 1) C dX2_lineHolds_22 (by decide) ?_
    refine r_isub C dX2_lineHolds_23 ?_
    obtain ⟨g60, hf⟩ := gd_of hf
    refine r_iald C (b + 3) (law_dsc hb 3 (by decide)) (law_lt hb 3 (by decide)) g60 dX2_lineHolds_24 ?_
    refine r_istore (i := 9) (lv' := [(0, .ref (gad (xG X) b)), (1, .int a1), (2, .ref (gad (xG X) b2)), (3, .int a2), (4, .int a3), (5, .int a4), (6, .int (1 : Int32)), (7, .int (0 : Int32)), (8, .int (0 : Int32)), (9, .int (h (b + 3) (a1 - (1 : Int32)).toNatClampNeg))]) C dX2_lineHolds_25 (by decide) [1, 2, 3, 4, 5, 6, 7, 8, 9, 0] rfl ?_
    exact r_lv [0, 1, 2, 3, 4, 5, 6, 7, 8, 9] rfl ((wX2_lineHolds hb hb2 C hR hcs hF big) _ _ _ _ _ _ _ _ hf)
  · rw [if_pos c59] at hf
    refine r_iconst (v := 0) C dX2_lineHolds_13 (by decide) ?_
    refine r_goto C 25 dX2_lineHolds_14 (by decide) ?_
    refine r_istore (i := 9) (lv' := [(0, .ref (gad (xG X) b)), (1, .int a1), (2, .ref (gad (xG X) b2)), (3, .int a2), (4, .int a3), (5, .int a4), (6, .int (1 : Int32)), (7, .int (0 : Int32)), (8, .int (0 : Int32)), (9, .int (0 : Int32))]) C dX2_lineHolds_25 (by decide) [1, 2, 3, 4, 5, 6, 7, 8, 9, 0] rfl ?_
    exact r_lv [0, 1, 2, 3, 4, 5, 6, 7, 8, 9] rfl ((wX2_lineHolds hb hb2 C hR hcs hF big) _ _ _ _ _ _ _ _ hf)
def fX3_isTooDeep (h : Hp) (a1 : Int32) : Option (Int32 × Hp) := (if a1 < (6 : Int32) then some ((0 : Int32), h) else cl9 (fX9_failLatest h) (fun h2 => some ((1 : Int32), h2)))
set_option maxHeartbeats 4000000 in
set_option maxRecDepth 100000 in
theorem kX3_isTooDeep (G : Gx)  {h : Hp} {a1 : Int32} {rr : Int32} {hh : Hp} (hf : fX3_isTooDeep h a1 = some (rr, hh)) : MC G yX3_isTooDeep cX3_isTooDeep 2 (some .boolean) 3 192 h [.ref (gad G 1), .int a1] (some (.int rr)) hh := by
  refine MC.of RX3 (by decide) rfl (Nat.le_of_ble_eq_true rfl) rfl (fun X C hG hR hF => ?_)
  subst hG
  have hcs : True := trivial
  unfold fX3_isTooDeep at hf
  refine r_iload_n (i := 1) C dX3_isTooDeep_0 rfl 1 rfl ?_
  refine r_bipush (v := 6) C dX3_isTooDeep_1 (by decide) ?_
  refine r_icmp_lt C 12 dX3_isTooDeep_3 (by decide) (fun c1 => ?_) (fun c1 => ?_)
  · rw [if_pos c1] at hf
    refine r_iconst (v := 0) C dX3_isTooDeep_12 (by decide) ?_
    have zz : (0 : Int32) = 0 ∨ (0 : Int32) = 1 := (Or.inl rfl)
    cases hf
    exact r_zret C zz hF dX3_isTooDeep_13
  · rw [if_neg c1] at hf
    refine r_aload_n (i := 0) C dX3_isTooDeep_6 rfl 0 rfl ?_
    obtain ⟨h2, e3, hf⟩ := cl_of hf
    refine r_callNVv (As := []) (st := []) C 1 rfl (by decide) rfl (kX9_failLatest (xG X) e3) cw_X3_83 rfl rfl (Nat.le_of_ble_eq_true rfl) (zr2 hR rfl rfl) (zrcs hcs) dX3_isTooDeep_7 ?_
    refine r_iconst (v := 1) C dX3_isTooDeep_10 (by decide) ?_
    have zz : (1 : Int32) = 0 ∨ (1 : Int32) = 1 := (Or.inr rfl)
    cases hf
    exact r_zret C zz hF dX3_isTooDeep_11
def fX5_remember (h : Hp) (b : Nat) : Option (Hp) := gd (inb (h 18 2) 12) (cl9 (fX7_become h (76 + 11 * (h 18 2).toNatClampNeg) b) (fun h2 => lt9 (up2 h2 18 2 (irem ((h2 18 2) + (1 : Int32)) (12 : Int32))) (fun h4 => lt9 (up2 h4 18 1 (jmin ((h4 18 1) + (1 : Int32)) (12 : Int32))) (fun h5 => some h5))))
set_option maxHeartbeats 4000000 in
set_option maxRecDepth 100000 in
theorem kX5_remember (G : Gx) {b : Nat} (hb : isSky b) {h : Hp}  {hh : Hp} (hf : fX5_remember h b = some hh) : MC G yX5_remember cX5_remember 2 none 6 384 h [.ref (gad G 18), .ref (gad G b)] none hh := by
  refine MC.of RX5 (by decide) rfl (Nat.le_of_ble_eq_true rfl) rfl (fun X C hG hR hF => ?_)
  subst hG
  have hcs : True := trivial
  unfold fX5_remember at hf
  refine r_aload_n (i := 0) C dX5_remember_0 rfl 0 rfl ?_
  refine g_X5_11 C dX5_remember_1 ?_
  refine r_aload_n (i := 0) C dX5_remember_4 rfl 0 rfl ?_
  refine g_X5_16 C dX5_remember_5 ?_
  obtain ⟨g1, hf⟩ := gd_of hf
  refine r_aald C 19 rfl (by decide) g1 (sk_at g1) dX5_remember_8 ?_
  refine r_aload_n (i := 1) C dX5_remember_9 rfl 1 rfl ?_
  obtain ⟨h2, e3, hf⟩ := cl_of hf
  refine r_callNVv (As := [.ref (gad (xG X) b)]) (st := []) C (76 + 11 * (h 18 2).toNatClampNeg) (sky_d0 (sk_past g1)) (sky_l0 (sk_past g1)) rfl (kX7_become (xG X) (sk_past g1) hb e3) cw_X5_20 rfl rfl (Nat.le_of_ble_eq_true rfl) (zr2 hR rfl rfl) (zrcs hcs) dX5_remember_10 ?_
  refine r_aload_n (i := 0) C dX5_remember_13 rfl 0 rfl ?_
  refine r_aload_n (i := 0) C dX5_remember_14 rfl 0 rfl ?_
  refine g_X5_16 C dX5_remember_15 ?_
  refine r_iconst (v := 1) C dX5_remember_18 (by decide) ?_
  refine r_iadd C dX5_remember_19 ?_
  refine r_bipush (v := 12) C dX5_remember_20 (by decide) ?_
  refine r_irem C dX5_remember_22 (by decide) ?_
  obtain ⟨h4, eh4, hf⟩ := lt_of hf
  refine p_X5_16 C eh4 dX5_remember_23 ?_
  refine r_aload_n (i := 0) C dX5_remember_26 rfl 0 rfl ?_
  refine r_aload_n (i := 0) C dX5_remember_27 rfl 0 rfl ?_
  refine g_X5_24 C dX5_remember_28 ?_
  refine r_iconst (v := 1) C dX5_remember_31 (by decide) ?_
  refine r_iadd C dX5_remember_32 ?_
  refine r_bipush (v := 12) C dX5_remember_33 (by decide) ?_
  refine r_mmin9 C gw_1245 gm_min_s gm_i gm_min_c (zr1 hR rfl) (zr0 hR (Nat.le_of_ble_eq_true rfl)) (zrcs hcs) dX5_remember_35 ?_
  obtain ⟨h5, eh5, hf⟩ := lt_of hf
  refine p_X5_24 C eh5 dX5_remember_38 ?_
  cases hf
  exact r_vret C hF dX5_remember_41

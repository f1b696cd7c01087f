/-! From the entry to the loop. -/
theorem gx_190 : Cond.instantiable RX11 15 ∈ GT := gt_in 190 (by decide +kernel) rfl
theorem gx_1483 : Cond.instantiable RX12 24 ∈ GT := gt_in 1483 (by decide +kernel) rfl
theorem gx_189 : Cond.classLink RL 8 RX11 ∈ GT := gt_in 189 (by decide +kernel) rfl
theorem gx_160 : Cond.initialized RX11 ∈ GT := gt_in 160 (by decide +kernel) rfl
theorem gx_193 : Cond.code yX11_init prog_1_method_1_code 1 none ∈ GT := gt_in 193 (by decide +kernel) rfl
theorem gx_191 : Cond.methodLink RL 106 yX11_init ∈ GT := gt_in 191 (by decide +kernel) rfl
theorem gx_192 : Cond.instanceMethod yX11_init ∈ GT := gt_in 192 (by decide +kernel) rfl
theorem gx_1482 : Cond.classLink RL 107 RX12 ∈ GT := gt_in 1482 (by decide +kernel) rfl
theorem gx_172 : Cond.initialized RX12 ∈ GT := gt_in 172 (by decide +kernel) rfl
theorem gx_1486 : Cond.code yX12_init prog_14_method_5_code 1 none ∈ GT := gt_in 1486 (by decide +kernel) rfl
theorem gx_1484 : Cond.methodLink RL 109 yX12_init ∈ GT := gt_in 1484 (by decide +kernel) rfl
theorem gx_1485 : Cond.instanceMethod yX12_init ∈ GT := gt_in 1485 (by decide +kernel) rfl
theorem n_astore_n {X : Cx} {cc : ByteArray} {nL : Nat} {own : String} {ws L : va_W} {cells slots pc : Nat} {lv : List (Nat × Value)} {st : List Value} (C : OK0 X cc nL own) {k : Fin 4} {i : Nat} {x : Nat} {lv' : List (Nat × Value)} (hd : decode cc pc = .ok (.astore_n k, 1)) (hi : (k : Nat) = i) (hn : i < nL) (is : List Nat) (hl9 : is.filterMap (fun j => ((i, Value.ref x) :: lv.filter (fun q => !(q.1 == i) && !(q.1 + 1 == i && q.2.category == 2)))[j]?) = lv') (k : VN X nL ws L cells slots (pc + 1) lv' st) : VN X nL ws L cells slots pc lv (.ref x :: st) := by
  obtain ⟨p, e9, R, s, m, args, below, meth, c, Q, l, D, cA, ad, L0, sK, sV⟩ := X
  obtain ⟨hx, hb, hml, hown, hts, hT, hlk⟩ := C
  intro H locs ls hP hD hS hl
  exact lv_astore_n hx hb hd hi hl hn rfl (fun ls2 hl2 => k H locs ls2 hP hD hS (lv_sub hl2 is hl9))
theorem n_istore {X : Cx} {cc : ByteArray} {nL : Nat} {own : String} {ws L : va_W} {cells slots pc : Nat} {lv : List (Nat × Value)} {st : List Value} (C : OK0 X cc nL own) {i : Nat} {x : Int32} {lv' : List (Nat × Value)} (hd : decode cc pc = .ok (.istore i, 2)) (hn : i < nL) (is : List Nat) (hl9 : is.filterMap (fun j => ((i, Value.int x) :: lv.filter (fun q => !(q.1 == i) && !(q.1 + 1 == i && q.2.category == 2)))[j]?) = lv') (k : VN X nL ws L cells slots (pc + 2) lv' st) : VN X nL ws L cells slots pc lv (.int x :: st) := by
  obtain ⟨p, e9, R, s, m, args, below, meth, c, Q, l, D, cA, ad, L0, sK, sV⟩ := X
  obtain ⟨hx, hb, hml, hown, hts, hT, hlk⟩ := C
  intro H locs ls hP hD hS hl
  exact lv_istore hx hb hd hl hn rfl (fun ls2 hl2 => k H locs ls2 hP hD hS (lv_sub hl2 is hl9))
abbrev qStr : Type := String × Nat × String × List Int32
def qTm (q : qStr) : Term := .string q.1 q.2.1
def qF (q : qStr) : Term := .field (qTm q) "java/lang/String" "value" "[B"
def qNeed (q : qStr) : List Cond := [Cond.exactly (qTm q) "java/lang/String", Cond.eq (.field (qTm q) "java/lang/String" "coder" "B") (.int 0), Cond.arrayOf (qF q) .byte, Cond.eq (.length (qF q)) (.int (Int32.ofNat q.2.2.2.length))] ++ (List.range q.2.2.2.length).map (fun j => Cond.eq (.elem (qF q) (.int (Int32.ofNat j))) (.int (q.2.2.2.getD j 0)))
def gvL : List Cond := flatC (Jvm.Cond.and given_1 narrow_1)
def qOK (q : qStr) : Prop := (∀ w ∈ qNeed q, w ∈ gvL) ∧ Cond.stringRef q.1 q.2.1 q.2.2.1 ∈ lw_tbl ∧ q.2.2.2.length < 2 ^ 31
theorem qOK.of {q : qStr} (i n k : Nat) (h : (gvL.drop i).take n = qNeed q) (hk : lw_tbl[k]? = some (Cond.stringRef q.1 q.2.1 q.2.2.1)) (hl : Nat.ble (q.2.2.2.length + 1) (2 ^ 31) = true) : qOK q :=
  ⟨fun w hw => by rw [← h] at hw; exact List.mem_of_mem_drop (List.mem_of_mem_take hw), List.mem_of_getElem? hk, Nat.le_of_ble_eq_true hl⟩
theorem qs_0 : qOK ("PinnedSky$LawText", 42, "strain", [115, 116, 114, 97, 105, 110]) := qOK.of 91 10 867 (by decide +kernel) (by decide +kernel) (by decide)
theorem qs_1 : qOK ("PinnedSky$LawText", 44, "rust", [114, 117, 115, 116]) := qOK.of 101 8 932 (by decide +kernel) (by decide +kernel) (by decide)
theorem qs_2 : qOK ("PinnedSky$LawText", 46, "hold", [104, 111, 108, 100]) := qOK.of 109 8 933 (by decide +kernel) (by decide +kernel) (by decide)
theorem qs_3 : qOK ("PinnedSky$LawText", 28, "if", [105, 102]) := qOK.of 117 6 949 (by decide +kernel) (by decide +kernel) (by decide)
theorem qs_4 : qOK ("PinnedSky$LawText", 62, "pinned", [112, 105, 110, 110, 101, 100]) := qOK.of 123 10 958 (by decide +kernel) (by decide +kernel) (by decide)
theorem qs_5 : qOK ("PinnedSky$LawText", 64, "laddered", [108, 97, 100, 100, 101, 114, 101, 100]) := qOK.of 133 12 963 (by decide +kernel) (by decide +kernel) (by decide)
theorem qs_6 : qOK ("PinnedSky$LawText", 66, "not", [110, 111, 116]) := qOK.of 145 7 964 (by decide +kernel) (by decide +kernel) (by decide)
theorem qs_7 : qOK ("PinnedSky$LawText", 90, "place", [112, 108, 97, 99, 101]) := qOK.of 152 9 984 (by decide +kernel) (by decide +kernel) (by decide)
theorem qs_8 : qOK ("PinnedSky$LawText", 92, "tree", [116, 114, 101, 101]) := qOK.of 161 8 985 (by decide +kernel) (by decide +kernel) (by decide)
theorem qs_9 : qOK ("PinnedSky$LawText", 94, "ground", [103, 114, 111, 117, 110, 100]) := qOK.of 169 10 986 (by decide +kernel) (by decide +kernel) (by decide)
theorem qs_10 : qOK ("PinnedSky$LawText", 96, "gap", [103, 97, 112]) := qOK.of 179 7 987 (by decide +kernel) (by decide +kernel) (by decide)
theorem qs_11 : qOK ("PinnedSky$LawText", 98, "day", [100, 97, 121]) := qOK.of 186 7 988 (by decide +kernel) (by decide +kernel) (by decide)
theorem qs_12 : qOK ("PinnedSky$LawText", 54, "and", [97, 110, 100]) := qOK.of 193 7 992 (by decide +kernel) (by decide +kernel) (by decide)
theorem qs_13 : qOK ("PinnedSky$LawText", 60, "or", [111, 114]) := qOK.of 200 6 993 (by decide +kernel) (by decide +kernel) (by decide)
theorem qs_14 : qOK ("PinnedSky$SkyText", 18, "pin", [112, 105, 110]) := qOK.of 206 7 1001 (by decide +kernel) (by decide +kernel) (by decide)
theorem qs_15 : qOK ("PinnedSky$SkyText", 95, "rust", [114, 117, 115, 116]) := qOK.of 213 8 1010 (by decide +kernel) (by decide +kernel) (by decide)
theorem qs_16 : qOK ("PinnedSky$SkyText", 30, "ground", [103, 114, 111, 117, 110, 100]) := qOK.of 222 10 1015 (by decide +kernel) (by decide +kernel) (by decide)
theorem qs_17 : qOK ("PinnedSky$SkyText", 39, "need", [110, 101, 101, 100]) := qOK.of 233 8 1020 (by decide +kernel) (by decide +kernel) (by decide)
theorem qs_18 : qOK ("PinnedSky$SkyText", 43, "tree", [116, 114, 101, 101]) := qOK.of 241 8 1021 (by decide +kernel) (by decide +kernel) (by decide)
theorem qs_19 : qOK ("PinnedSky$SkyText", 47, "bare", [98, 97, 114, 101]) := qOK.of 250 8 1022 (by decide +kernel) (by decide +kernel) (by decide)
theorem qs_20 : qOK ("PinnedSky$SkyText", 52, "pinner", [112, 105, 110, 110, 101, 114]) := qOK.of 258 10 1027 (by decide +kernel) (by decide +kernel) (by decide)
theorem qs_21 : qOK ("PinnedSky$SkyText", 112, "pace", [112, 97, 99, 101]) := qOK.of 268 8 1032 (by decide +kernel) (by decide +kernel) (by decide)
theorem qs_22 : qOK ("PinnedSky$SkyText", 118, "brass", [98, 114, 97, 115, 115]) := qOK.of 276 9 1040 (by decide +kernel) (by decide +kernel) (by decide)
theorem qs_23 : qOK ("PinnedSky$SkyText", 60, "height", [104, 101, 105, 103, 104, 116]) := qOK.of 285 10 1049 (by decide +kernel) (by decide +kernel) (by decide)
theorem qs_24 : qOK ("PinnedSky$SkyText", 69, "tight", [116, 105, 103, 104, 116]) := qOK.of 295 9 1050 (by decide +kernel) (by decide +kernel) (by decide)
theorem qs_25 : qOK ("PinnedSky$SkyText", 73, "gale", [103, 97, 108, 101]) := qOK.of 304 8 1051 (by decide +kernel) (by decide +kernel) (by decide)
theorem qs_26 : qOK ("PinnedSky$SkyText", 77, "moths", [109, 111, 116, 104, 115]) := qOK.of 312 9 1052 (by decide +kernel) (by decide +kernel) (by decide)
theorem qs_27 : qOK ("PinnedSky$SkyText", 81, "stock", [115, 116, 111, 99, 107]) := qOK.of 321 9 1053 (by decide +kernel) (by decide +kernel) (by decide)
theorem qs_28 : qOK ("PinnedSkyModel", 142, "pin", [112, 105, 110]) := qOK.of 330 7 1617 (by decide +kernel) (by decide +kernel) (by decide)
theorem qs_29 : qOK ("PinnedSkyModel", 126, "rust", [114, 117, 115, 116]) := qOK.of 338 8 1647 (by decide +kernel) (by decide +kernel) (by decide)
theorem qs_30 : qOK ("PinnedSkyModel", 148, "ground", [103, 114, 111, 117, 110, 100]) := qOK.of 348 10 1652 (by decide +kernel) (by decide +kernel) (by decide)
theorem qs_31 : qOK ("PinnedSkyModel", 153, "need", [110, 101, 101, 100]) := qOK.of 360 8 1661 (by decide +kernel) (by decide +kernel) (by decide)
theorem qs_32 : qOK ("PinnedSkyModel", 155, "tree", [116, 114, 101, 101]) := qOK.of 369 8 1662 (by decide +kernel) (by decide +kernel) (by decide)
theorem qs_33 : qOK ("PinnedSkyModel", 157, "bare", [98, 97, 114, 101]) := qOK.of 379 8 1663 (by decide +kernel) (by decide +kernel) (by decide)
theorem qs_34 : qOK ("PinnedSkyModel", 162, "pinner", [112, 105, 110, 110, 101, 114]) := qOK.of 388 10 1668 (by decide +kernel) (by decide +kernel) (by decide)
theorem qs_35 : qOK ("PinnedSkyModel", 134, "pace", [112, 97, 99, 101]) := qOK.of 399 8 1677 (by decide +kernel) (by decide +kernel) (by decide)
theorem qs_36 : qOK ("PinnedSkyModel", 140, "brass", [98, 114, 97, 115, 115]) := qOK.of 408 9 1682 (by decide +kernel) (by decide +kernel) (by decide)
theorem qs_37 : qOK ("PinnedSkyModel", 167, "height", [104, 101, 105, 103, 104, 116]) := qOK.of 418 10 1686 (by decide +kernel) (by decide +kernel) (by decide)
theorem qs_38 : qOK ("PinnedSkyModel", 169, "tight", [116, 105, 103, 104, 116]) := qOK.of 429 9 1687 (by decide +kernel) (by decide +kernel) (by decide)
theorem qs_39 : qOK ("PinnedSkyModel", 171, "gale", [103, 97, 108, 101]) := qOK.of 439 8 1688 (by decide +kernel) (by decide +kernel) (by decide)
theorem qs_40 : qOK ("PinnedSkyModel", 173, "moths", [109, 111, 116, 104, 115]) := qOK.of 448 9 1689 (by decide +kernel) (by decide +kernel) (by decide)
theorem qs_41 : qOK ("PinnedSkyModel", 175, "stock", [115, 116, 111, 99, 107]) := qOK.of 458 9 1690 (by decide +kernel) (by decide +kernel) (by decide)
theorem qs_42 : qOK ("PinnedSkyModel", 224, "strain", [115, 116, 114, 97, 105, 110]) := qOK.of 468 10 1695 (by decide +kernel) (by decide +kernel) (by decide)
theorem qs_43 : qOK ("PinnedSkyModel", 226, "hold", [104, 111, 108, 100]) := qOK.of 479 8 1696 (by decide +kernel) (by decide +kernel) (by decide)
theorem qs_44 : qOK ("PinnedSkyModel", 228, "if", [105, 102]) := qOK.of 488 6 1697 (by decide +kernel) (by decide +kernel) (by decide)
theorem qs_45 : qOK ("PinnedSkyModel", 206, "not", [110, 111, 116]) := qOK.of 495 7 1714 (by decide +kernel) (by decide +kernel) (by decide)
theorem qs_46 : qOK ("PinnedSkyModel", 196, "pinned", [112, 105, 110, 110, 101, 100]) := qOK.of 503 10 1723 (by decide +kernel) (by decide +kernel) (by decide)
theorem qs_47 : qOK ("PinnedSkyModel", 198, "laddered", [108, 97, 100, 100, 101, 114, 101, 100]) := qOK.of 514 12 1724 (by decide +kernel) (by decide +kernel) (by decide)
theorem qs_48 : qOK ("PinnedSkyModel", 184, "place", [112, 108, 97, 99, 101]) := qOK.of 527 9 1733 (by decide +kernel) (by decide +kernel) (by decide)
theorem qs_49 : qOK ("PinnedSkyModel", 186, "gap", [103, 97, 112]) := qOK.of 537 7 1734 (by decide +kernel) (by decide +kernel) (by decide)
theorem qs_50 : qOK ("PinnedSkyModel", 188, "day", [100, 97, 121]) := qOK.of 545 7 1735 (by decide +kernel) (by decide +kernel) (by decide)
theorem qs_51 : qOK ("PinnedSkyModel", 217, "and", [97, 110, 100]) := qOK.of 553 7 1736 (by decide +kernel) (by decide +kernel) (by decide)
theorem qs_52 : qOK ("PinnedSkyModel", 222, "or", [111, 114]) := qOK.of 561 6 1737 (by decide +kernel) (by decide +kernel) (by decide)
theorem qs_all : ∀ q ∈ STR, qOK q := List.forall_mem_cons.mpr ⟨qs_0, List.forall_mem_cons.mpr ⟨qs_1, List.forall_mem_cons.mpr ⟨qs_2, List.forall_mem_cons.mpr ⟨qs_3, List.forall_mem_cons.mpr ⟨qs_4, List.forall_mem_cons.mpr ⟨qs_5, List.forall_mem_cons.mpr ⟨qs_6, List.forall_mem_cons.mpr ⟨qs_7, List.forall_mem_cons.mpr ⟨qs_8, List.forall_mem_cons.mpr ⟨qs_9, List.forall_mem_cons.mpr ⟨qs_10, List.forall_mem_cons.mpr ⟨qs_11, List.forall_mem_cons.mpr ⟨qs_12, List.forall_mem_cons.mpr ⟨qs_13, List.forall_mem_cons.mpr ⟨qs_14, List.forall_mem_cons.mpr ⟨qs_15, List.forall_mem_cons.mpr ⟨qs_16, List.forall_mem_cons.mpr ⟨qs_17, List.forall_mem_cons.mpr ⟨qs_18, List.forall_mem_cons.mpr ⟨qs_19, List.forall_mem_cons.mpr ⟨qs_20, List.forall_mem_cons.mpr ⟨qs_21, List.forall_mem_cons.mpr ⟨qs_22, List.forall_mem_cons.mpr ⟨qs_23, List.forall_mem_cons.mpr ⟨qs_24, List.forall_mem_cons.mpr ⟨qs_25, List.forall_mem_cons.mpr ⟨qs_26, List.forall_mem_cons.mpr ⟨qs_27, List.forall_mem_cons.mpr ⟨qs_28, List.forall_mem_cons.mpr ⟨qs_29, List.forall_mem_cons.mpr ⟨qs_30, List.forall_mem_cons.mpr ⟨qs_31, List.forall_mem_cons.mpr ⟨qs_32, List.forall_mem_cons.mpr ⟨qs_33, List.forall_mem_cons.mpr ⟨qs_34, List.forall_mem_cons.mpr ⟨qs_35, List.forall_mem_cons.mpr ⟨qs_36, List.forall_mem_cons.mpr ⟨qs_37, List.forall_mem_cons.mpr ⟨qs_38, List.forall_mem_cons.mpr ⟨qs_39, List.forall_mem_cons.mpr ⟨qs_40, List.forall_mem_cons.mpr ⟨qs_41, List.forall_mem_cons.mpr ⟨qs_42, List.forall_mem_cons.mpr ⟨qs_43, List.forall_mem_cons.mpr ⟨qs_44, List.forall_mem_cons.mpr ⟨qs_45, List.forall_mem_cons.mpr ⟨qs_46, List.forall_mem_cons.mpr ⟨qs_47, List.forall_mem_cons.mpr ⟨qs_48, List.forall_mem_cons.mpr ⟨qs_49, List.forall_mem_cons.mpr ⟨qs_50, List.forall_mem_cons.mpr ⟨qs_51, List.forall_mem_cons.mpr ⟨qs_52, fun _ h => absurd h List.not_mem_nil⟩⟩⟩⟩⟩⟩⟩⟩⟩⟩⟩⟩⟩⟩⟩⟩⟩⟩⟩⟩⟩⟩⟩⟩⟩⟩⟩⟩⟩⟩⟩⟩⟩⟩⟩⟩⟩⟩⟩⟩⟩⟩⟩⟩⟩⟩⟩⟩⟩⟩⟩⟩⟩
theorem str_of {b : Nat} {s : State} {A : Nat → Prop} (hgv : (Jvm.Cond.and given_1 narrow_1).before #[Value.ref b] s = true) (hts : ∀ w ∈ lw_tbl, w.before #[Value.ref b] s = true) (hA : ∀ a : Nat, a < s.heap.size → ¬ A a) (q : qStr) (hq : q ∈ STR) : ∃ r : Nat × Nat, vk_S 1 [q.2.2.2.length] [q.2.2.2] (fun _ => r.1) (fun _ => r.2) A s s.heap ∧ vk_R q.1 q.2.1 q.2.2.1 r.1 s := by
  obtain ⟨hn, hr, hl⟩ := qs_all q hq
  have hg : ∀ w ∈ qNeed q, w.before #[Value.ref b] s = true := fun w hw => flat_of_before _ hgv w (hn w hw)
  have z : ∀ {i : Nat}, i < 1 → i = 0 := fun h => by omega
  obtain ⟨adK, adV, hS, hE⟩ := vk_Sof (args := #[Value.ref b]) (s := s) (N := 1) (tm := fun _ => qTm q) (len := [q.2.2.2.length]) (byt := [q.2.2.2]) (A := A)
    (fun i hi => by cases z hi; exact hl)
    (fun i hi => hg _ (by simp [qNeed]))
    (fun i hi => hg _ (by simp [qNeed]))
    (fun i hi => hg _ (by simp [qNeed, qF]))
    (fun i hi => by cases z hi; exact hg _ (by simp [qNeed, qF]))
    (fun i hi j hj => by
      cases z hi
      refine hg _ (List.mem_append_right _ (List.mem_map.mpr ⟨j, List.mem_range.mpr hj, rfl⟩)))
    (fun i j hi hj hij => absurd ((z hi).trans (z hj).symm) hij) hA
  refine ⟨(adK 0, adV 0), ⟨fun i hi => ?_, fun i j hi hj _ => (z hi).trans (z hj).symm⟩, vk_R.of (hts _ hr) (hE 0 (by decide))⟩
  cases z hi
  exact hS.1 0 hi
theorem cls_of {b : Nat} {s : State} (hts : ∀ w ∈ GT, w.before #[Value.ref b] s = true) : ∃ D : va_G, ∀ (c : Nat) (q : vw_C), vwCl[c]? = some q → u_Kn s q.1 q.2.1 q.2.2 (D.1 c) (D.2 c) := by
  obtain ⟨c0, i0, k0⟩ := u_known (args := #[Value.ref b]) hts u_X0 (hts _ gx_288)
  obtain ⟨c1, i1, k1⟩ := u_known (args := #[Value.ref b]) hts u_X1 (hts _ gx_228)
  obtain ⟨c2, i2, k2⟩ := u_known (args := #[Value.ref b]) hts u_X2 (hts _ gx_234)
  obtain ⟨c3, i3, k3⟩ := u_known (args := #[Value.ref b]) hts u_X3 (hts _ gx_424)
  obtain ⟨c4, i4, k4⟩ := u_known (args := #[Value.ref b]) hts u_X4 (hts _ gx_313)
  obtain ⟨c5, i5, k5⟩ := u_known (args := #[Value.ref b]) hts u_X5 (hts _ gx_437)
  obtain ⟨c6, i6, k6⟩ := u_known (args := #[Value.ref b]) hts u_X6 (hts _ gx_457)
  obtain ⟨c7, i7, k7⟩ := u_known (args := #[Value.ref b]) hts u_X7 (hts _ gx_282)
  obtain ⟨c8, i8, k8⟩ := u_known (args := #[Value.ref b]) hts u_X8 (hts _ gx_273)
  obtain ⟨c9, i9, k9⟩ := u_known (args := #[Value.ref b]) hts u_X9 (hts _ gx_198)
  obtain ⟨c10, i10, k10⟩ := u_known (args := #[Value.ref b]) hts u_X11 (hts _ gx_190)
  obtain ⟨c11, i11, k11⟩ := u_known (args := #[Value.ref b]) hts u_X12 (hts _ gx_1483)
  refine ⟨(fun n => [c0, c1, c2, c3, c4, c5, c6, c7, c8, c9, c10, c11].getD n c0, fun n => [i0, i1, i2, i3, i4, i5, i6, i7, i8, i9, i10, i11].getD n i0), fun c q hq => ?_⟩
  match c, hq with
  | 0, hq => cases hq; exact k0
  | 1, hq => cases hq; exact k1
  | 2, hq => cases hq; exact k2
  | 3, hq => cases hq; exact k3
  | 4, hq => cases hq; exact k4
  | 5, hq => cases hq; exact k5
  | 6, hq => cases hq; exact k6
  | 7, hq => cases hq; exact k7
  | 8, hq => cases hq; exact k8
  | 9, hq => cases hq; exact k9
  | 10, hq => cases hq; exact k10
  | 11, hq => cases hq; exact k11
  | n + 12, hq => simp at hq
theorem arr_of {b : Nat} {s : State} {ty : FieldType} (h : (Cond.arrayClass ty).before #[Value.ref b] s = true) : ∃ c : ClassId, ArrOfT s c ty ∧ s.vm.findClass ("[" ++ ty.toString) = some c := by
  obtain ⟨c, k, comp, f1, f2, f3⟩ := Cond.arrayClass_spec h
  exact ⟨c, fun N z => ⟨(fun k h => by cases h), k, f2, comp, f3⟩, f1⟩
theorem gx_ao : Cond.arrayOver (.object RX7) ∈ lw_tbl := List.mem_of_getElem? (i := 443) (by decide +kernel)
theorem arrs_of {b : Nat} {s : State} (hts : ∀ w ∈ lw_tbl, w.before #[Value.ref b] s = true) : ∃ cA : Nat → ClassId, (∀ (k : Nat) (q : ClassId × FieldType), (tysOf cA)[k]? = some q → ArrOfT s q.1 q.2 ∧ va_RA s q.1 q.2) ∧ va_AO RX7 s := by
  obtain ⟨a0, p0, q0⟩ := arr_of (b := b) (hts _ (List.mem_filter.mp ga_int).1)
  obtain ⟨a1, p1, q1⟩ := arr_of (b := b) (hts _ (List.mem_filter.mp ga_byte).1)
  obtain ⟨a2, p2, q2⟩ := arr_of (b := b) (hts _ (List.mem_filter.mp ga_long).1)
  have hAO : (Cond.arrayOver (.object RX7)).before #[Value.ref b] s = true := hts _ gx_ao
  obtain ⟨comp, c3, k3, f1, f2, f3, f4, f5⟩ := Cond.arrayOver_spec hAO
  refine ⟨fun n => [a0, a1, a2, c3].getD n a0, fun k q hq => ?_, va_AO.of hAO⟩
  match k, hq with
  | 0, hq => cases hq; exact ⟨p0, q0⟩
  | 1, hq => cases hq; exact ⟨p1, q1⟩
  | 2, hq => cases hq; exact ⟨p2, q2⟩
  | 3, hq => cases hq; exact ⟨fun N z => ⟨(fun k h => by cases h), k3, f3, comp, f4⟩, ⟨k3, comp, f3, f4, f1, f5⟩⟩
  | n + 4, hq => simp [tysOf] at hq
theorem nc_of {b : Nat} {s : State} (hg : ∀ w ∈ gvL, w.before #[Value.ref b] s = true) : ∀ x ∈ EXL, ∀ y ∈ EXL, x ≠ y → va_Nc x y s := by
  have key : ∀ (i : Nat) (x y : String), gvL[i]? = some (Cond.not (.castable x y)) → va_Nc x y s := fun i x y h => va_Nc.of (hg _ (List.mem_of_getElem? h))
  intro x hx y hy hne
  simp only [EXL, List.mem_cons, List.not_mem_nil, or_false] at hx hy
  rcases hx with rfl | rfl | rfl | rfl | rfl <;> rcases hy with rfl | rfl | rfl | rfl | rfl
  · exact absurd rfl hne
  · exact key 73 _ _ (by decide +kernel)
  · exact key 24 _ _ (by decide +kernel)
  · exact key 89 _ _ (by decide +kernel)
  · exact key 40 _ _ (by decide +kernel)
  · exact key 57 _ _ (by decide +kernel)
  · exact absurd rfl hne
  · exact key 25 _ _ (by decide +kernel)
  · exact key 90 _ _ (by decide +kernel)
  · exact key 41 _ _ (by decide +kernel)
  · exact key 55 _ _ (by decide +kernel)
  · exact key 71 _ _ (by decide +kernel)
  · exact absurd rfl hne
  · exact key 87 _ _ (by decide +kernel)
  · exact key 39 _ _ (by decide +kernel)
  · exact key 58 _ _ (by decide +kernel)
  · exact key 74 _ _ (by decide +kernel)
  · exact key 26 _ _ (by decide +kernel)
  · exact absurd rfl hne
  · exact key 42 _ _ (by decide +kernel)
  · exact key 56 _ _ (by decide +kernel)
  · exact key 72 _ _ (by decide +kernel)
  · exact key 23 _ _ (by decide +kernel)
  · exact key 88 _ _ (by decide +kernel)
  · exact absurd rfl hne
theorem nw_of {b : Nat} {s : State} (hts : ∀ w ∈ lw_tbl, w.before #[Value.ref b] s = true) : ∀ w ∈ NW, va_Nw w s := by
  intro w hw
  obtain ⟨h1, h2⟩ := List.mem_filter.mp hw
  refine va_Nw.of ?_ (hts w h1)
  cases w <;> first | rfl | (simp [isNest] at h2)
theorem tx_of {b : Nat} {s : State} {G : Gx} (hgv : (Jvm.Cond.and given_1 narrow_1).before #[Value.ref b] s = true) (hts : ∀ w ∈ lw_tbl, w.before #[Value.ref b] s = true) (hA : ∀ a : Nat, a < s.heap.size → ¬ gA G a)
    (hs : ∀ (e : Nat) (q : qStr), STR[e]? = some q → vk_S 1 [q.2.2.2.length] [q.2.2.2] (fun _ => G.2.2.2.2.2.1 e) (fun _ => G.2.2.2.2.2.2 e) (gA G) s s.heap ∧ vk_R q.1 q.2.1 q.2.2.1 (G.2.2.2.2.2.1 e) s) : TX G s s.heap := by
  have hg : ∀ w ∈ gvL, w.before #[Value.ref b] s = true := flat_of_before _ hgv
  refine ⟨⟨va_Zqof (args := #[Value.ref b]) (hts _ (List.mem_of_getElem? (i := 909) (by decide +kernel))) (hts _ (List.mem_of_getElem? (i := 176) (by decide +kernel))) (hg _ (List.mem_of_getElem? (i := 5) (by decide +kernel))) hA, nc_of hg⟩, ⟨vx_Zqof (args := #[Value.ref b]) (hts _ (List.mem_of_getElem? (i := 1085) (by decide +kernel))) (hts _ (List.mem_of_getElem? (i := 178) (by decide +kernel))) (hg _ (List.mem_of_getElem? (i := 9) (by decide +kernel))) hA, vx_Zqof (args := #[Value.ref b]) (hts _ (List.mem_of_getElem? (i := 1087) (by decide +kernel))) (hts _ (List.mem_of_getElem? (i := 178) (by decide +kernel))) (hg _ (List.mem_of_getElem? (i := 10) (by decide +kernel))) hA⟩, va_Zof (args := #[Value.ref b]) (hts _ (List.mem_of_getElem? (i := 889) (by decide +kernel))) (hts _ (List.mem_of_getElem? (i := 174) (by decide +kernel))) (va_eqt (hg _ (List.mem_of_getElem? (i := 4) (by decide +kernel)))) hA, hs⟩
set_option maxHeartbeats 4000000 in
set_option maxRecDepth 100000 in
theorem wL_enter {X : Cx} {b : Nat} (C : OK0 X cL_law_ 7 RL) (hR : xR X = { frames := 2048, cells := 601024, slots := 7293034, locals := 84000 }) (k : ∀ (a mm : Nat → Nat) (o : Nat), VN X 7 [] (LW (xG X).2.2.1 a mm o) 222 19569 23 [(0, .ref b), (1, .ref (a 0)), (2, .ref (mm 0)), (3, .ref o), (4, .int 0)] []) : VN X 7 [] [] 0 0 0 [(0, .ref b)] [] := by
  refine n_new (ci := 10) (fs := [.null, .null, .null, .null, .null, .null, .null, .null, .null, .null, .int 0, .int 0, .null, .null, .null]) (L2 := fun q => [(q, .inr (10, [.null, .null, .null, .null, .null, .null, .null, .null, .null, .null, .int 0, .int 0, .null, .null, .null]))]) C (fun _ => rfl) u_X11 tyX11 tyX11_ok gx_189 gx_190 gx_160 rfl dv_X11 (zk hR rfl rfl) dL_law__0 (fun q1 => ?_)
  refine n_dup C dL_law__3 rfl ?_
  refine n_init (host := RL) (L1 := []) (L2 := fun a => blkX11 (xG X).2.2.1 a) C (kX11_init (xG X)) rfl (fun _ => rfl) rfl ⟨gx_193, gx_160, ⟨by decide, by decide, by decide +kernel⟩, gx_191, gx_192⟩ (Nat.le_of_ble_eq_true rfl) (zq2 hR rfl rfl) (zk hR rfl rfl) dL_law__4 (fun a ha => ?_)
  subst ha
  refine n_astore_n (i := 1) (lv' := [(0, .ref b), (1, .ref (a 0))]) C dL_law__7 rfl (by decide) [1, 0] rfl ?_
  refine n_new (ci := 11) (fs := [.int 0, .null, .null, .null, .null, .null, .int 0, .int 0, .null, .int 0, .int 0, .int 0, .int 0, .int 0, .int 0, .null, .int 0, .null, .int 0, .null, .null, .null, .int 0, .null]) (L2 := fun q => blkX11 (xG X).2.2.1 a ++ [(q, .inr (11, [.int 0, .null, .null, .null, .null, .null, .int 0, .int 0, .null, .int 0, .int 0, .int 0, .int 0, .int 0, .int 0, .null, .int 0, .null, .int 0, .null, .null, .null, .int 0, .null]))]) C (fun _ => rfl) u_X12 tyX12 tyX12_ok gx_1482 gx_1483 gx_172 rfl dv_X12 (zk hR rfl rfl) dL_law__8 (fun q2 => ?_)
  refine n_dup C dL_law__11 rfl ?_
  refine n_init (host := RL) (L1 := blkX11 (xG X).2.2.1 a) (L2 := fun mm => blkX11 (xG X).2.2.1 a ++ blkX12 (xG X).2.2.1 mm) C (kX12_init (xG X)) rfl (fun _ => rfl) rfl ⟨gx_1486, gx_172, ⟨by decide, by decide, by decide +kernel⟩, gx_1484, gx_1485⟩ (Nat.le_of_ble_eq_true rfl) (zq2 hR rfl rfl) (zk hR rfl rfl) dL_law__12 (fun mm hmm => ?_)
  subst hmm
  refine n_astore_n (i := 2) (lv' := [(0, .ref b), (1, .ref (a 0)), (2, .ref (mm 0))]) C dL_law__15 rfl (by decide) [1, 2, 0] rfl ?_
  refine n_iconst (v := 1) C dL_law__16 (by decide) ?_
  refine n_newa_long (N := 1) (L2 := fun o => LW (xG X).2.2.1 a mm o) C (fun _ => by unfold LW; rw [List.append_assoc]) ga_long (by decide) (by decide) (by decide) (zk hR rfl rfl) dL_law__17 (fun o => ?_)
  refine n_astore_n (i := 3) (lv' := [(0, .ref b), (1, .ref (a 0)), (2, .ref (mm 0)), (3, .ref o)]) C dL_law__19 rfl (by decide) [1, 2, 3, 0] rfl ?_
  refine n_iconst (v := 0) C dL_law__20 (by decide) ?_
  refine n_istore (i := 4) (lv' := [(0, .ref b), (1, .ref (a 0)), (2, .ref (mm 0)), (3, .ref o), (4, .int 0)]) C dL_law__21 (by decide) [1, 2, 3, 4, 0] rfl ?_
  exact n_cs rfl rfl (k a mm o)
def PURE : Prop := ∀ (xs : Nat → Int32) (Ls : Nat), Ls ≤ 3072 → LL_law xs Ls big h0 (nI 0) = some 1
theorem start0 (hpure : PURE) {p : Program} {e : Env} {s : State} {m : MethodId} {below : List Frame} {meth : Method} {c : Code} (l : Launch) (hl0 : l.stackTraces = false) {b L : Nat} {xs : Nat → Int32} (hL : L ≤ 3072) (C0 : lw_At p s m meth c b L xs) : W p l e room_1 s m #[Value.ref b] below meth c s.heap [] 0 0 (lw_Z below #[Value.ref b] s) (entryFrame m ([Value.ref b] : List Value).toArray 7) := by
  obtain ⟨hx, hb, hr, hml, hown, hts, hX, hbl, hlk, hgv⟩ := C0
  have htg : ∀ w ∈ GT, w.before #[Value.ref b] s = true := fun w hw => hts w (List.mem_filter.mp hw).1
  obtain ⟨D, hD⟩ := cls_of htg
  obtain ⟨cA, hcA, hAO⟩ := arrs_of hts
  have hA : ∀ a : Nat, a < s.heap.size → ¬ (s.heap.size ≤ a) := fun a h1 h2 => Nat.not_le_of_lt h1 h2
  have hs0 : ∀ e : Nat, ∃ r : Nat × Nat, ∀ q : qStr, STR[e]? = some q → vk_S 1 [q.2.2.2.length] [q.2.2.2] (fun _ => r.1) (fun _ => r.2) (fun a => s.heap.size ≤ a) s s.heap ∧ vk_R q.1 q.2.1 q.2.2.1 r.1 s := by
    intro e
    cases he : STR[e]? with
    | none => exact ⟨(0, 0), fun q h => by cases h⟩
    | some q =>
      obtain ⟨r, hr⟩ := str_of hgv hts hA q (List.mem_of_getElem? he)
      exact ⟨r, fun q h => by cases h; exact hr⟩
  obtain ⟨sk, hsk⟩ := Classical.axiomOfChoice hs0
  have hK : va_K D vwCl (tysOf cA) s := ⟨hD, hcA⟩
  have hNW := nw_of hts
  have hent := lv_entry [Value.ref b] (n := 7) (show (1 : Nat) ≤ 7 by decide)
  rw [lg_entry_eq]
  refine wL_enter (X := (p, e, room_1, s, m, #[Value.ref b], below, meth, c, lw_Z below #[Value.ref b] s, l, D, cA, fun _ => 0, s.heap.size, fun e => (sk e).1, fun e => (sk e).2)) (b := b) ⟨hx, hb, hml, hown, htg, ⟨hK, hNW, Nat.le_refl _, hAO⟩, hlk⟩ rfl (fun a mm o => ?_) s.heap [] _ (fun k q h => by simp at h) ⟨fun i j p q h => by simp at h, fun k q h => by simp at h⟩ va_S.rf hent
  intro H locs ls hP hD1 hS hl
  have hP1 : va_P D vwCl (LW cA a mm o) H := hP
  have hD2 : va_D (fun q => s.heap.size ≤ q) (LW cA a mm o) := hD1
  exact wL_law (X := (p, e, room_1, s, m, #[Value.ref b], below, meth, c, lw_Z below #[Value.ref b] s, l, D, cA, adF a mm o, s.heap.size, fun e => (sk e).1, fun e => (sk e).2)) (b := b) (Ls := L) (xs := xs)
    ⟨hx, hb, hml, hown, htg, ⟨hK, hNW, wd_DD hD2, Nat.le_refl _, hl0, tx_of hgv hts hA (fun e q hq => hsk e q hq)⟩, hr, hlk⟩ rfl ⟨hX, hbl, hA b hbl⟩ ⟨rfl, rfl, b, rfl, rfl⟩ hL big 0 h0 222 19569 (Nat.zero_le _) (by decide) (by decide) (hpure xs L hL) H locs ls (wd_P hP1) hS hl

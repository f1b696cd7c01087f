/-! String constants, and the JDK's own members over them. -/
abbrev sw0 : List Int32 := [115, 116, 114, 97, 105, 110]
theorem st0 : STR[0]? = some (RX3, 42, "strain", sw0) := rfl
abbrev sw1 : List Int32 := [114, 117, 115, 116]
theorem st1 : STR[1]? = some (RX3, 44, "rust", sw1) := rfl
abbrev sw2 : List Int32 := [104, 111, 108, 100]
theorem st2 : STR[2]? = some (RX3, 46, "hold", sw2) := rfl
abbrev sw3 : List Int32 := [105, 102]
theorem st3 : STR[3]? = some (RX3, 28, "if", sw3) := rfl
abbrev sw4 : List Int32 := [112, 105, 110, 110, 101, 100]
theorem st4 : STR[4]? = some (RX3, 62, "pinned", sw4) := rfl
abbrev sw5 : List Int32 := [108, 97, 100, 100, 101, 114, 101, 100]
theorem st5 : STR[5]? = some (RX3, 64, "laddered", sw5) := rfl
abbrev sw6 : List Int32 := [110, 111, 116]
theorem st6 : STR[6]? = some (RX3, 66, "not", sw6) := rfl
abbrev sw7 : List Int32 := [112, 108, 97, 99, 101]
theorem st7 : STR[7]? = some (RX3, 90, "place", sw7) := rfl
abbrev sw8 : List Int32 := [116, 114, 101, 101]
theorem st8 : STR[8]? = some (RX3, 92, "tree", sw8) := rfl
abbrev sw9 : List Int32 := [103, 114, 111, 117, 110, 100]
theorem st9 : STR[9]? = some (RX3, 94, "ground", sw9) := rfl
abbrev sw10 : List Int32 := [103, 97, 112]
theorem st10 : STR[10]? = some (RX3, 96, "gap", sw10) := rfl
abbrev sw11 : List Int32 := [100, 97, 121]
theorem st11 : STR[11]? = some (RX3, 98, "day", sw11) := rfl
abbrev sw12 : List Int32 := [97, 110, 100]
theorem st12 : STR[12]? = some (RX3, 54, "and", sw12) := rfl
abbrev sw13 : List Int32 := [111, 114]
theorem st13 : STR[13]? = some (RX3, 60, "or", sw13) := rfl
abbrev sw14 : List Int32 := [112, 105, 110]
theorem st14 : STR[14]? = some (RX8, 18, "pin", sw14) := rfl
abbrev sw15 : List Int32 := [114, 117, 115, 116]
theorem st15 : STR[15]? = some (RX8, 95, "rust", sw15) := rfl
abbrev sw16 : List Int32 := [103, 114, 111, 117, 110, 100]
theorem st16 : STR[16]? = some (RX8, 30, "ground", sw16) := rfl
abbrev sw17 : List Int32 := [110, 101, 101, 100]
theorem st17 : STR[17]? = some (RX8, 39, "need", sw17) := rfl
abbrev sw18 : List Int32 := [116, 114, 101, 101]
theorem st18 : STR[18]? = some (RX8, 43, "tree", sw18) := rfl
abbrev sw19 : List Int32 := [98, 97, 114, 101]
theorem st19 : STR[19]? = some (RX8, 47, "bare", sw19) := rfl
abbrev sw20 : List Int32 := [112, 105, 110, 110, 101, 114]
theorem st20 : STR[20]? = some (RX8, 52, "pinner", sw20) := rfl
abbrev sw21 : List Int32 := [112, 97, 99, 101]
theorem st21 : STR[21]? = some (RX8, 112, "pace", sw21) := rfl
abbrev sw22 : List Int32 := [98, 114, 97, 115, 115]
theorem st22 : STR[22]? = some (RX8, 118, "brass", sw22) := rfl
abbrev sw23 : List Int32 := [104, 101, 105, 103, 104, 116]
theorem st23 : STR[23]? = some (RX8, 60, "height", sw23) := rfl
abbrev sw24 : List Int32 := [116, 105, 103, 104, 116]
theorem st24 : STR[24]? = some (RX8, 69, "tight", sw24) := rfl
abbrev sw25 : List Int32 := [103, 97, 108, 101]
theorem st25 : STR[25]? = some (RX8, 73, "gale", sw25) := rfl
abbrev sw26 : List Int32 := [109, 111, 116, 104, 115]
theorem st26 : STR[26]? = some (RX8, 77, "moths", sw26) := rfl
abbrev sw27 : List Int32 := [115, 116, 111, 99, 107]
theorem st27 : STR[27]? = some (RX8, 81, "stock", sw27) := rfl
abbrev sw28 : List Int32 := [112, 105, 110]
theorem st28 : STR[28]? = some (RX12, 142, "pin", sw28) := rfl
abbrev sw29 : List Int32 := [114, 117, 115, 116]
theorem st29 : STR[29]? = some (RX12, 126, "rust", sw29) := rfl
abbrev sw30 : List Int32 := [103, 114, 111, 117, 110, 100]
theorem st30 : STR[30]? = some (RX12, 148, "ground", sw30) := rfl
abbrev sw31 : List Int32 := [110, 101, 101, 100]
theorem st31 : STR[31]? = some (RX12, 153, "need", sw31) := rfl
abbrev sw32 : List Int32 := [116, 114, 101, 101]
theorem st32 : STR[32]? = some (RX12, 155, "tree", sw32) := rfl
abbrev sw33 : List Int32 := [98, 97, 114, 101]
theorem st33 : STR[33]? = some (RX12, 157, "bare", sw33) := rfl
abbrev sw34 : List Int32 := [112, 105, 110, 110, 101, 114]
theorem st34 : STR[34]? = some (RX12, 162, "pinner", sw34) := rfl
abbrev sw35 : List Int32 := [112, 97, 99, 101]
theorem st35 : STR[35]? = some (RX12, 134, "pace", sw35) := rfl
abbrev sw36 : List Int32 := [98, 114, 97, 115, 115]
theorem st36 : STR[36]? = some (RX12, 140, "brass", sw36) := rfl
abbrev sw37 : List Int32 := [104, 101, 105, 103, 104, 116]
theorem st37 : STR[37]? = some (RX12, 167, "height", sw37) := rfl
abbrev sw38 : List Int32 := [116, 105, 103, 104, 116]
theorem st38 : STR[38]? = some (RX12, 169, "tight", sw38) := rfl
abbrev sw39 : List Int32 := [103, 97, 108, 101]
theorem st39 : STR[39]? = some (RX12, 171, "gale", sw39) := rfl
abbrev sw40 : List Int32 := [109, 111, 116, 104, 115]
theorem st40 : STR[40]? = some (RX12, 173, "moths", sw40) := rfl
abbrev sw41 : List Int32 := [115, 116, 111, 99, 107]
theorem st41 : STR[41]? = some (RX12, 175, "stock", sw41) := rfl
abbrev sw42 : List Int32 := [115, 116, 114, 97, 105, 110]
theorem st42 : STR[42]? = some (RX12, 224, "strain", sw42) := rfl
abbrev sw43 : List Int32 := [104, 111, 108, 100]
theorem st43 : STR[43]? = some (RX12, 226, "hold", sw43) := rfl
abbrev sw44 : List Int32 := [105, 102]
theorem st44 : STR[44]? = some (RX12, 228, "if", sw44) := rfl
abbrev sw45 : List Int32 := [110, 111, 116]
theorem st45 : STR[45]? = some (RX12, 206, "not", sw45) := rfl
abbrev sw46 : List Int32 := [112, 105, 110, 110, 101, 100]
theorem st46 : STR[46]? = some (RX12, 196, "pinned", sw46) := rfl
abbrev sw47 : List Int32 := [108, 97, 100, 100, 101, 114, 101, 100]
theorem st47 : STR[47]? = some (RX12, 198, "laddered", sw47) := rfl
abbrev sw48 : List Int32 := [112, 108, 97, 99, 101]
theorem st48 : STR[48]? = some (RX12, 184, "place", sw48) := rfl
abbrev sw49 : List Int32 := [103, 97, 112]
theorem st49 : STR[49]? = some (RX12, 186, "gap", sw49) := rfl
abbrev sw50 : List Int32 := [100, 97, 121]
theorem st50 : STR[50]? = some (RX12, 188, "day", sw50) := rfl
abbrev sw51 : List Int32 := [97, 110, 100]
theorem st51 : STR[51]? = some (RX12, 217, "and", sw51) := rfl
abbrev sw52 : List Int32 := [111, 114]
theorem st52 : STR[52]? = some (RX12, 222, "or", sw52) := rfl
def gsV (G : Gx) : Nat → Nat := G.2.2.2.2.2.2
section STRS
variable {X : Cx} {cc : ByteArray} {nL : Nat} {own : String} {ret : Option FieldType} {h : Hp} {cells slots pc : Nat} {lv : List (Nat × Value)} {st : List Value}
theorem r_ldcS (C : OK X cc nL own ret) {e index : Nat} {tx : String} {w : List Int32} (he : STR[e]? = some (own, index, tx, w)) (hd : decode cc pc = .ok (.ldc index, 2)) (kk : VW X nL h cells slots (pc + 2) lv (.ref (gsK (xG X) e) :: st)) : VW X nL h cells slots pc lv st := by
  obtain ⟨p, e9, R, s, m, args, below, meth, c, Q, l, D, cA, ad, L0, sK, sV⟩ := X
  obtain ⟨hx, hb, hml, hown, hts, hT, hr, hlk⟩ := C
  intro H locs ls hP hS hl
  exact va_ldcS hx hb hown (hT.2.2.2.2.2.2.2.2 e _ he).2 hd (kk H locs ls hP hS hl)
theorem r_gets1 (C : OK X cc nL "java/lang/String" ret) (hd : decode cc pc = .ok (.getstatic 38, 3)) (kk : VW X nL h cells slots (pc + 3) lv (.int 1 :: st)) : VW X nL h cells slots pc lv st := by
  obtain ⟨p, e9, R, s, m, args, below, meth, c, Q, l, D, cA, ad, L0, sK, sV⟩ := X
  obtain ⟨hx, hb, hml, hown, hts, hT, hr, hlk⟩ := C
  intro H locs ls hP hS hl
  exact va_gets hx hb hT.2.2.2.2.2.2.2.1 hS hown (hts _ (gt_in 888 (by decide +kernel) rfl : Cond.fieldLink "java/lang/String" 38 "java/lang/String" "COMPACT_STRINGS" "Z" ∈ GT)) (fun _ q => q) hd (kk H locs ls hP hS hl)
theorem r_getsF (C : OK X cc nL "java/lang/String" ret) (hd : decode cc pc = .ok (.getstatic 1053, 3)) (k0 : VW X nL h cells slots (pc + 3) lv (.null :: st)) (k1 : ∀ t : Nat, VW X nL h cells slots (pc + 3) lv (.ref t :: st)) : VW X nL h cells slots pc lv st := by
  obtain ⟨p, e9, R, s, m, args, below, meth, c, Q, l, D, cA, ad, L0, sK, sV⟩ := X
  obtain ⟨hx, hb, hml, hown, hts, hT, hr, hlk⟩ := C
  intro H locs ls hP hS hl
  have hw := hts _ (gt_in 908 (by decide +kernel) rfl : Cond.fieldLink "java/lang/String" 1053 "jdk/internal/util/Preconditions" "SIOOBE_FORMATTER" "Ljava/util/function/BiFunction;" ∈ GT)
  rcases hT.2.2.2.2.2.1.1 with hZ | ⟨t, hZ⟩
  · exact va_gets hx hb hZ hS hown hw (fun _ q => q) hd (k0 H locs ls hP hS hl)
  · exact va_gets hx hb hZ hS hown hw (fun _ q => q) hd (k1 t H locs ls hP hS hl)
theorem r_sget (C : OK X cc nL "java/lang/String" ret) {e : Nat} {q9 : String × Nat × String × List Int32} (he : STR[e]? = some q9) (hd : decode cc pc = .ok (.getfield 9, 3)) (kk : VW X nL h cells slots (pc + 3) lv (.ref (gsV (xG X) e) :: st)) : VW X nL h cells slots pc lv (.ref (gsK (xG X) e) :: st) := by
  obtain ⟨p, e9, R, s, m, args, below, meth, c, Q, l, D, cA, ad, L0, sK, sV⟩ := X
  obtain ⟨hx, hb, hml, hown, hts, hT, hr, hlk⟩ := C
  intro H locs ls hP hS hl
  exact vk_getf hx hb ((hT.2.2.2.2.2.2.2.2 e _ he).1.1 0 (by decide)).2.2.1 hS hown (hts _ (gt_in 2132 (by decide +kernel) rfl : Cond.fieldLink "java/lang/String" 9 "java/lang/String" "value" "[B" ∈ GT)) (fun _ q => q) hd (kk H locs ls hP hS hl)
theorem r_sgetC (C : OK X cc nL "java/lang/String" ret) {e : Nat} {q9 : String × Nat × String × List Int32} (he : STR[e]? = some q9) (hd : decode cc pc = .ok (.getfield 15, 3)) (kk : VW X nL h cells slots (pc + 3) lv (.int 0 :: st)) : VW X nL h cells slots pc lv (.ref (gsK (xG X) e) :: st) := by
  obtain ⟨p, e9, R, s, m, args, below, meth, c, Q, l, D, cA, ad, L0, sK, sV⟩ := X
  obtain ⟨hx, hb, hml, hown, hts, hT, hr, hlk⟩ := C
  intro H locs ls hP hS hl
  exact vk_getf hx hb ((hT.2.2.2.2.2.2.2.2 e _ he).1.1 0 (by decide)).2.1 hS hown (hts _ (gt_in 2133 (by decide +kernel) rfl : Cond.fieldLink "java/lang/String" 15 "java/lang/String" "coder" "B" ∈ GT)) (fun _ q => q) hd (kk H locs ls hP hS hl)
theorem r_salen (C : OK X cc nL own ret) {e : Nat} {q9 : String × Nat × String × List Int32} (he : STR[e]? = some q9) (hd : decode cc pc = .ok (.arraylength, 1)) (kk : VW X nL h cells slots (pc + 1) lv (.int (Int32.ofNat q9.2.2.2.length) :: st)) : VW X nL h cells slots pc lv (.ref (gsV (xG X) e) :: st) := by
  obtain ⟨p, e9, R, s, m, args, below, meth, c, Q, l, D, cA, ad, L0, sK, sV⟩ := X
  obtain ⟨hx, hb, hml, hown, hts, hT, hr, hlk⟩ := C
  intro H locs ls hP hS hl
  exact va_tlen hx hb ((hT.2.2.2.2.2.2.2.2 e _ he).1.1 0 (by decide)).2.2.2 hS rfl hd (kk H locs ls hP hS hl)
theorem r_sbald (C : OK X cc nL own ret) {e : Nat} {q9 : String × Nat × String × List Int32} {i : Int32} (he : STR[e]? = some q9) (hin : inb i q9.2.2.2.length) (hd : decode cc pc = .ok (.baload, 1)) (kk : VW X nL h cells slots (pc + 1) lv (.int (q9.2.2.2.getD i.toNatClampNeg 0) :: st)) : VW X nL h cells slots pc lv (.int i :: .ref (gsV (xG X) e) :: st) := by
  obtain ⟨p, e9, R, s, m, args, below, meth, c, Q, l, D, cA, ad, L0, sK, sV⟩ := X
  obtain ⟨hx, hb, hml, hown, hts, hT, hr, hlk⟩ := C
  intro H locs ls hP hS hl
  exact va_tb hx hb ((hT.2.2.2.2.2.2.2.2 e _ he).1.1 0 (by decide)).2.2.2 hS hin rfl hd (kk H locs ls hP hS hl)
theorem r_tret {ty : FieldType} (C : OK X cc nL own (some ty)) {v : Int32} (hz : narrow ty (.int v) = .int v) (hf : FinR X (some (.int v)) h) (hd : decode cc pc = .ok (.ireturn, 1)) : VW X nL h 0 0 pc lv [.int v] := by
  obtain ⟨p, e9, R, s, m, args, below, meth, c, Q, l, D, cA, ad, L0, sK, sV⟩ := X
  obtain ⟨hx, hb, hml, hown, hts, hT, hr, hlk⟩ := C
  intro H locs ls hP hS hl
  exact W.mono (W.zret (Qc := gQ (l, D, cA, ad, L0, sK, sV) (some (.int v)) h) (free := fun q => L0 ≤ q) hx hb hr hz (fun t ht hW => ⟨rfl, by rw [ht]; exact hP, hS.F ht⟩) hS.2.2 hd hlk) hf
theorem r_callVS (C : OK X cc nL own ret) {y : MethodName} {cc2 : ByteArray} {maxL2 : Nat} {ret2 : Option FieldType} {fr lo index n : Nat} {As : List Value} {st0 : List Value} {rv : Int32} {e : Nat} {q9 : String × Nat × String × List Int32} (he : STR[e]? = some q9) (hyc : y.cls = "java/lang/String") (hM : MC (xG X) y cc2 maxL2 ret2 fr lo h (.ref (gsK (xG X) e) :: As) (some (.int rv)) h) (hw : CWV own index y cc2 maxL2 ret2 n) (hn : As.length = n) (hst : st0 = As.reverse ++ .ref (gsK (xG X) e) :: st) (hcat : (st.map fun v => v.category).sum ≤ 8) (hR : fr + 1 ≤ (xR X).frames ∧ 8 + (maxL2 + 11) + lo ≤ (xR X).locals) (hcs : cells ≤ (xR X).cells ∧ slots ≤ (xR X).slots) (hd : decode cc pc = .ok (.invokevirtual index, 3)) (kk : VW X nL h cells slots (pc + 3) lv (.int rv :: st)) : VW X nL h cells slots pc lv st0 := by
  obtain ⟨p, e9, R, s, m, args, below, meth, c, Q, l, D, cA, ad, L0, sK, sV⟩ := X
  obtain ⟨hx, hb, hml, hown, hts, hT, hr, hlk⟩ := C
  intro H locs ls hP hS hl
  subst hst
  have hrec := vk_recv (i := 0) ((hT.2.2.2.2.2.2.2.2 e _ he).1) (by decide) hS
  rw [← hyc] at hrec
  refine r_after (va_runV (As := As) (rest := st) ⟨hx, hb, hml, hown, hts⟩ hM ⟨callB_of n hts (gt_wsy hw.1) rfl rfl rfl (hts _ hw.2.1) (hts _ hw.2.2.2.1) hw.2.2.1 hR, hts _ hw.2.2.2.2.1, hts _ hw.2.2.2.2.2⟩ ⟨gPc.blind, hrec, fun U hU hW => ⟨rfl, by rw [hU]; exact hP, hT.call hW hU hS⟩⟩ rfl hn hl.1 rfl (lv_room hcat) hd hcs) hS (fun H1 locs1 hP1 hS1 => ?_)
  exact kk H1 locs1 ls hP1 hS1 hl
end STRS
abbrev yS_coder : MethodName := ⟨"java/lang/String", "coder", "()B"⟩
theorem dS_coder_0 : decode prog_25_method_152_code 0 = .ok (.getstatic 38, 3) := by decide +kernel
theorem dS_coder_3 : decode prog_25_method_152_code 3 = .ok (.ifCond .eq 10, 3) := by decide +kernel
theorem dS_coder_6 : decode prog_25_method_152_code 6 = .ok (.aload_n 0, 1) := by decide +kernel
theorem dS_coder_7 : decode prog_25_method_152_code 7 = .ok (.getfield 15, 3) := by decide +kernel
theorem dS_coder_10 : decode prog_25_method_152_code 10 = .ok (.goto 4, 3) := by decide +kernel
theorem dS_coder_14 : decode prog_25_method_152_code 14 = .ok (.ireturn, 1) := by decide +kernel
abbrev yS_isLatin1 : MethodName := ⟨"java/lang/String", "isLatin1", "()Z"⟩
theorem dS_isLatin1_0 : decode prog_25_method_154_code 0 = .ok (.getstatic 38, 3) := by decide +kernel
theorem dS_isLatin1_3 : decode prog_25_method_154_code 3 = .ok (.ifCond .eq 14, 3) := by decide +kernel
theorem dS_isLatin1_6 : decode prog_25_method_154_code 6 = .ok (.aload_n 0, 1) := by decide +kernel
theorem dS_isLatin1_7 : decode prog_25_method_154_code 7 = .ok (.getfield 15, 3) := by decide +kernel
theorem dS_isLatin1_10 : decode prog_25_method_154_code 10 = .ok (.ifCond .ne 7, 3) := by decide +kernel
theorem dS_isLatin1_13 : decode prog_25_method_154_code 13 = .ok (.iconst 1, 1) := by decide +kernel
theorem dS_isLatin1_14 : decode prog_25_method_154_code 14 = .ok (.goto 4, 3) := by decide +kernel
theorem dS_isLatin1_18 : decode prog_25_method_154_code 18 = .ok (.ireturn, 1) := by decide +kernel
abbrev yS_length : MethodName := ⟨"java/lang/String", "length", "()I"⟩
theorem dS_length_0 : decode prog_25_method_54_code 0 = .ok (.aload_n 0, 1) := by decide +kernel
theorem dS_length_1 : decode prog_25_method_54_code 1 = .ok (.getfield 9, 3) := by decide +kernel
theorem dS_length_4 : decode prog_25_method_54_code 4 = .ok (.arraylength, 1) := by decide +kernel
theorem dS_length_5 : decode prog_25_method_54_code 5 = .ok (.aload_n 0, 1) := by decide +kernel
theorem dS_length_6 : decode prog_25_method_54_code 6 = .ok (.invokevirtual 335, 3) := by decide +kernel
theorem dS_length_9 : decode prog_25_method_54_code 9 = .ok (.ishr, 1) := by decide +kernel
theorem dS_length_10 : decode prog_25_method_54_code 10 = .ok (.ireturn, 1) := by decide +kernel
abbrev yS_pcheck : MethodName := ⟨"jdk/internal/util/Preconditions", "checkIndex", "(IILjava/util/function/BiFunction;)I"⟩
theorem dS_pcheck_0 : decode prog_35_method_11_code 0 = .ok (.iload_n 0, 1) := by decide +kernel
theorem dS_pcheck_1 : decode prog_35_method_11_code 1 = .ok (.ifCond .lt 8, 3) := by decide +kernel
theorem dS_pcheck_4 : decode prog_35_method_11_code 4 = .ok (.iload_n 0, 1) := by decide +kernel
theorem dS_pcheck_5 : decode prog_35_method_11_code 5 = .ok (.iload_n 1, 1) := by decide +kernel
theorem dS_pcheck_6 : decode prog_35_method_11_code 6 = .ok (.if_icmp .lt 10, 3) := by decide +kernel
theorem dS_pcheck_16 : decode prog_35_method_11_code 16 = .ok (.iload_n 0, 1) := by decide +kernel
theorem dS_pcheck_17 : decode prog_35_method_11_code 17 = .ok (.ireturn, 1) := by decide +kernel
abbrev yS_scheck : MethodName := ⟨"java/lang/String", "checkIndex", "(II)V"⟩
theorem dS_scheck_0 : decode prog_25_method_155_code 0 = .ok (.iload_n 0, 1) := by decide +kernel
theorem dS_scheck_1 : decode prog_25_method_155_code 1 = .ok (.iload_n 1, 1) := by decide +kernel
theorem dS_scheck_2 : decode prog_25_method_155_code 2 = .ok (.getstatic 1053, 3) := by decide +kernel
theorem dS_scheck_5 : decode prog_25_method_155_code 5 = .ok (.invokestatic 1059, 3) := by decide +kernel
theorem dS_scheck_8 : decode prog_25_method_155_code 8 = .ok (.pop, 1) := by decide +kernel
theorem dS_scheck_9 : decode prog_25_method_155_code 9 = .ok (.return_, 1) := by decide +kernel
abbrev yS_lcharAt : MethodName := ⟨"java/lang/StringLatin1", "charAt", "([BI)C"⟩
theorem dS_lcharAt_0 : decode prog_26_method_2_code 0 = .ok (.iload_n 1, 1) := by decide +kernel
theorem dS_lcharAt_1 : decode prog_26_method_2_code 1 = .ok (.aload_n 0, 1) := by decide +kernel
theorem dS_lcharAt_2 : decode prog_26_method_2_code 2 = .ok (.arraylength, 1) := by decide +kernel
theorem dS_lcharAt_3 : decode prog_26_method_2_code 3 = .ok (.invokestatic 9, 3) := by decide +kernel
theorem dS_lcharAt_6 : decode prog_26_method_2_code 6 = .ok (.aload_n 0, 1) := by decide +kernel
theorem dS_lcharAt_7 : decode prog_26_method_2_code 7 = .ok (.iload_n 1, 1) := by decide +kernel
theorem dS_lcharAt_8 : decode prog_26_method_2_code 8 = .ok (.baload, 1) := by decide +kernel
theorem dS_lcharAt_9 : decode prog_26_method_2_code 9 = .ok (.sipush 255, 3) := by decide +kernel
theorem dS_lcharAt_12 : decode prog_26_method_2_code 12 = .ok (.iand, 1) := by decide +kernel
theorem dS_lcharAt_13 : decode prog_26_method_2_code 13 = .ok (.i2c, 1) := by decide +kernel
theorem dS_lcharAt_14 : decode prog_26_method_2_code 14 = .ok (.ireturn, 1) := by decide +kernel
abbrev yS_charAt : MethodName := ⟨"java/lang/String", "charAt", "(I)C"⟩
theorem dS_charAt_0 : decode prog_25_method_56_code 0 = .ok (.aload_n 0, 1) := by decide +kernel
theorem dS_charAt_1 : decode prog_25_method_56_code 1 = .ok (.invokevirtual 492, 3) := by decide +kernel
theorem dS_charAt_4 : decode prog_25_method_56_code 4 = .ok (.ifCond .eq 12, 3) := by decide +kernel
theorem dS_charAt_7 : decode prog_25_method_56_code 7 = .ok (.aload_n 0, 1) := by decide +kernel
theorem dS_charAt_8 : decode prog_25_method_56_code 8 = .ok (.getfield 9, 3) := by decide +kernel
theorem dS_charAt_11 : decode prog_25_method_56_code 11 = .ok (.iload_n 1, 1) := by decide +kernel
theorem dS_charAt_12 : decode prog_25_method_56_code 12 = .ok (.invokestatic 495, 3) := by decide +kernel
theorem dS_charAt_15 : decode prog_25_method_56_code 15 = .ok (.ireturn, 1) := by decide +kernel
theorem cwS_335 : CWV "java/lang/String" 335 yS_coder prog_25_method_152_code 1 (some .byte) 0 := ⟨gt_in 887 (by decide +kernel) rfl, gt_in 174 (by decide +kernel) rfl, ⟨by decide, by decide, by decide +kernel⟩, gt_in 884 (by decide +kernel) rfl, gt_in 885 (by decide +kernel) rfl, gt_in 886 (by decide +kernel) rfl⟩
theorem cwS_492 : CWV "java/lang/String" 492 yS_isLatin1 prog_25_method_154_code 1 (some .boolean) 0 := ⟨gt_in 901 (by decide +kernel) rfl, gt_in 174 (by decide +kernel) rfl, ⟨by decide, by decide, by decide +kernel⟩, gt_in 898 (by decide +kernel) rfl, gt_in 899 (by decide +kernel) rfl, gt_in 900 (by decide +kernel) rfl⟩
theorem cwS_1059 : CWS "java/lang/String" 1059 yS_pcheck prog_35_method_11_code 3 (some .int) 3 := ⟨gt_in 912 (by decide +kernel) rfl, gt_in 176 (by decide +kernel) rfl, ⟨by decide, by decide, by decide +kernel⟩, gt_in 910 (by decide +kernel) rfl, gt_in 911 (by decide +kernel) rfl⟩
theorem cwS_9 : CWS "java/lang/StringLatin1" 9 yS_scheck prog_25_method_155_code 2 none 2 := ⟨gt_in 907 (by decide +kernel) rfl, gt_in 174 (by decide +kernel) rfl, ⟨by decide, by decide, by decide +kernel⟩, gt_in 905 (by decide +kernel) rfl, gt_in 906 (by decide +kernel) rfl⟩
theorem cwS_495 : CWS "java/lang/String" 495 yS_lcharAt prog_26_method_2_code 2 (some .char) 2 := ⟨gt_in 904 (by decide +kernel) rfl, gt_in 175 (by decide +kernel) rfl, ⟨by decide, by decide, by decide +kernel⟩, gt_in 902 (by decide +kernel) rfl, gt_in 903 (by decide +kernel) rfl⟩
set_option maxHeartbeats 4000000 in
set_option maxRecDepth 100000 in
theorem kS_coder (G : Gx) {h : Hp} {e : Nat} {q9 : String × Nat × String × List Int32} (he : STR[e]? = some q9) : MC G yS_coder prog_25_method_152_code 1 (some .byte) 1 64 h [.ref (gsK G e)] (some (.int 0)) h := by
  refine MC.of "java/lang/String" (by decide) rfl (Nat.le_of_ble_eq_true rfl) rfl (fun X C hG hR hF => ?_)
  subst hG
  have hcs : True := trivial
  refine r_gets1 C dS_coder_0 ?_
  refine r_if_eq C 13 dS_coder_3 (by decide) (fun c1 => absurd c1 (by decide)) (fun c1 => ?_)
  refine r_aload_n (i := 0) C dS_coder_6 rfl 0 rfl ?_
  refine r_sgetC C he dS_coder_7 ?_
  refine r_goto C 14 dS_coder_10 (by decide) ?_
  exact r_tret C rfl hF dS_coder_14
set_option maxHeartbeats 4000000 in
set_option maxRecDepth 100000 in
theorem kS_isLatin1 (G : Gx) {h : Hp} {e : Nat} {q9 : String × Nat × String × List Int32} (he : STR[e]? = some q9) : MC G yS_isLatin1 prog_25_method_154_code 1 (some .boolean) 1 64 h [.ref (gsK G e)] (some (.int 1)) h := by
  refine MC.of "java/lang/String" (by decide) rfl (Nat.le_of_ble_eq_true rfl) rfl (fun X C hG hR hF => ?_)
  subst hG
  have hcs : True := trivial
  refine r_gets1 C dS_isLatin1_0 ?_
  refine r_if_eq C 17 dS_isLatin1_3 (by decide) (fun c1 => absurd c1 (by decide)) (fun c1 => ?_)
  refine r_aload_n (i := 0) C dS_isLatin1_6 rfl 0 rfl ?_
  refine r_sgetC C he dS_isLatin1_7 ?_
  refine r_if_ne C 17 dS_isLatin1_10 (by decide) (fun c1 => absurd rfl c1) (fun c1 => ?_)
  refine r_iconst (v := 1) C dS_isLatin1_13 (by decide) ?_
  refine r_goto C 18 dS_isLatin1_14 (by decide) ?_
  exact r_tret C rfl hF dS_isLatin1_18
set_option maxHeartbeats 4000000 in
set_option maxRecDepth 100000 in
theorem kS_length (G : Gx) {h : Hp} {e : Nat} {q9 : String × Nat × String × List Int32} (he : STR[e]? = some q9) : MC G yS_length prog_25_method_54_code 1 (some .int) 2 128 h [.ref (gsK G e)] (some (.int (Int32.ofNat q9.2.2.2.length))) h := by
  refine MC.of "java/lang/String" (by decide) rfl (Nat.le_of_ble_eq_true rfl) rfl (fun X C hG hR hF => ?_)
  subst hG
  have hcs : True := trivial
  refine r_aload_n (i := 0) C dS_length_0 rfl 0 rfl ?_
  refine r_sget C he dS_length_1 ?_
  refine r_salen C he dS_length_4 ?_
  refine r_aload_n (i := 0) C dS_length_5 rfl 0 rfl ?_
  refine r_callVS (As := []) (st := [.int (Int32.ofNat q9.2.2.2.length)]) C he rfl (kS_coder (xG X) he) cwS_335 rfl rfl (Nat.le_of_ble_eq_true rfl) (zr2 hR rfl rfl) (zrcs hcs) dS_length_6 ?_
  refine r_ishr C dS_length_9 ?_
  rw [sb_shr0]
  exact r_iret C hF dS_length_10
set_option maxHeartbeats 4000000 in
set_option maxRecDepth 100000 in
theorem kS_pcheck0 (G : Gx) {h : Hp} {t : Nat} {i n : Int32} (h1 : ¬ i < 0) (h2 : i < n) : MC G yS_pcheck prog_35_method_11_code 3 (some .int) 1 64 h [.int i, .int n, .null] (some (.int i)) h := by
  refine MC.of "jdk/internal/util/Preconditions" (by decide) rfl (Nat.le_of_ble_eq_true rfl) rfl (fun X C hG hR hF => ?_)
  subst hG
  refine r_iload_n (i := 0) C dS_pcheck_0 rfl 0 rfl ?_
  refine r_if_lt C 9 dS_pcheck_1 (by decide) (fun c1 => absurd c1 h1) (fun c1 => ?_)
  refine r_iload_n (i := 0) C dS_pcheck_4 rfl 0 rfl ?_
  refine r_iload_n (i := 1) C dS_pcheck_5 rfl 1 rfl ?_
  refine r_icmp_lt C 16 dS_pcheck_6 (by decide) (fun c1 => ?_) (fun c1 => absurd h2 c1)
  refine r_iload_n (i := 0) C dS_pcheck_16 rfl 0 rfl ?_
  exact r_iret C hF dS_pcheck_17
set_option maxHeartbeats 4000000 in
set_option maxRecDepth 100000 in
theorem kS_pcheck1 (G : Gx) {h : Hp} {t : Nat} {i n : Int32} (h1 : ¬ i < 0) (h2 : i < n) : MC G yS_pcheck prog_35_method_11_code 3 (some .int) 1 64 h [.int i, .int n, (.ref t)] (some (.int i)) h := by
  refine MC.of "jdk/internal/util/Preconditions" (by decide) rfl (Nat.le_of_ble_eq_true rfl) rfl (fun X C hG hR hF => ?_)
  subst hG
  refine r_iload_n (i := 0) C dS_pcheck_0 rfl 0 rfl ?_
  refine r_if_lt C 9 dS_pcheck_1 (by decide) (fun c1 => absurd c1 h1) (fun c1 => ?_)
  refine r_iload_n (i := 0) C dS_pcheck_4 rfl 0 rfl ?_
  refine r_iload_n (i := 1) C dS_pcheck_5 rfl 1 rfl ?_
  refine r_icmp_lt C 16 dS_pcheck_6 (by decide) (fun c1 => ?_) (fun c1 => absurd h2 c1)
  refine r_iload_n (i := 0) C dS_pcheck_16 rfl 0 rfl ?_
  exact r_iret C hF dS_pcheck_17
set_option maxHeartbeats 4000000 in
set_option maxRecDepth 100000 in
theorem kS_scheck (G : Gx) {h : Hp} {i n : Int32} (h1 : ¬ i < 0) (h2 : i < n) : MC G yS_scheck prog_25_method_155_code 2 none 2 128 h [.int i, .int n] none h := by
  refine MC.of "java/lang/String" (by decide) rfl (Nat.le_of_ble_eq_true rfl) rfl (fun X C hG hR hF => ?_)
  subst hG
  have hcs : True := trivial
  refine r_iload_n (i := 0) C dS_scheck_0 rfl 0 rfl ?_
  refine r_iload_n (i := 1) C dS_scheck_1 rfl 1 rfl ?_
  refine r_getsF C dS_scheck_2 ?_ (fun t => ?_)
  · refine r_callSi (As := [.int i, .int n, .null]) (st := []) C (kS_pcheck0 (t := 0) (xG X) h1 h2) cwS_1059 rfl rfl (Nat.le_of_ble_eq_true rfl) (zr2 hR rfl rfl) (zrcs hcs) dS_scheck_5 ?_
    refine r_pop C dS_scheck_8 rfl ?_
    exact r_vret C hF dS_scheck_9
  · refine r_callSi (As := [.int i, .int n, .ref t]) (st := []) C (kS_pcheck1 (xG X) h1 h2) cwS_1059 rfl rfl (Nat.le_of_ble_eq_true rfl) (zr2 hR rfl rfl) (zrcs hcs) dS_scheck_5 ?_
    refine r_pop C dS_scheck_8 rfl ?_
    exact r_vret C hF dS_scheck_9
def jch (x : Int32) : Int32 := ((x &&& 255).toUInt32 % 65536).toInt32
theorem inb_lt {i : Int32} {n : Nat} (h : inb i n) (hn : n < 2 ^ 31) : ¬ i < 0 ∧ i < Int32.ofNat n := by
  refine ⟨fun q => h (Or.inl q), ?_⟩
  obtain ⟨j, hj, rfl⟩ := vp_in_of h hn
  exact nI_lt hj hn
theorem str_len {e : Nat} {q9 : String × Nat × String × List Int32} (he : STR[e]? = some q9) : q9.2.2.2.length < 2 ^ 31 := by
  have h : ∀ q ∈ STR, q.2.2.2.length < 2 ^ 31 := by decide
  exact h _ (List.mem_of_getElem? he)
set_option maxHeartbeats 4000000 in
set_option maxRecDepth 100000 in
theorem kS_lcharAt (G : Gx) {h : Hp} {e : Nat} {q9 : String × Nat × String × List Int32} (he : STR[e]? = some q9) {i : Int32} (hin : inb i q9.2.2.2.length) : MC G yS_lcharAt prog_26_method_2_code 2 (some .char) 3 192 h [.ref (gsV G e), .int i] (some (.int (jch (q9.2.2.2.getD i.toNatClampNeg 0)))) h := by
  refine MC.of "java/lang/StringLatin1" (by decide) rfl (Nat.le_of_ble_eq_true rfl) rfl (fun X C hG hR hF => ?_)
  subst hG
  have hcs : True := trivial
  refine r_iload_n (i := 1) C dS_lcharAt_0 rfl 1 rfl ?_
  refine r_aload_n (i := 0) C dS_lcharAt_1 rfl 0 rfl ?_
  refine r_salen C he dS_lcharAt_2 ?_
  have hi := inb_lt hin (str_len he)
  refine r_callSv (As := [.int i, .int (Int32.ofNat q9.2.2.2.length)]) (st := []) C (kS_scheck (xG X) hi.1 hi.2) cwS_9 rfl rfl (Nat.le_of_ble_eq_true rfl) (zr2 hR rfl rfl) (zrcs hcs) dS_lcharAt_3 ?_
  refine r_aload_n (i := 0) C dS_lcharAt_6 rfl 0 rfl ?_
  refine r_iload_n (i := 1) C dS_lcharAt_7 rfl 1 rfl ?_
  refine r_sbald C he hin dS_lcharAt_8 ?_
  refine r_sipush (v := 255) C dS_lcharAt_9 (by decide) ?_
  refine r_iand C dS_lcharAt_12 ?_
  refine r_i2c C dS_lcharAt_13 ?_
  exact r_tret C (pk_nc _) hF dS_lcharAt_14
set_option maxHeartbeats 4000000 in
set_option maxRecDepth 100000 in
theorem kS_charAt (G : Gx) {h : Hp} {e : Nat} {q9 : String × Nat × String × List Int32} (he : STR[e]? = some q9) {i : Int32} (hin : inb i q9.2.2.2.length) : MC G yS_charAt prog_25_method_56_code 2 (some .char) 4 256 h [.ref (gsK G e), .int i] (some (.int (jch (q9.2.2.2.getD i.toNatClampNeg 0)))) h := by
  refine MC.of "java/lang/String" (by decide) rfl (Nat.le_of_ble_eq_true rfl) rfl (fun X C hG hR hF => ?_)
  subst hG
  have hcs : True := trivial
  refine r_aload_n (i := 0) C dS_charAt_0 rfl 0 rfl ?_
  refine r_callVS (As := []) (st := []) C he rfl (kS_isLatin1 (xG X) he) cwS_492 rfl rfl (Nat.le_of_ble_eq_true rfl) (zr2 hR rfl rfl) (zrcs hcs) dS_charAt_1 ?_
  refine r_if_eq C 16 dS_charAt_4 (by decide) (fun c1 => absurd c1 (by decide)) (fun c1 => ?_)
  refine r_aload_n (i := 0) C dS_charAt_7 rfl 0 rfl ?_
  refine r_sget C he dS_charAt_8 ?_
  refine r_iload_n (i := 1) C dS_charAt_11 rfl 1 rfl ?_
  refine r_callSi (As := [.ref (gsV (xG X) e), .int i]) (st := []) C (kS_lcharAt (xG X) he hin) cwS_495 rfl rfl (Nat.le_of_ble_eq_true rfl) (zr2 hR rfl rfl) (zrcs hcs) dS_charAt_12 ?_
  exact r_tret C (pk_nc _) hF dS_charAt_15
theorem gS_slen : Cond.code yS_length prog_25_method_54_code 1 (some .int) ∈ GT := gt_in 883 (by decide +kernel) rfl
theorem gI_slen : Cond.instanceMethod yS_length ∈ GT := gt_in 881 (by decide +kernel) rfl
theorem gL_slen : Cond.selects yS_length.cls yS_length yS_length ∈ GT := gt_in 882 (by decide +kernel) rfl
theorem gN_slen : Cond.initialized yS_length.cls ∈ GT := gt_in 174 (by decide +kernel) rfl
theorem r_slen {X : Cx} {cc : ByteArray} {nL : Nat} {own : String} {ret : Option FieldType} {h : Hp} {cells slots pc : Nat} {lv : List (Nat × Value)} {st : List Value} (C : OK X cc nL own ret) {e index : Nat} {so sx : String} {sn : Nat} {w : List Int32} (he : STR[e]? = some (so, sn, sx, w)) (hw : Cond.methodLink own index yS_length ∈ GT) (hR : 2 + 1 ≤ (xR X).frames ∧ 8 + (1 + 11) + 128 ≤ (xR X).locals) (hcs : cells ≤ (xR X).cells ∧ slots ≤ (xR X).slots) (hcat : (st.map fun v => v.category).sum ≤ 8) (hd : decode cc pc = .ok (.invokevirtual index, 3)) (kk : VW X nL h cells slots (pc + 3) lv (.int (Int32.ofNat w.length) :: st)) : VW X nL h cells slots pc lv (.ref (gsK (xG X) e) :: st) := r_callVS (n := 0) (As := []) C he rfl (kS_length (xG X) he) ⟨gS_slen, gN_slen, ⟨by decide, by decide, by decide +kernel⟩, hw, gI_slen, gL_slen⟩ rfl rfl hcat hR hcs hd kk
theorem gS_charAt : Cond.code yS_charAt prog_25_method_56_code 2 (some .char) ∈ GT := gt_in 897 (by decide +kernel) rfl
theorem gI_charAt : Cond.instanceMethod yS_charAt ∈ GT := gt_in 895 (by decide +kernel) rfl
theorem gL_charAt : Cond.selects yS_charAt.cls yS_charAt yS_charAt ∈ GT := gt_in 896 (by decide +kernel) rfl
theorem gN_charAt : Cond.initialized yS_charAt.cls ∈ GT := gt_in 174 (by decide +kernel) rfl
theorem r_charAt {X : Cx} {cc : ByteArray} {nL : Nat} {own : String} {ret : Option FieldType} {h : Hp} {cells slots pc : Nat} {lv : List (Nat × Value)} {st : List Value} (C : OK X cc nL own ret) {e index : Nat} {so sx : String} {sn : Nat} {w : List Int32} (he : STR[e]? = some (so, sn, sx, w)) {i : Int32} (hin : inb i w.length) (hw : Cond.methodLink own index yS_charAt ∈ GT) (hR : 4 + 1 ≤ (xR X).frames ∧ 8 + (2 + 11) + 256 ≤ (xR X).locals) (hcs : cells ≤ (xR X).cells ∧ slots ≤ (xR X).slots) (hcat : (st.map fun v => v.category).sum ≤ 8) (hd : decode cc pc = .ok (.invokevirtual index, 3)) (kk : VW X nL h cells slots (pc + 3) lv (.int (jch (w.getD i.toNatClampNeg 0)) :: st)) : VW X nL h cells slots pc lv (.int i :: .ref (gsK (xG X) e) :: st) := r_callVS (n := 1) (As := [.int i]) C he rfl (kS_charAt (xG X) he hin) ⟨gS_charAt, gN_charAt, ⟨by decide, by decide, by decide +kernel⟩, hw, gI_charAt, gL_charAt⟩ rfl rfl hcat hR hcs hd kk
theorem zrS {X : Cx} {F L fr lo k : Nat} (hR : xR X = { frames := F, cells := 0, slots := 0, locals := L }) (h1 : Nat.ble (fr + 1) F = true) (h2 : Nat.ble (8 + (k + 11) + lo) L = true) : fr + 1 ≤ (xR X).frames ∧ 8 + (k + 11) + lo ≤ (xR X).locals := by rw [hR]; exact ⟨Nat.le_of_ble_eq_true h1, Nat.le_of_ble_eq_true h2⟩

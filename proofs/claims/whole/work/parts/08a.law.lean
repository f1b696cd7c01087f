/-! The law's own loop. -/
def SCR (X : Cx) (b L : Nat) (xs : Nat → Int32) : Prop := match X with
  | (_, _, _, s, _, _, _, _, _, _, G) => va_X b L xs s s.heap ∧ b < s.heap.size ∧ ¬ gA G b
def CWSW (own : String) (index : Nat) (y : MethodName) (cc2 : ByteArray) (maxL2 : Nat) (ret2 : Option FieldType) (hh : List (Nat × Nat × Nat × Nat)) (n : Nat) : Prop :=
  Cond.codeWith y cc2 maxL2 ret2 hh ∈ GT ∧ Cond.initialized y.cls ∈ GT ∧ (y.cls ≠ "java/lang/invoke/MethodHandle" ∧ y.cls ≠ "java/lang/invoke/VarHandle" ∧ (parseMethodDescriptor y.desc).map (fun d => d.parameters.length) = some n) ∧ Cond.methodLink own index y ∈ GT ∧ Cond.static y ∈ GT
def LAWQ (X : Cx) : Prop := match X with
  | (_, _, R, s, _, args, below, _, _, Q, G) => R = room_1 ∧ G.2.2.2.2.1 = s.heap.size ∧ ∃ b : Nat, args = #[Value.ref b] ∧ Q = lw_Z below #[Value.ref b] s
section LAW2
variable {X : Cx} {cc : ByteArray} {nL : Nat} {own : String} {ret : Option FieldType} {h : Hp} {cells slots pc : Nat} {lv : List (Nat × Value)} {st : List Value}
theorem r_sld (C : OK X cc nL own ret) {b L : Nat} {xs : Nat → Int32} (hX : SCR X b L xs) {i : Int32} (hin : inb i L) (hd : decode cc pc = .ok (.iaload, 1)) (kk : VW X nL h cells slots (pc + 1) lv (.int (xs i.toNatClampNeg) :: st)) : VW X nL h cells slots pc lv (.int i :: .ref b :: st) := by
  obtain ⟨p, e9, R, s, m, args, below, meth, c, Q, l, D, cA, ad, L0, sK, sV⟩ := X
  obtain ⟨hx, hb, hml, hown, hts, hT, hr, hlk⟩ := C
  intro H locs ls hP hS hl
  exact va_sld hx hb hX.1 hX.2.1 hX.2.2 hS hin hd (kk H locs ls hP hS hl)
theorem r_slen9 (C : OK X cc nL own ret) {b L : Nat} {xs : Nat → Int32} (hX : SCR X b L xs) (hd : decode cc pc = .ok (.arraylength, 1)) (kk : VW X nL h cells slots (pc + 1) lv (.int (Int32.ofNat L) :: st)) : VW X nL h cells slots pc lv (.ref b :: st) := by
  obtain ⟨p, e9, R, s, m, args, below, meth, c, Q, l, D, cA, ad, L0, sK, sV⟩ := X
  obtain ⟨hx, hb, hml, hown, hts, hT, hr, hlk⟩ := C
  intro H locs ls hP hS hl
  exact va_slen hx hb hX.1 hX.2.1 hX.2.2 hS hd (kk H locs ls hP hS hl)
theorem r_callSW (C : OK X cc nL own ret) {y : MethodName} {cc2 : ByteArray} {maxL2 : Nat} {ret2 : Option FieldType} {hh : List (Nat × Nat × Nat × Nat)} {fr lo index n : Nat} {As : List Value} {st0 : List Value} {h2 : Hp} {rv : Int32} (hM : MCW (xG X) y cc2 maxL2 ret2 hh fr lo h As (some (.int rv)) h2) (hw : CWSW own index y cc2 maxL2 ret2 hh n) (hn : As.length = n) (hst : st0 = As.reverse ++ st) (hcat : (st.map fun v => v.category).sum ≤ 8) (hR : fr + 1 ≤ (xR X).frames ∧ 8 + (maxL2 + 11) + lo ≤ (xR X).locals) (hcs : cells + 1 ≤ (xR X).cells ∧ slots + 6 ≤ (xR X).slots) (hd : decode cc pc = .ok (.invokestatic index, 3)) (kk : VW X nL h2 (cells + 1) (slots + 6) (pc + 3) lv (.int rv :: st)) : VW X nL h cells slots pc lv st0 := by
  obtain ⟨p, e9, R, s, m, args, below, meth, c, Q, l, D, cA, ad, L0, sK, sV⟩ := X
  obtain ⟨hx, hb, hml, hown, hts, hT, hr, hlk⟩ := C
  intro H locs ls hP hS hl
  subst hst
  obtain ⟨w1, w2, w3, w4, w5⟩ := hw
  have hG : GoodIn GT (va_wsS own index y (.codeWith y cc2 maxL2 ret2 hh :: GT)) := by
    intro w hw
    rcases List.mem_append.mp hw with hw | hw
    · simp only [List.mem_cons, List.not_mem_nil, or_false] at hw
      rcases hw with rfl | rfl | rfl
      · exact ⟨w4, gt_good w4⟩
      · exact ⟨w5, gt_good w5⟩
      · exact ⟨w2, gt_good w2⟩
    · rcases List.mem_cons.mp hw with rfl | hw
      · exact ⟨w1, gt_good w1⟩
      · exact ⟨hw, gt_good hw⟩
  have hrun := vx_runSW (H := H) (locs := locs) (cells := cells) (slots := slots) (below := below) (e := e9) (meth := meth) (g := F0 m pc ls (As.reverse ++ st)) (As := As) (rest := st) ⟨hx, hb, hml, hown, hts⟩ hM (vx_cwSW n hts hG rfl rfl rfl w3 hR) ⟨gPc.blind, fun U hU hW => ⟨rfl, by rw [hU]; exact hP, hT.call hW hU hS⟩⟩ rfl hn hl.1 rfl (lv_room hcat) hd hcs
  intro T9 hT9 X9
  obtain ⟨v, st₀, t, T', L, h0, X', hL, e1, e2, ⟨hv, hp, hz, hk⟩, hst⟩ := hrun T9 hT9 X9
  cases hv
  rw [h0] at hz hk
  obtain ⟨t2, a1, b1⟩ := kk T'.heap (locs ++ L) ls (by rw [e1]; exact hp)
    ⟨Nat.le_trans hS.1 (by rw [e1]; exact hz), fun q h1 h2 => by rw [e1, hk q (Nat.lt_of_lt_of_le h1 hS.1) h2]; exact hS.2.1 q h1 h2, fun q hq => by
      rcases List.mem_append.mp hq with h | h
      · exact hS.2.2 q h
      · exact hL q h⟩ hl T' rfl X'
  exact ⟨t2, hst t2 a1, b1⟩
theorem zl2 {fr lo maxL2 : Nat} (hR : xR X = { frames := 2048, cells := 601024, slots := 7293034, locals := 84000 }) (h1 : Nat.ble (fr + 1) 2048 = true) (h2 : Nat.ble (8 + (maxL2 + 11) + lo) 84000 = true) : fr + 1 ≤ (xR X).frames ∧ 8 + (maxL2 + 11) + lo ≤ (xR X).locals := by rw [hR]; exact ⟨Nat.le_of_ble_eq_true h1, Nat.le_of_ble_eq_true h2⟩
theorem zlc {a b : Nat} (hR : xR X = { frames := 2048, cells := 601024, slots := 7293034, locals := 84000 }) (h1 : a ≤ 601024) (h2 : b ≤ 7293034) : a ≤ (xR X).cells ∧ b ≤ (xR X).slots := by rw [hR]; exact ⟨h1, h2⟩
end LAW2
theorem law_i {i L : Nat} (hL : L ≤ 3072) (hi : i ≤ L + 6) (h : ¬ Int32.ofNat L - (6 : Int32) < nI i) : i + 6 ≤ L := by
  rcases Nat.lt_or_ge L (i + 6) with q | q
  · exfalso
    apply h
    have e1 : (Int32.ofNat L - (6 : Int32)).toInt = (L : Int) - 6 := pk_sub_toInt (a := L) (b := 6) (by omega) (by omega)
    have e2 : (nI i).toInt = (i : Int) := nI_toInt (by omega)
    exact Int32.lt_iff_toInt_lt.mpr (by rw [e1, e2]; omega)
  · exact q
theorem r_lawret {X : Cx} {nL : Nat} {own : String} {h : Hp} {cells slots pc : Nat} {lv : List (Nat × Value)} {rt : Option FieldType} (hrt : rt = ret) (C : OK X code nL own rt) (hE : LAWQ X) (hc : cells ≤ 601024) (hs : slots ≤ 7293034) (hd : decode code pc = .ok (.ireturn, 1)) : VW X nL h cells slots pc lv [.int 1] := by
  obtain ⟨p, e9, R, s, m, args, below, meth, c, Q, l, D, cA, ad, L0, sK, sV⟩ := X
  subst hrt
  obtain ⟨hx, hb, hml, hown, hts, hT, hr, hlk⟩ := C
  intro H locs ls hP hS hl
  obtain ⟨rfl, hL0, b, rfl, rfl⟩ := hE
  have hL0 : L0 = s.heap.size := hL0
  subst hL0
  refine va_forget (fun q hq => hS.2.2 q hq) ?_
  refine W.widen hc hs ?_
  exact lw_ret hx hb hr hlk hd
theorem gw_530 : Cond.code yX11_feed prog_1_method_2_code 6 (some .int) ∈ GT := gt_in 530 (by decide +kernel) rfl
theorem gw_527 : Cond.methodLink RL 110 yX11_feed ∈ GT := gt_in 527 (by decide +kernel) rfl
theorem gw_528 : Cond.instanceMethod yX11_feed ∈ GT := gt_in 528 (by decide +kernel) rfl
theorem gw_529 : Cond.selects RX11 yX11_feed yX11_feed ∈ GT := gt_in 529 (by decide +kernel) rfl
theorem gw_1576 : Cond.code yX12_feed prog_14_method_20_code 7 (some .int) ∈ GT := gt_in 1576 (by decide +kernel) rfl
theorem gw_1573 : Cond.methodLink RL 114 yX12_feed ∈ GT := gt_in 1573 (by decide +kernel) rfl
theorem gw_1574 : Cond.instanceMethod yX12_feed ∈ GT := gt_in 1574 (by decide +kernel) rfl
theorem gw_1575 : Cond.selects RX12 yX12_feed yX12_feed ∈ GT := gt_in 1575 (by decide +kernel) rfl
theorem gw_542 : Cond.code yX11_end prog_1_method_3_code 2 (some .boolean) ∈ GT := gt_in 542 (by decide +kernel) rfl
theorem gw_539 : Cond.methodLink RL 115 yX11_end ∈ GT := gt_in 539 (by decide +kernel) rfl
theorem gw_540 : Cond.instanceMethod yX11_end ∈ GT := gt_in 540 (by decide +kernel) rfl
theorem gw_541 : Cond.selects RX11 yX11_end yX11_end ∈ GT := gt_in 541 (by decide +kernel) rfl
theorem gw_1580 : Cond.code yX12_end prog_14_method_21_code 2 (some .boolean) ∈ GT := gt_in 1580 (by decide +kernel) rfl
theorem gw_1577 : Cond.methodLink RL 119 yX12_end ∈ GT := gt_in 1577 (by decide +kernel) rfl
theorem gw_1578 : Cond.instanceMethod yX12_end ∈ GT := gt_in 1578 (by decide +kernel) rfl
theorem gw_1579 : Cond.selects RX12 yX12_end yX12_end ∈ GT := gt_in 1579 (by decide +kernel) rfl
theorem gw_1588 : Cond.code yX12_sky prog_14_method_49_code 3 (some .int) ∈ GT := gt_in 1588 (by decide +kernel) rfl
theorem gw_1585 : Cond.methodLink RL 125 yX12_sky ∈ GT := gt_in 1585 (by decide +kernel) rfl
theorem gw_1586 : Cond.instanceMethod yX12_sky ∈ GT := gt_in 1586 (by decide +kernel) rfl
theorem gw_1587 : Cond.selects RX12 yX12_sky yX12_sky ∈ GT := gt_in 1587 (by decide +kernel) rfl
theorem gw_1481 : Cond.code yX12_thrown prog_14_method_1_code 1 (some .int) ∈ GT := gt_in 1481 (by decide +kernel) rfl
theorem gw_1478 : Cond.methodLink RL 126 yX12_thrown ∈ GT := gt_in 1478 (by decide +kernel) rfl
theorem gw_1479 : Cond.instanceMethod yX12_thrown ∈ GT := gt_in 1479 (by decide +kernel) rfl
theorem gw_1480 : Cond.selects RX12 yX12_thrown yX12_thrown ∈ GT := gt_in 1480 (by decide +kernel) rfl
theorem gw_1745 : Cond.code yX12_law prog_14_method_50_code 3 (some .int) ∈ GT := gt_in 1745 (by decide +kernel) rfl
theorem gw_1742 : Cond.methodLink RL 131 yX12_law ∈ GT := gt_in 1742 (by decide +kernel) rfl
theorem gw_1743 : Cond.instanceMethod yX12_law ∈ GT := gt_in 1743 (by decide +kernel) rfl
theorem gw_1744 : Cond.selects RX12 yX12_law yX12_law ∈ GT := gt_in 1744 (by decide +kernel) rfl
theorem gw_550 : Cond.code yX11_fault prog_1_method_6_code 1 (some .int) ∈ GT := gt_in 550 (by decide +kernel) rfl
theorem gw_547 : Cond.methodLink RL 132 yX11_fault ∈ GT := gt_in 547 (by decide +kernel) rfl
theorem gw_548 : Cond.instanceMethod yX11_fault ∈ GT := gt_in 548 (by decide +kernel) rfl
theorem gw_549 : Cond.selects RX11 yX11_fault yX11_fault ∈ GT := gt_in 549 (by decide +kernel) rfl
theorem gw_1584 : Cond.code yX12_fault prog_14_method_30_code 1 (some .int) ∈ GT := gt_in 1584 (by decide +kernel) rfl
theorem gw_1581 : Cond.methodLink RL 135 yX12_fault ∈ GT := gt_in 1581 (by decide +kernel) rfl
theorem gw_1582 : Cond.instanceMethod yX12_fault ∈ GT := gt_in 1582 (by decide +kernel) rfl
theorem gw_1583 : Cond.selects RX12 yX12_fault yX12_fault ∈ GT := gt_in 1583 (by decide +kernel) rfl
theorem gw_1749 : Cond.code yX12_place prog_14_method_66_code 4 (some .int) ∈ GT := gt_in 1749 (by decide +kernel) rfl
theorem gw_1746 : Cond.methodLink RL 139 yX12_place ∈ GT := gt_in 1746 (by decide +kernel) rfl
theorem gw_1747 : Cond.instanceMethod yX12_place ∈ GT := gt_in 1747 (by decide +kernel) rfl
theorem gw_1748 : Cond.selects RX12 yX12_place yX12_place ∈ GT := gt_in 1748 (by decide +kernel) rfl
theorem gw_1814 : Cond.code yX12_pinner prog_14_method_67_code 3 (some .int) ∈ GT := gt_in 1814 (by decide +kernel) rfl
theorem gw_1811 : Cond.methodLink RL 142 yX12_pinner ∈ GT := gt_in 1811 (by decide +kernel) rfl
theorem gw_1812 : Cond.instanceMethod yX12_pinner ∈ GT := gt_in 1812 (by decide +kernel) rfl
theorem gw_1813 : Cond.selects RX12 yX12_pinner yX12_pinner ∈ GT := gt_in 1813 (by decide +kernel) rfl
theorem gw_1826 : Cond.code yX12_rusts prog_14_method_68_code 2 (some .int) ∈ GT := gt_in 1826 (by decide +kernel) rfl
theorem gw_1823 : Cond.methodLink RL 146 yX12_rusts ∈ GT := gt_in 1823 (by decide +kernel) rfl
theorem gw_1824 : Cond.instanceMethod yX12_rusts ∈ GT := gt_in 1824 (by decide +kernel) rfl
theorem gw_1825 : Cond.selects RX12 yX12_rusts yX12_rusts ∈ GT := gt_in 1825 (by decide +kernel) rfl
theorem gw_1851 : Cond.code yX12_pin prog_14_method_73_code 3 (some .int) ∈ GT := gt_in 1851 (by decide +kernel) rfl
theorem gw_1848 : Cond.methodLink RL 149 yX12_pin ∈ GT := gt_in 1848 (by decide +kernel) rfl
theorem gw_1849 : Cond.instanceMethod yX12_pin ∈ GT := gt_in 1849 (by decide +kernel) rfl
theorem gw_1850 : Cond.selects RX12 yX12_pin yX12_pin ∈ GT := gt_in 1850 (by decide +kernel) rfl
theorem gw_1863 : Cond.code yX12_change prog_14_method_74_code 4 (some .int) ∈ GT := gt_in 1863 (by decide +kernel) rfl
theorem gw_1860 : Cond.methodLink RL 152 yX12_change ∈ GT := gt_in 1860 (by decide +kernel) rfl
theorem gw_1861 : Cond.instanceMethod yX12_change ∈ GT := gt_in 1861 (by decide +kernel) rfl
theorem gw_1862 : Cond.selects RX12 yX12_change yX12_change ∈ GT := gt_in 1862 (by decide +kernel) rfl
theorem gw_1867 : Cond.code yX12_go prog_14_method_75_code 4 (some .int) ∈ GT := gt_in 1867 (by decide +kernel) rfl
theorem gw_1864 : Cond.methodLink RL 155 yX12_go ∈ GT := gt_in 1864 (by decide +kernel) rfl
theorem gw_1865 : Cond.instanceMethod yX12_go ∈ GT := gt_in 1865 (by decide +kernel) rfl
theorem gw_1866 : Cond.selects RX12 yX12_go yX12_go ∈ GT := gt_in 1866 (by decide +kernel) rfl
theorem gw_1871 : Cond.code yX12_pull prog_14_method_76_code 3 (some .int) ∈ GT := gt_in 1871 (by decide +kernel) rfl
theorem gw_1868 : Cond.methodLink RL 158 yX12_pull ∈ GT := gt_in 1868 (by decide +kernel) rfl
theorem gw_1869 : Cond.instanceMethod yX12_pull ∈ GT := gt_in 1869 (by decide +kernel) rfl
theorem gw_1870 : Cond.selects RX12 yX12_pull yX12_pull ∈ GT := gt_in 1870 (by decide +kernel) rfl
theorem gw_1879 : Cond.code yX12_hand prog_14_method_77_code 3 (some .int) ∈ GT := gt_in 1879 (by decide +kernel) rfl
theorem gw_1876 : Cond.methodLink RL 161 yX12_hand ∈ GT := gt_in 1876 (by decide +kernel) rfl
theorem gw_1877 : Cond.instanceMethod yX12_hand ∈ GT := gt_in 1877 (by decide +kernel) rfl
theorem gw_1878 : Cond.selects RX12 yX12_hand yX12_hand ∈ GT := gt_in 1878 (by decide +kernel) rfl
theorem gw_1883 : Cond.code yX12_fell prog_14_method_78_code 3 (some .int) ∈ GT := gt_in 1883 (by decide +kernel) rfl
theorem gw_1880 : Cond.methodLink RL 164 yX12_fell ∈ GT := gt_in 1880 (by decide +kernel) rfl
theorem gw_1881 : Cond.instanceMethod yX12_fell ∈ GT := gt_in 1881 (by decide +kernel) rfl
theorem gw_1882 : Cond.selects RX12 yX12_fell yX12_fell ∈ GT := gt_in 1882 (by decide +kernel) rfl
theorem gw_1887 : Cond.code yX12_height prog_14_method_79_code 3 (some .int) ∈ GT := gt_in 1887 (by decide +kernel) rfl
theorem gw_1884 : Cond.methodLink RL 167 yX12_height ∈ GT := gt_in 1884 (by decide +kernel) rfl
theorem gw_1885 : Cond.instanceMethod yX12_height ∈ GT := gt_in 1885 (by decide +kernel) rfl
theorem gw_1886 : Cond.selects RX12 yX12_height yX12_height ∈ GT := gt_in 1886 (by decide +kernel) rfl
theorem gw_1891 : Cond.code yX12_days prog_14_method_86_code 4 (some .int) ∈ GT := gt_in 1891 (by decide +kernel) rfl
theorem gw_1888 : Cond.methodLink RL 170 yX12_days ∈ GT := gt_in 1888 (by decide +kernel) rfl
theorem gw_1889 : Cond.instanceMethod yX12_days ∈ GT := gt_in 1889 (by decide +kernel) rfl
theorem gw_1890 : Cond.selects RX12 yX12_days yX12_days ∈ GT := gt_in 1890 (by decide +kernel) rfl
theorem gw_554 : Cond.code yX11_low prog_1_method_18_code 1 (some .int) ∈ GT := gt_in 554 (by decide +kernel) rfl
theorem gw_551 : Cond.methodLink RL 171 yX11_low ∈ GT := gt_in 551 (by decide +kernel) rfl
theorem gw_552 : Cond.instanceMethod yX11_low ∈ GT := gt_in 552 (by decide +kernel) rfl
theorem gw_553 : Cond.selects RX11 yX11_low yX11_low ∈ GT := gt_in 553 (by decide +kernel) rfl
theorem gw_1834 : Cond.code yX12_low prog_14_method_69_code 1 (some .int) ∈ GT := gt_in 1834 (by decide +kernel) rfl
theorem gw_1831 : Cond.methodLink RL 174 yX12_low ∈ GT := gt_in 1831 (by decide +kernel) rfl
theorem gw_1832 : Cond.instanceMethod yX12_low ∈ GT := gt_in 1832 (by decide +kernel) rfl
theorem gw_1833 : Cond.selects RX12 yX12_low yX12_low ∈ GT := gt_in 1833 (by decide +kernel) rfl
theorem gw_621 : Cond.code yX11_held prog_1_method_19_code 1 (some .int) ∈ GT := gt_in 621 (by decide +kernel) rfl
theorem gw_618 : Cond.methodLink RL 175 yX11_held ∈ GT := gt_in 618 (by decide +kernel) rfl
theorem gw_619 : Cond.instanceMethod yX11_held ∈ GT := gt_in 619 (by decide +kernel) rfl
theorem gw_620 : Cond.selects RX11 yX11_held yX11_held ∈ GT := gt_in 620 (by decide +kernel) rfl
theorem gw_1847 : Cond.code yX12_held prog_14_method_70_code 1 (some .int) ∈ GT := gt_in 1847 (by decide +kernel) rfl
theorem gw_1844 : Cond.methodLink RL 178 yX12_held ∈ GT := gt_in 1844 (by decide +kernel) rfl
theorem gw_1845 : Cond.instanceMethod yX12_held ∈ GT := gt_in 1845 (by decide +kernel) rfl
theorem gw_1846 : Cond.selects RX12 yX12_held yX12_held ∈ GT := gt_in 1846 (by decide +kernel) rfl
theorem gw_626 : Cond.code yX11_gives prog_1_method_20_code 4 (some .int) ∈ GT := gt_in 626 (by decide +kernel) rfl
theorem gw_623 : Cond.methodLink RL 179 yX11_gives ∈ GT := gt_in 623 (by decide +kernel) rfl
theorem gw_624 : Cond.instanceMethod yX11_gives ∈ GT := gt_in 624 (by decide +kernel) rfl
theorem gw_625 : Cond.selects RX11 yX11_gives yX11_gives ∈ GT := gt_in 625 (by decide +kernel) rfl
theorem gw_1932 : Cond.code yX12_gives prog_14_method_89_code 5 (some .int) ∈ GT := gt_in 1932 (by decide +kernel) rfl
theorem gw_1929 : Cond.methodLink RL 182 yX12_gives ∈ GT := gt_in 1929 (by decide +kernel) rfl
theorem gw_1930 : Cond.instanceMethod yX12_gives ∈ GT := gt_in 1930 (by decide +kernel) rfl
theorem gw_1931 : Cond.selects RX12 yX12_gives yX12_gives ∈ GT := gt_in 1931 (by decide +kernel) rfl
theorem gw_695 : Cond.code yX11_weakest prog_1_method_21_code 5 (some .int) ∈ GT := gt_in 695 (by decide +kernel) rfl
theorem gw_692 : Cond.methodLink RL 183 yX11_weakest ∈ GT := gt_in 692 (by decide +kernel) rfl
theorem gw_693 : Cond.instanceMethod yX11_weakest ∈ GT := gt_in 693 (by decide +kernel) rfl
theorem gw_694 : Cond.selects RX11 yX11_weakest yX11_weakest ∈ GT := gt_in 694 (by decide +kernel) rfl
theorem gw_1940 : Cond.code yX12_weakest prog_14_method_91_code 5 (some .int) ∈ GT := gt_in 1940 (by decide +kernel) rfl
theorem gw_1937 : Cond.methodLink RL 186 yX12_weakest ∈ GT := gt_in 1937 (by decide +kernel) rfl
theorem gw_1938 : Cond.instanceMethod yX12_weakest ∈ GT := gt_in 1938 (by decide +kernel) rfl
theorem gw_1939 : Cond.selects RX12 yX12_weakest yX12_weakest ∈ GT := gt_in 1939 (by decide +kernel) rfl
theorem gw_704 : Cond.code yX11_key prog_1_method_22_code 4 (some .int) ∈ GT := gt_in 704 (by decide +kernel) rfl
theorem gw_701 : Cond.methodLink RL 187 yX11_key ∈ GT := gt_in 701 (by decide +kernel) rfl
theorem gw_702 : Cond.instanceMethod yX11_key ∈ GT := gt_in 702 (by decide +kernel) rfl
theorem gw_703 : Cond.selects RX11 yX11_key yX11_key ∈ GT := gt_in 703 (by decide +kernel) rfl
theorem gw_1944 : Cond.code yX12_key prog_14_method_92_code 4 (some .int) ∈ GT := gt_in 1944 (by decide +kernel) rfl
theorem gw_1941 : Cond.methodLink RL 190 yX12_key ∈ GT := gt_in 1941 (by decide +kernel) rfl
theorem gw_1942 : Cond.instanceMethod yX12_key ∈ GT := gt_in 1942 (by decide +kernel) rfl
theorem gw_1943 : Cond.selects RX12 yX12_key yX12_key ∈ GT := gt_in 1943 (by decide +kernel) rfl
theorem gw_722 : Cond.code yX11_fewest prog_1_method_23_code 6 (some .int) ∈ GT := gt_in 722 (by decide +kernel) rfl
theorem gw_719 : Cond.methodLink RL 191 yX11_fewest ∈ GT := gt_in 719 (by decide +kernel) rfl
theorem gw_720 : Cond.instanceMethod yX11_fewest ∈ GT := gt_in 720 (by decide +kernel) rfl
theorem gw_721 : Cond.selects RX11 yX11_fewest yX11_fewest ∈ GT := gt_in 721 (by decide +kernel) rfl
theorem gw_1961 : Cond.code yX12_fewest prog_14_method_95_code 7 (some .int) ∈ GT := gt_in 1961 (by decide +kernel) rfl
theorem gw_1958 : Cond.methodLink RL 194 yX12_fewest ∈ GT := gt_in 1958 (by decide +kernel) rfl
theorem gw_1959 : Cond.instanceMethod yX12_fewest ∈ GT := gt_in 1959 (by decide +kernel) rfl
theorem gw_1960 : Cond.selects RX12 yX12_fewest yX12_fewest ∈ GT := gt_in 1960 (by decide +kernel) rfl
theorem gw_742 : Cond.code yX11_first prog_1_method_24_code 6 (some .int) ∈ GT := gt_in 742 (by decide +kernel) rfl
theorem gw_739 : Cond.methodLink RL 195 yX11_first ∈ GT := gt_in 739 (by decide +kernel) rfl
theorem gw_740 : Cond.instanceMethod yX11_first ∈ GT := gt_in 740 (by decide +kernel) rfl
theorem gw_741 : Cond.selects RX11 yX11_first yX11_first ∈ GT := gt_in 741 (by decide +kernel) rfl
theorem gw_1953 : Cond.code yX12_first prog_14_method_94_code 5 (some .int) ∈ GT := gt_in 1953 (by decide +kernel) rfl
theorem gw_1950 : Cond.methodLink RL 198 yX12_first ∈ GT := gt_in 1950 (by decide +kernel) rfl
theorem gw_1951 : Cond.instanceMethod yX12_first ∈ GT := gt_in 1951 (by decide +kernel) rfl
theorem gw_1952 : Cond.selects RX12 yX12_first yX12_first ∈ GT := gt_in 1952 (by decide +kernel) rfl
theorem gw_748 : Cond.code yX11_spare prog_1_method_25_code 4 (some .int) ∈ GT := gt_in 748 (by decide +kernel) rfl
theorem gw_745 : Cond.methodLink RL 199 yX11_spare ∈ GT := gt_in 745 (by decide +kernel) rfl
theorem gw_746 : Cond.instanceMethod yX11_spare ∈ GT := gt_in 746 (by decide +kernel) rfl
theorem gw_747 : Cond.selects RX11 yX11_spare yX11_spare ∈ GT := gt_in 747 (by decide +kernel) rfl
theorem gw_1949 : Cond.code yX12_spare prog_14_method_93_code 4 (some .int) ∈ GT := gt_in 1949 (by decide +kernel) rfl
theorem gw_1946 : Cond.methodLink RL 202 yX12_spare ∈ GT := gt_in 1946 (by decide +kernel) rfl
theorem gw_1947 : Cond.instanceMethod yX12_spare ∈ GT := gt_in 1947 (by decide +kernel) rfl
theorem gw_1948 : Cond.selects RX12 yX12_spare yX12_spare ∈ GT := gt_in 1948 (by decide +kernel) rfl
theorem gw_1965 : Cond.code yX12_round prog_14_method_98_code 10 (some .int) ∈ GT := gt_in 1965 (by decide +kernel) rfl
theorem gw_1962 : Cond.methodLink RL 206 yX12_round ∈ GT := gt_in 1962 (by decide +kernel) rfl
theorem gw_1963 : Cond.instanceMethod yX12_round ∈ GT := gt_in 1963 (by decide +kernel) rfl
theorem gw_1964 : Cond.selects RX12 yX12_round yX12_round ∈ GT := gt_in 1964 (by decide +kernel) rfl
theorem gw_1979 : Cond.code yX12_goes prog_14_method_103_code 7 (some .int) ∈ GT := gt_in 1979 (by decide +kernel) rfl
theorem gw_1976 : Cond.methodLink RL 209 yX12_goes ∈ GT := gt_in 1976 (by decide +kernel) rfl
theorem gw_1977 : Cond.instanceMethod yX12_goes ∈ GT := gt_in 1977 (by decide +kernel) rfl
theorem gw_1978 : Cond.selects RX12 yX12_goes yX12_goes ∈ GT := gt_in 1978 (by decide +kernel) rfl
theorem gw_2000 : Cond.code yX12_before prog_14_method_104_code 5 (some .int) ∈ GT := gt_in 2000 (by decide +kernel) rfl
theorem gw_1997 : Cond.methodLink RL 212 yX12_before ∈ GT := gt_in 1997 (by decide +kernel) rfl
theorem gw_1998 : Cond.instanceMethod yX12_before ∈ GT := gt_in 1998 (by decide +kernel) rfl
theorem gw_1999 : Cond.selects RX12 yX12_before yX12_before ∈ GT := gt_in 1999 (by decide +kernel) rfl
theorem gw_2004 : Cond.code yX12_seen prog_14_method_108_code 4 (some .int) ∈ GT := gt_in 2004 (by decide +kernel) rfl
theorem gw_2001 : Cond.methodLink RL 216 yX12_seen ∈ GT := gt_in 2001 (by decide +kernel) rfl
theorem gw_2002 : Cond.instanceMethod yX12_seen ∈ GT := gt_in 2002 (by decide +kernel) rfl
theorem gw_2003 : Cond.selects RX12 yX12_seen yX12_seen ∈ GT := gt_in 2003 (by decide +kernel) rfl
theorem gw_2020 : Cond.code yX12_climb prog_14_method_110_code 5 (some .int) ∈ GT := gt_in 2020 (by decide +kernel) rfl
theorem gw_2017 : Cond.methodLink RL 219 yX12_climb ∈ GT := gt_in 2017 (by decide +kernel) rfl
theorem gw_2018 : Cond.instanceMethod yX12_climb ∈ GT := gt_in 2018 (by decide +kernel) rfl
theorem gw_2019 : Cond.selects RX12 yX12_climb yX12_climb ∈ GT := gt_in 2019 (by decide +kernel) rfl
theorem gw_752 : Cond.code yX11_duke prog_1_method_31_code 5 (some .int) ∈ GT := gt_in 752 (by decide +kernel) rfl
theorem gw_749 : Cond.methodLink RL 220 yX11_duke ∈ GT := gt_in 749 (by decide +kernel) rfl
theorem gw_750 : Cond.instanceMethod yX11_duke ∈ GT := gt_in 750 (by decide +kernel) rfl
theorem gw_751 : Cond.selects RX11 yX11_duke yX11_duke ∈ GT := gt_in 751 (by decide +kernel) rfl
theorem gw_2028 : Cond.code yX12_duke prog_14_method_116_code 4 (some .int) ∈ GT := gt_in 2028 (by decide +kernel) rfl
theorem gw_2025 : Cond.methodLink RL 223 yX12_duke ∈ GT := gt_in 2025 (by decide +kernel) rfl
theorem gw_2026 : Cond.instanceMethod yX12_duke ∈ GT := gt_in 2026 (by decide +kernel) rfl
theorem gw_2027 : Cond.selects RX12 yX12_duke yX12_duke ∈ GT := gt_in 2027 (by decide +kernel) rfl
theorem gw_2052 : Cond.code yX12_pay prog_14_method_118_code 2 (some .int) ∈ GT := gt_in 2052 (by decide +kernel) rfl
theorem gw_2049 : Cond.methodLink RL 226 yX12_pay ∈ GT := gt_in 2049 (by decide +kernel) rfl
theorem gw_2050 : Cond.instanceMethod yX12_pay ∈ GT := gt_in 2050 (by decide +kernel) rfl
theorem gw_2051 : Cond.selects RX12 yX12_pay yX12_pay ∈ GT := gt_in 2051 (by decide +kernel) rfl
theorem gw_777 : Cond.code yX11_season prog_1_method_33_code 6 (some .int) ∈ GT := gt_in 777 (by decide +kernel) rfl
theorem gw_774 : Cond.methodLink RL 227 yX11_season ∈ GT := gt_in 774 (by decide +kernel) rfl
theorem gw_775 : Cond.instanceMethod yX11_season ∈ GT := gt_in 775 (by decide +kernel) rfl
theorem gw_776 : Cond.selects RX11 yX11_season yX11_season ∈ GT := gt_in 776 (by decide +kernel) rfl
theorem gw_2060 : Cond.code yX12_season prog_14_method_119_code 3 (some .int) ∈ GT := gt_in 2060 (by decide +kernel) rfl
theorem gw_2057 : Cond.methodLink RL 230 yX12_season ∈ GT := gt_in 2057 (by decide +kernel) rfl
theorem gw_2058 : Cond.instanceMethod yX12_season ∈ GT := gt_in 2058 (by decide +kernel) rfl
theorem gw_2059 : Cond.selects RX12 yX12_season yX12_season ∈ GT := gt_in 2059 (by decide +kernel) rfl
theorem gw_782 : Cond.code yX11_best prog_1_method_34_code 4 (some .int) ∈ GT := gt_in 782 (by decide +kernel) rfl
theorem gw_779 : Cond.methodLink RL 231 yX11_best ∈ GT := gt_in 779 (by decide +kernel) rfl
theorem gw_780 : Cond.instanceMethod yX11_best ∈ GT := gt_in 780 (by decide +kernel) rfl
theorem gw_781 : Cond.selects RX11 yX11_best yX11_best ∈ GT := gt_in 781 (by decide +kernel) rfl
theorem gw_2064 : Cond.code yX12_best prog_14_method_120_code 3 (some .int) ∈ GT := gt_in 2064 (by decide +kernel) rfl
theorem gw_2061 : Cond.methodLink RL 234 yX12_best ∈ GT := gt_in 2061 (by decide +kernel) rfl
theorem gw_2062 : Cond.instanceMethod yX12_best ∈ GT := gt_in 2062 (by decide +kernel) rfl
theorem gw_2063 : Cond.selects RX12 yX12_best yX12_best ∈ GT := gt_in 2063 (by decide +kernel) rfl
theorem gw_786 : Cond.code yX11_lasts prog_1_method_35_code 3 (some .int) ∈ GT := gt_in 786 (by decide +kernel) rfl
theorem gw_783 : Cond.methodLink RL 235 yX11_lasts ∈ GT := gt_in 783 (by decide +kernel) rfl
theorem gw_784 : Cond.instanceMethod yX11_lasts ∈ GT := gt_in 784 (by decide +kernel) rfl
theorem gw_785 : Cond.selects RX11 yX11_lasts yX11_lasts ∈ GT := gt_in 785 (by decide +kernel) rfl
theorem gw_1936 : Cond.code yX12_lasts prog_14_method_90_code 4 (some .int) ∈ GT := gt_in 1936 (by decide +kernel) rfl
theorem gw_1933 : Cond.methodLink RL 238 yX12_lasts ∈ GT := gt_in 1933 (by decide +kernel) rfl
theorem gw_1934 : Cond.instanceMethod yX12_lasts ∈ GT := gt_in 1934 (by decide +kernel) rfl
theorem gw_1935 : Cond.selects RX12 yX12_lasts yX12_lasts ∈ GT := gt_in 1935 (by decide +kernel) rfl
theorem gw_2068 : Cond.code yX12_stars prog_14_method_121_code 6 (some .int) ∈ GT := gt_in 2068 (by decide +kernel) rfl
theorem gw_2065 : Cond.methodLink RL 241 yX12_stars ∈ GT := gt_in 2065 (by decide +kernel) rfl
theorem gw_2066 : Cond.instanceMethod yX12_stars ∈ GT := gt_in 2066 (by decide +kernel) rfl
theorem gw_2067 : Cond.selects RX12 yX12_stars yX12_stars ∈ GT := gt_in 2067 (by decide +kernel) rfl
theorem gw_790 : Cond.code yX11_longest prog_1_method_37_code 5 (some .int) ∈ GT := gt_in 790 (by decide +kernel) rfl
theorem gw_787 : Cond.methodLink RL 242 yX11_longest ∈ GT := gt_in 787 (by decide +kernel) rfl
theorem gw_788 : Cond.instanceMethod yX11_longest ∈ GT := gt_in 788 (by decide +kernel) rfl
theorem gw_789 : Cond.selects RX11 yX11_longest yX11_longest ∈ GT := gt_in 789 (by decide +kernel) rfl
theorem gw_2072 : Cond.code yX12_longest prog_14_method_122_code 5 (some .int) ∈ GT := gt_in 2072 (by decide +kernel) rfl
theorem gw_2069 : Cond.methodLink RL 245 yX12_longest ∈ GT := gt_in 2069 (by decide +kernel) rfl
theorem gw_2070 : Cond.instanceMethod yX12_longest ∈ GT := gt_in 2070 (by decide +kernel) rfl
theorem gw_2071 : Cond.selects RX12 yX12_longest yX12_longest ∈ GT := gt_in 2071 (by decide +kernel) rfl
theorem gw_1912 : Cond.code yX12_ahead prog_14_method_87_code 5 (some .int) ∈ GT := gt_in 1912 (by decide +kernel) rfl
theorem gw_1909 : Cond.methodLink RL 248 yX12_ahead ∈ GT := gt_in 1909 (by decide +kernel) rfl
theorem gw_1910 : Cond.instanceMethod yX12_ahead ∈ GT := gt_in 1910 (by decide +kernel) rfl
theorem gw_1911 : Cond.selects RX12 yX12_ahead yX12_ahead ∈ GT := gt_in 1911 (by decide +kernel) rfl
theorem gw_2076 : Cond.code yX12_odds prog_14_method_123_code 11 (some .int) ∈ GT := gt_in 2076 (by decide +kernel) rfl
theorem gw_2073 : Cond.methodLink RL 251 yX12_odds ∈ GT := gt_in 2073 (by decide +kernel) rfl
theorem gw_2074 : Cond.instanceMethod yX12_odds ∈ GT := gt_in 2074 (by decide +kernel) rfl
theorem gw_2075 : Cond.selects RX12 yX12_odds yX12_odds ∈ GT := gt_in 2075 (by decide +kernel) rfl
theorem gw_1928 : Cond.code yX12_needs prog_14_method_88_code 3 (some .int) ∈ GT := gt_in 1928 (by decide +kernel) rfl
theorem gw_1925 : Cond.methodLink RL 254 yX12_needs ∈ GT := gt_in 1925 (by decide +kernel) rfl
theorem gw_1926 : Cond.instanceMethod yX12_needs ∈ GT := gt_in 1926 (by decide +kernel) rfl
theorem gw_1927 : Cond.selects RX12 yX12_needs yX12_needs ∈ GT := gt_in 1927 (by decide +kernel) rfl
theorem gw_2082 : Cond.code yX12_trial prog_14_method_124_code 4 (some .int) ∈ GT := gt_in 2082 (by decide +kernel) rfl
theorem gw_2079 : Cond.methodLink RL 258 yX12_trial ∈ GT := gt_in 2079 (by decide +kernel) rfl
theorem gw_2080 : Cond.instanceMethod yX12_trial ∈ GT := gt_in 2080 (by decide +kernel) rfl
theorem gw_2081 : Cond.selects RX12 yX12_trial yX12_trial ∈ GT := gt_in 2081 (by decide +kernel) rfl
theorem gw_2086 : Cond.code yX12_span prog_14_method_125_code 6 (some .int) ∈ GT := gt_in 2086 (by decide +kernel) rfl
theorem gw_2083 : Cond.methodLink RL 261 yX12_span ∈ GT := gt_in 2083 (by decide +kernel) rfl
theorem gw_2084 : Cond.instanceMethod yX12_span ∈ GT := gt_in 2084 (by decide +kernel) rfl
theorem gw_2085 : Cond.selects RX12 yX12_span yX12_span ∈ GT := gt_in 2085 (by decide +kernel) rfl
theorem gw_2090 : Cond.code yX12_led prog_14_method_127_code 6 (some .int) ∈ GT := gt_in 2090 (by decide +kernel) rfl
theorem gw_2087 : Cond.methodLink RL 264 yX12_led ∈ GT := gt_in 2087 (by decide +kernel) rfl
theorem gw_2088 : Cond.instanceMethod yX12_led ∈ GT := gt_in 2088 (by decide +kernel) rfl
theorem gw_2089 : Cond.selects RX12 yX12_led yX12_led ∈ GT := gt_in 2089 (by decide +kernel) rfl
theorem gw_2098 : Cond.code yX12_log prog_14_method_128_code 3 (some .int) ∈ GT := gt_in 2098 (by decide +kernel) rfl
theorem gw_2095 : Cond.methodLink RL 267 yX12_log ∈ GT := gt_in 2095 (by decide +kernel) rfl
theorem gw_2096 : Cond.instanceMethod yX12_log ∈ GT := gt_in 2096 (by decide +kernel) rfl
theorem gw_2097 : Cond.selects RX12 yX12_log yX12_log ∈ GT := gt_in 2097 (by decide +kernel) rfl
theorem gw_795 : Cond.code yX11_seed prog_1_method_45_code 3 (some .int) ∈ GT := gt_in 795 (by decide +kernel) rfl
theorem gw_792 : Cond.methodLink RL 268 yX11_seed ∈ GT := gt_in 792 (by decide +kernel) rfl
theorem gw_793 : Cond.instanceMethod yX11_seed ∈ GT := gt_in 793 (by decide +kernel) rfl
theorem gw_794 : Cond.selects RX11 yX11_seed yX11_seed ∈ GT := gt_in 794 (by decide +kernel) rfl
theorem gw_2102 : Cond.code yX12_seed prog_14_method_129_code 3 (some .int) ∈ GT := gt_in 2102 (by decide +kernel) rfl
theorem gw_2099 : Cond.methodLink RL 271 yX12_seed ∈ GT := gt_in 2099 (by decide +kernel) rfl
theorem gw_2100 : Cond.instanceMethod yX12_seed ∈ GT := gt_in 2100 (by decide +kernel) rfl
theorem gw_2101 : Cond.selects RX12 yX12_seed yX12_seed ∈ GT := gt_in 2101 (by decide +kernel) rfl
theorem gw_799 : Cond.code yX11_undo prog_1_method_46_code 1 (some .boolean) ∈ GT := gt_in 799 (by decide +kernel) rfl
theorem gw_796 : Cond.methodLink RL 272 yX11_undo ∈ GT := gt_in 796 (by decide +kernel) rfl
theorem gw_797 : Cond.instanceMethod yX11_undo ∈ GT := gt_in 797 (by decide +kernel) rfl
theorem gw_798 : Cond.selects RX11 yX11_undo yX11_undo ∈ GT := gt_in 798 (by decide +kernel) rfl
theorem gw_1572 : Cond.code yX12_undo prog_14_method_9_code 2 (some .boolean) ∈ GT := gt_in 1572 (by decide +kernel) rfl
theorem gw_1569 : Cond.methodLink RL 276 yX12_undo ∈ GT := gt_in 1569 (by decide +kernel) rfl
theorem gw_1570 : Cond.instanceMethod yX12_undo ∈ GT := gt_in 1570 (by decide +kernel) rfl
theorem gw_1571 : Cond.selects RX12 yX12_undo yX12_undo ∈ GT := gt_in 1571 (by decide +kernel) rfl
theorem gw_808 : Cond.code yX11_image prog_1_method_47_code 1 none ∈ GT := gt_in 808 (by decide +kernel) rfl
theorem gw_805 : Cond.methodLink RL 277 yX11_image ∈ GT := gt_in 805 (by decide +kernel) rfl
theorem gw_806 : Cond.instanceMethod yX11_image ∈ GT := gt_in 806 (by decide +kernel) rfl
theorem gw_807 : Cond.selects RX11 yX11_image yX11_image ∈ GT := gt_in 807 (by decide +kernel) rfl
theorem gw_1564 : Cond.code yX12_image prog_14_method_6_code 2 none ∈ GT := gt_in 1564 (by decide +kernel) rfl
theorem gw_1561 : Cond.methodLink RL 280 yX12_image ∈ GT := gt_in 1561 (by decide +kernel) rfl
theorem gw_1562 : Cond.instanceMethod yX12_image ∈ GT := gt_in 1562 (by decide +kernel) rfl
theorem gw_1563 : Cond.selects RX12 yX12_image yX12_image ∈ GT := gt_in 1563 (by decide +kernel) rfl
theorem gw_817 : Cond.code yX11_back prog_1_method_48_code 1 (some .boolean) ∈ GT := gt_in 817 (by decide +kernel) rfl
theorem gw_814 : Cond.methodLink RL 281 yX11_back ∈ GT := gt_in 814 (by decide +kernel) rfl
theorem gw_815 : Cond.instanceMethod yX11_back ∈ GT := gt_in 815 (by decide +kernel) rfl
theorem gw_816 : Cond.selects RX11 yX11_back yX11_back ∈ GT := gt_in 816 (by decide +kernel) rfl
theorem gw_1568 : Cond.code yX12_back prog_14_method_7_code 2 (some .boolean) ∈ GT := gt_in 1568 (by decide +kernel) rfl
theorem gw_1565 : Cond.methodLink RL 284 yX12_back ∈ GT := gt_in 1565 (by decide +kernel) rfl
theorem gw_1566 : Cond.instanceMethod yX12_back ∈ GT := gt_in 1566 (by decide +kernel) rfl
theorem gw_1567 : Cond.selects RX12 yX12_back yX12_back ∈ GT := gt_in 1567 (by decide +kernel) rfl
theorem gw_825 : Cond.code yX11_count prog_1_method_49_code 2 (some .int) ∈ GT := gt_in 825 (by decide +kernel) rfl
theorem gw_822 : Cond.methodLink RL 285 yX11_count ∈ GT := gt_in 822 (by decide +kernel) rfl
theorem gw_823 : Cond.instanceMethod yX11_count ∈ GT := gt_in 823 (by decide +kernel) rfl
theorem gw_824 : Cond.selects RX11 yX11_count yX11_count ∈ GT := gt_in 824 (by decide +kernel) rfl
theorem gw_2106 : Cond.code yX12_count prog_14_method_131_code 2 (some .int) ∈ GT := gt_in 2106 (by decide +kernel) rfl
theorem gw_2103 : Cond.methodLink RL 288 yX12_count ∈ GT := gt_in 2103 (by decide +kernel) rfl
theorem gw_2104 : Cond.instanceMethod yX12_count ∈ GT := gt_in 2104 (by decide +kernel) rfl
theorem gw_2105 : Cond.selects RX12 yX12_count yX12_count ∈ GT := gt_in 2105 (by decide +kernel) rfl
theorem cw_L_110 : CWV RL 110 yX11_feed cX11_feed 6 (some .int) 5 := ⟨gw_530, gw_160, ⟨by decide, by decide, by decide +kernel⟩, gw_527, gw_528, gw_529⟩
theorem cw_L_114 : CWV RL 114 yX12_feed cX12_feed 7 (some .int) 5 := ⟨gw_1576, gw_172, ⟨by decide, by decide, by decide +kernel⟩, gw_1573, gw_1574, gw_1575⟩
theorem cw_L_115 : CWV RL 115 yX11_end cX11_end 2 (some .boolean) 1 := ⟨gw_542, gw_160, ⟨by decide, by decide, by decide +kernel⟩, gw_539, gw_540, gw_541⟩
theorem cw_L_119 : CWV RL 119 yX12_end cX12_end 2 (some .boolean) 1 := ⟨gw_1580, gw_172, ⟨by decide, by decide, by decide +kernel⟩, gw_1577, gw_1578, gw_1579⟩
theorem cw_L_125 : CWV RL 125 yX12_sky cX12_sky 3 (some .int) 0 := ⟨gw_1588, gw_172, ⟨by decide, by decide, by decide +kernel⟩, gw_1585, gw_1586, gw_1587⟩
theorem cw_L_126 : CWV RL 126 yX12_thrown cX12_thrown 1 (some .int) 0 := ⟨gw_1481, gw_172, ⟨by decide, by decide, by decide +kernel⟩, gw_1478, gw_1479, gw_1480⟩
theorem cw_L_131 : CWV RL 131 yX12_law cX12_law 3 (some .int) 0 := ⟨gw_1745, gw_172, ⟨by decide, by decide, by decide +kernel⟩, gw_1742, gw_1743, gw_1744⟩
theorem cw_L_132 : CWV RL 132 yX11_fault cX11_fault 1 (some .int) 0 := ⟨gw_550, gw_160, ⟨by decide, by decide, by decide +kernel⟩, gw_547, gw_548, gw_549⟩
theorem cw_L_135 : CWV RL 135 yX12_fault cX12_fault 1 (some .int) 0 := ⟨gw_1584, gw_172, ⟨by decide, by decide, by decide +kernel⟩, gw_1581, gw_1582, gw_1583⟩
theorem cw_L_139 : CWV RL 139 yX12_place cX12_place 4 (some .int) 2 := ⟨gw_1749, gw_172, ⟨by decide, by decide, by decide +kernel⟩, gw_1746, gw_1747, gw_1748⟩
theorem cw_L_142 : CWV RL 142 yX12_pinner cX12_pinner 3 (some .int) 2 := ⟨gw_1814, gw_172, ⟨by decide, by decide, by decide +kernel⟩, gw_1811, gw_1812, gw_1813⟩
theorem cw_L_146 : CWV RL 146 yX12_rusts cX12_rusts 2 (some .int) 1 := ⟨gw_1826, gw_172, ⟨by decide, by decide, by decide +kernel⟩, gw_1823, gw_1824, gw_1825⟩
theorem cw_L_149 : CWV RL 149 yX12_pin cX12_pin 3 (some .int) 1 := ⟨gw_1851, gw_172, ⟨by decide, by decide, by decide +kernel⟩, gw_1848, gw_1849, gw_1850⟩
theorem cw_L_152 : CWV RL 152 yX12_change cX12_change 4 (some .int) 1 := ⟨gw_1863, gw_172, ⟨by decide, by decide, by decide +kernel⟩, gw_1860, gw_1861, gw_1862⟩
theorem cw_L_155 : CWV RL 155 yX12_go cX12_go 4 (some .int) 2 := ⟨gw_1867, gw_172, ⟨by decide, by decide, by decide +kernel⟩, gw_1864, gw_1865, gw_1866⟩
theorem cw_L_158 : CWV RL 158 yX12_pull cX12_pull 3 (some .int) 1 := ⟨gw_1871, gw_172, ⟨by decide, by decide, by decide +kernel⟩, gw_1868, gw_1869, gw_1870⟩
theorem cw_L_161 : CWV RL 161 yX12_hand cX12_hand 3 (some .int) 2 := ⟨gw_1879, gw_172, ⟨by decide, by decide, by decide +kernel⟩, gw_1876, gw_1877, gw_1878⟩
theorem cw_L_164 : CWV RL 164 yX12_fell cX12_fell 3 (some .int) 1 := ⟨gw_1883, gw_172, ⟨by decide, by decide, by decide +kernel⟩, gw_1880, gw_1881, gw_1882⟩
theorem cw_L_167 : CWV RL 167 yX12_height cX12_height 3 (some .int) 1 := ⟨gw_1887, gw_172, ⟨by decide, by decide, by decide +kernel⟩, gw_1884, gw_1885, gw_1886⟩
theorem cw_L_170 : CWV RL 170 yX12_days cX12_days 4 (some .int) 1 := ⟨gw_1891, gw_172, ⟨by decide, by decide, by decide +kernel⟩, gw_1888, gw_1889, gw_1890⟩
theorem cw_L_171 : CWV RL 171 yX11_low cX11_low 1 (some .int) 0 := ⟨gw_554, gw_160, ⟨by decide, by decide, by decide +kernel⟩, gw_551, gw_552, gw_553⟩
theorem cw_L_174 : CWV RL 174 yX12_low cX12_low 1 (some .int) 0 := ⟨gw_1834, gw_172, ⟨by decide, by decide, by decide +kernel⟩, gw_1831, gw_1832, gw_1833⟩
theorem cw_L_175 : CWV RL 175 yX11_held cX11_held 1 (some .int) 0 := ⟨gw_621, gw_160, ⟨by decide, by decide, by decide +kernel⟩, gw_618, gw_619, gw_620⟩
theorem cw_L_178 : CWV RL 178 yX12_held cX12_held 1 (some .int) 0 := ⟨gw_1847, gw_172, ⟨by decide, by decide, by decide +kernel⟩, gw_1844, gw_1845, gw_1846⟩
theorem cw_L_179 : CWV RL 179 yX11_gives cX11_gives 4 (some .int) 1 := ⟨gw_626, gw_160, ⟨by decide, by decide, by decide +kernel⟩, gw_623, gw_624, gw_625⟩
theorem cw_L_182 : CWV RL 182 yX12_gives cX12_gives 5 (some .int) 1 := ⟨gw_1932, gw_172, ⟨by decide, by decide, by decide +kernel⟩, gw_1929, gw_1930, gw_1931⟩
theorem cw_L_183 : CWV RL 183 yX11_weakest cX11_weakest 5 (some .int) 0 := ⟨gw_695, gw_160, ⟨by decide, by decide, by decide +kernel⟩, gw_692, gw_693, gw_694⟩
theorem cw_L_186 : CWV RL 186 yX12_weakest cX12_weakest 5 (some .int) 0 := ⟨gw_1940, gw_172, ⟨by decide, by decide, by decide +kernel⟩, gw_1937, gw_1938, gw_1939⟩
theorem cw_L_187 : CWV RL 187 yX11_key cX11_key 4 (some .int) 0 := ⟨gw_704, gw_160, ⟨by decide, by decide, by decide +kernel⟩, gw_701, gw_702, gw_703⟩
theorem cw_L_190 : CWV RL 190 yX12_key cX12_key 4 (some .int) 0 := ⟨gw_1944, gw_172, ⟨by decide, by decide, by decide +kernel⟩, gw_1941, gw_1942, gw_1943⟩
theorem cw_L_191 : CWV RL 191 yX11_fewest cX11_fewest 6 (some .int) 1 := ⟨gw_722, gw_160, ⟨by decide, by decide, by decide +kernel⟩, gw_719, gw_720, gw_721⟩
theorem cw_L_194 : CWV RL 194 yX12_fewest cX12_fewest 7 (some .int) 1 := ⟨gw_1961, gw_172, ⟨by decide, by decide, by decide +kernel⟩, gw_1958, gw_1959, gw_1960⟩
theorem cw_L_195 : CWV RL 195 yX11_first cX11_first 6 (some .int) 0 := ⟨gw_742, gw_160, ⟨by decide, by decide, by decide +kernel⟩, gw_739, gw_740, gw_741⟩
theorem cw_L_198 : CWV RL 198 yX12_first cX12_first 5 (some .int) 0 := ⟨gw_1953, gw_172, ⟨by decide, by decide, by decide +kernel⟩, gw_1950, gw_1951, gw_1952⟩
theorem cw_L_199 : CWV RL 199 yX11_spare cX11_spare 4 (some .int) 0 := ⟨gw_748, gw_160, ⟨by decide, by decide, by decide +kernel⟩, gw_745, gw_746, gw_747⟩
theorem cw_L_202 : CWV RL 202 yX12_spare cX12_spare 4 (some .int) 0 := ⟨gw_1949, gw_172, ⟨by decide, by decide, by decide +kernel⟩, gw_1946, gw_1947, gw_1948⟩
theorem cw_L_206 : CWV RL 206 yX12_round cX12_round 10 (some .int) 3 := ⟨gw_1965, gw_172, ⟨by decide, by decide, by decide +kernel⟩, gw_1962, gw_1963, gw_1964⟩
theorem cw_L_209 : CWV RL 209 yX12_goes cX12_goes 7 (some .int) 1 := ⟨gw_1979, gw_172, ⟨by decide, by decide, by decide +kernel⟩, gw_1976, gw_1977, gw_1978⟩
theorem cw_L_212 : CWV RL 212 yX12_before cX12_before 5 (some .int) 1 := ⟨gw_2000, gw_172, ⟨by decide, by decide, by decide +kernel⟩, gw_1997, gw_1998, gw_1999⟩
theorem cw_L_216 : CWV RL 216 yX12_seen cX12_seen 4 (some .int) 1 := ⟨gw_2004, gw_172, ⟨by decide, by decide, by decide +kernel⟩, gw_2001, gw_2002, gw_2003⟩
theorem cw_L_219 : CWV RL 219 yX12_climb cX12_climb 5 (some .int) 0 := ⟨gw_2020, gw_172, ⟨by decide, by decide, by decide +kernel⟩, gw_2017, gw_2018, gw_2019⟩
theorem cw_L_220 : CWV RL 220 yX11_duke cX11_duke 5 (some .int) 0 := ⟨gw_752, gw_160, ⟨by decide, by decide, by decide +kernel⟩, gw_749, gw_750, gw_751⟩
theorem cw_L_223 : CWV RL 223 yX12_duke cX12_duke 4 (some .int) 0 := ⟨gw_2028, gw_172, ⟨by decide, by decide, by decide +kernel⟩, gw_2025, gw_2026, gw_2027⟩
theorem cw_L_226 : CWV RL 226 yX12_pay cX12_pay 2 (some .int) 1 := ⟨gw_2052, gw_172, ⟨by decide, by decide, by decide +kernel⟩, gw_2049, gw_2050, gw_2051⟩
theorem cw_L_227 : CWV RL 227 yX11_season cX11_season 6 (some .int) 0 := ⟨gw_777, gw_160, ⟨by decide, by decide, by decide +kernel⟩, gw_774, gw_775, gw_776⟩
theorem cw_L_230 : CWV RL 230 yX12_season cX12_season 3 (some .int) 0 := ⟨gw_2060, gw_172, ⟨by decide, by decide, by decide +kernel⟩, gw_2057, gw_2058, gw_2059⟩
theorem cw_L_231 : CWV RL 231 yX11_best cX11_best 4 (some .int) 0 := ⟨gw_782, gw_160, ⟨by decide, by decide, by decide +kernel⟩, gw_779, gw_780, gw_781⟩
theorem cw_L_234 : CWV RL 234 yX12_best cX12_best 3 (some .int) 0 := ⟨gw_2064, gw_172, ⟨by decide, by decide, by decide +kernel⟩, gw_2061, gw_2062, gw_2063⟩
theorem cw_L_235 : CWV RL 235 yX11_lasts cX11_lasts 3 (some .int) 0 := ⟨gw_786, gw_160, ⟨by decide, by decide, by decide +kernel⟩, gw_783, gw_784, gw_785⟩
theorem cw_L_238 : CWV RL 238 yX12_lasts cX12_lasts 4 (some .int) 0 := ⟨gw_1936, gw_172, ⟨by decide, by decide, by decide +kernel⟩, gw_1933, gw_1934, gw_1935⟩
theorem cw_L_241 : CWV RL 241 yX12_stars cX12_stars 6 (some .int) 2 := ⟨gw_2068, gw_172, ⟨by decide, by decide, by decide +kernel⟩, gw_2065, gw_2066, gw_2067⟩
theorem cw_L_242 : CWV RL 242 yX11_longest cX11_longest 5 (some .int) 0 := ⟨gw_790, gw_160, ⟨by decide, by decide, by decide +kernel⟩, gw_787, gw_788, gw_789⟩
theorem cw_L_245 : CWV RL 245 yX12_longest cX12_longest 5 (some .int) 0 := ⟨gw_2072, gw_172, ⟨by decide, by decide, by decide +kernel⟩, gw_2069, gw_2070, gw_2071⟩
theorem cw_L_248 : CWV RL 248 yX12_ahead cX12_ahead 5 (some .int) 3 := ⟨gw_1912, gw_172, ⟨by decide, by decide, by decide +kernel⟩, gw_1909, gw_1910, gw_1911⟩
theorem cw_L_251 : CWV RL 251 yX12_odds cX12_odds 11 (some .int) 2 := ⟨gw_2076, gw_172, ⟨by decide, by decide, by decide +kernel⟩, gw_2073, gw_2074, gw_2075⟩
theorem cw_L_254 : CWV RL 254 yX12_needs cX12_needs 3 (some .int) 1 := ⟨gw_1928, gw_172, ⟨by decide, by decide, by decide +kernel⟩, gw_1925, gw_1926, gw_1927⟩
theorem cw_L_258 : CWV RL 258 yX12_trial cX12_trial 4 (some .int) 2 := ⟨gw_2082, gw_172, ⟨by decide, by decide, by decide +kernel⟩, gw_2079, gw_2080, gw_2081⟩
theorem cw_L_261 : CWV RL 261 yX12_span cX12_span 6 (some .int) 2 := ⟨gw_2086, gw_172, ⟨by decide, by decide, by decide +kernel⟩, gw_2083, gw_2084, gw_2085⟩
theorem cw_L_264 : CWV RL 264 yX12_led cX12_led 6 (some .int) 2 := ⟨gw_2090, gw_172, ⟨by decide, by decide, by decide +kernel⟩, gw_2087, gw_2088, gw_2089⟩
theorem cw_L_267 : CWV RL 267 yX12_log cX12_log 3 (some .int) 2 := ⟨gw_2098, gw_172, ⟨by decide, by decide, by decide +kernel⟩, gw_2095, gw_2096, gw_2097⟩
theorem cw_L_268 : CWV RL 268 yX11_seed cX11_seed 3 (some .int) 1 := ⟨gw_795, gw_160, ⟨by decide, by decide, by decide +kernel⟩, gw_792, gw_793, gw_794⟩
theorem cw_L_271 : CWV RL 271 yX12_seed cX12_seed 3 (some .int) 1 := ⟨gw_2102, gw_172, ⟨by decide, by decide, by decide +kernel⟩, gw_2099, gw_2100, gw_2101⟩
theorem cw_L_272 : CWV RL 272 yX11_undo cX11_undo 1 (some .boolean) 0 := ⟨gw_799, gw_160, ⟨by decide, by decide, by decide +kernel⟩, gw_796, gw_797, gw_798⟩
theorem cw_L_276 : CWV RL 276 yX12_undo cX12_undo 2 (some .boolean) 0 := ⟨gw_1572, gw_172, ⟨by decide, by decide, by decide +kernel⟩, gw_1569, gw_1570, gw_1571⟩
theorem cw_L_277 : CWV RL 277 yX11_image cX11_image 1 none 0 := ⟨gw_808, gw_160, ⟨by decide, by decide, by decide +kernel⟩, gw_805, gw_806, gw_807⟩
theorem cw_L_280 : CWV RL 280 yX12_image cX12_image 2 none 0 := ⟨gw_1564, gw_172, ⟨by decide, by decide, by decide +kernel⟩, gw_1561, gw_1562, gw_1563⟩
theorem cw_L_281 : CWV RL 281 yX11_back cX11_back 1 (some .boolean) 0 := ⟨gw_817, gw_160, ⟨by decide, by decide, by decide +kernel⟩, gw_814, gw_815, gw_816⟩
theorem cw_L_284 : CWV RL 284 yX12_back cX12_back 2 (some .boolean) 0 := ⟨gw_1568, gw_172, ⟨by decide, by decide, by decide +kernel⟩, gw_1565, gw_1566, gw_1567⟩
theorem cw_L_285 : CWV RL 285 yX11_count cX11_count 2 (some .int) 1 := ⟨gw_825, gw_160, ⟨by decide, by decide, by decide +kernel⟩, gw_822, gw_823, gw_824⟩
theorem cw_L_288 : CWV RL 288 yX12_count cX12_count 2 (some .int) 1 := ⟨gw_2106, gw_172, ⟨by decide, by decide, by decide +kernel⟩, gw_2103, gw_2104, gw_2105⟩
theorem hw_120 : CWSW RL 120 yL_sky cL_sky 3 (some .int) [(0, 8, 11, 13), (0, 8, 14, 15)] 2 := ⟨gt_in 832 (by decide +kernel) rfl, gt_in 159 (by decide +kernel) rfl, ⟨by decide, by decide, by decide +kernel⟩, gt_in 830 (by decide +kernel) rfl, gt_in 831 (by decide +kernel) rfl⟩
theorem hw_129 : CWSW RL 129 yL_law cL_law 3 (some .int) [(0, 8, 11, 13)] 2 := ⟨gt_in 1140 (by decide +kernel) rfl, gt_in 159 (by decide +kernel) rfl, ⟨by decide, by decide, by decide +kernel⟩, gt_in 1138 (by decide +kernel) rfl, gt_in 1139 (by decide +kernel) rfl⟩
theorem hw_136 : CWSW RL 136 yL_place cL_place 5 (some .int) [(0, 10, 13, 24), (0, 10, 17, 26)] 4 := ⟨gt_in 1154 (by decide +kernel) rfl, gt_in 159 (by decide +kernel) rfl, ⟨by decide, by decide, by decide +kernel⟩, gt_in 1152 (by decide +kernel) rfl, gt_in 1153 (by decide +kernel) rfl⟩
theorem hw_140 : CWSW RL 140 yL_pinner cL_pinner 5 (some .int) [(0, 10, 13, 24), (0, 10, 17, 26)] 4 := ⟨gt_in 1201 (by decide +kernel) rfl, gt_in 159 (by decide +kernel) rfl, ⟨by decide, by decide, by decide +kernel⟩, gt_in 1199 (by decide +kernel) rfl, gt_in 1200 (by decide +kernel) rfl⟩
theorem hw_143 : CWSW RL 143 yL_rusts cL_rusts 4 (some .int) [(0, 9, 12, 24)] 3 := ⟨gt_in 1212 (by decide +kernel) rfl, gt_in 159 (by decide +kernel) rfl, ⟨by decide, by decide, by decide +kernel⟩, gt_in 1210 (by decide +kernel) rfl, gt_in 1211 (by decide +kernel) rfl⟩
theorem hw_147 : CWSW RL 147 yL_pin cL_pin 4 (some .int) [(0, 9, 12, 24), (0, 9, 15, 38)] 3 := ⟨gt_in 1220 (by decide +kernel) rfl, gt_in 159 (by decide +kernel) rfl, ⟨by decide, by decide, by decide +kernel⟩, gt_in 1218 (by decide +kernel) rfl, gt_in 1219 (by decide +kernel) rfl⟩
theorem hw_150 : CWSW RL 150 yL_change cL_change 4 (some .int) [(0, 9, 12, 24), (0, 9, 15, 38)] 3 := ⟨gt_in 1250 (by decide +kernel) rfl, gt_in 159 (by decide +kernel) rfl, ⟨by decide, by decide, by decide +kernel⟩, gt_in 1248 (by decide +kernel) rfl, gt_in 1249 (by decide +kernel) rfl⟩
theorem hw_153 : CWSW RL 153 yL_go cL_go 5 (some .int) [(0, 10, 13, 24), (0, 10, 17, 13)] 4 := ⟨gt_in 1257 (by decide +kernel) rfl, gt_in 159 (by decide +kernel) rfl, ⟨by decide, by decide, by decide +kernel⟩, gt_in 1255 (by decide +kernel) rfl, gt_in 1256 (by decide +kernel) rfl⟩
theorem hw_156 : CWSW RL 156 yL_pull cL_pull 4 (some .int) [(0, 9, 12, 24), (0, 9, 15, 38)] 3 := ⟨gt_in 1267 (by decide +kernel) rfl, gt_in 159 (by decide +kernel) rfl, ⟨by decide, by decide, by decide +kernel⟩, gt_in 1265 (by decide +kernel) rfl, gt_in 1266 (by decide +kernel) rfl⟩
theorem hw_159 : CWSW RL 159 yL_hand cL_hand 5 (some .int) [(0, 10, 13, 24), (0, 10, 17, 13), (0, 10, 21, 38)] 4 := ⟨gt_in 1276 (by decide +kernel) rfl, gt_in 159 (by decide +kernel) rfl, ⟨by decide, by decide, by decide +kernel⟩, gt_in 1274 (by decide +kernel) rfl, gt_in 1275 (by decide +kernel) rfl⟩
theorem hw_162 : CWSW RL 162 yL_fell cL_fell 4 (some .int) [(0, 9, 12, 24)] 3 := ⟨gt_in 1286 (by decide +kernel) rfl, gt_in 159 (by decide +kernel) rfl, ⟨by decide, by decide, by decide +kernel⟩, gt_in 1284 (by decide +kernel) rfl, gt_in 1285 (by decide +kernel) rfl⟩
theorem hw_165 : CWSW RL 165 yL_height cL_height 4 (some .int) [(0, 9, 12, 13)] 3 := ⟨gt_in 1293 (by decide +kernel) rfl, gt_in 159 (by decide +kernel) rfl, ⟨by decide, by decide, by decide +kernel⟩, gt_in 1291 (by decide +kernel) rfl, gt_in 1292 (by decide +kernel) rfl⟩
theorem hw_168 : CWSW RL 168 yL_days cL_days 4 (some .int) [(0, 9, 12, 13)] 3 := ⟨gt_in 1300 (by decide +kernel) rfl, gt_in 159 (by decide +kernel) rfl, ⟨by decide, by decide, by decide +kernel⟩, gt_in 1298 (by decide +kernel) rfl, gt_in 1299 (by decide +kernel) rfl⟩
theorem hw_203 : CWSW RL 203 yL_round cL_round 6 (some .int) [(0, 12, 15, 24)] 5 := ⟨gt_in 1313 (by decide +kernel) rfl, gt_in 159 (by decide +kernel) rfl, ⟨by decide, by decide, by decide +kernel⟩, gt_in 1311 (by decide +kernel) rfl, gt_in 1312 (by decide +kernel) rfl⟩
theorem hw_207 : CWSW RL 207 yL_goes cL_goes 4 (some .int) [(0, 9, 12, 24), (0, 9, 15, 13)] 3 := ⟨gt_in 1323 (by decide +kernel) rfl, gt_in 159 (by decide +kernel) rfl, ⟨by decide, by decide, by decide +kernel⟩, gt_in 1321 (by decide +kernel) rfl, gt_in 1322 (by decide +kernel) rfl⟩
theorem hw_210 : CWSW RL 210 yL_before cL_before 4 (some .int) [(0, 9, 12, 13)] 3 := ⟨gt_in 1352 (by decide +kernel) rfl, gt_in 159 (by decide +kernel) rfl, ⟨by decide, by decide, by decide +kernel⟩, gt_in 1350 (by decide +kernel) rfl, gt_in 1351 (by decide +kernel) rfl⟩
theorem hw_213 : CWSW RL 213 yL_seen cL_seen 4 (some .int) [(0, 9, 12, 13)] 3 := ⟨gt_in 1359 (by decide +kernel) rfl, gt_in 159 (by decide +kernel) rfl, ⟨by decide, by decide, by decide +kernel⟩, gt_in 1357 (by decide +kernel) rfl, gt_in 1358 (by decide +kernel) rfl⟩
theorem hw_217 : CWSW RL 217 yL_climb cL_climb 3 (some .int) [(0, 8, 11, 13)] 2 := ⟨gt_in 1380 (by decide +kernel) rfl, gt_in 159 (by decide +kernel) rfl, ⟨by decide, by decide, by decide +kernel⟩, gt_in 1378 (by decide +kernel) rfl, gt_in 1379 (by decide +kernel) rfl⟩
theorem hw_224 : CWSW RL 224 yL_pay cL_pay 4 (some .int) [(0, 9, 12, 13)] 3 := ⟨gt_in 1392 (by decide +kernel) rfl, gt_in 159 (by decide +kernel) rfl, ⟨by decide, by decide, by decide +kernel⟩, gt_in 1390 (by decide +kernel) rfl, gt_in 1391 (by decide +kernel) rfl⟩
theorem hw_239 : CWSW RL 239 yL_stars cL_stars 5 (some .int) [(0, 10, 13, 24), (0, 10, 17, 13)] 4 := ⟨gt_in 1399 (by decide +kernel) rfl, gt_in 159 (by decide +kernel) rfl, ⟨by decide, by decide, by decide +kernel⟩, gt_in 1397 (by decide +kernel) rfl, gt_in 1398 (by decide +kernel) rfl⟩
theorem hw_246 : CWSW RL 246 yL_ahead cL_ahead 6 (some .int) [(0, 12, 15, 24), (0, 12, 19, 13)] 5 := ⟨gt_in 1406 (by decide +kernel) rfl, gt_in 159 (by decide +kernel) rfl, ⟨by decide, by decide, by decide +kernel⟩, gt_in 1404 (by decide +kernel) rfl, gt_in 1405 (by decide +kernel) rfl⟩
theorem hw_249 : CWSW RL 249 yL_odds cL_odds 5 (some .int) [(0, 10, 13, 13)] 4 := ⟨gt_in 1413 (by decide +kernel) rfl, gt_in 159 (by decide +kernel) rfl, ⟨by decide, by decide, by decide +kernel⟩, gt_in 1411 (by decide +kernel) rfl, gt_in 1412 (by decide +kernel) rfl⟩
theorem hw_252 : CWSW RL 252 yL_needs cL_needs 4 (some .int) [(0, 9, 12, 13)] 3 := ⟨gt_in 1428 (by decide +kernel) rfl, gt_in 159 (by decide +kernel) rfl, ⟨by decide, by decide, by decide +kernel⟩, gt_in 1426 (by decide +kernel) rfl, gt_in 1427 (by decide +kernel) rfl⟩
theorem hw_255 : CWSW RL 255 yL_trial cL_trial 5 (some .int) [(0, 10, 13, 13)] 4 := ⟨gt_in 1435 (by decide +kernel) rfl, gt_in 159 (by decide +kernel) rfl, ⟨by decide, by decide, by decide +kernel⟩, gt_in 1433 (by decide +kernel) rfl, gt_in 1434 (by decide +kernel) rfl⟩
theorem hw_259 : CWSW RL 259 yL_span cL_span 5 (some .int) [(0, 10, 13, 13)] 4 := ⟨gt_in 1442 (by decide +kernel) rfl, gt_in 159 (by decide +kernel) rfl, ⟨by decide, by decide, by decide +kernel⟩, gt_in 1440 (by decide +kernel) rfl, gt_in 1441 (by decide +kernel) rfl⟩
theorem hw_262 : CWSW RL 262 yL_led cL_led 5 (some .int) [(0, 10, 13, 24)] 4 := ⟨gt_in 1449 (by decide +kernel) rfl, gt_in 159 (by decide +kernel) rfl, ⟨by decide, by decide, by decide +kernel⟩, gt_in 1447 (by decide +kernel) rfl, gt_in 1448 (by decide +kernel) rfl⟩
theorem hw_265 : CWSW RL 265 yL_log cL_log 5 (some .int) [(0, 10, 13, 26)] 4 := ⟨gt_in 1472 (by decide +kernel) rfl, gt_in 159 (by decide +kernel) rfl, ⟨by decide, by decide, by decide +kernel⟩, gt_in 1470 (by decide +kernel) rfl, gt_in 1471 (by decide +kernel) rfl⟩

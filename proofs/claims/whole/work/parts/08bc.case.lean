def KL_36 (xs : Nat → Int32) (Ls : Nat) (rec : Hp → Int32 → Option Int32) (h : Hp) (y : Int32) : Option Int32 := gd (inb (y + (1 : Int32)) Ls) (gd (inb (y + (2 : Int32)) Ls) (gd (inb (y + (3 : Int32)) Ls) (cl9 ((if (xs (y + (3 : Int32)).toNatClampNeg) = (0 : Int32) then some (0 : Int32) else some (1 : Int32)) : Option (Int32)) (fun v4 => cl2 (fL_ahead h (xs (y + (1 : Int32)).toNatClampNeg) (xs (y + (2 : Int32)).toNatClampNeg) v4) (fun x8 h9 => gd (inb (y + (1 : Int32)) Ls) (gd (inb (y + (2 : Int32)) Ls) (gd (inb (y + (3 : Int32)) Ls) (cl9 ((if (xs (y + (3 : Int32)).toNatClampNeg) = (0 : Int32) then some (0 : Int32) else some (1 : Int32)) : Option (Int32)) (fun v14 => cl2 (fX12_ahead h9 (xs (y + (1 : Int32)).toNatClampNeg) (xs (y + (2 : Int32)).toNatClampNeg) v14) (fun x20 h18 => (if (fX12_thrown h18) = x8 then (if x8 = (0 : Int32) then (if (lg_cmp ((h18 221 0).toInt64) (x20.toInt64)) = (0 : Int32) then lt9 (y + (6 : Int32)) (fun x25 => rec h18 x25) else some (0 : Int32)) else lt9 (y + (6 : Int32)) (fun x23 => rec h18 x23)) else some (0 : Int32))))))))))))
set_option maxHeartbeats 8000000 in
set_option maxRecDepth 100000 in
theorem tL_36 {X : Cx} {b Ls : Nat} {xs : Nat → Int32} (C : OK X cL_law_ 7 RL ret) (hR : xR X = { frames := 2048, cells := 601024, slots := 7293034, locals := 84000 }) (hX : SCR X b Ls xs) (hE : LAWQ X) (hLs : Ls ≤ 3072) {rec : Hp → Int32 → Option Int32} {i cs sl : Nat} (hi : i + 6 ≤ Ls) (h1 : cs ≤ 400 + i) (h2 : sl ≤ 60000 + 6 * i) (ih : (∀ (i : Nat) (h : Hp) (cs sl : Nat), i ≤ Ls + 6 → cs ≤ 400 + i → sl ≤ 60000 + 6 * i → rec h (nI i) = some 1 → VW X 7 h cs sl 23 [(0, .ref b), (1, .ref (gad (xG X) 0)), (2, .ref (gad (xG X) 208)), (3, .ref (gad (xG X) 221)), (4, .int (nI i))] [])) {h : Hp} (hf : KL_36 xs Ls rec h (nI i) = some 1) : VW X 7 h cs sl 1768 [(0, .ref b), (1, .ref (gad (xG X) 0)), (2, .ref (gad (xG X) 208)), (3, .ref (gad (xG X) 221)), (4, .int (nI i))] [] := by
  unfold KL_36 at hf
  refine r_aload_n (i := 1) C dL_law__1768 rfl 1 rfl ?_
  refine r_aload_n (i := 0) C dL_law__1769 rfl 0 rfl ?_
  refine r_iload (i := 4) C dL_law__1770 4 rfl ?_
  refine r_iconst (v := 1) C dL_law__1772 (by decide) ?_
  refine r_iadd C dL_law__1773 ?_
  obtain ⟨g1, hf⟩ := gd_of hf
  refine r_sld C hX g1 dL_law__1774 ?_
  refine r_aload_n (i := 0) C dL_law__1775 rfl 0 rfl ?_
  refine r_iload (i := 4) C dL_law__1776 4 rfl ?_
  refine r_iconst (v := 2) C dL_law__1778 (by decide) ?_
  refine r_iadd C dL_law__1779 ?_
  obtain ⟨g2, hf⟩ := gd_of hf
  refine r_sld C hX g2 dL_law__1780 ?_
  refine r_aload_n (i := 0) C dL_law__1781 rfl 0 rfl ?_
  refine r_iload (i := 4) C dL_law__1782 4 rfl ?_
  refine r_iconst (v := 3) C dL_law__1784 (by decide) ?_
  refine r_iadd C dL_law__1785 ?_
  obtain ⟨g3, hf⟩ := gd_of hf
  refine r_sld C hX g3 dL_law__1786 ?_
  obtain ⟨v4, r6, hf⟩ := cl_of hf
  have k5 : VW X 7 h cs sl 1795 [(0, .ref b), (1, .ref (gad (xG X) 0)), (2, .ref (gad (xG X) 208)), (3, .ref (gad (xG X) 221)), (4, .int (nI i))] [.int v4, .int (xs ((nI i) + (2 : Int32)).toNatClampNeg), .int (xs ((nI i) + (1 : Int32)).toNatClampNeg), .ref (gad (xG X) 0)] := by
    refine r_aload_n (i := 3) C dL_law__1795 rfl 3 rfl ?_
    obtain ⟨x8, h9, e10, hf⟩ := cl2_of hf
    refine r_callSW (As := [.ref (gad (xG X) 0), .int (xs ((nI i) + (1 : Int32)).toNatClampNeg), .int (xs ((nI i) + (2 : Int32)).toNatClampNeg), .int v4, .ref (gad (xG X) 221)]) (st := []) C (kL_ahead (xG X) e10) hw_246 rfl rfl (Nat.le_of_ble_eq_true rfl) (zl2 hR rfl rfl) (zlc hR (by omega) (by omega)) dL_law__1796 ?_
    refine r_istore (i := 5) (lv' := [(0, .ref b), (1, .ref (gad (xG X) 0)), (2, .ref (gad (xG X) 208)), (3, .ref (gad (xG X) 221)), (4, .int (nI i)), (5, .int x8)]) C dL_law__1799 (by decide) [1, 2, 3, 4, 5, 0] rfl ?_
    refine r_aload_n (i := 2) C dL_law__1801 rfl 2 rfl ?_
    refine r_aload_n (i := 0) C dL_law__1802 rfl 0 rfl ?_
    refine r_iload (i := 4) C dL_law__1803 4 rfl ?_
    refine r_iconst (v := 1) C dL_law__1805 (by decide) ?_
    refine r_iadd C dL_law__1806 ?_
    obtain ⟨g11, hf⟩ := gd_of hf
    refine r_sld C hX g11 dL_law__1807 ?_
    refine r_aload_n (i := 0) C dL_law__1808 rfl 0 rfl ?_
    refine r_iload (i := 4) C dL_law__1809 4 rfl ?_
    refine r_iconst (v := 2) C dL_law__1811 (by decide) ?_
    refine r_iadd C dL_law__1812 ?_
    obtain ⟨g12, hf⟩ := gd_of hf
    refine r_sld C hX g12 dL_law__1813 ?_
    refine r_aload_n (i := 0) C dL_law__1814 rfl 0 rfl ?_
    refine r_iload (i := 4) C dL_law__1815 4 rfl ?_
    refine r_iconst (v := 3) C dL_law__1817 (by decide) ?_
    refine r_iadd C dL_law__1818 ?_
    obtain ⟨g13, hf⟩ := gd_of hf
    refine r_sld C hX g13 dL_law__1819 ?_
    obtain ⟨v14, r16, hf⟩ := cl_of hf
    have k15 : VW X 7 h9 (cs + 1) (sl + 6) 1828 [(0, .ref b), (1, .ref (gad (xG X) 0)), (2, .ref (gad (xG X) 208)), (3, .ref (gad (xG X) 221)), (4, .int (nI i)), (5, .int x8)] [.int v14, .int (xs ((nI i) + (2 : Int32)).toNatClampNeg), .int (xs ((nI i) + (1 : Int32)).toNatClampNeg), .ref (gad (xG X) 208)] := by
      obtain ⟨x20, h18, e19, hf⟩ := cl2_of hf
      refine r_callVi (As := [.int (xs ((nI i) + (1 : Int32)).toNatClampNeg), .int (xs ((nI i) + (2 : Int32)).toNatClampNeg), .int v14]) (st := []) C 208 rfl (by decide) rfl (kX12_ahead (xG X) e19) cw_L_248 rfl rfl (Nat.le_of_ble_eq_true rfl) (zl2 hR rfl rfl) (zlc hR (by omega) (by omega)) dL_law__1828 ?_
      refine r_istore (i := 6) (lv' := [(0, .ref b), (1, .ref (gad (xG X) 0)), (2, .ref (gad (xG X) 208)), (3, .ref (gad (xG X) 221)), (4, .int (nI i)), (5, .int x8), (6, .int x20)]) C dL_law__1831 (by decide) [1, 2, 3, 4, 5, 6, 0] rfl ?_
      refine r_aload_n (i := 2) C dL_law__1833 rfl 2 rfl ?_
      refine r_callVi (As := []) (st := []) C 208 rfl (by decide) rfl (kX12_thrown (xG X)) cw_L_126 rfl rfl (Nat.le_of_ble_eq_true rfl) (zl2 hR rfl rfl) (zlc hR (by omega) (by omega)) dL_law__1834 ?_
      refine r_iload (i := 5) C dL_law__1837 5 rfl ?_
      refine r_icmp_eq C 1844 dL_law__1839 (by decide) (fun c21 => ?_) (fun c21 => ?_)
      · rw [if_pos c21] at hf
        refine r_iload (i := 5) C dL_law__1844 5 rfl ?_
        refine r_if_ne C 1861 dL_law__1846 (by decide) (fun c22 => ?_) (fun c22 => ?_)
        · rw [if_neg c22] at hf
          refine r_goto C 2395 dL_law__1861 (by decide) ?_
          obtain ⟨x23, ex23, hf⟩ := lt_of hf
          refine r_iinc (j := 4) (v := x23) (lv' := [(0, .ref b), (1, .ref (gad (xG X) 0)), (2, .ref (gad (xG X) 208)), (3, .ref (gad (xG X) 221)), (4, .int x23), (5, .int x8), (6, .int x20)]) C dL_law__2395 rfl (by rw [ex23]; rfl) (by decide) [1, 2, 3, 4, 0, 5, 6] rfl ?_
          refine r_goto C 23 dL_law__2398 (by decide) ?_
          have e99 : x23 = nI (i + 6) := by rw [ex23]; exact nI_add i 6
          rw [e99] at hf ⊢
          exact r_widen (c2 := cs + 1) (s2 := sl + 6) (by omega) (by omega) (r_lv [0, 1, 2, 3, 4] rfl (ih (i + 6) _ (cs + 1) (sl + 6) (by omega) (by omega) (by omega) hf))
        · rw [if_pos c22] at hf
          refine r_aload_n (i := 3) C dL_law__1849 rfl 3 rfl ?_
          refine r_iconst (v := 0) C dL_law__1850 (by decide) ?_
          refine r_lald C dL_law__1851 ?_
          refine r_iload (i := 6) C dL_law__1852 6 rfl ?_
          refine r_i2l C dL_law__1854 ?_
          refine r_lcmp C dL_law__1855 ?_
          refine r_if_eq C 1861 dL_law__1856 (by decide) (fun c24 => ?_) (fun c24 => ?_)
          · rw [if_pos c24] at hf
            refine r_goto C 2395 dL_law__1861 (by decide) ?_
            obtain ⟨x25, ex25, hf⟩ := lt_of hf
            refine r_iinc (j := 4) (v := x25) (lv' := [(0, .ref b), (1, .ref (gad (xG X) 0)), (2, .ref (gad (xG X) 208)), (3, .ref (gad (xG X) 221)), (4, .int x25), (5, .int x8), (6, .int x20)]) C dL_law__2395 rfl (by rw [ex25]; rfl) (by decide) [1, 2, 3, 4, 0, 5, 6] rfl ?_
            refine r_goto C 23 dL_law__2398 (by decide) ?_
            have e99 : x25 = nI (i + 6) := by rw [ex25]; exact nI_add i 6
            rw [e99] at hf ⊢
            exact r_widen (c2 := cs + 1) (s2 := sl + 6) (by omega) (by omega) (r_lv [0, 1, 2, 3, 4] rfl (ih (i + 6) _ (cs + 1) (sl + 6) (by omega) (by omega) (by omega) hf))
          · rw [if_neg c24] at hf
            refine r_iconst (v := 0) C dL_law__1859 (by decide) ?_
            exact absurd (Option.some.inj hf) (by decide)
      · rw [if_neg c21] at hf
        refine r_iconst (v := 0) C dL_law__1842 (by decide) ?_
        exact absurd (Option.some.inj hf) (by decide)
    clear hf
    have hf := r16
    refine r_if_eq C 1827 dL_law__1820 (by decide) (fun c17 => ?_) (fun c17 => ?_)
    · rw [if_pos c17] at hf
      refine r_iconst (v := 0) C dL_law__1827 (by decide) ?_
      cases hf
      exact k15
    · rw [if_neg c17] at hf
      refine r_iconst (v := 1) C dL_law__1823 (by decide) ?_
      refine r_goto C 1828 dL_law__1824 (by decide) ?_
      cases hf
      exact k15
  clear hf
  have hf := r6
  refine r_if_eq C 1794 dL_law__1787 (by decide) (fun c7 => ?_) (fun c7 => ?_)
  · rw [if_pos c7] at hf
    refine r_iconst (v := 0) C dL_law__1794 (by decide) ?_
    cases hf
    exact k5
  · rw [if_neg c7] at hf
    refine r_iconst (v := 1) C dL_law__1790 (by decide) ?_
    refine r_goto C 1795 dL_law__1791 (by decide) ?_
    cases hf
    exact k5
def KL_37 (xs : Nat → Int32) (Ls : Nat) (rec : Hp → Int32 → Option Int32) (h : Hp) (y : Int32) : Option Int32 := gd (inb (y + (1 : Int32)) Ls) (gd (inb (y + (2 : Int32)) Ls) (cl2 (fL_odds h (xs (y + (1 : Int32)).toNatClampNeg) (xs (y + (2 : Int32)).toNatClampNeg)) (fun x3 h4 => gd (inb (y + (1 : Int32)) Ls) (gd (inb (y + (2 : Int32)) Ls) (cl2 (fX12_odds h4 (xs (y + (1 : Int32)).toNatClampNeg) (xs (y + (2 : Int32)).toNatClampNeg)) (fun x10 h8 => (if (fX12_thrown h8) = x3 then (if x3 = (0 : Int32) then (if (lg_cmp ((h8 221 0).toInt64) (x10.toInt64)) = (0 : Int32) then lt9 (y + (6 : Int32)) (fun x15 => rec h8 x15) else some (0 : Int32)) else lt9 (y + (6 : Int32)) (fun x13 => rec h8 x13)) else some (0 : Int32))))))))
set_option maxHeartbeats 8000000 in
set_option maxRecDepth 100000 in
theorem tL_37 {X : Cx} {b Ls : Nat} {xs : Nat → Int32} (C : OK X cL_law_ 7 RL ret) (hR : xR X = { frames := 2048, cells := 601024, slots := 7293034, locals := 84000 }) (hX : SCR X b Ls xs) (hE : LAWQ X) (hLs : Ls ≤ 3072) {rec : Hp → Int32 → Option Int32} {i cs sl : Nat} (hi : i + 6 ≤ Ls) (h1 : cs ≤ 400 + i) (h2 : sl ≤ 60000 + 6 * i) (ih : (∀ (i : Nat) (h : Hp) (cs sl : Nat), i ≤ Ls + 6 → cs ≤ 400 + i → sl ≤ 60000 + 6 * i → rec h (nI i) = some 1 → VW X 7 h cs sl 23 [(0, .ref b), (1, .ref (gad (xG X) 0)), (2, .ref (gad (xG X) 208)), (3, .ref (gad (xG X) 221)), (4, .int (nI i))] [])) {h : Hp} (hf : KL_37 xs Ls rec h (nI i) = some 1) : VW X 7 h cs sl 1864 [(0, .ref b), (1, .ref (gad (xG X) 0)), (2, .ref (gad (xG X) 208)), (3, .ref (gad (xG X) 221)), (4, .int (nI i))] [] := by
  unfold KL_37 at hf
  refine r_aload_n (i := 1) C dL_law__1864 rfl 1 rfl ?_
  refine r_aload_n (i := 0) C dL_law__1865 rfl 0 rfl ?_
  refine r_iload (i := 4) C dL_law__1866 4 rfl ?_
  refine r_iconst (v := 1) C dL_law__1868 (by decide) ?_
  refine r_iadd C dL_law__1869 ?_
  obtain ⟨g1, hf⟩ := gd_of hf
  refine r_sld C hX g1 dL_law__1870 ?_
  refine r_aload_n (i := 0) C dL_law__1871 rfl 0 rfl ?_
  refine r_iload (i := 4) C dL_law__1872 4 rfl ?_
  refine r_iconst (v := 2) C dL_law__1874 (by decide) ?_
  refine r_iadd C dL_law__1875 ?_
  obtain ⟨g2, hf⟩ := gd_of hf
  refine r_sld C hX g2 dL_law__1876 ?_
  refine r_aload_n (i := 3) C dL_law__1877 rfl 3 rfl ?_
  obtain ⟨x3, h4, e5, hf⟩ := cl2_of hf
  refine r_callSW (As := [.ref (gad (xG X) 0), .int (xs ((nI i) + (1 : Int32)).toNatClampNeg), .int (xs ((nI i) + (2 : Int32)).toNatClampNeg), .ref (gad (xG X) 221)]) (st := []) C (kL_odds (xG X) e5) hw_249 rfl rfl (Nat.le_of_ble_eq_true rfl) (zl2 hR rfl rfl) (zlc hR (by omega) (by omega)) dL_law__1878 ?_
  refine r_istore (i := 5) (lv' := [(0, .ref b), (1, .ref (gad (xG X) 0)), (2, .ref (gad (xG X) 208)), (3, .ref (gad (xG X) 221)), (4, .int (nI i)), (5, .int x3)]) C dL_law__1881 (by decide) [1, 2, 3, 4, 5, 0] rfl ?_
  refine r_aload_n (i := 2) C dL_law__1883 rfl 2 rfl ?_
  refine r_aload_n (i := 0) C dL_law__1884 rfl 0 rfl ?_
  refine r_iload (i := 4) C dL_law__1885 4 rfl ?_
  refine r_iconst (v := 1) C dL_law__1887 (by decide) ?_
  refine r_iadd C dL_law__1888 ?_
  obtain ⟨g6, hf⟩ := gd_of hf
  refine r_sld C hX g6 dL_law__1889 ?_
  refine r_aload_n (i := 0) C dL_law__1890 rfl 0 rfl ?_
  refine r_iload (i := 4) C dL_law__1891 4 rfl ?_
  refine r_iconst (v := 2) C dL_law__1893 (by decide) ?_
  refine r_iadd C dL_law__1894 ?_
  obtain ⟨g7, hf⟩ := gd_of hf
  refine r_sld C hX g7 dL_law__1895 ?_
  obtain ⟨x10, h8, e9, hf⟩ := cl2_of hf
  refine r_callVi (As := [.int (xs ((nI i) + (1 : Int32)).toNatClampNeg), .int (xs ((nI i) + (2 : Int32)).toNatClampNeg)]) (st := []) C 208 rfl (by decide) rfl (kX12_odds (xG X) e9) cw_L_251 rfl rfl (Nat.le_of_ble_eq_true rfl) (zl2 hR rfl rfl) (zlc hR (by omega) (by omega)) dL_law__1896 ?_
  refine r_istore (i := 6) (lv' := [(0, .ref b), (1, .ref (gad (xG X) 0)), (2, .ref (gad (xG X) 208)), (3, .ref (gad (xG X) 221)), (4, .int (nI i)), (5, .int x3), (6, .int x10)]) C dL_law__1899 (by decide) [1, 2, 3, 4, 5, 6, 0] rfl ?_
  refine r_aload_n (i := 2) C dL_law__1901 rfl 2 rfl ?_
  refine r_callVi (As := []) (st := []) C 208 rfl (by decide) rfl (kX12_thrown (xG X)) cw_L_126 rfl rfl (Nat.le_of_ble_eq_true rfl) (zl2 hR rfl rfl) (zlc hR (by omega) (by omega)) dL_law__1902 ?_
  refine r_iload (i := 5) C dL_law__1905 5 rfl ?_
  refine r_icmp_eq C 1912 dL_law__1907 (by decide) (fun c11 => ?_) (fun c11 => ?_)
  · rw [if_pos c11] at hf
    refine r_iload (i := 5) C dL_law__1912 5 rfl ?_
    refine r_if_ne C 1929 dL_law__1914 (by decide) (fun c12 => ?_) (fun c12 => ?_)
    · rw [if_neg c12] at hf
      refine r_goto C 2395 dL_law__1929 (by decide) ?_
      obtain ⟨x13, ex13, hf⟩ := lt_of hf
      refine r_iinc (j := 4) (v := x13) (lv' := [(0, .ref b), (1, .ref (gad (xG X) 0)), (2, .ref (gad (xG X) 208)), (3, .ref (gad (xG X) 221)), (4, .int x13), (5, .int x3), (6, .int x10)]) C dL_law__2395 rfl (by rw [ex13]; rfl) (by decide) [1, 2, 3, 4, 0, 5, 6] rfl ?_
      refine r_goto C 23 dL_law__2398 (by decide) ?_
      have e99 : x13 = nI (i + 6) := by rw [ex13]; exact nI_add i 6
      rw [e99] at hf ⊢
      exact r_widen (c2 := cs + 1) (s2 := sl + 6) (by omega) (by omega) (r_lv [0, 1, 2, 3, 4] rfl (ih (i + 6) _ (cs + 1) (sl + 6) (by omega) (by omega) (by omega) hf))
    · rw [if_pos c12] at hf
      refine r_aload_n (i := 3) C dL_law__1917 rfl 3 rfl ?_
      refine r_iconst (v := 0) C dL_law__1918 (by decide) ?_
      refine r_lald C dL_law__1919 ?_
      refine r_iload (i := 6) C dL_law__1920 6 rfl ?_
      refine r_i2l C dL_law__1922 ?_
      refine r_lcmp C dL_law__1923 ?_
      refine r_if_eq C 1929 dL_law__1924 (by decide) (fun c14 => ?_) (fun c14 => ?_)
      · rw [if_pos c14] at hf
        refine r_goto C 2395 dL_law__1929 (by decide) ?_
        obtain ⟨x15, ex15, hf⟩ := lt_of hf
        refine r_iinc (j := 4) (v := x15) (lv' := [(0, .ref b), (1, .ref (gad (xG X) 0)), (2, .ref (gad (xG X) 208)), (3, .ref (gad (xG X) 221)), (4, .int x15), (5, .int x3), (6, .int x10)]) C dL_law__2395 rfl (by rw [ex15]; rfl) (by decide) [1, 2, 3, 4, 0, 5, 6] rfl ?_
        refine r_goto C 23 dL_law__2398 (by decide) ?_
        have e99 : x15 = nI (i + 6) := by rw [ex15]; exact nI_add i 6
        rw [e99] at hf ⊢
        exact r_widen (c2 := cs + 1) (s2 := sl + 6) (by omega) (by omega) (r_lv [0, 1, 2, 3, 4] rfl (ih (i + 6) _ (cs + 1) (sl + 6) (by omega) (by omega) (by omega) hf))
      · rw [if_neg c14] at hf
        refine r_iconst (v := 0) C dL_law__1927 (by decide) ?_
        exact absurd (Option.some.inj hf) (by decide)
  · rw [if_neg c11] at hf
    refine r_iconst (v := 0) C dL_law__1910 (by decide) ?_
    exact absurd (Option.some.inj hf) (by decide)
def KL_38 (xs : Nat → Int32) (Ls : Nat) (rec : Hp → Int32 → Option Int32) (h : Hp) (y : Int32) : Option Int32 := gd (inb (y + (1 : Int32)) Ls) (cl2 (fL_needs h (xs (y + (1 : Int32)).toNatClampNeg)) (fun x2 h3 => gd (inb (y + (1 : Int32)) Ls) (cl2 (fX12_needs h3 (xs (y + (1 : Int32)).toNatClampNeg)) (fun x8 h6 => (if (fX12_thrown h6) = x2 then (if x2 = (0 : Int32) then (if (lg_cmp ((h6 221 0).toInt64) (x8.toInt64)) = (0 : Int32) then lt9 (y + (6 : Int32)) (fun x13 => rec h6 x13) else some (0 : Int32)) else lt9 (y + (6 : Int32)) (fun x11 => rec h6 x11)) else some (0 : Int32))))))
set_option maxHeartbeats 8000000 in
set_option maxRecDepth 100000 in
theorem tL_38 {X : Cx} {b Ls : Nat} {xs : Nat → Int32} (C : OK X cL_law_ 7 RL ret) (hR : xR X = { frames := 2048, cells := 601024, slots := 7293034, locals := 84000 }) (hX : SCR X b Ls xs) (hE : LAWQ X) (hLs : Ls ≤ 3072) {rec : Hp → Int32 → Option Int32} {i cs sl : Nat} (hi : i + 6 ≤ Ls) (h1 : cs ≤ 400 + i) (h2 : sl ≤ 60000 + 6 * i) (ih : (∀ (i : Nat) (h : Hp) (cs sl : Nat), i ≤ Ls + 6 → cs ≤ 400 + i → sl ≤ 60000 + 6 * i → rec h (nI i) = some 1 → VW X 7 h cs sl 23 [(0, .ref b), (1, .ref (gad (xG X) 0)), (2, .ref (gad (xG X) 208)), (3, .ref (gad (xG X) 221)), (4, .int (nI i))] [])) {h : Hp} (hf : KL_38 xs Ls rec h (nI i) = some 1) : VW X 7 h cs sl 1932 [(0, .ref b), (1, .ref (gad (xG X) 0)), (2, .ref (gad (xG X) 208)), (3, .ref (gad (xG X) 221)), (4, .int (nI i))] [] := by
  unfold KL_38 at hf
  refine r_aload_n (i := 1) C dL_law__1932 rfl 1 rfl ?_
  refine r_aload_n (i := 0) C dL_law__1933 rfl 0 rfl ?_
  refine r_iload (i := 4) C dL_law__1934 4 rfl ?_
  refine r_iconst (v := 1) C dL_law__1936 (by decide) ?_
  refine r_iadd C dL_law__1937 ?_
  obtain ⟨g1, hf⟩ := gd_of hf
  refine r_sld C hX g1 dL_law__1938 ?_
  refine r_aload_n (i := 3) C dL_law__1939 rfl 3 rfl ?_
  obtain ⟨x2, h3, e4, hf⟩ := cl2_of hf
  refine r_callSW (As := [.ref (gad (xG X) 0), .int (xs ((nI i) + (1 : Int32)).toNatClampNeg), .ref (gad (xG X) 221)]) (st := []) C (kL_needs (xG X) e4) hw_252 rfl rfl (Nat.le_of_ble_eq_true rfl) (zl2 hR rfl rfl) (zlc hR (by omega) (by omega)) dL_law__1940 ?_
  refine r_istore (i := 5) (lv' := [(0, .ref b), (1, .ref (gad (xG X) 0)), (2, .ref (gad (xG X) 208)), (3, .ref (gad (xG X) 221)), (4, .int (nI i)), (5, .int x2)]) C dL_law__1943 (by decide) [1, 2, 3, 4, 5, 0] rfl ?_
  refine r_aload_n (i := 2) C dL_law__1945 rfl 2 rfl ?_
  refine r_aload_n (i := 0) C dL_law__1946 rfl 0 rfl ?_
  refine r_iload (i := 4) C dL_law__1947 4 rfl ?_
  refine r_iconst (v := 1) C dL_law__1949 (by decide) ?_
  refine r_iadd C dL_law__1950 ?_
  obtain ⟨g5, hf⟩ := gd_of hf
  refine r_sld C hX g5 dL_law__1951 ?_
  obtain ⟨x8, h6, e7, hf⟩ := cl2_of hf
  refine r_callVi (As := [.int (xs ((nI i) + (1 : Int32)).toNatClampNeg)]) (st := []) C 208 rfl (by decide) rfl (kX12_needs (xG X) e7) cw_L_254 rfl rfl (Nat.le_of_ble_eq_true rfl) (zl2 hR rfl rfl) (zlc hR (by omega) (by omega)) dL_law__1952 ?_
  refine r_istore (i := 6) (lv' := [(0, .ref b), (1, .ref (gad (xG X) 0)), (2, .ref (gad (xG X) 208)), (3, .ref (gad (xG X) 221)), (4, .int (nI i)), (5, .int x2), (6, .int x8)]) C dL_law__1955 (by decide) [1, 2, 3, 4, 5, 6, 0] rfl ?_
  refine r_aload_n (i := 2) C dL_law__1957 rfl 2 rfl ?_
  refine r_callVi (As := []) (st := []) C 208 rfl (by decide) rfl (kX12_thrown (xG X)) cw_L_126 rfl rfl (Nat.le_of_ble_eq_true rfl) (zl2 hR rfl rfl) (zlc hR (by omega) (by omega)) dL_law__1958 ?_
  refine r_iload (i := 5) C dL_law__1961 5 rfl ?_
  refine r_icmp_eq C 1968 dL_law__1963 (by decide) (fun c9 => ?_) (fun c9 => ?_)
  · rw [if_pos c9] at hf
    refine r_iload (i := 5) C dL_law__1968 5 rfl ?_
    refine r_if_ne C 1985 dL_law__1970 (by decide) (fun c10 => ?_) (fun c10 => ?_)
    · rw [if_neg c10] at hf
      refine r_goto C 2395 dL_law__1985 (by decide) ?_
      obtain ⟨x11, ex11, hf⟩ := lt_of hf
      refine r_iinc (j := 4) (v := x11) (lv' := [(0, .ref b), (1, .ref (gad (xG X) 0)), (2, .ref (gad (xG X) 208)), (3, .ref (gad (xG X) 221)), (4, .int x11), (5, .int x2), (6, .int x8)]) C dL_law__2395 rfl (by rw [ex11]; rfl) (by decide) [1, 2, 3, 4, 0, 5, 6] rfl ?_
      refine r_goto C 23 dL_law__2398 (by decide) ?_
      have e99 : x11 = nI (i + 6) := by rw [ex11]; exact nI_add i 6
      rw [e99] at hf ⊢
      exact r_widen (c2 := cs + 1) (s2 := sl + 6) (by omega) (by omega) (r_lv [0, 1, 2, 3, 4] rfl (ih (i + 6) _ (cs + 1) (sl + 6) (by omega) (by omega) (by omega) hf))
    · rw [if_pos c10] at hf
      refine r_aload_n (i := 3) C dL_law__1973 rfl 3 rfl ?_
      refine r_iconst (v := 0) C dL_law__1974 (by decide) ?_
      refine r_lald C dL_law__1975 ?_
      refine r_iload (i := 6) C dL_law__1976 6 rfl ?_
      refine r_i2l C dL_law__1978 ?_
      refine r_lcmp C dL_law__1979 ?_
      refine r_if_eq C 1985 dL_law__1980 (by decide) (fun c12 => ?_) (fun c12 => ?_)
      · rw [if_pos c12] at hf
        refine r_goto C 2395 dL_law__1985 (by decide) ?_
        obtain ⟨x13, ex13, hf⟩ := lt_of hf
        refine r_iinc (j := 4) (v := x13) (lv' := [(0, .ref b), (1, .ref (gad (xG X) 0)), (2, .ref (gad (xG X) 208)), (3, .ref (gad (xG X) 221)), (4, .int x13), (5, .int x2), (6, .int x8)]) C dL_law__2395 rfl (by rw [ex13]; rfl) (by decide) [1, 2, 3, 4, 0, 5, 6] rfl ?_
        refine r_goto C 23 dL_law__2398 (by decide) ?_
        have e99 : x13 = nI (i + 6) := by rw [ex13]; exact nI_add i 6
        rw [e99] at hf ⊢
        exact r_widen (c2 := cs + 1) (s2 := sl + 6) (by omega) (by omega) (r_lv [0, 1, 2, 3, 4] rfl (ih (i + 6) _ (cs + 1) (sl + 6) (by omega) (by omega) (by omega) hf))
      · rw [if_neg c12] at hf
        refine r_iconst (v := 0) C dL_law__1983 (by decide) ?_
        exact absurd (Option.some.inj hf) (by decide)
  · rw [if_neg c9] at hf
    refine r_iconst (v := 0) C dL_law__1966 (by decide) ?_
    exact absurd (Option.some.inj hf) (by decide)
def KL_39 (xs : Nat → Int32) (Ls : Nat) (rec : Hp → Int32 → Option Int32) (h : Hp) (y : Int32) : Option Int32 := gd (inb (y + (1 : Int32)) Ls) (gd (inb (y + (2 : Int32)) Ls) (cl9 ((if (xs (y + (2 : Int32)).toNatClampNeg) = (0 : Int32) then some (0 : Int32) else some (1 : Int32)) : Option (Int32)) (fun v3 => cl2 (fL_trial h (xs (y + (1 : Int32)).toNatClampNeg) v3) (fun x7 h8 => gd (inb (y + (1 : Int32)) Ls) (gd (inb (y + (2 : Int32)) Ls) (cl9 ((if (xs (y + (2 : Int32)).toNatClampNeg) = (0 : Int32) then some (0 : Int32) else some (1 : Int32)) : Option (Int32)) (fun v12 => cl2 (fX12_trial h8 (xs (y + (1 : Int32)).toNatClampNeg) v12) (fun x18 h16 => (if (fX12_thrown h16) = x7 then (if x7 = (0 : Int32) then (if (lg_cmp ((h16 221 0).toInt64) (x18.toInt64)) = (0 : Int32) then lt9 (y + (6 : Int32)) (fun x23 => rec h16 x23) else some (0 : Int32)) else lt9 (y + (6 : Int32)) (fun x21 => rec h16 x21)) else some (0 : Int32))))))))))
set_option maxHeartbeats 8000000 in
set_option maxRecDepth 100000 in
theorem tL_39 {X : Cx} {b Ls : Nat} {xs : Nat → Int32} (C : OK X cL_law_ 7 RL ret) (hR : xR X = { frames := 2048, cells := 601024, slots := 7293034, locals := 84000 }) (hX : SCR X b Ls xs) (hE : LAWQ X) (hLs : Ls ≤ 3072) {rec : Hp → Int32 → Option Int32} {i cs sl : Nat} (hi : i + 6 ≤ Ls) (h1 : cs ≤ 400 + i) (h2 : sl ≤ 60000 + 6 * i) (ih : (∀ (i : Nat) (h : Hp) (cs sl : Nat), i ≤ Ls + 6 → cs ≤ 400 + i → sl ≤ 60000 + 6 * i → rec h (nI i) = some 1 → VW X 7 h cs sl 23 [(0, .ref b), (1, .ref (gad (xG X) 0)), (2, .ref (gad (xG X) 208)), (3, .ref (gad (xG X) 221)), (4, .int (nI i))] [])) {h : Hp} (hf : KL_39 xs Ls rec h (nI i) = some 1) : VW X 7 h cs sl 1988 [(0, .ref b), (1, .ref (gad (xG X) 0)), (2, .ref (gad (xG X) 208)), (3, .ref (gad (xG X) 221)), (4, .int (nI i))] [] := by
  unfold KL_39 at hf
  refine r_aload_n (i := 1) C dL_law__1988 rfl 1 rfl ?_
  refine r_aload_n (i := 0) C dL_law__1989 rfl 0 rfl ?_
  refine r_iload (i := 4) C dL_law__1990 4 rfl ?_
  refine r_iconst (v := 1) C dL_law__1992 (by decide) ?_
  refine r_iadd C dL_law__1993 ?_
  obtain ⟨g1, hf⟩ := gd_of hf
  refine r_sld C hX g1 dL_law__1994 ?_
  refine r_aload_n (i := 0) C dL_law__1995 rfl 0 rfl ?_
  refine r_iload (i := 4) C dL_law__1996 4 rfl ?_
  refine r_iconst (v := 2) C dL_law__1998 (by decide) ?_
  refine r_iadd C dL_law__1999 ?_
  obtain ⟨g2, hf⟩ := gd_of hf
  refine r_sld C hX g2 dL_law__2000 ?_
  obtain ⟨v3, r5, hf⟩ := cl_of hf
  have k4 : VW X 7 h cs sl 2009 [(0, .ref b), (1, .ref (gad (xG X) 0)), (2, .ref (gad (xG X) 208)), (3, .ref (gad (xG X) 221)), (4, .int (nI i))] [.int v3, .int (xs ((nI i) + (1 : Int32)).toNatClampNeg), .ref (gad (xG X) 0)] := by
    refine r_aload_n (i := 3) C dL_law__2009 rfl 3 rfl ?_
    obtain ⟨x7, h8, e9, hf⟩ := cl2_of hf
    refine r_callSW (As := [.ref (gad (xG X) 0), .int (xs ((nI i) + (1 : Int32)).toNatClampNeg), .int v3, .ref (gad (xG X) 221)]) (st := []) C (kL_trial (xG X) e9) hw_255 rfl rfl (Nat.le_of_ble_eq_true rfl) (zl2 hR rfl rfl) (zlc hR (by omega) (by omega)) dL_law__2010 ?_
    refine r_istore (i := 5) (lv' := [(0, .ref b), (1, .ref (gad (xG X) 0)), (2, .ref (gad (xG X) 208)), (3, .ref (gad (xG X) 221)), (4, .int (nI i)), (5, .int x7)]) C dL_law__2013 (by decide) [1, 2, 3, 4, 5, 0] rfl ?_
    refine r_aload_n (i := 2) C dL_law__2015 rfl 2 rfl ?_
    refine r_aload_n (i := 0) C dL_law__2016 rfl 0 rfl ?_
    refine r_iload (i := 4) C dL_law__2017 4 rfl ?_
    refine r_iconst (v := 1) C dL_law__2019 (by decide) ?_
    refine r_iadd C dL_law__2020 ?_
    obtain ⟨g10, hf⟩ := gd_of hf
    refine r_sld C hX g10 dL_law__2021 ?_
    refine r_aload_n (i := 0) C dL_law__2022 rfl 0 rfl ?_
    refine r_iload (i := 4) C dL_law__2023 4 rfl ?_
    refine r_iconst (v := 2) C dL_law__2025 (by decide) ?_
    refine r_iadd C dL_law__2026 ?_
    obtain ⟨g11, hf⟩ := gd_of hf
    refine r_sld C hX g11 dL_law__2027 ?_
    obtain ⟨v12, r14, hf⟩ := cl_of hf
    have k13 : VW X 7 h8 (cs + 1) (sl + 6) 2036 [(0, .ref b), (1, .ref (gad (xG X) 0)), (2, .ref (gad (xG X) 208)), (3, .ref (gad (xG X) 221)), (4, .int (nI i)), (5, .int x7)] [.int v12, .int (xs ((nI i) + (1 : Int32)).toNatClampNeg), .ref (gad (xG X) 208)] := by
      obtain ⟨x18, h16, e17, hf⟩ := cl2_of hf
      refine r_callVi (As := [.int (xs ((nI i) + (1 : Int32)).toNatClampNeg), .int v12]) (st := []) C 208 rfl (by decide) rfl (kX12_trial (xG X) e17) cw_L_258 rfl rfl (Nat.le_of_ble_eq_true rfl) (zl2 hR rfl rfl) (zlc hR (by omega) (by omega)) dL_law__2036 ?_
      refine r_istore (i := 6) (lv' := [(0, .ref b), (1, .ref (gad (xG X) 0)), (2, .ref (gad (xG X) 208)), (3, .ref (gad (xG X) 221)), (4, .int (nI i)), (5, .int x7), (6, .int x18)]) C dL_law__2039 (by decide) [1, 2, 3, 4, 5, 6, 0] rfl ?_
      refine r_aload_n (i := 2) C dL_law__2041 rfl 2 rfl ?_
      refine r_callVi (As := []) (st := []) C 208 rfl (by decide) rfl (kX12_thrown (xG X)) cw_L_126 rfl rfl (Nat.le_of_ble_eq_true rfl) (zl2 hR rfl rfl) (zlc hR (by omega) (by omega)) dL_law__2042 ?_
      refine r_iload (i := 5) C dL_law__2045 5 rfl ?_
      refine r_icmp_eq C 2052 dL_law__2047 (by decide) (fun c19 => ?_) (fun c19 => ?_)
      · rw [if_pos c19] at hf
        refine r_iload (i := 5) C dL_law__2052 5 rfl ?_
        refine r_if_ne C 2069 dL_law__2054 (by decide) (fun c20 => ?_) (fun c20 => ?_)
        · rw [if_neg c20] at hf
          refine r_goto C 2395 dL_law__2069 (by decide) ?_
          obtain ⟨x21, ex21, hf⟩ := lt_of hf
          refine r_iinc (j := 4) (v := x21) (lv' := [(0, .ref b), (1, .ref (gad (xG X) 0)), (2, .ref (gad (xG X) 208)), (3, .ref (gad (xG X) 221)), (4, .int x21), (5, .int x7), (6, .int x18)]) C dL_law__2395 rfl (by rw [ex21]; rfl) (by decide) [1, 2, 3, 4, 0, 5, 6] rfl ?_
          refine r_goto C 23 dL_law__2398 (by decide) ?_
          have e99 : x21 = nI (i + 6) := by rw [ex21]; exact nI_add i 6
          rw [e99] at hf ⊢
          exact r_widen (c2 := cs + 1) (s2 := sl + 6) (by omega) (by omega) (r_lv [0, 1, 2, 3, 4] rfl (ih (i + 6) _ (cs + 1) (sl + 6) (by omega) (by omega) (by omega) hf))
        · rw [if_pos c20] at hf
          refine r_aload_n (i := 3) C dL_law__2057 rfl 3 rfl ?_
          refine r_iconst (v := 0) C dL_law__2058 (by decide) ?_
          refine r_lald C dL_law__2059 ?_
          refine r_iload (i := 6) C dL_law__2060 6 rfl ?_
          refine r_i2l C dL_law__2062 ?_
          refine r_lcmp C dL_law__2063 ?_
          refine r_if_eq C 2069 dL_law__2064 (by decide) (fun c22 => ?_) (fun c22 => ?_)
          · rw [if_pos c22] at hf
            refine r_goto C 2395 dL_law__2069 (by decide) ?_
            obtain ⟨x23, ex23, hf⟩ := lt_of hf
            refine r_iinc (j := 4) (v := x23) (lv' := [(0, .ref b), (1, .ref (gad (xG X) 0)), (2, .ref (gad (xG X) 208)), (3, .ref (gad (xG X) 221)), (4, .int x23), (5, .int x7), (6, .int x18)]) C dL_law__2395 rfl (by rw [ex23]; rfl) (by decide) [1, 2, 3, 4, 0, 5, 6] rfl ?_
            refine r_goto C 23 dL_law__2398 (by decide) ?_
            have e99 : x23 = nI (i + 6) := by rw [ex23]; exact nI_add i 6
            rw [e99] at hf ⊢
            exact r_widen (c2 := cs + 1) (s2 := sl + 6) (by omega) (by omega) (r_lv [0, 1, 2, 3, 4] rfl (ih (i + 6) _ (cs + 1) (sl + 6) (by omega) (by omega) (by omega) hf))
          · rw [if_neg c22] at hf
            refine r_iconst (v := 0) C dL_law__2067 (by decide) ?_
            exact absurd (Option.some.inj hf) (by decide)
      · rw [if_neg c19] at hf
        refine r_iconst (v := 0) C dL_law__2050 (by decide) ?_
        exact absurd (Option.some.inj hf) (by decide)
    clear hf
    have hf := r14
    refine r_if_eq C 2035 dL_law__2028 (by decide) (fun c15 => ?_) (fun c15 => ?_)
    · rw [if_pos c15] at hf
      refine r_iconst (v := 0) C dL_law__2035 (by decide) ?_
      cases hf
      exact k13
    · rw [if_neg c15] at hf
      refine r_iconst (v := 1) C dL_law__2031 (by decide) ?_
      refine r_goto C 2036 dL_law__2032 (by decide) ?_
      cases hf
      exact k13
  clear hf
  have hf := r5
  refine r_if_eq C 2008 dL_law__2001 (by decide) (fun c6 => ?_) (fun c6 => ?_)
  · rw [if_pos c6] at hf
    refine r_iconst (v := 0) C dL_law__2008 (by decide) ?_
    cases hf
    exact k4
  · rw [if_neg c6] at hf
    refine r_iconst (v := 1) C dL_law__2004 (by decide) ?_
    refine r_goto C 2009 dL_law__2005 (by decide) ?_
    cases hf
    exact k4
def KL_40 (xs : Nat → Int32) (Ls : Nat) (rec : Hp → Int32 → Option Int32) (h : Hp) (y : Int32) : Option Int32 := gd (inb (y + (1 : Int32)) Ls) (gd (inb (y + (2 : Int32)) Ls) (cl9 ((if (xs (y + (2 : Int32)).toNatClampNeg) = (0 : Int32) then some (0 : Int32) else some (1 : Int32)) : Option (Int32)) (fun v3 => cl2 (fL_span h (xs (y + (1 : Int32)).toNatClampNeg) v3) (fun x7 h8 => gd (inb (y + (1 : Int32)) Ls) (gd (inb (y + (2 : Int32)) Ls) (cl9 ((if (xs (y + (2 : Int32)).toNatClampNeg) = (0 : Int32) then some (0 : Int32) else some (1 : Int32)) : Option (Int32)) (fun v12 => cl2 (fX12_span h8 (xs (y + (1 : Int32)).toNatClampNeg) v12) (fun x18 h16 => (if (fX12_thrown h16) = x7 then (if x7 = (0 : Int32) then (if (lg_cmp ((h16 221 0).toInt64) (x18.toInt64)) = (0 : Int32) then lt9 (y + (6 : Int32)) (fun x23 => rec h16 x23) else some (0 : Int32)) else lt9 (y + (6 : Int32)) (fun x21 => rec h16 x21)) else some (0 : Int32))))))))))
set_option maxHeartbeats 8000000 in
set_option maxRecDepth 100000 in
theorem tL_40 {X : Cx} {b Ls : Nat} {xs : Nat → Int32} (C : OK X cL_law_ 7 RL ret) (hR : xR X = { frames := 2048, cells := 601024, slots := 7293034, locals := 84000 }) (hX : SCR X b Ls xs) (hE : LAWQ X) (hLs : Ls ≤ 3072) {rec : Hp → Int32 → Option Int32} {i cs sl : Nat} (hi : i + 6 ≤ Ls) (h1 : cs ≤ 400 + i) (h2 : sl ≤ 60000 + 6 * i) (ih : (∀ (i : Nat) (h : Hp) (cs sl : Nat), i ≤ Ls + 6 → cs ≤ 400 + i → sl ≤ 60000 + 6 * i → rec h (nI i) = some 1 → VW X 7 h cs sl 23 [(0, .ref b), (1, .ref (gad (xG X) 0)), (2, .ref (gad (xG X) 208)), (3, .ref (gad (xG X) 221)), (4, .int (nI i))] [])) {h : Hp} (hf : KL_40 xs Ls rec h (nI i) = some 1) : VW X 7 h cs sl 2072 [(0, .ref b), (1, .ref (gad (xG X) 0)), (2, .ref (gad (xG X) 208)), (3, .ref (gad (xG X) 221)), (4, .int (nI i))] [] := by
  unfold KL_40 at hf
  refine r_aload_n (i := 1) C dL_law__2072 rfl 1 rfl ?_
  refine r_aload_n (i := 0) C dL_law__2073 rfl 0 rfl ?_
  refine r_iload (i := 4) C dL_law__2074 4 rfl ?_
  refine r_iconst (v := 1) C dL_law__2076 (by decide) ?_
  refine r_iadd C dL_law__2077 ?_
  obtain ⟨g1, hf⟩ := gd_of hf
  refine r_sld C hX g1 dL_law__2078 ?_
  refine r_aload_n (i := 0) C dL_law__2079 rfl 0 rfl ?_
  refine r_iload (i := 4) C dL_law__2080 4 rfl ?_
  refine r_iconst (v := 2) C dL_law__2082 (by decide) ?_
  refine r_iadd C dL_law__2083 ?_
  obtain ⟨g2, hf⟩ := gd_of hf
  refine r_sld C hX g2 dL_law__2084 ?_
  obtain ⟨v3, r5, hf⟩ := cl_of hf
  have k4 : VW X 7 h cs sl 2093 [(0, .ref b), (1, .ref (gad (xG X) 0)), (2, .ref (gad (xG X) 208)), (3, .ref (gad (xG X) 221)), (4, .int (nI i))] [.int v3, .int (xs ((nI i) + (1 : Int32)).toNatClampNeg), .ref (gad (xG X) 0)] := by
    refine r_aload_n (i := 3) C dL_law__2093 rfl 3 rfl ?_
    obtain ⟨x7, h8, e9, hf⟩ := cl2_of hf
    refine r_callSW (As := [.ref (gad (xG X) 0), .int (xs ((nI i) + (1 : Int32)).toNatClampNeg), .int v3, .ref (gad (xG X) 221)]) (st := []) C (kL_span (xG X) e9) hw_259 rfl rfl (Nat.le_of_ble_eq_true rfl) (zl2 hR rfl rfl) (zlc hR (by omega) (by omega)) dL_law__2094 ?_
    refine r_istore (i := 5) (lv' := [(0, .ref b), (1, .ref (gad (xG X) 0)), (2, .ref (gad (xG X) 208)), (3, .ref (gad (xG X) 221)), (4, .int (nI i)), (5, .int x7)]) C dL_law__2097 (by decide) [1, 2, 3, 4, 5, 0] rfl ?_
    refine r_aload_n (i := 2) C dL_law__2099 rfl 2 rfl ?_
    refine r_aload_n (i := 0) C dL_law__2100 rfl 0 rfl ?_
    refine r_iload (i := 4) C dL_law__2101 4 rfl ?_
    refine r_iconst (v := 1) C dL_law__2103 (by decide) ?_
    refine r_iadd C dL_law__2104 ?_
    obtain ⟨g10, hf⟩ := gd_of hf
    refine r_sld C hX g10 dL_law__2105 ?_
    refine r_aload_n (i := 0) C dL_law__2106 rfl 0 rfl ?_
    refine r_iload (i := 4) C dL_law__2107 4 rfl ?_
    refine r_iconst (v := 2) C dL_law__2109 (by decide) ?_
    refine r_iadd C dL_law__2110 ?_
    obtain ⟨g11, hf⟩ := gd_of hf
    refine r_sld C hX g11 dL_law__2111 ?_
    obtain ⟨v12, r14, hf⟩ := cl_of hf
    have k13 : VW X 7 h8 (cs + 1) (sl + 6) 2120 [(0, .ref b), (1, .ref (gad (xG X) 0)), (2, .ref (gad (xG X) 208)), (3, .ref (gad (xG X) 221)), (4, .int (nI i)), (5, .int x7)] [.int v12, .int (xs ((nI i) + (1 : Int32)).toNatClampNeg), .ref (gad (xG X) 208)] := by
      obtain ⟨x18, h16, e17, hf⟩ := cl2_of hf
      refine r_callVi (As := [.int (xs ((nI i) + (1 : Int32)).toNatClampNeg), .int v12]) (st := []) C 208 rfl (by decide) rfl (kX12_span (xG X) e17) cw_L_261 rfl rfl (Nat.le_of_ble_eq_true rfl) (zl2 hR rfl rfl) (zlc hR (by omega) (by omega)) dL_law__2120 ?_
      refine r_istore (i := 6) (lv' := [(0, .ref b), (1, .ref (gad (xG X) 0)), (2, .ref (gad (xG X) 208)), (3, .ref (gad (xG X) 221)), (4, .int (nI i)), (5, .int x7), (6, .int x18)]) C dL_law__2123 (by decide) [1, 2, 3, 4, 5, 6, 0] rfl ?_
      refine r_aload_n (i := 2) C dL_law__2125 rfl 2 rfl ?_
      refine r_callVi (As := []) (st := []) C 208 rfl (by decide) rfl (kX12_thrown (xG X)) cw_L_126 rfl rfl (Nat.le_of_ble_eq_true rfl) (zl2 hR rfl rfl) (zlc hR (by omega) (by omega)) dL_law__2126 ?_
      refine r_iload (i := 5) C dL_law__2129 5 rfl ?_
      refine r_icmp_eq C 2136 dL_law__2131 (by decide) (fun c19 => ?_) (fun c19 => ?_)
      · rw [if_pos c19] at hf
        refine r_iload (i := 5) C dL_law__2136 5 rfl ?_
        refine r_if_ne C 2153 dL_law__2138 (by decide) (fun c20 => ?_) (fun c20 => ?_)
        · rw [if_neg c20] at hf
          refine r_goto C 2395 dL_law__2153 (by decide) ?_
          obtain ⟨x21, ex21, hf⟩ := lt_of hf
          refine r_iinc (j := 4) (v := x21) (lv' := [(0, .ref b), (1, .ref (gad (xG X) 0)), (2, .ref (gad (xG X) 208)), (3, .ref (gad (xG X) 221)), (4, .int x21), (5, .int x7), (6, .int x18)]) C dL_law__2395 rfl (by rw [ex21]; rfl) (by decide) [1, 2, 3, 4, 0, 5, 6] rfl ?_
          refine r_goto C 23 dL_law__2398 (by decide) ?_
          have e99 : x21 = nI (i + 6) := by rw [ex21]; exact nI_add i 6
          rw [e99] at hf ⊢
          exact r_widen (c2 := cs + 1) (s2 := sl + 6) (by omega) (by omega) (r_lv [0, 1, 2, 3, 4] rfl (ih (i + 6) _ (cs + 1) (sl + 6) (by omega) (by omega) (by omega) hf))
        · rw [if_pos c20] at hf
          refine r_aload_n (i := 3) C dL_law__2141 rfl 3 rfl ?_
          refine r_iconst (v := 0) C dL_law__2142 (by decide) ?_
          refine r_lald C dL_law__2143 ?_
          refine r_iload (i := 6) C dL_law__2144 6 rfl ?_
          refine r_i2l C dL_law__2146 ?_
          refine r_lcmp C dL_law__2147 ?_
          refine r_if_eq C 2153 dL_law__2148 (by decide) (fun c22 => ?_) (fun c22 => ?_)
          · rw [if_pos c22] at hf
            refine r_goto C 2395 dL_law__2153 (by decide) ?_
            obtain ⟨x23, ex23, hf⟩ := lt_of hf
            refine r_iinc (j := 4) (v := x23) (lv' := [(0, .ref b), (1, .ref (gad (xG X) 0)), (2, .ref (gad (xG X) 208)), (3, .ref (gad (xG X) 221)), (4, .int x23), (5, .int x7), (6, .int x18)]) C dL_law__2395 rfl (by rw [ex23]; rfl) (by decide) [1, 2, 3, 4, 0, 5, 6] rfl ?_
            refine r_goto C 23 dL_law__2398 (by decide) ?_
            have e99 : x23 = nI (i + 6) := by rw [ex23]; exact nI_add i 6
            rw [e99] at hf ⊢
            exact r_widen (c2 := cs + 1) (s2 := sl + 6) (by omega) (by omega) (r_lv [0, 1, 2, 3, 4] rfl (ih (i + 6) _ (cs + 1) (sl + 6) (by omega) (by omega) (by omega) hf))
          · rw [if_neg c22] at hf
            refine r_iconst (v := 0) C dL_law__2151 (by decide) ?_
            exact absurd (Option.some.inj hf) (by decide)
      · rw [if_neg c19] at hf
        refine r_iconst (v := 0) C dL_law__2134 (by decide) ?_
        exact absurd (Option.some.inj hf) (by decide)
    clear hf
    have hf := r14
    refine r_if_eq C 2119 dL_law__2112 (by decide) (fun c15 => ?_) (fun c15 => ?_)
    · rw [if_pos c15] at hf
      refine r_iconst (v := 0) C dL_law__2119 (by decide) ?_
      cases hf
      exact k13
    · rw [if_neg c15] at hf
      refine r_iconst (v := 1) C dL_law__2115 (by decide) ?_
      refine r_goto C 2120 dL_law__2116 (by decide) ?_
      cases hf
      exact k13
  clear hf
  have hf := r5
  refine r_if_eq C 2092 dL_law__2085 (by decide) (fun c6 => ?_) (fun c6 => ?_)
  · rw [if_pos c6] at hf
    refine r_iconst (v := 0) C dL_law__2092 (by decide) ?_
    cases hf
    exact k4
  · rw [if_neg c6] at hf
    refine r_iconst (v := 1) C dL_law__2088 (by decide) ?_
    refine r_goto C 2093 dL_law__2089 (by decide) ?_
    cases hf
    exact k4
def KL_41 (xs : Nat → Int32) (Ls : Nat) (rec : Hp → Int32 → Option Int32) (h : Hp) (y : Int32) : Option Int32 := gd (inb (y + (1 : Int32)) Ls) (gd (inb (y + (2 : Int32)) Ls) (cl9 ((if (xs (y + (2 : Int32)).toNatClampNeg) = (0 : Int32) then some (0 : Int32) else some (1 : Int32)) : Option (Int32)) (fun v3 => cl2 (fL_led h (xs (y + (1 : Int32)).toNatClampNeg) v3) (fun x7 h8 => gd (inb (y + (1 : Int32)) Ls) (gd (inb (y + (2 : Int32)) Ls) (cl9 ((if (xs (y + (2 : Int32)).toNatClampNeg) = (0 : Int32) then some (0 : Int32) else some (1 : Int32)) : Option (Int32)) (fun v12 => cl2 (fX12_led h8 (xs (y + (1 : Int32)).toNatClampNeg) v12) (fun x18 h16 => (if (fX12_thrown h16) = x7 then (if x7 = (0 : Int32) then (if (lg_cmp ((h16 221 0).toInt64) (x18.toInt64)) = (0 : Int32) then lt9 (y + (6 : Int32)) (fun x23 => rec h16 x23) else some (0 : Int32)) else lt9 (y + (6 : Int32)) (fun x21 => rec h16 x21)) else some (0 : Int32))))))))))
set_option maxHeartbeats 8000000 in
set_option maxRecDepth 100000 in
theorem tL_41 {X : Cx} {b Ls : Nat} {xs : Nat → Int32} (C : OK X cL_law_ 7 RL ret) (hR : xR X = { frames := 2048, cells := 601024, slots := 7293034, locals := 84000 }) (hX : SCR X b Ls xs) (hE : LAWQ X) (hLs : Ls ≤ 3072) {rec : Hp → Int32 → Option Int32} {i cs sl : Nat} (hi : i + 6 ≤ Ls) (h1 : cs ≤ 400 + i) (h2 : sl ≤ 60000 + 6 * i) (ih : (∀ (i : Nat) (h : Hp) (cs sl : Nat), i ≤ Ls + 6 → cs ≤ 400 + i → sl ≤ 60000 + 6 * i → rec h (nI i) = some 1 → VW X 7 h cs sl 23 [(0, .ref b), (1, .ref (gad (xG X) 0)), (2, .ref (gad (xG X) 208)), (3, .ref (gad (xG X) 221)), (4, .int (nI i))] [])) {h : Hp} (hf : KL_41 xs Ls rec h (nI i) = some 1) : VW X 7 h cs sl 2156 [(0, .ref b), (1, .ref (gad (xG X) 0)), (2, .ref (gad (xG X) 208)), (3, .ref (gad (xG X) 221)), (4, .int (nI i))] [] := by
  unfold KL_41 at hf
  refine r_aload_n (i := 1) C dL_law__2156 rfl 1 rfl ?_
  refine r_aload_n (i := 0) C dL_law__2157 rfl 0 rfl ?_
  refine r_iload (i := 4) C dL_law__2158 4 rfl ?_
  refine r_iconst (v := 1) C dL_law__2160 (by decide) ?_
  refine r_iadd C dL_law__2161 ?_
  obtain ⟨g1, hf⟩ := gd_of hf
  refine r_sld C hX g1 dL_law__2162 ?_
  refine r_aload_n (i := 0) C dL_law__2163 rfl 0 rfl ?_
  refine r_iload (i := 4) C dL_law__2164 4 rfl ?_
  refine r_iconst (v := 2) C dL_law__2166 (by decide) ?_
  refine r_iadd C dL_law__2167 ?_
  obtain ⟨g2, hf⟩ := gd_of hf
  refine r_sld C hX g2 dL_law__2168 ?_
  obtain ⟨v3, r5, hf⟩ := cl_of hf
  have k4 : VW X 7 h cs sl 2177 [(0, .ref b), (1, .ref (gad (xG X) 0)), (2, .ref (gad (xG X) 208)), (3, .ref (gad (xG X) 221)), (4, .int (nI i))] [.int v3, .int (xs ((nI i) + (1 : Int32)).toNatClampNeg), .ref (gad (xG X) 0)] := by
    refine r_aload_n (i := 3) C dL_law__2177 rfl 3 rfl ?_
    obtain ⟨x7, h8, e9, hf⟩ := cl2_of hf
    refine r_callSW (As := [.ref (gad (xG X) 0), .int (xs ((nI i) + (1 : Int32)).toNatClampNeg), .int v3, .ref (gad (xG X) 221)]) (st := []) C (kL_led (xG X) e9) hw_262 rfl rfl (Nat.le_of_ble_eq_true rfl) (zl2 hR rfl rfl) (zlc hR (by omega) (by omega)) dL_law__2178 ?_
    refine r_istore (i := 5) (lv' := [(0, .ref b), (1, .ref (gad (xG X) 0)), (2, .ref (gad (xG X) 208)), (3, .ref (gad (xG X) 221)), (4, .int (nI i)), (5, .int x7)]) C dL_law__2181 (by decide) [1, 2, 3, 4, 5, 0] rfl ?_
    refine r_aload_n (i := 2) C dL_law__2183 rfl 2 rfl ?_
    refine r_aload_n (i := 0) C dL_law__2184 rfl 0 rfl ?_
    refine r_iload (i := 4) C dL_law__2185 4 rfl ?_
    refine r_iconst (v := 1) C dL_law__2187 (by decide) ?_
    refine r_iadd C dL_law__2188 ?_
    obtain ⟨g10, hf⟩ := gd_of hf
    refine r_sld C hX g10 dL_law__2189 ?_
    refine r_aload_n (i := 0) C dL_law__2190 rfl 0 rfl ?_
    refine r_iload (i := 4) C dL_law__2191 4 rfl ?_
    refine r_iconst (v := 2) C dL_law__2193 (by decide) ?_
    refine r_iadd C dL_law__2194 ?_
    obtain ⟨g11, hf⟩ := gd_of hf
    refine r_sld C hX g11 dL_law__2195 ?_
    obtain ⟨v12, r14, hf⟩ := cl_of hf
    have k13 : VW X 7 h8 (cs + 1) (sl + 6) 2204 [(0, .ref b), (1, .ref (gad (xG X) 0)), (2, .ref (gad (xG X) 208)), (3, .ref (gad (xG X) 221)), (4, .int (nI i)), (5, .int x7)] [.int v12, .int (xs ((nI i) + (1 : Int32)).toNatClampNeg), .ref (gad (xG X) 208)] := by
      obtain ⟨x18, h16, e17, hf⟩ := cl2_of hf
      refine r_callVi (As := [.int (xs ((nI i) + (1 : Int32)).toNatClampNeg), .int v12]) (st := []) C 208 rfl (by decide) rfl (kX12_led (xG X) e17) cw_L_264 rfl rfl (Nat.le_of_ble_eq_true rfl) (zl2 hR rfl rfl) (zlc hR (by omega) (by omega)) dL_law__2204 ?_
      refine r_istore (i := 6) (lv' := [(0, .ref b), (1, .ref (gad (xG X) 0)), (2, .ref (gad (xG X) 208)), (3, .ref (gad (xG X) 221)), (4, .int (nI i)), (5, .int x7), (6, .int x18)]) C dL_law__2207 (by decide) [1, 2, 3, 4, 5, 6, 0] rfl ?_
      refine r_aload_n (i := 2) C dL_law__2209 rfl 2 rfl ?_
      refine r_callVi (As := []) (st := []) C 208 rfl (by decide) rfl (kX12_thrown (xG X)) cw_L_126 rfl rfl (Nat.le_of_ble_eq_true rfl) (zl2 hR rfl rfl) (zlc hR (by omega) (by omega)) dL_law__2210 ?_
      refine r_iload (i := 5) C dL_law__2213 5 rfl ?_
      refine r_icmp_eq C 2220 dL_law__2215 (by decide) (fun c19 => ?_) (fun c19 => ?_)
      · rw [if_pos c19] at hf
        refine r_iload (i := 5) C dL_law__2220 5 rfl ?_
        refine r_if_ne C 2237 dL_law__2222 (by decide) (fun c20 => ?_) (fun c20 => ?_)
        · rw [if_neg c20] at hf
          refine r_goto C 2395 dL_law__2237 (by decide) ?_
          obtain ⟨x21, ex21, hf⟩ := lt_of hf
          refine r_iinc (j := 4) (v := x21) (lv' := [(0, .ref b), (1, .ref (gad (xG X) 0)), (2, .ref (gad (xG X) 208)), (3, .ref (gad (xG X) 221)), (4, .int x21), (5, .int x7), (6, .int x18)]) C dL_law__2395 rfl (by rw [ex21]; rfl) (by decide) [1, 2, 3, 4, 0, 5, 6] rfl ?_
          refine r_goto C 23 dL_law__2398 (by decide) ?_
          have e99 : x21 = nI (i + 6) := by rw [ex21]; exact nI_add i 6
          rw [e99] at hf ⊢
          exact r_widen (c2 := cs + 1) (s2 := sl + 6) (by omega) (by omega) (r_lv [0, 1, 2, 3, 4] rfl (ih (i + 6) _ (cs + 1) (sl + 6) (by omega) (by omega) (by omega) hf))
        · rw [if_pos c20] at hf
          refine r_aload_n (i := 3) C dL_law__2225 rfl 3 rfl ?_
          refine r_iconst (v := 0) C dL_law__2226 (by decide) ?_
          refine r_lald C dL_law__2227 ?_
          refine r_iload (i := 6) C dL_law__2228 6 rfl ?_
          refine r_i2l C dL_law__2230 ?_
          refine r_lcmp C dL_law__2231 ?_
          refine r_if_eq C 2237 dL_law__2232 (by decide) (fun c22 => ?_) (fun c22 => ?_)
          · rw [if_pos c22] at hf
            refine r_goto C 2395 dL_law__2237 (by decide) ?_
            obtain ⟨x23, ex23, hf⟩ := lt_of hf
            refine r_iinc (j := 4) (v := x23) (lv' := [(0, .ref b), (1, .ref (gad (xG X) 0)), (2, .ref (gad (xG X) 208)), (3, .ref (gad (xG X) 221)), (4, .int x23), (5, .int x7), (6, .int x18)]) C dL_law__2395 rfl (by rw [ex23]; rfl) (by decide) [1, 2, 3, 4, 0, 5, 6] rfl ?_
            refine r_goto C 23 dL_law__2398 (by decide) ?_
            have e99 : x23 = nI (i + 6) := by rw [ex23]; exact nI_add i 6
            rw [e99] at hf ⊢
            exact r_widen (c2 := cs + 1) (s2 := sl + 6) (by omega) (by omega) (r_lv [0, 1, 2, 3, 4] rfl (ih (i + 6) _ (cs + 1) (sl + 6) (by omega) (by omega) (by omega) hf))
          · rw [if_neg c22] at hf
            refine r_iconst (v := 0) C dL_law__2235 (by decide) ?_
            exact absurd (Option.some.inj hf) (by decide)
      · rw [if_neg c19] at hf
        refine r_iconst (v := 0) C dL_law__2218 (by decide) ?_
        exact absurd (Option.some.inj hf) (by decide)
    clear hf
    have hf := r14
    refine r_if_eq C 2203 dL_law__2196 (by decide) (fun c15 => ?_) (fun c15 => ?_)
    · rw [if_pos c15] at hf
      refine r_iconst (v := 0) C dL_law__2203 (by decide) ?_
      cases hf
      exact k13
    · rw [if_neg c15] at hf
      refine r_iconst (v := 1) C dL_law__2199 (by decide) ?_
      refine r_goto C 2204 dL_law__2200 (by decide) ?_
      cases hf
      exact k13
  clear hf
  have hf := r5
  refine r_if_eq C 2176 dL_law__2169 (by decide) (fun c6 => ?_) (fun c6 => ?_)
  · rw [if_pos c6] at hf
    refine r_iconst (v := 0) C dL_law__2176 (by decide) ?_
    cases hf
    exact k4
  · rw [if_neg c6] at hf
    refine r_iconst (v := 1) C dL_law__2172 (by decide) ?_
    refine r_goto C 2177 dL_law__2173 (by decide) ?_
    cases hf
    exact k4
def KL_42 (xs : Nat → Int32) (Ls : Nat) (rec : Hp → Int32 → Option Int32) (h : Hp) (y : Int32) : Option Int32 := gd (inb (y + (1 : Int32)) Ls) (gd (inb (y + (2 : Int32)) Ls) (cl2 (fL_log h (xs (y + (1 : Int32)).toNatClampNeg) (xs (y + (2 : Int32)).toNatClampNeg)) (fun x3 h4 => gd (inb (y + (1 : Int32)) Ls) (gd (inb (y + (2 : Int32)) Ls) (cl2 (fX12_log h4 (xs (y + (1 : Int32)).toNatClampNeg) (xs (y + (2 : Int32)).toNatClampNeg)) (fun x10 h8 => (if (fX12_thrown h8) = x3 then (if x3 = (0 : Int32) then (if (lg_cmp ((h8 221 0).toInt64) (x10.toInt64)) = (0 : Int32) then lt9 (y + (6 : Int32)) (fun x15 => rec h8 x15) else some (0 : Int32)) else lt9 (y + (6 : Int32)) (fun x13 => rec h8 x13)) else some (0 : Int32))))))))
set_option maxHeartbeats 8000000 in
set_option maxRecDepth 100000 in
theorem tL_42 {X : Cx} {b Ls : Nat} {xs : Nat → Int32} (C : OK X cL_law_ 7 RL ret) (hR : xR X = { frames := 2048, cells := 601024, slots := 7293034, locals := 84000 }) (hX : SCR X b Ls xs) (hE : LAWQ X) (hLs : Ls ≤ 3072) {rec : Hp → Int32 → Option Int32} {i cs sl : Nat} (hi : i + 6 ≤ Ls) (h1 : cs ≤ 400 + i) (h2 : sl ≤ 60000 + 6 * i) (ih : (∀ (i : Nat) (h : Hp) (cs sl : Nat), i ≤ Ls + 6 → cs ≤ 400 + i → sl ≤ 60000 + 6 * i → rec h (nI i) = some 1 → VW X 7 h cs sl 23 [(0, .ref b), (1, .ref (gad (xG X) 0)), (2, .ref (gad (xG X) 208)), (3, .ref (gad (xG X) 221)), (4, .int (nI i))] [])) {h : Hp} (hf : KL_42 xs Ls rec h (nI i) = some 1) : VW X 7 h cs sl 2240 [(0, .ref b), (1, .ref (gad (xG X) 0)), (2, .ref (gad (xG X) 208)), (3, .ref (gad (xG X) 221)), (4, .int (nI i))] [] := by
  unfold KL_42 at hf
  refine r_aload_n (i := 1) C dL_law__2240 rfl 1 rfl ?_
  refine r_aload_n (i := 0) C dL_law__2241 rfl 0 rfl ?_
  refine r_iload (i := 4) C dL_law__2242 4 rfl ?_
  refine r_iconst (v := 1) C dL_law__2244 (by decide) ?_
  refine r_iadd C dL_law__2245 ?_
  obtain ⟨g1, hf⟩ := gd_of hf
  refine r_sld C hX g1 dL_law__2246 ?_
  refine r_aload_n (i := 0) C dL_law__2247 rfl 0 rfl ?_
  refine r_iload (i := 4) C dL_law__2248 4 rfl ?_
  refine r_iconst (v := 2) C dL_law__2250 (by decide) ?_
  refine r_iadd C dL_law__2251 ?_
  obtain ⟨g2, hf⟩ := gd_of hf
  refine r_sld C hX g2 dL_law__2252 ?_
  refine r_aload_n (i := 3) C dL_law__2253 rfl 3 rfl ?_
  obtain ⟨x3, h4, e5, hf⟩ := cl2_of hf
  refine r_callSW (As := [.ref (gad (xG X) 0), .int (xs ((nI i) + (1 : Int32)).toNatClampNeg), .int (xs ((nI i) + (2 : Int32)).toNatClampNeg), .ref (gad (xG X) 221)]) (st := []) C (kL_log (xG X) e5) hw_265 rfl rfl (Nat.le_of_ble_eq_true rfl) (zl2 hR rfl rfl) (zlc hR (by omega) (by omega)) dL_law__2254 ?_
  refine r_istore (i := 5) (lv' := [(0, .ref b), (1, .ref (gad (xG X) 0)), (2, .ref (gad (xG X) 208)), (3, .ref (gad (xG X) 221)), (4, .int (nI i)), (5, .int x3)]) C dL_law__2257 (by decide) [1, 2, 3, 4, 5, 0] rfl ?_
  refine r_aload_n (i := 2) C dL_law__2259 rfl 2 rfl ?_
  refine r_aload_n (i := 0) C dL_law__2260 rfl 0 rfl ?_
  refine r_iload (i := 4) C dL_law__2261 4 rfl ?_
  refine r_iconst (v := 1) C dL_law__2263 (by decide) ?_
  refine r_iadd C dL_law__2264 ?_
  obtain ⟨g6, hf⟩ := gd_of hf
  refine r_sld C hX g6 dL_law__2265 ?_
  refine r_aload_n (i := 0) C dL_law__2266 rfl 0 rfl ?_
  refine r_iload (i := 4) C dL_law__2267 4 rfl ?_
  refine r_iconst (v := 2) C dL_law__2269 (by decide) ?_
  refine r_iadd C dL_law__2270 ?_
  obtain ⟨g7, hf⟩ := gd_of hf
  refine r_sld C hX g7 dL_law__2271 ?_
  obtain ⟨x10, h8, e9, hf⟩ := cl2_of hf
  refine r_callVi (As := [.int (xs ((nI i) + (1 : Int32)).toNatClampNeg), .int (xs ((nI i) + (2 : Int32)).toNatClampNeg)]) (st := []) C 208 rfl (by decide) rfl (kX12_log (xG X) e9) cw_L_267 rfl rfl (Nat.le_of_ble_eq_true rfl) (zl2 hR rfl rfl) (zlc hR (by omega) (by omega)) dL_law__2272 ?_
  refine r_istore (i := 6) (lv' := [(0, .ref b), (1, .ref (gad (xG X) 0)), (2, .ref (gad (xG X) 208)), (3, .ref (gad (xG X) 221)), (4, .int (nI i)), (5, .int x3), (6, .int x10)]) C dL_law__2275 (by decide) [1, 2, 3, 4, 5, 6, 0] rfl ?_
  refine r_aload_n (i := 2) C dL_law__2277 rfl 2 rfl ?_
  refine r_callVi (As := []) (st := []) C 208 rfl (by decide) rfl (kX12_thrown (xG X)) cw_L_126 rfl rfl (Nat.le_of_ble_eq_true rfl) (zl2 hR rfl rfl) (zlc hR (by omega) (by omega)) dL_law__2278 ?_
  refine r_iload (i := 5) C dL_law__2281 5 rfl ?_
  refine r_icmp_eq C 2288 dL_law__2283 (by decide) (fun c11 => ?_) (fun c11 => ?_)
  · rw [if_pos c11] at hf
    refine r_iload (i := 5) C dL_law__2288 5 rfl ?_
    refine r_if_ne C 2305 dL_law__2290 (by decide) (fun c12 => ?_) (fun c12 => ?_)
    · rw [if_neg c12] at hf
      refine r_goto C 2395 dL_law__2305 (by decide) ?_
      obtain ⟨x13, ex13, hf⟩ := lt_of hf
      refine r_iinc (j := 4) (v := x13) (lv' := [(0, .ref b), (1, .ref (gad (xG X) 0)), (2, .ref (gad (xG X) 208)), (3, .ref (gad (xG X) 221)), (4, .int x13), (5, .int x3), (6, .int x10)]) C dL_law__2395 rfl (by rw [ex13]; rfl) (by decide) [1, 2, 3, 4, 0, 5, 6] rfl ?_
      refine r_goto C 23 dL_law__2398 (by decide) ?_
      have e99 : x13 = nI (i + 6) := by rw [ex13]; exact nI_add i 6
      rw [e99] at hf ⊢
      exact r_widen (c2 := cs + 1) (s2 := sl + 6) (by omega) (by omega) (r_lv [0, 1, 2, 3, 4] rfl (ih (i + 6) _ (cs + 1) (sl + 6) (by omega) (by omega) (by omega) hf))
    · rw [if_pos c12] at hf
      refine r_aload_n (i := 3) C dL_law__2293 rfl 3 rfl ?_
      refine r_iconst (v := 0) C dL_law__2294 (by decide) ?_
      refine r_lald C dL_law__2295 ?_
      refine r_iload (i := 6) C dL_law__2296 6 rfl ?_
      refine r_i2l C dL_law__2298 ?_
      refine r_lcmp C dL_law__2299 ?_
      refine r_if_eq C 2305 dL_law__2300 (by decide) (fun c14 => ?_) (fun c14 => ?_)
      · rw [if_pos c14] at hf
        refine r_goto C 2395 dL_law__2305 (by decide) ?_
        obtain ⟨x15, ex15, hf⟩ := lt_of hf
        refine r_iinc (j := 4) (v := x15) (lv' := [(0, .ref b), (1, .ref (gad (xG X) 0)), (2, .ref (gad (xG X) 208)), (3, .ref (gad (xG X) 221)), (4, .int x15), (5, .int x3), (6, .int x10)]) C dL_law__2395 rfl (by rw [ex15]; rfl) (by decide) [1, 2, 3, 4, 0, 5, 6] rfl ?_
        refine r_goto C 23 dL_law__2398 (by decide) ?_
        have e99 : x15 = nI (i + 6) := by rw [ex15]; exact nI_add i 6
        rw [e99] at hf ⊢
        exact r_widen (c2 := cs + 1) (s2 := sl + 6) (by omega) (by omega) (r_lv [0, 1, 2, 3, 4] rfl (ih (i + 6) _ (cs + 1) (sl + 6) (by omega) (by omega) (by omega) hf))
      · rw [if_neg c14] at hf
        refine r_iconst (v := 0) C dL_law__2303 (by decide) ?_
        exact absurd (Option.some.inj hf) (by decide)
  · rw [if_neg c11] at hf
    refine r_iconst (v := 0) C dL_law__2286 (by decide) ?_
    exact absurd (Option.some.inj hf) (by decide)
def KL_43 (xs : Nat → Int32) (Ls : Nat) (rec : Hp → Int32 → Option Int32) (h : Hp) (y : Int32) : Option Int32 := gd (inb (y + (1 : Int32)) Ls) (cl2 (fX11_seed h (xs (y + (1 : Int32)).toNatClampNeg)) (fun x4 h2 => gd (inb (y + (1 : Int32)) Ls) (cl2 (fX12_seed h2 (xs (y + (1 : Int32)).toNatClampNeg)) (fun x8 h6 => (if x4 = x8 then lt9 (y + (6 : Int32)) (fun x10 => rec h6 x10) else some (0 : Int32))))))
set_option maxHeartbeats 8000000 in
set_option maxRecDepth 100000 in
theorem tL_43 {X : Cx} {b Ls : Nat} {xs : Nat → Int32} (C : OK X cL_law_ 7 RL ret) (hR : xR X = { frames := 2048, cells := 601024, slots := 7293034, locals := 84000 }) (hX : SCR X b Ls xs) (hE : LAWQ X) (hLs : Ls ≤ 3072) {rec : Hp → Int32 → Option Int32} {i cs sl : Nat} (hi : i + 6 ≤ Ls) (h1 : cs ≤ 400 + i) (h2 : sl ≤ 60000 + 6 * i) (ih : (∀ (i : Nat) (h : Hp) (cs sl : Nat), i ≤ Ls + 6 → cs ≤ 400 + i → sl ≤ 60000 + 6 * i → rec h (nI i) = some 1 → VW X 7 h cs sl 23 [(0, .ref b), (1, .ref (gad (xG X) 0)), (2, .ref (gad (xG X) 208)), (3, .ref (gad (xG X) 221)), (4, .int (nI i))] [])) {h : Hp} (hf : KL_43 xs Ls rec h (nI i) = some 1) : VW X 7 h cs sl 2308 [(0, .ref b), (1, .ref (gad (xG X) 0)), (2, .ref (gad (xG X) 208)), (3, .ref (gad (xG X) 221)), (4, .int (nI i))] [] := by
  unfold KL_43 at hf
  refine r_aload_n (i := 1) C dL_law__2308 rfl 1 rfl ?_
  refine r_aload_n (i := 0) C dL_law__2309 rfl 0 rfl ?_
  refine r_iload (i := 4) C dL_law__2310 4 rfl ?_
  refine r_iconst (v := 1) C dL_law__2312 (by decide) ?_
  refine r_iadd C dL_law__2313 ?_
  obtain ⟨g1, hf⟩ := gd_of hf
  refine r_sld C hX g1 dL_law__2314 ?_
  obtain ⟨x4, h2, e3, hf⟩ := cl2_of hf
  refine r_callVi (As := [.int (xs ((nI i) + (1 : Int32)).toNatClampNeg)]) (st := []) C 0 rfl (by decide) rfl (kX11_seed (xG X) e3) cw_L_268 rfl rfl (Nat.le_of_ble_eq_true rfl) (zl2 hR rfl rfl) (zlc hR (by omega) (by omega)) dL_law__2315 ?_
  refine r_aload_n (i := 2) C dL_law__2318 rfl 2 rfl ?_
  refine r_aload_n (i := 0) C dL_law__2319 rfl 0 rfl ?_
  refine r_iload (i := 4) C dL_law__2320 4 rfl ?_
  refine r_iconst (v := 1) C dL_law__2322 (by decide) ?_
  refine r_iadd C dL_law__2323 ?_
  obtain ⟨g5, hf⟩ := gd_of hf
  refine r_sld C hX g5 dL_law__2324 ?_
  obtain ⟨x8, h6, e7, hf⟩ := cl2_of hf
  refine r_callVi (As := [.int (xs ((nI i) + (1 : Int32)).toNatClampNeg)]) (st := [.int x4]) C 208 rfl (by decide) rfl (kX12_seed (xG X) e7) cw_L_271 rfl rfl (Nat.le_of_ble_eq_true rfl) (zl2 hR rfl rfl) (zlc hR (by omega) (by omega)) dL_law__2325 ?_
  refine r_icmp_eq C 2395 dL_law__2328 (by decide) (fun c9 => ?_) (fun c9 => ?_)
  · rw [if_pos c9] at hf
    obtain ⟨x10, ex10, hf⟩ := lt_of hf
    refine r_iinc (j := 4) (v := x10) (lv' := [(0, .ref b), (1, .ref (gad (xG X) 0)), (2, .ref (gad (xG X) 208)), (3, .ref (gad (xG X) 221)), (4, .int x10)]) C dL_law__2395 rfl (by rw [ex10]; rfl) (by decide) [1, 2, 3, 4, 0] rfl ?_
    refine r_goto C 23 dL_law__2398 (by decide) ?_
    have e99 : x10 = nI (i + 6) := by rw [ex10]; exact nI_add i 6
    rw [e99] at hf ⊢
    exact r_widen (c2 := cs + 1) (s2 := sl + 6) (by omega) (by omega) (r_lv [0, 1, 2, 3, 4] rfl (ih (i + 6) _ (cs + 1) (sl + 6) (by omega) (by omega) (by omega) hf))
  · rw [if_neg c9] at hf
    refine r_iconst (v := 0) C dL_law__2331 (by decide) ?_
    exact absurd (Option.some.inj hf) (by decide)
def KL_44 (xs : Nat → Int32) (Ls : Nat) (rec : Hp → Int32 → Option Int32) (h : Hp) (y : Int32) : Option Int32 := cl2 (fX11_undo h) (fun x3 h1 => cl2 (fX12_undo h1) (fun x6 h4 => (if x3 = x6 then lt9 (y + (6 : Int32)) (fun x8 => rec h4 x8) else some (0 : Int32))))
set_option maxHeartbeats 8000000 in
set_option maxRecDepth 100000 in
theorem tL_44 {X : Cx} {b Ls : Nat} {xs : Nat → Int32} (C : OK X cL_law_ 7 RL ret) (hR : xR X = { frames := 2048, cells := 601024, slots := 7293034, locals := 84000 }) (hX : SCR X b Ls xs) (hE : LAWQ X) (hLs : Ls ≤ 3072) {rec : Hp → Int32 → Option Int32} {i cs sl : Nat} (hi : i + 6 ≤ Ls) (h1 : cs ≤ 400 + i) (h2 : sl ≤ 60000 + 6 * i) (ih : (∀ (i : Nat) (h : Hp) (cs sl : Nat), i ≤ Ls + 6 → cs ≤ 400 + i → sl ≤ 60000 + 6 * i → rec h (nI i) = some 1 → VW X 7 h cs sl 23 [(0, .ref b), (1, .ref (gad (xG X) 0)), (2, .ref (gad (xG X) 208)), (3, .ref (gad (xG X) 221)), (4, .int (nI i))] [])) {h : Hp} (hf : KL_44 xs Ls rec h (nI i) = some 1) : VW X 7 h cs sl 2333 [(0, .ref b), (1, .ref (gad (xG X) 0)), (2, .ref (gad (xG X) 208)), (3, .ref (gad (xG X) 221)), (4, .int (nI i))] [] := by
  unfold KL_44 at hf
  refine r_aload_n (i := 1) C dL_law__2333 rfl 1 rfl ?_
  obtain ⟨x3, h1, e2, hf⟩ := cl2_of hf
  refine r_callVi (As := []) (st := []) C 0 rfl (by decide) rfl (kX11_undo (xG X) e2) cw_L_272 rfl rfl (Nat.le_of_ble_eq_true rfl) (zl2 hR rfl rfl) (zlc hR (by omega) (by omega)) dL_law__2334 ?_
  refine r_aload_n (i := 2) C dL_law__2337 rfl 2 rfl ?_
  obtain ⟨x6, h4, e5, hf⟩ := cl2_of hf
  refine r_callVi (As := []) (st := [.int x3]) C 208 rfl (by decide) rfl (kX12_undo (xG X) e5) cw_L_276 rfl rfl (Nat.le_of_ble_eq_true rfl) (zl2 hR rfl rfl) (zlc hR (by omega) (by omega)) dL_law__2338 ?_
  refine r_icmp_eq C 2395 dL_law__2341 (by decide) (fun c7 => ?_) (fun c7 => ?_)
  · rw [if_pos c7] at hf
    obtain ⟨x8, ex8, hf⟩ := lt_of hf
    refine r_iinc (j := 4) (v := x8) (lv' := [(0, .ref b), (1, .ref (gad (xG X) 0)), (2, .ref (gad (xG X) 208)), (3, .ref (gad (xG X) 221)), (4, .int x8)]) C dL_law__2395 rfl (by rw [ex8]; rfl) (by decide) [1, 2, 3, 4, 0] rfl ?_
    refine r_goto C 23 dL_law__2398 (by decide) ?_
    have e99 : x8 = nI (i + 6) := by rw [ex8]; exact nI_add i 6
    rw [e99] at hf ⊢
    exact r_widen (c2 := cs + 1) (s2 := sl + 6) (by omega) (by omega) (r_lv [0, 1, 2, 3, 4] rfl (ih (i + 6) _ (cs + 1) (sl + 6) (by omega) (by omega) (by omega) hf))
  · rw [if_neg c7] at hf
    refine r_iconst (v := 0) C dL_law__2344 (by decide) ?_
    exact absurd (Option.some.inj hf) (by decide)
def KL_45 (xs : Nat → Int32) (Ls : Nat) (rec : Hp → Int32 → Option Int32) (h : Hp) (y : Int32) : Option Int32 := cl9 (fX11_image h) (fun h1 => cl9 (fX12_image h1) (fun h3 => lt9 (y + (6 : Int32)) (fun x5 => rec h3 x5)))
set_option maxHeartbeats 8000000 in
set_option maxRecDepth 100000 in
theorem tL_45 {X : Cx} {b Ls : Nat} {xs : Nat → Int32} (C : OK X cL_law_ 7 RL ret) (hR : xR X = { frames := 2048, cells := 601024, slots := 7293034, locals := 84000 }) (hX : SCR X b Ls xs) (hE : LAWQ X) (hLs : Ls ≤ 3072) {rec : Hp → Int32 → Option Int32} {i cs sl : Nat} (hi : i + 6 ≤ Ls) (h1 : cs ≤ 400 + i) (h2 : sl ≤ 60000 + 6 * i) (ih : (∀ (i : Nat) (h : Hp) (cs sl : Nat), i ≤ Ls + 6 → cs ≤ 400 + i → sl ≤ 60000 + 6 * i → rec h (nI i) = some 1 → VW X 7 h cs sl 23 [(0, .ref b), (1, .ref (gad (xG X) 0)), (2, .ref (gad (xG X) 208)), (3, .ref (gad (xG X) 221)), (4, .int (nI i))] [])) {h : Hp} (hf : KL_45 xs Ls rec h (nI i) = some 1) : VW X 7 h cs sl 2346 [(0, .ref b), (1, .ref (gad (xG X) 0)), (2, .ref (gad (xG X) 208)), (3, .ref (gad (xG X) 221)), (4, .int (nI i))] [] := by
  unfold KL_45 at hf
  refine r_aload_n (i := 1) C dL_law__2346 rfl 1 rfl ?_
  obtain ⟨h1, e2, hf⟩ := cl_of hf
  refine r_callVv (As := []) (st := []) C 0 rfl (by decide) rfl (kX11_image (xG X) e2) cw_L_277 rfl rfl (Nat.le_of_ble_eq_true rfl) (zl2 hR rfl rfl) (zlc hR (by omega) (by omega)) dL_law__2347 ?_
  refine r_aload_n (i := 2) C dL_law__2350 rfl 2 rfl ?_
  obtain ⟨h3, e4, hf⟩ := cl_of hf
  refine r_callVv (As := []) (st := []) C 208 rfl (by decide) rfl (kX12_image (xG X) e4) cw_L_280 rfl rfl (Nat.le_of_ble_eq_true rfl) (zl2 hR rfl rfl) (zlc hR (by omega) (by omega)) dL_law__2351 ?_
  refine r_goto C 2395 dL_law__2354 (by decide) ?_
  obtain ⟨x5, ex5, hf⟩ := lt_of hf
  refine r_iinc (j := 4) (v := x5) (lv' := [(0, .ref b), (1, .ref (gad (xG X) 0)), (2, .ref (gad (xG X) 208)), (3, .ref (gad (xG X) 221)), (4, .int x5)]) C dL_law__2395 rfl (by rw [ex5]; rfl) (by decide) [1, 2, 3, 4, 0] rfl ?_
  refine r_goto C 23 dL_law__2398 (by decide) ?_
  have e99 : x5 = nI (i + 6) := by rw [ex5]; exact nI_add i 6
  rw [e99] at hf ⊢
  exact r_widen (c2 := cs + 1) (s2 := sl + 6) (by omega) (by omega) (r_lv [0, 1, 2, 3, 4] rfl (ih (i + 6) _ (cs + 1) (sl + 6) (by omega) (by omega) (by omega) hf))
def KL_46 (xs : Nat → Int32) (Ls : Nat) (rec : Hp → Int32 → Option Int32) (h : Hp) (y : Int32) : Option Int32 := cl2 (fX11_back h) (fun x3 h1 => cl2 (fX12_back h1) (fun x6 h4 => (if x3 = x6 then lt9 (y + (6 : Int32)) (fun x8 => rec h4 x8) else some (0 : Int32))))
set_option maxHeartbeats 8000000 in
set_option maxRecDepth 100000 in
theorem tL_46 {X : Cx} {b Ls : Nat} {xs : Nat → Int32} (C : OK X cL_law_ 7 RL ret) (hR : xR X = { frames := 2048, cells := 601024, slots := 7293034, locals := 84000 }) (hX : SCR X b Ls xs) (hE : LAWQ X) (hLs : Ls ≤ 3072) {rec : Hp → Int32 → Option Int32} {i cs sl : Nat} (hi : i + 6 ≤ Ls) (h1 : cs ≤ 400 + i) (h2 : sl ≤ 60000 + 6 * i) (ih : (∀ (i : Nat) (h : Hp) (cs sl : Nat), i ≤ Ls + 6 → cs ≤ 400 + i → sl ≤ 60000 + 6 * i → rec h (nI i) = some 1 → VW X 7 h cs sl 23 [(0, .ref b), (1, .ref (gad (xG X) 0)), (2, .ref (gad (xG X) 208)), (3, .ref (gad (xG X) 221)), (4, .int (nI i))] [])) {h : Hp} (hf : KL_46 xs Ls rec h (nI i) = some 1) : VW X 7 h cs sl 2357 [(0, .ref b), (1, .ref (gad (xG X) 0)), (2, .ref (gad (xG X) 208)), (3, .ref (gad (xG X) 221)), (4, .int (nI i))] [] := by
  unfold KL_46 at hf
  refine r_aload_n (i := 1) C dL_law__2357 rfl 1 rfl ?_
  obtain ⟨x3, h1, e2, hf⟩ := cl2_of hf
  refine r_callVi (As := []) (st := []) C 0 rfl (by decide) rfl (kX11_back (xG X) e2) cw_L_281 rfl rfl (Nat.le_of_ble_eq_true rfl) (zl2 hR rfl rfl) (zlc hR (by omega) (by omega)) dL_law__2358 ?_
  refine r_aload_n (i := 2) C dL_law__2361 rfl 2 rfl ?_
  obtain ⟨x6, h4, e5, hf⟩ := cl2_of hf
  refine r_callVi (As := []) (st := [.int x3]) C 208 rfl (by decide) rfl (kX12_back (xG X) e5) cw_L_284 rfl rfl (Nat.le_of_ble_eq_true rfl) (zl2 hR rfl rfl) (zlc hR (by omega) (by omega)) dL_law__2362 ?_
  refine r_icmp_eq C 2395 dL_law__2365 (by decide) (fun c7 => ?_) (fun c7 => ?_)
  · rw [if_pos c7] at hf
    obtain ⟨x8, ex8, hf⟩ := lt_of hf
    refine r_iinc (j := 4) (v := x8) (lv' := [(0, .ref b), (1, .ref (gad (xG X) 0)), (2, .ref (gad (xG X) 208)), (3, .ref (gad (xG X) 221)), (4, .int x8)]) C dL_law__2395 rfl (by rw [ex8]; rfl) (by decide) [1, 2, 3, 4, 0] rfl ?_
    refine r_goto C 23 dL_law__2398 (by decide) ?_
    have e99 : x8 = nI (i + 6) := by rw [ex8]; exact nI_add i 6
    rw [e99] at hf ⊢
    exact r_widen (c2 := cs + 1) (s2 := sl + 6) (by omega) (by omega) (r_lv [0, 1, 2, 3, 4] rfl (ih (i + 6) _ (cs + 1) (sl + 6) (by omega) (by omega) (by omega) hf))
  · rw [if_neg c7] at hf
    refine r_iconst (v := 0) C dL_law__2368 (by decide) ?_
    exact absurd (Option.some.inj hf) (by decide)
def KL_47 (xs : Nat → Int32) (Ls : Nat) (rec : Hp → Int32 → Option Int32) (h : Hp) (y : Int32) : Option Int32 := gd (inb (y + (1 : Int32)) Ls) (cl9 (fX11_count h (xs (y + (1 : Int32)).toNatClampNeg)) (fun x2 => gd (inb (y + (1 : Int32)) Ls) (cl2 (fX12_count h (xs (y + (1 : Int32)).toNatClampNeg)) (fun x7 h5 => (if x2 = x7 then lt9 (y + (6 : Int32)) (fun x9 => rec h5 x9) else some (0 : Int32))))))
set_option maxHeartbeats 8000000 in
set_option maxRecDepth 100000 in
theorem tL_47 {X : Cx} {b Ls : Nat} {xs : Nat → Int32} (C : OK X cL_law_ 7 RL ret) (hR : xR X = { frames := 2048, cells := 601024, slots := 7293034, locals := 84000 }) (hX : SCR X b Ls xs) (hE : LAWQ X) (hLs : Ls ≤ 3072) {rec : Hp → Int32 → Option Int32} {i cs sl : Nat} (hi : i + 6 ≤ Ls) (h1 : cs ≤ 400 + i) (h2 : sl ≤ 60000 + 6 * i) (ih : (∀ (i : Nat) (h : Hp) (cs sl : Nat), i ≤ Ls + 6 → cs ≤ 400 + i → sl ≤ 60000 + 6 * i → rec h (nI i) = some 1 → VW X 7 h cs sl 23 [(0, .ref b), (1, .ref (gad (xG X) 0)), (2, .ref (gad (xG X) 208)), (3, .ref (gad (xG X) 221)), (4, .int (nI i))] [])) {h : Hp} (hf : KL_47 xs Ls rec h (nI i) = some 1) : VW X 7 h cs sl 2370 [(0, .ref b), (1, .ref (gad (xG X) 0)), (2, .ref (gad (xG X) 208)), (3, .ref (gad (xG X) 221)), (4, .int (nI i))] [] := by
  unfold KL_47 at hf
  refine r_aload_n (i := 1) C dL_law__2370 rfl 1 rfl ?_
  refine r_aload_n (i := 0) C dL_law__2371 rfl 0 rfl ?_
  refine r_iload (i := 4) C dL_law__2372 4 rfl ?_
  refine r_iconst (v := 1) C dL_law__2374 (by decide) ?_
  refine r_iadd C dL_law__2375 ?_
  obtain ⟨g1, hf⟩ := gd_of hf
  refine r_sld C hX g1 dL_law__2376 ?_
  obtain ⟨x2, e3, hf⟩ := cl_of hf
  refine r_callVi (As := [.int (xs ((nI i) + (1 : Int32)).toNatClampNeg)]) (st := []) C 0 rfl (by decide) rfl (kX11_count (xG X) e3) cw_L_285 rfl rfl (Nat.le_of_ble_eq_true rfl) (zl2 hR rfl rfl) (zlc hR (by omega) (by omega)) dL_law__2377 ?_
  refine r_aload_n (i := 2) C dL_law__2380 rfl 2 rfl ?_
  refine r_aload_n (i := 0) C dL_law__2381 rfl 0 rfl ?_
  refine r_iload (i := 4) C dL_law__2382 4 rfl ?_
  refine r_iconst (v := 1) C dL_law__2384 (by decide) ?_
  refine r_iadd C dL_law__2385 ?_
  obtain ⟨g4, hf⟩ := gd_of hf
  refine r_sld C hX g4 dL_law__2386 ?_
  obtain ⟨x7, h5, e6, hf⟩ := cl2_of hf
  refine r_callVi (As := [.int (xs ((nI i) + (1 : Int32)).toNatClampNeg)]) (st := [.int x2]) C 208 rfl (by decide) rfl (kX12_count (xG X) e6) cw_L_288 rfl rfl (Nat.le_of_ble_eq_true rfl) (zl2 hR rfl rfl) (zlc hR (by omega) (by omega)) dL_law__2387 ?_
  refine r_icmp_eq C 2395 dL_law__2390 (by decide) (fun c8 => ?_) (fun c8 => ?_)
  · rw [if_pos c8] at hf
    obtain ⟨x9, ex9, hf⟩ := lt_of hf
    refine r_iinc (j := 4) (v := x9) (lv' := [(0, .ref b), (1, .ref (gad (xG X) 0)), (2, .ref (gad (xG X) 208)), (3, .ref (gad (xG X) 221)), (4, .int x9)]) C dL_law__2395 rfl (by rw [ex9]; rfl) (by decide) [1, 2, 3, 4, 0] rfl ?_
    refine r_goto C 23 dL_law__2398 (by decide) ?_
    have e99 : x9 = nI (i + 6) := by rw [ex9]; exact nI_add i 6
    rw [e99] at hf ⊢
    exact r_widen (c2 := cs + 1) (s2 := sl + 6) (by omega) (by omega) (r_lv [0, 1, 2, 3, 4] rfl (ih (i + 6) _ (cs + 1) (sl + 6) (by omega) (by omega) (by omega) hf))
  · rw [if_neg c8] at hf
    refine r_iconst (v := 0) C dL_law__2393 (by decide) ?_
    exact absurd (Option.some.inj hf) (by decide)

def KL_16 (xs : Nat → Int32) (Ls : Nat) (rec : Hp → Int32 → Option Int32) (h : Hp) (y : Int32) : Option Int32 := cl2 (fX11_low h) (fun x3 h1 => cl2 (fX12_low h1) (fun x6 h4 => (if x3 = x6 then lt9 (y + (6 : Int32)) (fun x8 => rec h4 x8) else some (0 : Int32))))
set_option maxHeartbeats 8000000 in
set_option maxRecDepth 100000 in
theorem tL_16 {X : Cx} {b Ls : Nat} {xs : Nat → Int32} (C : OK X cL_law_ 7 RL ret) (hR : xR X = { frames := 2048, cells := 601024, slots := 7293034, locals := 84000 }) (hX : SCR X b Ls xs) (hE : LAWQ X) (hLs : Ls ≤ 3072) {rec : Hp → Int32 → Option Int32} {i cs sl : Nat} (hi : i + 6 ≤ Ls) (h1 : cs ≤ 400 + i) (h2 : sl ≤ 60000 + 6 * i) (ih : (∀ (i : Nat) (h : Hp) (cs sl : Nat), i ≤ Ls + 6 → cs ≤ 400 + i → sl ≤ 60000 + 6 * i → rec h (nI i) = some 1 → VW X 7 h cs sl 23 [(0, .ref b), (1, .ref (gad (xG X) 0)), (2, .ref (gad (xG X) 208)), (3, .ref (gad (xG X) 221)), (4, .int (nI i))] [])) {h : Hp} (hf : KL_16 xs Ls rec h (nI i) = some 1) : VW X 7 h cs sl 1111 [(0, .ref b), (1, .ref (gad (xG X) 0)), (2, .ref (gad (xG X) 208)), (3, .ref (gad (xG X) 221)), (4, .int (nI i))] [] := by
  unfold KL_16 at hf
  refine r_aload_n (i := 1) C dL_law__1111 rfl 1 rfl ?_
  obtain ⟨x3, h1, e2, hf⟩ := cl2_of hf
  refine r_callVi (As := []) (st := []) C 0 rfl (by decide) rfl (kX11_low (xG X) e2) cw_L_171 rfl rfl (Nat.le_of_ble_eq_true rfl) (zl2 hR rfl rfl) (zlc hR (by omega) (by omega)) dL_law__1112 ?_
  refine r_aload_n (i := 2) C dL_law__1115 rfl 2 rfl ?_
  obtain ⟨x6, h4, e5, hf⟩ := cl2_of hf
  refine r_callVi (As := []) (st := [.int x3]) C 208 rfl (by decide) rfl (kX12_low (xG X) e5) cw_L_174 rfl rfl (Nat.le_of_ble_eq_true rfl) (zl2 hR rfl rfl) (zlc hR (by omega) (by omega)) dL_law__1116 ?_
  refine r_icmp_eq C 2395 dL_law__1119 (by decide) (fun c7 => ?_) (fun c7 => ?_)
  · rw [if_pos c7] at hf
    obtain ⟨x8, ex8, hf⟩ := lt_of hf
    refine r_iinc (j := 4) (v := x8) (lv' := [(0, .ref b), (1, .ref (gad (xG X) 0)), (2, .ref (gad (xG X) 208)), (3, .ref (gad (xG X) 221)), (4, .int x8)]) C dL_law__2395 rfl (by rw [ex8]; rfl) (by decide) [1, 2, 3, 4, 0] rfl ?_
    refine r_goto C 23 dL_law__2398 (by decide) ?_
    have e99 : x8 = nI (i + 6) := by rw [ex8]; exact nI_add i 6
    rw [e99] at hf ⊢
    exact r_widen (c2 := cs + 1) (s2 := sl + 6) (by omega) (by omega) (r_lv [0, 1, 2, 3, 4] rfl (ih (i + 6) _ (cs + 1) (sl + 6) (by omega) (by omega) (by omega) hf))
  · rw [if_neg c7] at hf
    refine r_iconst (v := 0) C dL_law__1122 (by decide) ?_
    exact absurd (Option.some.inj hf) (by decide)
def KL_17 (xs : Nat → Int32) (Ls : Nat) (rec : Hp → Int32 → Option Int32) (h : Hp) (y : Int32) : Option Int32 := cl2 (fX11_held h) (fun x3 h1 => cl2 (fX12_held h1) (fun x6 h4 => (if x3 = x6 then lt9 (y + (6 : Int32)) (fun x8 => rec h4 x8) else some (0 : Int32))))
set_option maxHeartbeats 8000000 in
set_option maxRecDepth 100000 in
theorem tL_17 {X : Cx} {b Ls : Nat} {xs : Nat → Int32} (C : OK X cL_law_ 7 RL ret) (hR : xR X = { frames := 2048, cells := 601024, slots := 7293034, locals := 84000 }) (hX : SCR X b Ls xs) (hE : LAWQ X) (hLs : Ls ≤ 3072) {rec : Hp → Int32 → Option Int32} {i cs sl : Nat} (hi : i + 6 ≤ Ls) (h1 : cs ≤ 400 + i) (h2 : sl ≤ 60000 + 6 * i) (ih : (∀ (i : Nat) (h : Hp) (cs sl : Nat), i ≤ Ls + 6 → cs ≤ 400 + i → sl ≤ 60000 + 6 * i → rec h (nI i) = some 1 → VW X 7 h cs sl 23 [(0, .ref b), (1, .ref (gad (xG X) 0)), (2, .ref (gad (xG X) 208)), (3, .ref (gad (xG X) 221)), (4, .int (nI i))] [])) {h : Hp} (hf : KL_17 xs Ls rec h (nI i) = some 1) : VW X 7 h cs sl 1124 [(0, .ref b), (1, .ref (gad (xG X) 0)), (2, .ref (gad (xG X) 208)), (3, .ref (gad (xG X) 221)), (4, .int (nI i))] [] := by
  unfold KL_17 at hf
  refine r_aload_n (i := 1) C dL_law__1124 rfl 1 rfl ?_
  obtain ⟨x3, h1, e2, hf⟩ := cl2_of hf
  refine r_callVi (As := []) (st := []) C 0 rfl (by decide) rfl (kX11_held (xG X) e2) cw_L_175 rfl rfl (Nat.le_of_ble_eq_true rfl) (zl2 hR rfl rfl) (zlc hR (by omega) (by omega)) dL_law__1125 ?_
  refine r_aload_n (i := 2) C dL_law__1128 rfl 2 rfl ?_
  obtain ⟨x6, h4, e5, hf⟩ := cl2_of hf
  refine r_callVi (As := []) (st := [.int x3]) C 208 rfl (by decide) rfl (kX12_held (xG X) e5) cw_L_178 rfl rfl (Nat.le_of_ble_eq_true rfl) (zl2 hR rfl rfl) (zlc hR (by omega) (by omega)) dL_law__1129 ?_
  refine r_icmp_eq C 2395 dL_law__1132 (by decide) (fun c7 => ?_) (fun c7 => ?_)
  · rw [if_pos c7] at hf
    obtain ⟨x8, ex8, hf⟩ := lt_of hf
    refine r_iinc (j := 4) (v := x8) (lv' := [(0, .ref b), (1, .ref (gad (xG X) 0)), (2, .ref (gad (xG X) 208)), (3, .ref (gad (xG X) 221)), (4, .int x8)]) C dL_law__2395 rfl (by rw [ex8]; rfl) (by decide) [1, 2, 3, 4, 0] rfl ?_
    refine r_goto C 23 dL_law__2398 (by decide) ?_
    have e99 : x8 = nI (i + 6) := by rw [ex8]; exact nI_add i 6
    rw [e99] at hf ⊢
    exact r_widen (c2 := cs + 1) (s2 := sl + 6) (by omega) (by omega) (r_lv [0, 1, 2, 3, 4] rfl (ih (i + 6) _ (cs + 1) (sl + 6) (by omega) (by omega) (by omega) hf))
  · rw [if_neg c7] at hf
    refine r_iconst (v := 0) C dL_law__1135 (by decide) ?_
    exact absurd (Option.some.inj hf) (by decide)
def KL_18 (xs : Nat → Int32) (Ls : Nat) (rec : Hp → Int32 → Option Int32) (h : Hp) (y : Int32) : Option Int32 := gd (inb (y + (1 : Int32)) Ls) (cl9 ((if (xs (y + (1 : Int32)).toNatClampNeg) = (0 : Int32) then some (0 : Int32) else some (1 : Int32)) : Option (Int32)) (fun v2 => cl2 (fX11_gives h v2) (fun x8 h6 => gd (inb (y + (1 : Int32)) Ls) (cl9 ((if (xs (y + (1 : Int32)).toNatClampNeg) = (0 : Int32) then some (0 : Int32) else some (1 : Int32)) : Option (Int32)) (fun v10 => cl2 (fX12_gives h6 v10) (fun x16 h14 => (if x8 = x16 then lt9 (y + (6 : Int32)) (fun x18 => rec h14 x18) else some (0 : Int32))))))))
set_option maxHeartbeats 8000000 in
set_option maxRecDepth 100000 in
theorem tL_18 {X : Cx} {b Ls : Nat} {xs : Nat → Int32} (C : OK X cL_law_ 7 RL ret) (hR : xR X = { frames := 2048, cells := 601024, slots := 7293034, locals := 84000 }) (hX : SCR X b Ls xs) (hE : LAWQ X) (hLs : Ls ≤ 3072) {rec : Hp → Int32 → Option Int32} {i cs sl : Nat} (hi : i + 6 ≤ Ls) (h1 : cs ≤ 400 + i) (h2 : sl ≤ 60000 + 6 * i) (ih : (∀ (i : Nat) (h : Hp) (cs sl : Nat), i ≤ Ls + 6 → cs ≤ 400 + i → sl ≤ 60000 + 6 * i → rec h (nI i) = some 1 → VW X 7 h cs sl 23 [(0, .ref b), (1, .ref (gad (xG X) 0)), (2, .ref (gad (xG X) 208)), (3, .ref (gad (xG X) 221)), (4, .int (nI i))] [])) {h : Hp} (hf : KL_18 xs Ls rec h (nI i) = some 1) : VW X 7 h cs sl 1137 [(0, .ref b), (1, .ref (gad (xG X) 0)), (2, .ref (gad (xG X) 208)), (3, .ref (gad (xG X) 221)), (4, .int (nI i))] [] := by
  unfold KL_18 at hf
  refine r_aload_n (i := 1) C dL_law__1137 rfl 1 rfl ?_
  refine r_aload_n (i := 0) C dL_law__1138 rfl 0 rfl ?_
  refine r_iload (i := 4) C dL_law__1139 4 rfl ?_
  refine r_iconst (v := 1) C dL_law__1141 (by decide) ?_
  refine r_iadd C dL_law__1142 ?_
  obtain ⟨g1, hf⟩ := gd_of hf
  refine r_sld C hX g1 dL_law__1143 ?_
  obtain ⟨v2, r4, hf⟩ := cl_of hf
  have k3 : VW X 7 h cs sl 1152 [(0, .ref b), (1, .ref (gad (xG X) 0)), (2, .ref (gad (xG X) 208)), (3, .ref (gad (xG X) 221)), (4, .int (nI i))] [.int v2, .ref (gad (xG X) 0)] := by
    obtain ⟨x8, h6, e7, hf⟩ := cl2_of hf
    refine r_callVi (As := [.int v2]) (st := []) C 0 rfl (by decide) rfl (kX11_gives (xG X) e7) cw_L_179 rfl rfl (Nat.le_of_ble_eq_true rfl) (zl2 hR rfl rfl) (zlc hR (by omega) (by omega)) dL_law__1152 ?_
    refine r_aload_n (i := 2) C dL_law__1155 rfl 2 rfl ?_
    refine r_aload_n (i := 0) C dL_law__1156 rfl 0 rfl ?_
    refine r_iload (i := 4) C dL_law__1157 4 rfl ?_
    refine r_iconst (v := 1) C dL_law__1159 (by decide) ?_
    refine r_iadd C dL_law__1160 ?_
    obtain ⟨g9, hf⟩ := gd_of hf
    refine r_sld C hX g9 dL_law__1161 ?_
    obtain ⟨v10, r12, hf⟩ := cl_of hf
    have k11 : VW X 7 h6 cs sl 1170 [(0, .ref b), (1, .ref (gad (xG X) 0)), (2, .ref (gad (xG X) 208)), (3, .ref (gad (xG X) 221)), (4, .int (nI i))] [.int v10, .ref (gad (xG X) 208), .int x8] := by
      obtain ⟨x16, h14, e15, hf⟩ := cl2_of hf
      refine r_callVi (As := [.int v10]) (st := [.int x8]) C 208 rfl (by decide) rfl (kX12_gives (xG X) e15) cw_L_182 rfl rfl (Nat.le_of_ble_eq_true rfl) (zl2 hR rfl rfl) (zlc hR (by omega) (by omega)) dL_law__1170 ?_
      refine r_icmp_eq C 2395 dL_law__1173 (by decide) (fun c17 => ?_) (fun c17 => ?_)
      · rw [if_pos c17] at hf
        obtain ⟨x18, ex18, hf⟩ := lt_of hf
        refine r_iinc (j := 4) (v := x18) (lv' := [(0, .ref b), (1, .ref (gad (xG X) 0)), (2, .ref (gad (xG X) 208)), (3, .ref (gad (xG X) 221)), (4, .int x18)]) C dL_law__2395 rfl (by rw [ex18]; rfl) (by decide) [1, 2, 3, 4, 0] rfl ?_
        refine r_goto C 23 dL_law__2398 (by decide) ?_
        have e99 : x18 = nI (i + 6) := by rw [ex18]; exact nI_add i 6
        rw [e99] at hf ⊢
        exact r_widen (c2 := cs + 1) (s2 := sl + 6) (by omega) (by omega) (r_lv [0, 1, 2, 3, 4] rfl (ih (i + 6) _ (cs + 1) (sl + 6) (by omega) (by omega) (by omega) hf))
      · rw [if_neg c17] at hf
        refine r_iconst (v := 0) C dL_law__1176 (by decide) ?_
        exact absurd (Option.some.inj hf) (by decide)
    clear hf
    have hf := r12
    refine r_if_eq C 1169 dL_law__1162 (by decide) (fun c13 => ?_) (fun c13 => ?_)
    · rw [if_pos c13] at hf
      refine r_iconst (v := 0) C dL_law__1169 (by decide) ?_
      cases hf
      exact k11
    · rw [if_neg c13] at hf
      refine r_iconst (v := 1) C dL_law__1165 (by decide) ?_
      refine r_goto C 1170 dL_law__1166 (by decide) ?_
      cases hf
      exact k11
  clear hf
  have hf := r4
  refine r_if_eq C 1151 dL_law__1144 (by decide) (fun c5 => ?_) (fun c5 => ?_)
  · rw [if_pos c5] at hf
    refine r_iconst (v := 0) C dL_law__1151 (by decide) ?_
    cases hf
    exact k3
  · rw [if_neg c5] at hf
    refine r_iconst (v := 1) C dL_law__1147 (by decide) ?_
    refine r_goto C 1152 dL_law__1148 (by decide) ?_
    cases hf
    exact k3
def KL_19 (xs : Nat → Int32) (Ls : Nat) (rec : Hp → Int32 → Option Int32) (h : Hp) (y : Int32) : Option Int32 := cl9 (fX11_weakest h) (fun x1 => cl2 (fX12_weakest h) (fun x5 h3 => (if x1 = x5 then lt9 (y + (6 : Int32)) (fun x7 => rec h3 x7) else some (0 : Int32))))
set_option maxHeartbeats 8000000 in
set_option maxRecDepth 100000 in
theorem tL_19 {X : Cx} {b Ls : Nat} {xs : Nat → Int32} (C : OK X cL_law_ 7 RL ret) (hR : xR X = { frames := 2048, cells := 601024, slots := 7293034, locals := 84000 }) (hX : SCR X b Ls xs) (hE : LAWQ X) (hLs : Ls ≤ 3072) {rec : Hp → Int32 → Option Int32} {i cs sl : Nat} (hi : i + 6 ≤ Ls) (h1 : cs ≤ 400 + i) (h2 : sl ≤ 60000 + 6 * i) (ih : (∀ (i : Nat) (h : Hp) (cs sl : Nat), i ≤ Ls + 6 → cs ≤ 400 + i → sl ≤ 60000 + 6 * i → rec h (nI i) = some 1 → VW X 7 h cs sl 23 [(0, .ref b), (1, .ref (gad (xG X) 0)), (2, .ref (gad (xG X) 208)), (3, .ref (gad (xG X) 221)), (4, .int (nI i))] [])) {h : Hp} (hf : KL_19 xs Ls rec h (nI i) = some 1) : VW X 7 h cs sl 1178 [(0, .ref b), (1, .ref (gad (xG X) 0)), (2, .ref (gad (xG X) 208)), (3, .ref (gad (xG X) 221)), (4, .int (nI i))] [] := by
  unfold KL_19 at hf
  refine r_aload_n (i := 1) C dL_law__1178 rfl 1 rfl ?_
  obtain ⟨x1, e2, hf⟩ := cl_of hf
  refine r_callVi (As := []) (st := []) C 0 rfl (by decide) rfl (kX11_weakest (xG X) e2) cw_L_183 rfl rfl (Nat.le_of_ble_eq_true rfl) (zl2 hR rfl rfl) (zlc hR (by omega) (by omega)) dL_law__1179 ?_
  refine r_aload_n (i := 2) C dL_law__1182 rfl 2 rfl ?_
  obtain ⟨x5, h3, e4, hf⟩ := cl2_of hf
  refine r_callVi (As := []) (st := [.int x1]) C 208 rfl (by decide) rfl (kX12_weakest (xG X) e4) cw_L_186 rfl rfl (Nat.le_of_ble_eq_true rfl) (zl2 hR rfl rfl) (zlc hR (by omega) (by omega)) dL_law__1183 ?_
  refine r_icmp_eq C 2395 dL_law__1186 (by decide) (fun c6 => ?_) (fun c6 => ?_)
  · rw [if_pos c6] at hf
    obtain ⟨x7, ex7, hf⟩ := lt_of hf
    refine r_iinc (j := 4) (v := x7) (lv' := [(0, .ref b), (1, .ref (gad (xG X) 0)), (2, .ref (gad (xG X) 208)), (3, .ref (gad (xG X) 221)), (4, .int x7)]) C dL_law__2395 rfl (by rw [ex7]; rfl) (by decide) [1, 2, 3, 4, 0] rfl ?_
    refine r_goto C 23 dL_law__2398 (by decide) ?_
    have e99 : x7 = nI (i + 6) := by rw [ex7]; exact nI_add i 6
    rw [e99] at hf ⊢
    exact r_widen (c2 := cs + 1) (s2 := sl + 6) (by omega) (by omega) (r_lv [0, 1, 2, 3, 4] rfl (ih (i + 6) _ (cs + 1) (sl + 6) (by omega) (by omega) (by omega) hf))
  · rw [if_neg c6] at hf
    refine r_iconst (v := 0) C dL_law__1189 (by decide) ?_
    exact absurd (Option.some.inj hf) (by decide)
def KL_20 (xs : Nat → Int32) (Ls : Nat) (rec : Hp → Int32 → Option Int32) (h : Hp) (y : Int32) : Option Int32 := cl2 (fX11_key h) (fun x3 h1 => cl2 (fX12_key h1) (fun x6 h4 => (if x3 = x6 then lt9 (y + (6 : Int32)) (fun x8 => rec h4 x8) else some (0 : Int32))))
set_option maxHeartbeats 8000000 in
set_option maxRecDepth 100000 in
theorem tL_20 {X : Cx} {b Ls : Nat} {xs : Nat → Int32} (C : OK X cL_law_ 7 RL ret) (hR : xR X = { frames := 2048, cells := 601024, slots := 7293034, locals := 84000 }) (hX : SCR X b Ls xs) (hE : LAWQ X) (hLs : Ls ≤ 3072) {rec : Hp → Int32 → Option Int32} {i cs sl : Nat} (hi : i + 6 ≤ Ls) (h1 : cs ≤ 400 + i) (h2 : sl ≤ 60000 + 6 * i) (ih : (∀ (i : Nat) (h : Hp) (cs sl : Nat), i ≤ Ls + 6 → cs ≤ 400 + i → sl ≤ 60000 + 6 * i → rec h (nI i) = some 1 → VW X 7 h cs sl 23 [(0, .ref b), (1, .ref (gad (xG X) 0)), (2, .ref (gad (xG X) 208)), (3, .ref (gad (xG X) 221)), (4, .int (nI i))] [])) {h : Hp} (hf : KL_20 xs Ls rec h (nI i) = some 1) : VW X 7 h cs sl 1191 [(0, .ref b), (1, .ref (gad (xG X) 0)), (2, .ref (gad (xG X) 208)), (3, .ref (gad (xG X) 221)), (4, .int (nI i))] [] := by
  unfold KL_20 at hf
  refine r_aload_n (i := 1) C dL_law__1191 rfl 1 rfl ?_
  obtain ⟨x3, h1, e2, hf⟩ := cl2_of hf
  refine r_callVi (As := []) (st := []) C 0 rfl (by decide) rfl (kX11_key (xG X) e2) cw_L_187 rfl rfl (Nat.le_of_ble_eq_true rfl) (zl2 hR rfl rfl) (zlc hR (by omega) (by omega)) dL_law__1192 ?_
  refine r_aload_n (i := 2) C dL_law__1195 rfl 2 rfl ?_
  obtain ⟨x6, h4, e5, hf⟩ := cl2_of hf
  refine r_callVi (As := []) (st := [.int x3]) C 208 rfl (by decide) rfl (kX12_key (xG X) e5) cw_L_190 rfl rfl (Nat.le_of_ble_eq_true rfl) (zl2 hR rfl rfl) (zlc hR (by omega) (by omega)) dL_law__1196 ?_
  refine r_icmp_eq C 2395 dL_law__1199 (by decide) (fun c7 => ?_) (fun c7 => ?_)
  · rw [if_pos c7] at hf
    obtain ⟨x8, ex8, hf⟩ := lt_of hf
    refine r_iinc (j := 4) (v := x8) (lv' := [(0, .ref b), (1, .ref (gad (xG X) 0)), (2, .ref (gad (xG X) 208)), (3, .ref (gad (xG X) 221)), (4, .int x8)]) C dL_law__2395 rfl (by rw [ex8]; rfl) (by decide) [1, 2, 3, 4, 0] rfl ?_
    refine r_goto C 23 dL_law__2398 (by decide) ?_
    have e99 : x8 = nI (i + 6) := by rw [ex8]; exact nI_add i 6
    rw [e99] at hf ⊢
    exact r_widen (c2 := cs + 1) (s2 := sl + 6) (by omega) (by omega) (r_lv [0, 1, 2, 3, 4] rfl (ih (i + 6) _ (cs + 1) (sl + 6) (by omega) (by omega) (by omega) hf))
  · rw [if_neg c7] at hf
    refine r_iconst (v := 0) C dL_law__1202 (by decide) ?_
    exact absurd (Option.some.inj hf) (by decide)
def KL_21 (xs : Nat → Int32) (Ls : Nat) (rec : Hp → Int32 → Option Int32) (h : Hp) (y : Int32) : Option Int32 := gd (inb (y + (1 : Int32)) Ls) (cl2 (fX11_fewest h (xs (y + (1 : Int32)).toNatClampNeg)) (fun x4 h2 => gd (inb (y + (1 : Int32)) Ls) (cl2 (fX12_fewest h2 (xs (y + (1 : Int32)).toNatClampNeg)) (fun x8 h6 => (if x4 = x8 then lt9 (y + (6 : Int32)) (fun x10 => rec h6 x10) else some (0 : Int32))))))
set_option maxHeartbeats 8000000 in
set_option maxRecDepth 100000 in
theorem tL_21 {X : Cx} {b Ls : Nat} {xs : Nat → Int32} (C : OK X cL_law_ 7 RL ret) (hR : xR X = { frames := 2048, cells := 601024, slots := 7293034, locals := 84000 }) (hX : SCR X b Ls xs) (hE : LAWQ X) (hLs : Ls ≤ 3072) {rec : Hp → Int32 → Option Int32} {i cs sl : Nat} (hi : i + 6 ≤ Ls) (h1 : cs ≤ 400 + i) (h2 : sl ≤ 60000 + 6 * i) (ih : (∀ (i : Nat) (h : Hp) (cs sl : Nat), i ≤ Ls + 6 → cs ≤ 400 + i → sl ≤ 60000 + 6 * i → rec h (nI i) = some 1 → VW X 7 h cs sl 23 [(0, .ref b), (1, .ref (gad (xG X) 0)), (2, .ref (gad (xG X) 208)), (3, .ref (gad (xG X) 221)), (4, .int (nI i))] [])) {h : Hp} (hf : KL_21 xs Ls rec h (nI i) = some 1) : VW X 7 h cs sl 1204 [(0, .ref b), (1, .ref (gad (xG X) 0)), (2, .ref (gad (xG X) 208)), (3, .ref (gad (xG X) 221)), (4, .int (nI i))] [] := by
  unfold KL_21 at hf
  refine r_aload_n (i := 1) C dL_law__1204 rfl 1 rfl ?_
  refine r_aload_n (i := 0) C dL_law__1205 rfl 0 rfl ?_
  refine r_iload (i := 4) C dL_law__1206 4 rfl ?_
  refine r_iconst (v := 1) C dL_law__1208 (by decide) ?_
  refine r_iadd C dL_law__1209 ?_
  obtain ⟨g1, hf⟩ := gd_of hf
  refine r_sld C hX g1 dL_law__1210 ?_
  obtain ⟨x4, h2, e3, hf⟩ := cl2_of hf
  refine r_callVi (As := [.int (xs ((nI i) + (1 : Int32)).toNatClampNeg)]) (st := []) C 0 rfl (by decide) rfl (kX11_fewest (xG X) e3) cw_L_191 rfl rfl (Nat.le_of_ble_eq_true rfl) (zl2 hR rfl rfl) (zlc hR (by omega) (by omega)) dL_law__1211 ?_
  refine r_aload_n (i := 2) C dL_law__1214 rfl 2 rfl ?_
  refine r_aload_n (i := 0) C dL_law__1215 rfl 0 rfl ?_
  refine r_iload (i := 4) C dL_law__1216 4 rfl ?_
  refine r_iconst (v := 1) C dL_law__1218 (by decide) ?_
  refine r_iadd C dL_law__1219 ?_
  obtain ⟨g5, hf⟩ := gd_of hf
  refine r_sld C hX g5 dL_law__1220 ?_
  obtain ⟨x8, h6, e7, hf⟩ := cl2_of hf
  refine r_callVi (As := [.int (xs ((nI i) + (1 : Int32)).toNatClampNeg)]) (st := [.int x4]) C 208 rfl (by decide) rfl (kX12_fewest (xG X) e7) cw_L_194 rfl rfl (Nat.le_of_ble_eq_true rfl) (zl2 hR rfl rfl) (zlc hR (by omega) (by omega)) dL_law__1221 ?_
  refine r_icmp_eq C 2395 dL_law__1224 (by decide) (fun c9 => ?_) (fun c9 => ?_)
  · rw [if_pos c9] at hf
    obtain ⟨x10, ex10, hf⟩ := lt_of hf
    refine r_iinc (j := 4) (v := x10) (lv' := [(0, .ref b), (1, .ref (gad (xG X) 0)), (2, .ref (gad (xG X) 208)), (3, .ref (gad (xG X) 221)), (4, .int x10)]) C dL_law__2395 rfl (by rw [ex10]; rfl) (by decide) [1, 2, 3, 4, 0] rfl ?_
    refine r_goto C 23 dL_law__2398 (by decide) ?_
    have e99 : x10 = nI (i + 6) := by rw [ex10]; exact nI_add i 6
    rw [e99] at hf ⊢
    exact r_widen (c2 := cs + 1) (s2 := sl + 6) (by omega) (by omega) (r_lv [0, 1, 2, 3, 4] rfl (ih (i + 6) _ (cs + 1) (sl + 6) (by omega) (by omega) (by omega) hf))
  · rw [if_neg c9] at hf
    refine r_iconst (v := 0) C dL_law__1227 (by decide) ?_
    exact absurd (Option.some.inj hf) (by decide)
def KL_22 (xs : Nat → Int32) (Ls : Nat) (rec : Hp → Int32 → Option Int32) (h : Hp) (y : Int32) : Option Int32 := cl2 (fX11_first h) (fun x3 h1 => cl2 (fX12_first h1) (fun x6 h4 => (if x3 = x6 then lt9 (y + (6 : Int32)) (fun x8 => rec h4 x8) else some (0 : Int32))))
set_option maxHeartbeats 8000000 in
set_option maxRecDepth 100000 in
theorem tL_22 {X : Cx} {b Ls : Nat} {xs : Nat → Int32} (C : OK X cL_law_ 7 RL ret) (hR : xR X = { frames := 2048, cells := 601024, slots := 7293034, locals := 84000 }) (hX : SCR X b Ls xs) (hE : LAWQ X) (hLs : Ls ≤ 3072) {rec : Hp → Int32 → Option Int32} {i cs sl : Nat} (hi : i + 6 ≤ Ls) (h1 : cs ≤ 400 + i) (h2 : sl ≤ 60000 + 6 * i) (ih : (∀ (i : Nat) (h : Hp) (cs sl : Nat), i ≤ Ls + 6 → cs ≤ 400 + i → sl ≤ 60000 + 6 * i → rec h (nI i) = some 1 → VW X 7 h cs sl 23 [(0, .ref b), (1, .ref (gad (xG X) 0)), (2, .ref (gad (xG X) 208)), (3, .ref (gad (xG X) 221)), (4, .int (nI i))] [])) {h : Hp} (hf : KL_22 xs Ls rec h (nI i) = some 1) : VW X 7 h cs sl 1229 [(0, .ref b), (1, .ref (gad (xG X) 0)), (2, .ref (gad (xG X) 208)), (3, .ref (gad (xG X) 221)), (4, .int (nI i))] [] := by
  unfold KL_22 at hf
  refine r_aload_n (i := 1) C dL_law__1229 rfl 1 rfl ?_
  obtain ⟨x3, h1, e2, hf⟩ := cl2_of hf
  refine r_callVi (As := []) (st := []) C 0 rfl (by decide) rfl (kX11_first (xG X) e2) cw_L_195 rfl rfl (Nat.le_of_ble_eq_true rfl) (zl2 hR rfl rfl) (zlc hR (by omega) (by omega)) dL_law__1230 ?_
  refine r_aload_n (i := 2) C dL_law__1233 rfl 2 rfl ?_
  obtain ⟨x6, h4, e5, hf⟩ := cl2_of hf
  refine r_callVi (As := []) (st := [.int x3]) C 208 rfl (by decide) rfl (kX12_first (xG X) e5) cw_L_198 rfl rfl (Nat.le_of_ble_eq_true rfl) (zl2 hR rfl rfl) (zlc hR (by omega) (by omega)) dL_law__1234 ?_
  refine r_icmp_eq C 2395 dL_law__1237 (by decide) (fun c7 => ?_) (fun c7 => ?_)
  · rw [if_pos c7] at hf
    obtain ⟨x8, ex8, hf⟩ := lt_of hf
    refine r_iinc (j := 4) (v := x8) (lv' := [(0, .ref b), (1, .ref (gad (xG X) 0)), (2, .ref (gad (xG X) 208)), (3, .ref (gad (xG X) 221)), (4, .int x8)]) C dL_law__2395 rfl (by rw [ex8]; rfl) (by decide) [1, 2, 3, 4, 0] rfl ?_
    refine r_goto C 23 dL_law__2398 (by decide) ?_
    have e99 : x8 = nI (i + 6) := by rw [ex8]; exact nI_add i 6
    rw [e99] at hf ⊢
    exact r_widen (c2 := cs + 1) (s2 := sl + 6) (by omega) (by omega) (r_lv [0, 1, 2, 3, 4] rfl (ih (i + 6) _ (cs + 1) (sl + 6) (by omega) (by omega) (by omega) hf))
  · rw [if_neg c7] at hf
    refine r_iconst (v := 0) C dL_law__1240 (by decide) ?_
    exact absurd (Option.some.inj hf) (by decide)
def KL_23 (xs : Nat → Int32) (Ls : Nat) (rec : Hp → Int32 → Option Int32) (h : Hp) (y : Int32) : Option Int32 := cl2 (fX11_spare h) (fun x3 h1 => cl2 (fX12_spare h1) (fun x6 h4 => (if x3 = x6 then lt9 (y + (6 : Int32)) (fun x8 => rec h4 x8) else some (0 : Int32))))
set_option maxHeartbeats 8000000 in
set_option maxRecDepth 100000 in
theorem tL_23 {X : Cx} {b Ls : Nat} {xs : Nat → Int32} (C : OK X cL_law_ 7 RL ret) (hR : xR X = { frames := 2048, cells := 601024, slots := 7293034, locals := 84000 }) (hX : SCR X b Ls xs) (hE : LAWQ X) (hLs : Ls ≤ 3072) {rec : Hp → Int32 → Option Int32} {i cs sl : Nat} (hi : i + 6 ≤ Ls) (h1 : cs ≤ 400 + i) (h2 : sl ≤ 60000 + 6 * i) (ih : (∀ (i : Nat) (h : Hp) (cs sl : Nat), i ≤ Ls + 6 → cs ≤ 400 + i → sl ≤ 60000 + 6 * i → rec h (nI i) = some 1 → VW X 7 h cs sl 23 [(0, .ref b), (1, .ref (gad (xG X) 0)), (2, .ref (gad (xG X) 208)), (3, .ref (gad (xG X) 221)), (4, .int (nI i))] [])) {h : Hp} (hf : KL_23 xs Ls rec h (nI i) = some 1) : VW X 7 h cs sl 1242 [(0, .ref b), (1, .ref (gad (xG X) 0)), (2, .ref (gad (xG X) 208)), (3, .ref (gad (xG X) 221)), (4, .int (nI i))] [] := by
  unfold KL_23 at hf
  refine r_aload_n (i := 1) C dL_law__1242 rfl 1 rfl ?_
  obtain ⟨x3, h1, e2, hf⟩ := cl2_of hf
  refine r_callVi (As := []) (st := []) C 0 rfl (by decide) rfl (kX11_spare (xG X) e2) cw_L_199 rfl rfl (Nat.le_of_ble_eq_true rfl) (zl2 hR rfl rfl) (zlc hR (by omega) (by omega)) dL_law__1243 ?_
  refine r_aload_n (i := 2) C dL_law__1246 rfl 2 rfl ?_
  obtain ⟨x6, h4, e5, hf⟩ := cl2_of hf
  refine r_callVi (As := []) (st := [.int x3]) C 208 rfl (by decide) rfl (kX12_spare (xG X) e5) cw_L_202 rfl rfl (Nat.le_of_ble_eq_true rfl) (zl2 hR rfl rfl) (zlc hR (by omega) (by omega)) dL_law__1247 ?_
  refine r_icmp_eq C 2395 dL_law__1250 (by decide) (fun c7 => ?_) (fun c7 => ?_)
  · rw [if_pos c7] at hf
    obtain ⟨x8, ex8, hf⟩ := lt_of hf
    refine r_iinc (j := 4) (v := x8) (lv' := [(0, .ref b), (1, .ref (gad (xG X) 0)), (2, .ref (gad (xG X) 208)), (3, .ref (gad (xG X) 221)), (4, .int x8)]) C dL_law__2395 rfl (by rw [ex8]; rfl) (by decide) [1, 2, 3, 4, 0] rfl ?_
    refine r_goto C 23 dL_law__2398 (by decide) ?_
    have e99 : x8 = nI (i + 6) := by rw [ex8]; exact nI_add i 6
    rw [e99] at hf ⊢
    exact r_widen (c2 := cs + 1) (s2 := sl + 6) (by omega) (by omega) (r_lv [0, 1, 2, 3, 4] rfl (ih (i + 6) _ (cs + 1) (sl + 6) (by omega) (by omega) (by omega) hf))
  · rw [if_neg c7] at hf
    refine r_iconst (v := 0) C dL_law__1253 (by decide) ?_
    exact absurd (Option.some.inj hf) (by decide)
def KL_24 (xs : Nat → Int32) (Ls : Nat) (rec : Hp → Int32 → Option Int32) (h : Hp) (y : Int32) : Option Int32 := gd (inb (y + (1 : Int32)) Ls) (gd (inb (y + (2 : Int32)) Ls) (gd (inb (y + (3 : Int32)) Ls) (cl9 ((if (xs (y + (3 : Int32)).toNatClampNeg) = (0 : Int32) then some (0 : Int32) else some (1 : Int32)) : Option (Int32)) (fun v4 => cl2 (fL_round h (xs (y + (1 : Int32)).toNatClampNeg) (xs (y + (2 : Int32)).toNatClampNeg) v4) (fun x8 h9 => gd (inb (y + (1 : Int32)) Ls) (gd (inb (y + (2 : Int32)) Ls) (gd (inb (y + (3 : Int32)) Ls) (cl9 ((if (xs (y + (3 : Int32)).toNatClampNeg) = (0 : Int32) then some (0 : Int32) else some (1 : Int32)) : Option (Int32)) (fun v14 => cl2 (fX12_round h9 (xs (y + (1 : Int32)).toNatClampNeg) (xs (y + (2 : Int32)).toNatClampNeg) v14) (fun x20 h18 => (if (fX12_thrown h18) = x8 then (if x8 = (0 : Int32) then (if (lg_cmp ((h18 221 0).toInt64) (x20.toInt64)) = (0 : Int32) then lt9 (y + (6 : Int32)) (fun x25 => rec h18 x25) else some (0 : Int32)) else lt9 (y + (6 : Int32)) (fun x23 => rec h18 x23)) else some (0 : Int32))))))))))))
set_option maxHeartbeats 8000000 in
set_option maxRecDepth 100000 in
theorem tL_24 {X : Cx} {b Ls : Nat} {xs : Nat → Int32} (C : OK X cL_law_ 7 RL ret) (hR : xR X = { frames := 2048, cells := 601024, slots := 7293034, locals := 84000 }) (hX : SCR X b Ls xs) (hE : LAWQ X) (hLs : Ls ≤ 3072) {rec : Hp → Int32 → Option Int32} {i cs sl : Nat} (hi : i + 6 ≤ Ls) (h1 : cs ≤ 400 + i) (h2 : sl ≤ 60000 + 6 * i) (ih : (∀ (i : Nat) (h : Hp) (cs sl : Nat), i ≤ Ls + 6 → cs ≤ 400 + i → sl ≤ 60000 + 6 * i → rec h (nI i) = some 1 → VW X 7 h cs sl 23 [(0, .ref b), (1, .ref (gad (xG X) 0)), (2, .ref (gad (xG X) 208)), (3, .ref (gad (xG X) 221)), (4, .int (nI i))] [])) {h : Hp} (hf : KL_24 xs Ls rec h (nI i) = some 1) : VW X 7 h cs sl 1255 [(0, .ref b), (1, .ref (gad (xG X) 0)), (2, .ref (gad (xG X) 208)), (3, .ref (gad (xG X) 221)), (4, .int (nI i))] [] := by
  unfold KL_24 at hf
  refine r_aload_n (i := 1) C dL_law__1255 rfl 1 rfl ?_
  refine r_aload_n (i := 0) C dL_law__1256 rfl 0 rfl ?_
  refine r_iload (i := 4) C dL_law__1257 4 rfl ?_
  refine r_iconst (v := 1) C dL_law__1259 (by decide) ?_
  refine r_iadd C dL_law__1260 ?_
  obtain ⟨g1, hf⟩ := gd_of hf
  refine r_sld C hX g1 dL_law__1261 ?_
  refine r_aload_n (i := 0) C dL_law__1262 rfl 0 rfl ?_
  refine r_iload (i := 4) C dL_law__1263 4 rfl ?_
  refine r_iconst (v := 2) C dL_law__1265 (by decide) ?_
  refine r_iadd C dL_law__1266 ?_
  obtain ⟨g2, hf⟩ := gd_of hf
  refine r_sld C hX g2 dL_law__1267 ?_
  refine r_aload_n (i := 0) C dL_law__1268 rfl 0 rfl ?_
  refine r_iload (i := 4) C dL_law__1269 4 rfl ?_
  refine r_iconst (v := 3) C dL_law__1271 (by decide) ?_
  refine r_iadd C dL_law__1272 ?_
  obtain ⟨g3, hf⟩ := gd_of hf
  refine r_sld C hX g3 dL_law__1273 ?_
  obtain ⟨v4, r6, hf⟩ := cl_of hf
  have k5 : VW X 7 h cs sl 1282 [(0, .ref b), (1, .ref (gad (xG X) 0)), (2, .ref (gad (xG X) 208)), (3, .ref (gad (xG X) 221)), (4, .int (nI i))] [.int v4, .int (xs ((nI i) + (2 : Int32)).toNatClampNeg), .int (xs ((nI i) + (1 : Int32)).toNatClampNeg), .ref (gad (xG X) 0)] := by
    refine r_aload_n (i := 3) C dL_law__1282 rfl 3 rfl ?_
    obtain ⟨x8, h9, e10, hf⟩ := cl2_of hf
    refine r_callSW (As := [.ref (gad (xG X) 0), .int (xs ((nI i) + (1 : Int32)).toNatClampNeg), .int (xs ((nI i) + (2 : Int32)).toNatClampNeg), .int v4, .ref (gad (xG X) 221)]) (st := []) C (kL_round (xG X) e10) hw_203 rfl rfl (Nat.le_of_ble_eq_true rfl) (zl2 hR rfl rfl) (zlc hR (by omega) (by omega)) dL_law__1283 ?_
    refine r_istore (i := 5) (lv' := [(0, .ref b), (1, .ref (gad (xG X) 0)), (2, .ref (gad (xG X) 208)), (3, .ref (gad (xG X) 221)), (4, .int (nI i)), (5, .int x8)]) C dL_law__1286 (by decide) [1, 2, 3, 4, 5, 0] rfl ?_
    refine r_aload_n (i := 2) C dL_law__1288 rfl 2 rfl ?_
    refine r_aload_n (i := 0) C dL_law__1289 rfl 0 rfl ?_
    refine r_iload (i := 4) C dL_law__1290 4 rfl ?_
    refine r_iconst (v := 1) C dL_law__1292 (by decide) ?_
    refine r_iadd C dL_law__1293 ?_
    obtain ⟨g11, hf⟩ := gd_of hf
    refine r_sld C hX g11 dL_law__1294 ?_
    refine r_aload_n (i := 0) C dL_law__1295 rfl 0 rfl ?_
    refine r_iload (i := 4) C dL_law__1296 4 rfl ?_
    refine r_iconst (v := 2) C dL_law__1298 (by decide) ?_
    refine r_iadd C dL_law__1299 ?_
    obtain ⟨g12, hf⟩ := gd_of hf
    refine r_sld C hX g12 dL_law__1300 ?_
    refine r_aload_n (i := 0) C dL_law__1301 rfl 0 rfl ?_
    refine r_iload (i := 4) C dL_law__1302 4 rfl ?_
    refine r_iconst (v := 3) C dL_law__1304 (by decide) ?_
    refine r_iadd C dL_law__1305 ?_
    obtain ⟨g13, hf⟩ := gd_of hf
    refine r_sld C hX g13 dL_law__1306 ?_
    obtain ⟨v14, r16, hf⟩ := cl_of hf
    have k15 : VW X 7 h9 (cs + 1) (sl + 6) 1315 [(0, .ref b), (1, .ref (gad (xG X) 0)), (2, .ref (gad (xG X) 208)), (3, .ref (gad (xG X) 221)), (4, .int (nI i)), (5, .int x8)] [.int v14, .int (xs ((nI i) + (2 : Int32)).toNatClampNeg), .int (xs ((nI i) + (1 : Int32)).toNatClampNeg), .ref (gad (xG X) 208)] := by
      obtain ⟨x20, h18, e19, hf⟩ := cl2_of hf
      refine r_callVi (As := [.int (xs ((nI i) + (1 : Int32)).toNatClampNeg), .int (xs ((nI i) + (2 : Int32)).toNatClampNeg), .int v14]) (st := []) C 208 rfl (by decide) rfl (kX12_round (xG X) e19) cw_L_206 rfl rfl (Nat.le_of_ble_eq_true rfl) (zl2 hR rfl rfl) (zlc hR (by omega) (by omega)) dL_law__1315 ?_
      refine r_istore (i := 6) (lv' := [(0, .ref b), (1, .ref (gad (xG X) 0)), (2, .ref (gad (xG X) 208)), (3, .ref (gad (xG X) 221)), (4, .int (nI i)), (5, .int x8), (6, .int x20)]) C dL_law__1318 (by decide) [1, 2, 3, 4, 5, 6, 0] rfl ?_
      refine r_aload_n (i := 2) C dL_law__1320 rfl 2 rfl ?_
      refine r_callVi (As := []) (st := []) C 208 rfl (by decide) rfl (kX12_thrown (xG X)) cw_L_126 rfl rfl (Nat.le_of_ble_eq_true rfl) (zl2 hR rfl rfl) (zlc hR (by omega) (by omega)) dL_law__1321 ?_
      refine r_iload (i := 5) C dL_law__1324 5 rfl ?_
      refine r_icmp_eq C 1331 dL_law__1326 (by decide) (fun c21 => ?_) (fun c21 => ?_)
      · rw [if_pos c21] at hf
        refine r_iload (i := 5) C dL_law__1331 5 rfl ?_
        refine r_if_ne C 1348 dL_law__1333 (by decide) (fun c22 => ?_) (fun c22 => ?_)
        · rw [if_neg c22] at hf
          refine r_goto C 2395 dL_law__1348 (by decide) ?_
          obtain ⟨x23, ex23, hf⟩ := lt_of hf
          refine r_iinc (j := 4) (v := x23) (lv' := [(0, .ref b), (1, .ref (gad (xG X) 0)), (2, .ref (gad (xG X) 208)), (3, .ref (gad (xG X) 221)), (4, .int x23), (5, .int x8), (6, .int x20)]) C dL_law__2395 rfl (by rw [ex23]; rfl) (by decide) [1, 2, 3, 4, 0, 5, 6] rfl ?_
          refine r_goto C 23 dL_law__2398 (by decide) ?_
          have e99 : x23 = nI (i + 6) := by rw [ex23]; exact nI_add i 6
          rw [e99] at hf ⊢
          exact r_widen (c2 := cs + 1) (s2 := sl + 6) (by omega) (by omega) (r_lv [0, 1, 2, 3, 4] rfl (ih (i + 6) _ (cs + 1) (sl + 6) (by omega) (by omega) (by omega) hf))
        · rw [if_pos c22] at hf
          refine r_aload_n (i := 3) C dL_law__1336 rfl 3 rfl ?_
          refine r_iconst (v := 0) C dL_law__1337 (by decide) ?_
          refine r_lald C dL_law__1338 ?_
          refine r_iload (i := 6) C dL_law__1339 6 rfl ?_
          refine r_i2l C dL_law__1341 ?_
          refine r_lcmp C dL_law__1342 ?_
          refine r_if_eq C 1348 dL_law__1343 (by decide) (fun c24 => ?_) (fun c24 => ?_)
          · rw [if_pos c24] at hf
            refine r_goto C 2395 dL_law__1348 (by decide) ?_
            obtain ⟨x25, ex25, hf⟩ := lt_of hf
            refine r_iinc (j := 4) (v := x25) (lv' := [(0, .ref b), (1, .ref (gad (xG X) 0)), (2, .ref (gad (xG X) 208)), (3, .ref (gad (xG X) 221)), (4, .int x25), (5, .int x8), (6, .int x20)]) C dL_law__2395 rfl (by rw [ex25]; rfl) (by decide) [1, 2, 3, 4, 0, 5, 6] rfl ?_
            refine r_goto C 23 dL_law__2398 (by decide) ?_
            have e99 : x25 = nI (i + 6) := by rw [ex25]; exact nI_add i 6
            rw [e99] at hf ⊢
            exact r_widen (c2 := cs + 1) (s2 := sl + 6) (by omega) (by omega) (r_lv [0, 1, 2, 3, 4] rfl (ih (i + 6) _ (cs + 1) (sl + 6) (by omega) (by omega) (by omega) hf))
          · rw [if_neg c24] at hf
            refine r_iconst (v := 0) C dL_law__1346 (by decide) ?_
            exact absurd (Option.some.inj hf) (by decide)
      · rw [if_neg c21] at hf
        refine r_iconst (v := 0) C dL_law__1329 (by decide) ?_
        exact absurd (Option.some.inj hf) (by decide)
    clear hf
    have hf := r16
    refine r_if_eq C 1314 dL_law__1307 (by decide) (fun c17 => ?_) (fun c17 => ?_)
    · rw [if_pos c17] at hf
      refine r_iconst (v := 0) C dL_law__1314 (by decide) ?_
      cases hf
      exact k15
    · rw [if_neg c17] at hf
      refine r_iconst (v := 1) C dL_law__1310 (by decide) ?_
      refine r_goto C 1315 dL_law__1311 (by decide) ?_
      cases hf
      exact k15
  clear hf
  have hf := r6
  refine r_if_eq C 1281 dL_law__1274 (by decide) (fun c7 => ?_) (fun c7 => ?_)
  · rw [if_pos c7] at hf
    refine r_iconst (v := 0) C dL_law__1281 (by decide) ?_
    cases hf
    exact k5
  · rw [if_neg c7] at hf
    refine r_iconst (v := 1) C dL_law__1277 (by decide) ?_
    refine r_goto C 1282 dL_law__1278 (by decide) ?_
    cases hf
    exact k5
def KL_25 (xs : Nat → Int32) (Ls : Nat) (rec : Hp → Int32 → Option Int32) (h : Hp) (y : Int32) : Option Int32 := gd (inb (y + (1 : Int32)) Ls) (cl2 (fL_goes h (xs (y + (1 : Int32)).toNatClampNeg)) (fun x2 h3 => gd (inb (y + (1 : Int32)) Ls) (cl2 (fX12_goes h3 (xs (y + (1 : Int32)).toNatClampNeg)) (fun x8 h6 => (if (fX12_thrown h6) = x2 then (if x2 = (0 : Int32) then (if (lg_cmp ((h6 221 0).toInt64) (x8.toInt64)) = (0 : Int32) then lt9 (y + (6 : Int32)) (fun x13 => rec h6 x13) else some (0 : Int32)) else lt9 (y + (6 : Int32)) (fun x11 => rec h6 x11)) else some (0 : Int32))))))
set_option maxHeartbeats 8000000 in
set_option maxRecDepth 100000 in
theorem tL_25 {X : Cx} {b Ls : Nat} {xs : Nat → Int32} (C : OK X cL_law_ 7 RL ret) (hR : xR X = { frames := 2048, cells := 601024, slots := 7293034, locals := 84000 }) (hX : SCR X b Ls xs) (hE : LAWQ X) (hLs : Ls ≤ 3072) {rec : Hp → Int32 → Option Int32} {i cs sl : Nat} (hi : i + 6 ≤ Ls) (h1 : cs ≤ 400 + i) (h2 : sl ≤ 60000 + 6 * i) (ih : (∀ (i : Nat) (h : Hp) (cs sl : Nat), i ≤ Ls + 6 → cs ≤ 400 + i → sl ≤ 60000 + 6 * i → rec h (nI i) = some 1 → VW X 7 h cs sl 23 [(0, .ref b), (1, .ref (gad (xG X) 0)), (2, .ref (gad (xG X) 208)), (3, .ref (gad (xG X) 221)), (4, .int (nI i))] [])) {h : Hp} (hf : KL_25 xs Ls rec h (nI i) = some 1) : VW X 7 h cs sl 1351 [(0, .ref b), (1, .ref (gad (xG X) 0)), (2, .ref (gad (xG X) 208)), (3, .ref (gad (xG X) 221)), (4, .int (nI i))] [] := by
  unfold KL_25 at hf
  refine r_aload_n (i := 1) C dL_law__1351 rfl 1 rfl ?_
  refine r_aload_n (i := 0) C dL_law__1352 rfl 0 rfl ?_
  refine r_iload (i := 4) C dL_law__1353 4 rfl ?_
  refine r_iconst (v := 1) C dL_law__1355 (by decide) ?_
  refine r_iadd C dL_law__1356 ?_
  obtain ⟨g1, hf⟩ := gd_of hf
  refine r_sld C hX g1 dL_law__1357 ?_
  refine r_aload_n (i := 3) C dL_law__1358 rfl 3 rfl ?_
  obtain ⟨x2, h3, e4, hf⟩ := cl2_of hf
  refine r_callSW (As := [.ref (gad (xG X) 0), .int (xs ((nI i) + (1 : Int32)).toNatClampNeg), .ref (gad (xG X) 221)]) (st := []) C (kL_goes (xG X) e4) hw_207 rfl rfl (Nat.le_of_ble_eq_true rfl) (zl2 hR rfl rfl) (zlc hR (by omega) (by omega)) dL_law__1359 ?_
  refine r_istore (i := 5) (lv' := [(0, .ref b), (1, .ref (gad (xG X) 0)), (2, .ref (gad (xG X) 208)), (3, .ref (gad (xG X) 221)), (4, .int (nI i)), (5, .int x2)]) C dL_law__1362 (by decide) [1, 2, 3, 4, 5, 0] rfl ?_
  refine r_aload_n (i := 2) C dL_law__1364 rfl 2 rfl ?_
  refine r_aload_n (i := 0) C dL_law__1365 rfl 0 rfl ?_
  refine r_iload (i := 4) C dL_law__1366 4 rfl ?_
  refine r_iconst (v := 1) C dL_law__1368 (by decide) ?_
  refine r_iadd C dL_law__1369 ?_
  obtain ⟨g5, hf⟩ := gd_of hf
  refine r_sld C hX g5 dL_law__1370 ?_
  obtain ⟨x8, h6, e7, hf⟩ := cl2_of hf
  refine r_callVi (As := [.int (xs ((nI i) + (1 : Int32)).toNatClampNeg)]) (st := []) C 208 rfl (by decide) rfl (kX12_goes (xG X) e7) cw_L_209 rfl rfl (Nat.le_of_ble_eq_true rfl) (zl2 hR rfl rfl) (zlc hR (by omega) (by omega)) dL_law__1371 ?_
  refine r_istore (i := 6) (lv' := [(0, .ref b), (1, .ref (gad (xG X) 0)), (2, .ref (gad (xG X) 208)), (3, .ref (gad (xG X) 221)), (4, .int (nI i)), (5, .int x2), (6, .int x8)]) C dL_law__1374 (by decide) [1, 2, 3, 4, 5, 6, 0] rfl ?_
  refine r_aload_n (i := 2) C dL_law__1376 rfl 2 rfl ?_
  refine r_callVi (As := []) (st := []) C 208 rfl (by decide) rfl (kX12_thrown (xG X)) cw_L_126 rfl rfl (Nat.le_of_ble_eq_true rfl) (zl2 hR rfl rfl) (zlc hR (by omega) (by omega)) dL_law__1377 ?_
  refine r_iload (i := 5) C dL_law__1380 5 rfl ?_
  refine r_icmp_eq C 1387 dL_law__1382 (by decide) (fun c9 => ?_) (fun c9 => ?_)
  · rw [if_pos c9] at hf
    refine r_iload (i := 5) C dL_law__1387 5 rfl ?_
    refine r_if_ne C 1404 dL_law__1389 (by decide) (fun c10 => ?_) (fun c10 => ?_)
    · rw [if_neg c10] at hf
      refine r_goto C 2395 dL_law__1404 (by decide) ?_
      obtain ⟨x11, ex11, hf⟩ := lt_of hf
      refine r_iinc (j := 4) (v := x11) (lv' := [(0, .ref b), (1, .ref (gad (xG X) 0)), (2, .ref (gad (xG X) 208)), (3, .ref (gad (xG X) 221)), (4, .int x11), (5, .int x2), (6, .int x8)]) C dL_law__2395 rfl (by rw [ex11]; rfl) (by decide) [1, 2, 3, 4, 0, 5, 6] rfl ?_
      refine r_goto C 23 dL_law__2398 (by decide) ?_
      have e99 : x11 = nI (i + 6) := by rw [ex11]; exact nI_add i 6
      rw [e99] at hf ⊢
      exact r_widen (c2 := cs + 1) (s2 := sl + 6) (by omega) (by omega) (r_lv [0, 1, 2, 3, 4] rfl (ih (i + 6) _ (cs + 1) (sl + 6) (by omega) (by omega) (by omega) hf))
    · rw [if_pos c10] at hf
      refine r_aload_n (i := 3) C dL_law__1392 rfl 3 rfl ?_
      refine r_iconst (v := 0) C dL_law__1393 (by decide) ?_
      refine r_lald C dL_law__1394 ?_
      refine r_iload (i := 6) C dL_law__1395 6 rfl ?_
      refine r_i2l C dL_law__1397 ?_
      refine r_lcmp C dL_law__1398 ?_
      refine r_if_eq C 1404 dL_law__1399 (by decide) (fun c12 => ?_) (fun c12 => ?_)
      · rw [if_pos c12] at hf
        refine r_goto C 2395 dL_law__1404 (by decide) ?_
        obtain ⟨x13, ex13, hf⟩ := lt_of hf
        refine r_iinc (j := 4) (v := x13) (lv' := [(0, .ref b), (1, .ref (gad (xG X) 0)), (2, .ref (gad (xG X) 208)), (3, .ref (gad (xG X) 221)), (4, .int x13), (5, .int x2), (6, .int x8)]) C dL_law__2395 rfl (by rw [ex13]; rfl) (by decide) [1, 2, 3, 4, 0, 5, 6] rfl ?_
        refine r_goto C 23 dL_law__2398 (by decide) ?_
        have e99 : x13 = nI (i + 6) := by rw [ex13]; exact nI_add i 6
        rw [e99] at hf ⊢
        exact r_widen (c2 := cs + 1) (s2 := sl + 6) (by omega) (by omega) (r_lv [0, 1, 2, 3, 4] rfl (ih (i + 6) _ (cs + 1) (sl + 6) (by omega) (by omega) (by omega) hf))
      · rw [if_neg c12] at hf
        refine r_iconst (v := 0) C dL_law__1402 (by decide) ?_
        exact absurd (Option.some.inj hf) (by decide)
  · rw [if_neg c9] at hf
    refine r_iconst (v := 0) C dL_law__1385 (by decide) ?_
    exact absurd (Option.some.inj hf) (by decide)
def KL_26 (xs : Nat → Int32) (Ls : Nat) (rec : Hp → Int32 → Option Int32) (h : Hp) (y : Int32) : Option Int32 := gd (inb (y + (1 : Int32)) Ls) (cl2 (fL_before h (xs (y + (1 : Int32)).toNatClampNeg)) (fun x2 h3 => gd (inb (y + (1 : Int32)) Ls) (cl2 (fX12_before h3 (xs (y + (1 : Int32)).toNatClampNeg)) (fun x8 h6 => (if (fX12_thrown h6) = x2 then (if x2 = (0 : Int32) then (if (lg_cmp ((h6 221 0).toInt64) (x8.toInt64)) = (0 : Int32) then lt9 (y + (6 : Int32)) (fun x13 => rec h6 x13) else some (0 : Int32)) else lt9 (y + (6 : Int32)) (fun x11 => rec h6 x11)) else some (0 : Int32))))))
set_option maxHeartbeats 8000000 in
set_option maxRecDepth 100000 in
theorem tL_26 {X : Cx} {b Ls : Nat} {xs : Nat → Int32} (C : OK X cL_law_ 7 RL ret) (hR : xR X = { frames := 2048, cells := 601024, slots := 7293034, locals := 84000 }) (hX : SCR X b Ls xs) (hE : LAWQ X) (hLs : Ls ≤ 3072) {rec : Hp → Int32 → Option Int32} {i cs sl : Nat} (hi : i + 6 ≤ Ls) (h1 : cs ≤ 400 + i) (h2 : sl ≤ 60000 + 6 * i) (ih : (∀ (i : Nat) (h : Hp) (cs sl : Nat), i ≤ Ls + 6 → cs ≤ 400 + i → sl ≤ 60000 + 6 * i → rec h (nI i) = some 1 → VW X 7 h cs sl 23 [(0, .ref b), (1, .ref (gad (xG X) 0)), (2, .ref (gad (xG X) 208)), (3, .ref (gad (xG X) 221)), (4, .int (nI i))] [])) {h : Hp} (hf : KL_26 xs Ls rec h (nI i) = some 1) : VW X 7 h cs sl 1407 [(0, .ref b), (1, .ref (gad (xG X) 0)), (2, .ref (gad (xG X) 208)), (3, .ref (gad (xG X) 221)), (4, .int (nI i))] [] := by
  unfold KL_26 at hf
  refine r_aload_n (i := 1) C dL_law__1407 rfl 1 rfl ?_
  refine r_aload_n (i := 0) C dL_law__1408 rfl 0 rfl ?_
  refine r_iload (i := 4) C dL_law__1409 4 rfl ?_
  refine r_iconst (v := 1) C dL_law__1411 (by decide) ?_
  refine r_iadd C dL_law__1412 ?_
  obtain ⟨g1, hf⟩ := gd_of hf
  refine r_sld C hX g1 dL_law__1413 ?_
  refine r_aload_n (i := 3) C dL_law__1414 rfl 3 rfl ?_
  obtain ⟨x2, h3, e4, hf⟩ := cl2_of hf
  refine r_callSW (As := [.ref (gad (xG X) 0), .int (xs ((nI i) + (1 : Int32)).toNatClampNeg), .ref (gad (xG X) 221)]) (st := []) C (kL_before (xG X) e4) hw_210 rfl rfl (Nat.le_of_ble_eq_true rfl) (zl2 hR rfl rfl) (zlc hR (by omega) (by omega)) dL_law__1415 ?_
  refine r_istore (i := 5) (lv' := [(0, .ref b), (1, .ref (gad (xG X) 0)), (2, .ref (gad (xG X) 208)), (3, .ref (gad (xG X) 221)), (4, .int (nI i)), (5, .int x2)]) C dL_law__1418 (by decide) [1, 2, 3, 4, 5, 0] rfl ?_
  refine r_aload_n (i := 2) C dL_law__1420 rfl 2 rfl ?_
  refine r_aload_n (i := 0) C dL_law__1421 rfl 0 rfl ?_
  refine r_iload (i := 4) C dL_law__1422 4 rfl ?_
  refine r_iconst (v := 1) C dL_law__1424 (by decide) ?_
  refine r_iadd C dL_law__1425 ?_
  obtain ⟨g5, hf⟩ := gd_of hf
  refine r_sld C hX g5 dL_law__1426 ?_
  obtain ⟨x8, h6, e7, hf⟩ := cl2_of hf
  refine r_callVi (As := [.int (xs ((nI i) + (1 : Int32)).toNatClampNeg)]) (st := []) C 208 rfl (by decide) rfl (kX12_before (xG X) e7) cw_L_212 rfl rfl (Nat.le_of_ble_eq_true rfl) (zl2 hR rfl rfl) (zlc hR (by omega) (by omega)) dL_law__1427 ?_
  refine r_istore (i := 6) (lv' := [(0, .ref b), (1, .ref (gad (xG X) 0)), (2, .ref (gad (xG X) 208)), (3, .ref (gad (xG X) 221)), (4, .int (nI i)), (5, .int x2), (6, .int x8)]) C dL_law__1430 (by decide) [1, 2, 3, 4, 5, 6, 0] rfl ?_
  refine r_aload_n (i := 2) C dL_law__1432 rfl 2 rfl ?_
  refine r_callVi (As := []) (st := []) C 208 rfl (by decide) rfl (kX12_thrown (xG X)) cw_L_126 rfl rfl (Nat.le_of_ble_eq_true rfl) (zl2 hR rfl rfl) (zlc hR (by omega) (by omega)) dL_law__1433 ?_
  refine r_iload (i := 5) C dL_law__1436 5 rfl ?_
  refine r_icmp_eq C 1443 dL_law__1438 (by decide) (fun c9 => ?_) (fun c9 => ?_)
  · rw [if_pos c9] at hf
    refine r_iload (i := 5) C dL_law__1443 5 rfl ?_
    refine r_if_ne C 1460 dL_law__1445 (by decide) (fun c10 => ?_) (fun c10 => ?_)
    · rw [if_neg c10] at hf
      refine r_goto C 2395 dL_law__1460 (by decide) ?_
      obtain ⟨x11, ex11, hf⟩ := lt_of hf
      refine r_iinc (j := 4) (v := x11) (lv' := [(0, .ref b), (1, .ref (gad (xG X) 0)), (2, .ref (gad (xG X) 208)), (3, .ref (gad (xG X) 221)), (4, .int x11), (5, .int x2), (6, .int x8)]) C dL_law__2395 rfl (by rw [ex11]; rfl) (by decide) [1, 2, 3, 4, 0, 5, 6] rfl ?_
      refine r_goto C 23 dL_law__2398 (by decide) ?_
      have e99 : x11 = nI (i + 6) := by rw [ex11]; exact nI_add i 6
      rw [e99] at hf ⊢
      exact r_widen (c2 := cs + 1) (s2 := sl + 6) (by omega) (by omega) (r_lv [0, 1, 2, 3, 4] rfl (ih (i + 6) _ (cs + 1) (sl + 6) (by omega) (by omega) (by omega) hf))
    · rw [if_pos c10] at hf
      refine r_aload_n (i := 3) C dL_law__1448 rfl 3 rfl ?_
      refine r_iconst (v := 0) C dL_law__1449 (by decide) ?_
      refine r_lald C dL_law__1450 ?_
      refine r_iload (i := 6) C dL_law__1451 6 rfl ?_
      refine r_i2l C dL_law__1453 ?_
      refine r_lcmp C dL_law__1454 ?_
      refine r_if_eq C 1460 dL_law__1455 (by decide) (fun c12 => ?_) (fun c12 => ?_)
      · rw [if_pos c12] at hf
        refine r_goto C 2395 dL_law__1460 (by decide) ?_
        obtain ⟨x13, ex13, hf⟩ := lt_of hf
        refine r_iinc (j := 4) (v := x13) (lv' := [(0, .ref b), (1, .ref (gad (xG X) 0)), (2, .ref (gad (xG X) 208)), (3, .ref (gad (xG X) 221)), (4, .int x13), (5, .int x2), (6, .int x8)]) C dL_law__2395 rfl (by rw [ex13]; rfl) (by decide) [1, 2, 3, 4, 0, 5, 6] rfl ?_
        refine r_goto C 23 dL_law__2398 (by decide) ?_
        have e99 : x13 = nI (i + 6) := by rw [ex13]; exact nI_add i 6
        rw [e99] at hf ⊢
        exact r_widen (c2 := cs + 1) (s2 := sl + 6) (by omega) (by omega) (r_lv [0, 1, 2, 3, 4] rfl (ih (i + 6) _ (cs + 1) (sl + 6) (by omega) (by omega) (by omega) hf))
      · rw [if_neg c12] at hf
        refine r_iconst (v := 0) C dL_law__1458 (by decide) ?_
        exact absurd (Option.some.inj hf) (by decide)
  · rw [if_neg c9] at hf
    refine r_iconst (v := 0) C dL_law__1441 (by decide) ?_
    exact absurd (Option.some.inj hf) (by decide)
def KL_27 (xs : Nat → Int32) (Ls : Nat) (rec : Hp → Int32 → Option Int32) (h : Hp) (y : Int32) : Option Int32 := gd (inb (y + (1 : Int32)) Ls) (cl9 ((if (xs (y + (1 : Int32)).toNatClampNeg) = (0 : Int32) then some (0 : Int32) else some (1 : Int32)) : Option (Int32)) (fun v2 => cl2 (fL_seen h v2) (fun x6 h7 => gd (inb (y + (1 : Int32)) Ls) (cl9 ((if (xs (y + (1 : Int32)).toNatClampNeg) = (0 : Int32) then some (0 : Int32) else some (1 : Int32)) : Option (Int32)) (fun v10 => cl2 (fX12_seen h7 v10) (fun x16 h14 => (if (fX12_thrown h14) = x6 then (if x6 = (0 : Int32) then (if (lg_cmp ((h14 221 0).toInt64) (x16.toInt64)) = (0 : Int32) then lt9 (y + (6 : Int32)) (fun x21 => rec h14 x21) else some (0 : Int32)) else lt9 (y + (6 : Int32)) (fun x19 => rec h14 x19)) else some (0 : Int32))))))))
set_option maxHeartbeats 8000000 in
set_option maxRecDepth 100000 in
theorem tL_27 {X : Cx} {b Ls : Nat} {xs : Nat → Int32} (C : OK X cL_law_ 7 RL ret) (hR : xR X = { frames := 2048, cells := 601024, slots := 7293034, locals := 84000 }) (hX : SCR X b Ls xs) (hE : LAWQ X) (hLs : Ls ≤ 3072) {rec : Hp → Int32 → Option Int32} {i cs sl : Nat} (hi : i + 6 ≤ Ls) (h1 : cs ≤ 400 + i) (h2 : sl ≤ 60000 + 6 * i) (ih : (∀ (i : Nat) (h : Hp) (cs sl : Nat), i ≤ Ls + 6 → cs ≤ 400 + i → sl ≤ 60000 + 6 * i → rec h (nI i) = some 1 → VW X 7 h cs sl 23 [(0, .ref b), (1, .ref (gad (xG X) 0)), (2, .ref (gad (xG X) 208)), (3, .ref (gad (xG X) 221)), (4, .int (nI i))] [])) {h : Hp} (hf : KL_27 xs Ls rec h (nI i) = some 1) : VW X 7 h cs sl 1463 [(0, .ref b), (1, .ref (gad (xG X) 0)), (2, .ref (gad (xG X) 208)), (3, .ref (gad (xG X) 221)), (4, .int (nI i))] [] := by
  unfold KL_27 at hf
  refine r_aload_n (i := 1) C dL_law__1463 rfl 1 rfl ?_
  refine r_aload_n (i := 0) C dL_law__1464 rfl 0 rfl ?_
  refine r_iload (i := 4) C dL_law__1465 4 rfl ?_
  refine r_iconst (v := 1) C dL_law__1467 (by decide) ?_
  refine r_iadd C dL_law__1468 ?_
  obtain ⟨g1, hf⟩ := gd_of hf
  refine r_sld C hX g1 dL_law__1469 ?_
  obtain ⟨v2, r4, hf⟩ := cl_of hf
  have k3 : VW X 7 h cs sl 1478 [(0, .ref b), (1, .ref (gad (xG X) 0)), (2, .ref (gad (xG X) 208)), (3, .ref (gad (xG X) 221)), (4, .int (nI i))] [.int v2, .ref (gad (xG X) 0)] := by
    refine r_aload_n (i := 3) C dL_law__1478 rfl 3 rfl ?_
    obtain ⟨x6, h7, e8, hf⟩ := cl2_of hf
    refine r_callSW (As := [.ref (gad (xG X) 0), .int v2, .ref (gad (xG X) 221)]) (st := []) C (kL_seen (xG X) e8) hw_213 rfl rfl (Nat.le_of_ble_eq_true rfl) (zl2 hR rfl rfl) (zlc hR (by omega) (by omega)) dL_law__1479 ?_
    refine r_istore (i := 5) (lv' := [(0, .ref b), (1, .ref (gad (xG X) 0)), (2, .ref (gad (xG X) 208)), (3, .ref (gad (xG X) 221)), (4, .int (nI i)), (5, .int x6)]) C dL_law__1482 (by decide) [1, 2, 3, 4, 5, 0] rfl ?_
    refine r_aload_n (i := 2) C dL_law__1484 rfl 2 rfl ?_
    refine r_aload_n (i := 0) C dL_law__1485 rfl 0 rfl ?_
    refine r_iload (i := 4) C dL_law__1486 4 rfl ?_
    refine r_iconst (v := 1) C dL_law__1488 (by decide) ?_
    refine r_iadd C dL_law__1489 ?_
    obtain ⟨g9, hf⟩ := gd_of hf
    refine r_sld C hX g9 dL_law__1490 ?_
    obtain ⟨v10, r12, hf⟩ := cl_of hf
    have k11 : VW X 7 h7 (cs + 1) (sl + 6) 1499 [(0, .ref b), (1, .ref (gad (xG X) 0)), (2, .ref (gad (xG X) 208)), (3, .ref (gad (xG X) 221)), (4, .int (nI i)), (5, .int x6)] [.int v10, .ref (gad (xG X) 208)] := by
      obtain ⟨x16, h14, e15, hf⟩ := cl2_of hf
      refine r_callVi (As := [.int v10]) (st := []) C 208 rfl (by decide) rfl (kX12_seen (xG X) e15) cw_L_216 rfl rfl (Nat.le_of_ble_eq_true rfl) (zl2 hR rfl rfl) (zlc hR (by omega) (by omega)) dL_law__1499 ?_
      refine r_istore (i := 6) (lv' := [(0, .ref b), (1, .ref (gad (xG X) 0)), (2, .ref (gad (xG X) 208)), (3, .ref (gad (xG X) 221)), (4, .int (nI i)), (5, .int x6), (6, .int x16)]) C dL_law__1502 (by decide) [1, 2, 3, 4, 5, 6, 0] rfl ?_
      refine r_aload_n (i := 2) C dL_law__1504 rfl 2 rfl ?_
      refine r_callVi (As := []) (st := []) C 208 rfl (by decide) rfl (kX12_thrown (xG X)) cw_L_126 rfl rfl (Nat.le_of_ble_eq_true rfl) (zl2 hR rfl rfl) (zlc hR (by omega) (by omega)) dL_law__1505 ?_
      refine r_iload (i := 5) C dL_law__1508 5 rfl ?_
      refine r_icmp_eq C 1515 dL_law__1510 (by decide) (fun c17 => ?_) (fun c17 => ?_)
      · rw [if_pos c17] at hf
        refine r_iload (i := 5) C dL_law__1515 5 rfl ?_
        refine r_if_ne C 1532 dL_law__1517 (by decide) (fun c18 => ?_) (fun c18 => ?_)
        · rw [if_neg c18] at hf
          refine r_goto C 2395 dL_law__1532 (by decide) ?_
          obtain ⟨x19, ex19, hf⟩ := lt_of hf
          refine r_iinc (j := 4) (v := x19) (lv' := [(0, .ref b), (1, .ref (gad (xG X) 0)), (2, .ref (gad (xG X) 208)), (3, .ref (gad (xG X) 221)), (4, .int x19), (5, .int x6), (6, .int x16)]) C dL_law__2395 rfl (by rw [ex19]; rfl) (by decide) [1, 2, 3, 4, 0, 5, 6] rfl ?_
          refine r_goto C 23 dL_law__2398 (by decide) ?_
          have e99 : x19 = nI (i + 6) := by rw [ex19]; exact nI_add i 6
          rw [e99] at hf ⊢
          exact r_widen (c2 := cs + 1) (s2 := sl + 6) (by omega) (by omega) (r_lv [0, 1, 2, 3, 4] rfl (ih (i + 6) _ (cs + 1) (sl + 6) (by omega) (by omega) (by omega) hf))
        · rw [if_pos c18] at hf
          refine r_aload_n (i := 3) C dL_law__1520 rfl 3 rfl ?_
          refine r_iconst (v := 0) C dL_law__1521 (by decide) ?_
          refine r_lald C dL_law__1522 ?_
          refine r_iload (i := 6) C dL_law__1523 6 rfl ?_
          refine r_i2l C dL_law__1525 ?_
          refine r_lcmp C dL_law__1526 ?_
          refine r_if_eq C 1532 dL_law__1527 (by decide) (fun c20 => ?_) (fun c20 => ?_)
          · rw [if_pos c20] at hf
            refine r_goto C 2395 dL_law__1532 (by decide) ?_
            obtain ⟨x21, ex21, hf⟩ := lt_of hf
            refine r_iinc (j := 4) (v := x21) (lv' := [(0, .ref b), (1, .ref (gad (xG X) 0)), (2, .ref (gad (xG X) 208)), (3, .ref (gad (xG X) 221)), (4, .int x21), (5, .int x6), (6, .int x16)]) C dL_law__2395 rfl (by rw [ex21]; rfl) (by decide) [1, 2, 3, 4, 0, 5, 6] rfl ?_
            refine r_goto C 23 dL_law__2398 (by decide) ?_
            have e99 : x21 = nI (i + 6) := by rw [ex21]; exact nI_add i 6
            rw [e99] at hf ⊢
            exact r_widen (c2 := cs + 1) (s2 := sl + 6) (by omega) (by omega) (r_lv [0, 1, 2, 3, 4] rfl (ih (i + 6) _ (cs + 1) (sl + 6) (by omega) (by omega) (by omega) hf))
          · rw [if_neg c20] at hf
            refine r_iconst (v := 0) C dL_law__1530 (by decide) ?_
            exact absurd (Option.some.inj hf) (by decide)
      · rw [if_neg c17] at hf
        refine r_iconst (v := 0) C dL_law__1513 (by decide) ?_
        exact absurd (Option.some.inj hf) (by decide)
    clear hf
    have hf := r12
    refine r_if_eq C 1498 dL_law__1491 (by decide) (fun c13 => ?_) (fun c13 => ?_)
    · rw [if_pos c13] at hf
      refine r_iconst (v := 0) C dL_law__1498 (by decide) ?_
      cases hf
      exact k11
    · rw [if_neg c13] at hf
      refine r_iconst (v := 1) C dL_law__1494 (by decide) ?_
      refine r_goto C 1499 dL_law__1495 (by decide) ?_
      cases hf
      exact k11
  clear hf
  have hf := r4
  refine r_if_eq C 1477 dL_law__1470 (by decide) (fun c5 => ?_) (fun c5 => ?_)
  · rw [if_pos c5] at hf
    refine r_iconst (v := 0) C dL_law__1477 (by decide) ?_
    cases hf
    exact k3
  · rw [if_neg c5] at hf
    refine r_iconst (v := 1) C dL_law__1473 (by decide) ?_
    refine r_goto C 1478 dL_law__1474 (by decide) ?_
    cases hf
    exact k3
def KL_28 (xs : Nat → Int32) (Ls : Nat) (rec : Hp → Int32 → Option Int32) (h : Hp) (y : Int32) : Option Int32 := cl2 (fL_climb h) (fun x1 h2 => cl2 (fX12_climb h2) (fun x6 h4 => (if (fX12_thrown h4) = x1 then (if x1 = (0 : Int32) then (if (lg_cmp ((h4 221 0).toInt64) (x6.toInt64)) = (0 : Int32) then lt9 (y + (6 : Int32)) (fun x11 => rec h4 x11) else some (0 : Int32)) else lt9 (y + (6 : Int32)) (fun x9 => rec h4 x9)) else some (0 : Int32))))
set_option maxHeartbeats 8000000 in
set_option maxRecDepth 100000 in
theorem tL_28 {X : Cx} {b Ls : Nat} {xs : Nat → Int32} (C : OK X cL_law_ 7 RL ret) (hR : xR X = { frames := 2048, cells := 601024, slots := 7293034, locals := 84000 }) (hX : SCR X b Ls xs) (hE : LAWQ X) (hLs : Ls ≤ 3072) {rec : Hp → Int32 → Option Int32} {i cs sl : Nat} (hi : i + 6 ≤ Ls) (h1 : cs ≤ 400 + i) (h2 : sl ≤ 60000 + 6 * i) (ih : (∀ (i : Nat) (h : Hp) (cs sl : Nat), i ≤ Ls + 6 → cs ≤ 400 + i → sl ≤ 60000 + 6 * i → rec h (nI i) = some 1 → VW X 7 h cs sl 23 [(0, .ref b), (1, .ref (gad (xG X) 0)), (2, .ref (gad (xG X) 208)), (3, .ref (gad (xG X) 221)), (4, .int (nI i))] [])) {h : Hp} (hf : KL_28 xs Ls rec h (nI i) = some 1) : VW X 7 h cs sl 1535 [(0, .ref b), (1, .ref (gad (xG X) 0)), (2, .ref (gad (xG X) 208)), (3, .ref (gad (xG X) 221)), (4, .int (nI i))] [] := by
  unfold KL_28 at hf
  refine r_aload_n (i := 1) C dL_law__1535 rfl 1 rfl ?_
  refine r_aload_n (i := 3) C dL_law__1536 rfl 3 rfl ?_
  obtain ⟨x1, h2, e3, hf⟩ := cl2_of hf
  refine r_callSW (As := [.ref (gad (xG X) 0), .ref (gad (xG X) 221)]) (st := []) C (kL_climb (xG X) e3) hw_217 rfl rfl (Nat.le_of_ble_eq_true rfl) (zl2 hR rfl rfl) (zlc hR (by omega) (by omega)) dL_law__1537 ?_
  refine r_istore (i := 5) (lv' := [(0, .ref b), (1, .ref (gad (xG X) 0)), (2, .ref (gad (xG X) 208)), (3, .ref (gad (xG X) 221)), (4, .int (nI i)), (5, .int x1)]) C dL_law__1540 (by decide) [1, 2, 3, 4, 5, 0] rfl ?_
  refine r_aload_n (i := 2) C dL_law__1542 rfl 2 rfl ?_
  obtain ⟨x6, h4, e5, hf⟩ := cl2_of hf
  refine r_callVi (As := []) (st := []) C 208 rfl (by decide) rfl (kX12_climb (xG X) e5) cw_L_219 rfl rfl (Nat.le_of_ble_eq_true rfl) (zl2 hR rfl rfl) (zlc hR (by omega) (by omega)) dL_law__1543 ?_
  refine r_istore (i := 6) (lv' := [(0, .ref b), (1, .ref (gad (xG X) 0)), (2, .ref (gad (xG X) 208)), (3, .ref (gad (xG X) 221)), (4, .int (nI i)), (5, .int x1), (6, .int x6)]) C dL_law__1546 (by decide) [1, 2, 3, 4, 5, 6, 0] rfl ?_
  refine r_aload_n (i := 2) C dL_law__1548 rfl 2 rfl ?_
  refine r_callVi (As := []) (st := []) C 208 rfl (by decide) rfl (kX12_thrown (xG X)) cw_L_126 rfl rfl (Nat.le_of_ble_eq_true rfl) (zl2 hR rfl rfl) (zlc hR (by omega) (by omega)) dL_law__1549 ?_
  refine r_iload (i := 5) C dL_law__1552 5 rfl ?_
  refine r_icmp_eq C 1559 dL_law__1554 (by decide) (fun c7 => ?_) (fun c7 => ?_)
  · rw [if_pos c7] at hf
    refine r_iload (i := 5) C dL_law__1559 5 rfl ?_
    refine r_if_ne C 1576 dL_law__1561 (by decide) (fun c8 => ?_) (fun c8 => ?_)
    · rw [if_neg c8] at hf
      refine r_goto C 2395 dL_law__1576 (by decide) ?_
      obtain ⟨x9, ex9, hf⟩ := lt_of hf
      refine r_iinc (j := 4) (v := x9) (lv' := [(0, .ref b), (1, .ref (gad (xG X) 0)), (2, .ref (gad (xG X) 208)), (3, .ref (gad (xG X) 221)), (4, .int x9), (5, .int x1), (6, .int x6)]) C dL_law__2395 rfl (by rw [ex9]; rfl) (by decide) [1, 2, 3, 4, 0, 5, 6] rfl ?_
      refine r_goto C 23 dL_law__2398 (by decide) ?_
      have e99 : x9 = nI (i + 6) := by rw [ex9]; exact nI_add i 6
      rw [e99] at hf ⊢
      exact r_widen (c2 := cs + 1) (s2 := sl + 6) (by omega) (by omega) (r_lv [0, 1, 2, 3, 4] rfl (ih (i + 6) _ (cs + 1) (sl + 6) (by omega) (by omega) (by omega) hf))
    · rw [if_pos c8] at hf
      refine r_aload_n (i := 3) C dL_law__1564 rfl 3 rfl ?_
      refine r_iconst (v := 0) C dL_law__1565 (by decide) ?_
      refine r_lald C dL_law__1566 ?_
      refine r_iload (i := 6) C dL_law__1567 6 rfl ?_
      refine r_i2l C dL_law__1569 ?_
      refine r_lcmp C dL_law__1570 ?_
      refine r_if_eq C 1576 dL_law__1571 (by decide) (fun c10 => ?_) (fun c10 => ?_)
      · rw [if_pos c10] at hf
        refine r_goto C 2395 dL_law__1576 (by decide) ?_
        obtain ⟨x11, ex11, hf⟩ := lt_of hf
        refine r_iinc (j := 4) (v := x11) (lv' := [(0, .ref b), (1, .ref (gad (xG X) 0)), (2, .ref (gad (xG X) 208)), (3, .ref (gad (xG X) 221)), (4, .int x11), (5, .int x1), (6, .int x6)]) C dL_law__2395 rfl (by rw [ex11]; rfl) (by decide) [1, 2, 3, 4, 0, 5, 6] rfl ?_
        refine r_goto C 23 dL_law__2398 (by decide) ?_
        have e99 : x11 = nI (i + 6) := by rw [ex11]; exact nI_add i 6
        rw [e99] at hf ⊢
        exact r_widen (c2 := cs + 1) (s2 := sl + 6) (by omega) (by omega) (r_lv [0, 1, 2, 3, 4] rfl (ih (i + 6) _ (cs + 1) (sl + 6) (by omega) (by omega) (by omega) hf))
      · rw [if_neg c10] at hf
        refine r_iconst (v := 0) C dL_law__1574 (by decide) ?_
        exact absurd (Option.some.inj hf) (by decide)
  · rw [if_neg c7] at hf
    refine r_iconst (v := 0) C dL_law__1557 (by decide) ?_
    exact absurd (Option.some.inj hf) (by decide)
def KL_29 (xs : Nat → Int32) (Ls : Nat) (rec : Hp → Int32 → Option Int32) (h : Hp) (y : Int32) : Option Int32 := cl2 (fX11_duke h) (fun x3 h1 => cl2 (fX12_duke h1) (fun x6 h4 => (if x3 = x6 then lt9 (y + (6 : Int32)) (fun x8 => rec h4 x8) else some (0 : Int32))))
set_option maxHeartbeats 8000000 in
set_option maxRecDepth 100000 in
theorem tL_29 {X : Cx} {b Ls : Nat} {xs : Nat → Int32} (C : OK X cL_law_ 7 RL ret) (hR : xR X = { frames := 2048, cells := 601024, slots := 7293034, locals := 84000 }) (hX : SCR X b Ls xs) (hE : LAWQ X) (hLs : Ls ≤ 3072) {rec : Hp → Int32 → Option Int32} {i cs sl : Nat} (hi : i + 6 ≤ Ls) (h1 : cs ≤ 400 + i) (h2 : sl ≤ 60000 + 6 * i) (ih : (∀ (i : Nat) (h : Hp) (cs sl : Nat), i ≤ Ls + 6 → cs ≤ 400 + i → sl ≤ 60000 + 6 * i → rec h (nI i) = some 1 → VW X 7 h cs sl 23 [(0, .ref b), (1, .ref (gad (xG X) 0)), (2, .ref (gad (xG X) 208)), (3, .ref (gad (xG X) 221)), (4, .int (nI i))] [])) {h : Hp} (hf : KL_29 xs Ls rec h (nI i) = some 1) : VW X 7 h cs sl 1579 [(0, .ref b), (1, .ref (gad (xG X) 0)), (2, .ref (gad (xG X) 208)), (3, .ref (gad (xG X) 221)), (4, .int (nI i))] [] := by
  unfold KL_29 at hf
  refine r_aload_n (i := 1) C dL_law__1579 rfl 1 rfl ?_
  obtain ⟨x3, h1, e2, hf⟩ := cl2_of hf
  refine r_callVi (As := []) (st := []) C 0 rfl (by decide) rfl (kX11_duke (xG X) e2) cw_L_220 rfl rfl (Nat.le_of_ble_eq_true rfl) (zl2 hR rfl rfl) (zlc hR (by omega) (by omega)) dL_law__1580 ?_
  refine r_aload_n (i := 2) C dL_law__1583 rfl 2 rfl ?_
  obtain ⟨x6, h4, e5, hf⟩ := cl2_of hf
  refine r_callVi (As := []) (st := [.int x3]) C 208 rfl (by decide) rfl (kX12_duke (xG X) e5) cw_L_223 rfl rfl (Nat.le_of_ble_eq_true rfl) (zl2 hR rfl rfl) (zlc hR (by omega) (by omega)) dL_law__1584 ?_
  refine r_icmp_eq C 2395 dL_law__1587 (by decide) (fun c7 => ?_) (fun c7 => ?_)
  · rw [if_pos c7] at hf
    obtain ⟨x8, ex8, hf⟩ := lt_of hf
    refine r_iinc (j := 4) (v := x8) (lv' := [(0, .ref b), (1, .ref (gad (xG X) 0)), (2, .ref (gad (xG X) 208)), (3, .ref (gad (xG X) 221)), (4, .int x8)]) C dL_law__2395 rfl (by rw [ex8]; rfl) (by decide) [1, 2, 3, 4, 0] rfl ?_
    refine r_goto C 23 dL_law__2398 (by decide) ?_
    have e99 : x8 = nI (i + 6) := by rw [ex8]; exact nI_add i 6
    rw [e99] at hf ⊢
    exact r_widen (c2 := cs + 1) (s2 := sl + 6) (by omega) (by omega) (r_lv [0, 1, 2, 3, 4] rfl (ih (i + 6) _ (cs + 1) (sl + 6) (by omega) (by omega) (by omega) hf))
  · rw [if_neg c7] at hf
    refine r_iconst (v := 0) C dL_law__1590 (by decide) ?_
    exact absurd (Option.some.inj hf) (by decide)
def KL_30 (xs : Nat → Int32) (Ls : Nat) (rec : Hp → Int32 → Option Int32) (h : Hp) (y : Int32) : Option Int32 := gd (inb (y + (1 : Int32)) Ls) (cl2 (fL_pay h (xs (y + (1 : Int32)).toNatClampNeg)) (fun x2 h3 => gd (inb (y + (1 : Int32)) Ls) (cl2 (fX12_pay h3 (xs (y + (1 : Int32)).toNatClampNeg)) (fun x8 h6 => (if (fX12_thrown h6) = x2 then (if x2 = (0 : Int32) then (if (lg_cmp ((h6 221 0).toInt64) (x8.toInt64)) = (0 : Int32) then lt9 (y + (6 : Int32)) (fun x13 => rec h6 x13) else some (0 : Int32)) else lt9 (y + (6 : Int32)) (fun x11 => rec h6 x11)) else some (0 : Int32))))))
set_option maxHeartbeats 8000000 in
set_option maxRecDepth 100000 in
theorem tL_30 {X : Cx} {b Ls : Nat} {xs : Nat → Int32} (C : OK X cL_law_ 7 RL ret) (hR : xR X = { frames := 2048, cells := 601024, slots := 7293034, locals := 84000 }) (hX : SCR X b Ls xs) (hE : LAWQ X) (hLs : Ls ≤ 3072) {rec : Hp → Int32 → Option Int32} {i cs sl : Nat} (hi : i + 6 ≤ Ls) (h1 : cs ≤ 400 + i) (h2 : sl ≤ 60000 + 6 * i) (ih : (∀ (i : Nat) (h : Hp) (cs sl : Nat), i ≤ Ls + 6 → cs ≤ 400 + i → sl ≤ 60000 + 6 * i → rec h (nI i) = some 1 → VW X 7 h cs sl 23 [(0, .ref b), (1, .ref (gad (xG X) 0)), (2, .ref (gad (xG X) 208)), (3, .ref (gad (xG X) 221)), (4, .int (nI i))] [])) {h : Hp} (hf : KL_30 xs Ls rec h (nI i) = some 1) : VW X 7 h cs sl 1592 [(0, .ref b), (1, .ref (gad (xG X) 0)), (2, .ref (gad (xG X) 208)), (3, .ref (gad (xG X) 221)), (4, .int (nI i))] [] := by
  unfold KL_30 at hf
  refine r_aload_n (i := 1) C dL_law__1592 rfl 1 rfl ?_
  refine r_aload_n (i := 0) C dL_law__1593 rfl 0 rfl ?_
  refine r_iload (i := 4) C dL_law__1594 4 rfl ?_
  refine r_iconst (v := 1) C dL_law__1596 (by decide) ?_
  refine r_iadd C dL_law__1597 ?_
  obtain ⟨g1, hf⟩ := gd_of hf
  refine r_sld C hX g1 dL_law__1598 ?_
  refine r_aload_n (i := 3) C dL_law__1599 rfl 3 rfl ?_
  obtain ⟨x2, h3, e4, hf⟩ := cl2_of hf
  refine r_callSW (As := [.ref (gad (xG X) 0), .int (xs ((nI i) + (1 : Int32)).toNatClampNeg), .ref (gad (xG X) 221)]) (st := []) C (kL_pay (xG X) e4) hw_224 rfl rfl (Nat.le_of_ble_eq_true rfl) (zl2 hR rfl rfl) (zlc hR (by omega) (by omega)) dL_law__1600 ?_
  refine r_istore (i := 5) (lv' := [(0, .ref b), (1, .ref (gad (xG X) 0)), (2, .ref (gad (xG X) 208)), (3, .ref (gad (xG X) 221)), (4, .int (nI i)), (5, .int x2)]) C dL_law__1603 (by decide) [1, 2, 3, 4, 5, 0] rfl ?_
  refine r_aload_n (i := 2) C dL_law__1605 rfl 2 rfl ?_
  refine r_aload_n (i := 0) C dL_law__1606 rfl 0 rfl ?_
  refine r_iload (i := 4) C dL_law__1607 4 rfl ?_
  refine r_iconst (v := 1) C dL_law__1609 (by decide) ?_
  refine r_iadd C dL_law__1610 ?_
  obtain ⟨g5, hf⟩ := gd_of hf
  refine r_sld C hX g5 dL_law__1611 ?_
  obtain ⟨x8, h6, e7, hf⟩ := cl2_of hf
  refine r_callVi (As := [.int (xs ((nI i) + (1 : Int32)).toNatClampNeg)]) (st := []) C 208 rfl (by decide) rfl (kX12_pay (xG X) e7) cw_L_226 rfl rfl (Nat.le_of_ble_eq_true rfl) (zl2 hR rfl rfl) (zlc hR (by omega) (by omega)) dL_law__1612 ?_
  refine r_istore (i := 6) (lv' := [(0, .ref b), (1, .ref (gad (xG X) 0)), (2, .ref (gad (xG X) 208)), (3, .ref (gad (xG X) 221)), (4, .int (nI i)), (5, .int x2), (6, .int x8)]) C dL_law__1615 (by decide) [1, 2, 3, 4, 5, 6, 0] rfl ?_
  refine r_aload_n (i := 2) C dL_law__1617 rfl 2 rfl ?_
  refine r_callVi (As := []) (st := []) C 208 rfl (by decide) rfl (kX12_thrown (xG X)) cw_L_126 rfl rfl (Nat.le_of_ble_eq_true rfl) (zl2 hR rfl rfl) (zlc hR (by omega) (by omega)) dL_law__1618 ?_
  refine r_iload (i := 5) C dL_law__1621 5 rfl ?_
  refine r_icmp_eq C 1628 dL_law__1623 (by decide) (fun c9 => ?_) (fun c9 => ?_)
  · rw [if_pos c9] at hf
    refine r_iload (i := 5) C dL_law__1628 5 rfl ?_
    refine r_if_ne C 1645 dL_law__1630 (by decide) (fun c10 => ?_) (fun c10 => ?_)
    · rw [if_neg c10] at hf
      refine r_goto C 2395 dL_law__1645 (by decide) ?_
      obtain ⟨x11, ex11, hf⟩ := lt_of hf
      refine r_iinc (j := 4) (v := x11) (lv' := [(0, .ref b), (1, .ref (gad (xG X) 0)), (2, .ref (gad (xG X) 208)), (3, .ref (gad (xG X) 221)), (4, .int x11), (5, .int x2), (6, .int x8)]) C dL_law__2395 rfl (by rw [ex11]; rfl) (by decide) [1, 2, 3, 4, 0, 5, 6] rfl ?_
      refine r_goto C 23 dL_law__2398 (by decide) ?_
      have e99 : x11 = nI (i + 6) := by rw [ex11]; exact nI_add i 6
      rw [e99] at hf ⊢
      exact r_widen (c2 := cs + 1) (s2 := sl + 6) (by omega) (by omega) (r_lv [0, 1, 2, 3, 4] rfl (ih (i + 6) _ (cs + 1) (sl + 6) (by omega) (by omega) (by omega) hf))
    · rw [if_pos c10] at hf
      refine r_aload_n (i := 3) C dL_law__1633 rfl 3 rfl ?_
      refine r_iconst (v := 0) C dL_law__1634 (by decide) ?_
      refine r_lald C dL_law__1635 ?_
      refine r_iload (i := 6) C dL_law__1636 6 rfl ?_
      refine r_i2l C dL_law__1638 ?_
      refine r_lcmp C dL_law__1639 ?_
      refine r_if_eq C 1645 dL_law__1640 (by decide) (fun c12 => ?_) (fun c12 => ?_)
      · rw [if_pos c12] at hf
        refine r_goto C 2395 dL_law__1645 (by decide) ?_
        obtain ⟨x13, ex13, hf⟩ := lt_of hf
        refine r_iinc (j := 4) (v := x13) (lv' := [(0, .ref b), (1, .ref (gad (xG X) 0)), (2, .ref (gad (xG X) 208)), (3, .ref (gad (xG X) 221)), (4, .int x13), (5, .int x2), (6, .int x8)]) C dL_law__2395 rfl (by rw [ex13]; rfl) (by decide) [1, 2, 3, 4, 0, 5, 6] rfl ?_
        refine r_goto C 23 dL_law__2398 (by decide) ?_
        have e99 : x13 = nI (i + 6) := by rw [ex13]; exact nI_add i 6
        rw [e99] at hf ⊢
        exact r_widen (c2 := cs + 1) (s2 := sl + 6) (by omega) (by omega) (r_lv [0, 1, 2, 3, 4] rfl (ih (i + 6) _ (cs + 1) (sl + 6) (by omega) (by omega) (by omega) hf))
      · rw [if_neg c12] at hf
        refine r_iconst (v := 0) C dL_law__1643 (by decide) ?_
        exact absurd (Option.some.inj hf) (by decide)
  · rw [if_neg c9] at hf
    refine r_iconst (v := 0) C dL_law__1626 (by decide) ?_
    exact absurd (Option.some.inj hf) (by decide)
def KL_31 (xs : Nat → Int32) (Ls : Nat) (rec : Hp → Int32 → Option Int32) (h : Hp) (y : Int32) : Option Int32 := cl2 (fX11_season h) (fun x3 h1 => cl2 (fX12_season h1) (fun x6 h4 => (if x3 = x6 then lt9 (y + (6 : Int32)) (fun x8 => rec h4 x8) else some (0 : Int32))))
set_option maxHeartbeats 8000000 in
set_option maxRecDepth 100000 in
theorem tL_31 {X : Cx} {b Ls : Nat} {xs : Nat → Int32} (C : OK X cL_law_ 7 RL ret) (hR : xR X = { frames := 2048, cells := 601024, slots := 7293034, locals := 84000 }) (hX : SCR X b Ls xs) (hE : LAWQ X) (hLs : Ls ≤ 3072) {rec : Hp → Int32 → Option Int32} {i cs sl : Nat} (hi : i + 6 ≤ Ls) (h1 : cs ≤ 400 + i) (h2 : sl ≤ 60000 + 6 * i) (ih : (∀ (i : Nat) (h : Hp) (cs sl : Nat), i ≤ Ls + 6 → cs ≤ 400 + i → sl ≤ 60000 + 6 * i → rec h (nI i) = some 1 → VW X 7 h cs sl 23 [(0, .ref b), (1, .ref (gad (xG X) 0)), (2, .ref (gad (xG X) 208)), (3, .ref (gad (xG X) 221)), (4, .int (nI i))] [])) {h : Hp} (hf : KL_31 xs Ls rec h (nI i) = some 1) : VW X 7 h cs sl 1648 [(0, .ref b), (1, .ref (gad (xG X) 0)), (2, .ref (gad (xG X) 208)), (3, .ref (gad (xG X) 221)), (4, .int (nI i))] [] := by
  unfold KL_31 at hf
  refine r_aload_n (i := 1) C dL_law__1648 rfl 1 rfl ?_
  obtain ⟨x3, h1, e2, hf⟩ := cl2_of hf
  refine r_callVi (As := []) (st := []) C 0 rfl (by decide) rfl (kX11_season (xG X) e2) cw_L_227 rfl rfl (Nat.le_of_ble_eq_true rfl) (zl2 hR rfl rfl) (zlc hR (by omega) (by omega)) dL_law__1649 ?_
  refine r_aload_n (i := 2) C dL_law__1652 rfl 2 rfl ?_
  obtain ⟨x6, h4, e5, hf⟩ := cl2_of hf
  refine r_callVi (As := []) (st := [.int x3]) C 208 rfl (by decide) rfl (kX12_season (xG X) e5) cw_L_230 rfl rfl (Nat.le_of_ble_eq_true rfl) (zl2 hR rfl rfl) (zlc hR (by omega) (by omega)) dL_law__1653 ?_
  refine r_icmp_eq C 2395 dL_law__1656 (by decide) (fun c7 => ?_) (fun c7 => ?_)
  · rw [if_pos c7] at hf
    obtain ⟨x8, ex8, hf⟩ := lt_of hf
    refine r_iinc (j := 4) (v := x8) (lv' := [(0, .ref b), (1, .ref (gad (xG X) 0)), (2, .ref (gad (xG X) 208)), (3, .ref (gad (xG X) 221)), (4, .int x8)]) C dL_law__2395 rfl (by rw [ex8]; rfl) (by decide) [1, 2, 3, 4, 0] rfl ?_
    refine r_goto C 23 dL_law__2398 (by decide) ?_
    have e99 : x8 = nI (i + 6) := by rw [ex8]; exact nI_add i 6
    rw [e99] at hf ⊢
    exact r_widen (c2 := cs + 1) (s2 := sl + 6) (by omega) (by omega) (r_lv [0, 1, 2, 3, 4] rfl (ih (i + 6) _ (cs + 1) (sl + 6) (by omega) (by omega) (by omega) hf))
  · rw [if_neg c7] at hf
    refine r_iconst (v := 0) C dL_law__1659 (by decide) ?_
    exact absurd (Option.some.inj hf) (by decide)
def KL_32 (xs : Nat → Int32) (Ls : Nat) (rec : Hp → Int32 → Option Int32) (h : Hp) (y : Int32) : Option Int32 := cl2 (fX11_best h) (fun x3 h1 => cl2 (fX12_best h1) (fun x6 h4 => (if x3 = x6 then lt9 (y + (6 : Int32)) (fun x8 => rec h4 x8) else some (0 : Int32))))
set_option maxHeartbeats 8000000 in
set_option maxRecDepth 100000 in
theorem tL_32 {X : Cx} {b Ls : Nat} {xs : Nat → Int32} (C : OK X cL_law_ 7 RL ret) (hR : xR X = { frames := 2048, cells := 601024, slots := 7293034, locals := 84000 }) (hX : SCR X b Ls xs) (hE : LAWQ X) (hLs : Ls ≤ 3072) {rec : Hp → Int32 → Option Int32} {i cs sl : Nat} (hi : i + 6 ≤ Ls) (h1 : cs ≤ 400 + i) (h2 : sl ≤ 60000 + 6 * i) (ih : (∀ (i : Nat) (h : Hp) (cs sl : Nat), i ≤ Ls + 6 → cs ≤ 400 + i → sl ≤ 60000 + 6 * i → rec h (nI i) = some 1 → VW X 7 h cs sl 23 [(0, .ref b), (1, .ref (gad (xG X) 0)), (2, .ref (gad (xG X) 208)), (3, .ref (gad (xG X) 221)), (4, .int (nI i))] [])) {h : Hp} (hf : KL_32 xs Ls rec h (nI i) = some 1) : VW X 7 h cs sl 1661 [(0, .ref b), (1, .ref (gad (xG X) 0)), (2, .ref (gad (xG X) 208)), (3, .ref (gad (xG X) 221)), (4, .int (nI i))] [] := by
  unfold KL_32 at hf
  refine r_aload_n (i := 1) C dL_law__1661 rfl 1 rfl ?_
  obtain ⟨x3, h1, e2, hf⟩ := cl2_of hf
  refine r_callVi (As := []) (st := []) C 0 rfl (by decide) rfl (kX11_best (xG X) e2) cw_L_231 rfl rfl (Nat.le_of_ble_eq_true rfl) (zl2 hR rfl rfl) (zlc hR (by omega) (by omega)) dL_law__1662 ?_
  refine r_aload_n (i := 2) C dL_law__1665 rfl 2 rfl ?_
  obtain ⟨x6, h4, e5, hf⟩ := cl2_of hf
  refine r_callVi (As := []) (st := [.int x3]) C 208 rfl (by decide) rfl (kX12_best (xG X) e5) cw_L_234 rfl rfl (Nat.le_of_ble_eq_true rfl) (zl2 hR rfl rfl) (zlc hR (by omega) (by omega)) dL_law__1666 ?_
  refine r_icmp_eq C 2395 dL_law__1669 (by decide) (fun c7 => ?_) (fun c7 => ?_)
  · rw [if_pos c7] at hf
    obtain ⟨x8, ex8, hf⟩ := lt_of hf
    refine r_iinc (j := 4) (v := x8) (lv' := [(0, .ref b), (1, .ref (gad (xG X) 0)), (2, .ref (gad (xG X) 208)), (3, .ref (gad (xG X) 221)), (4, .int x8)]) C dL_law__2395 rfl (by rw [ex8]; rfl) (by decide) [1, 2, 3, 4, 0] rfl ?_
    refine r_goto C 23 dL_law__2398 (by decide) ?_
    have e99 : x8 = nI (i + 6) := by rw [ex8]; exact nI_add i 6
    rw [e99] at hf ⊢
    exact r_widen (c2 := cs + 1) (s2 := sl + 6) (by omega) (by omega) (r_lv [0, 1, 2, 3, 4] rfl (ih (i + 6) _ (cs + 1) (sl + 6) (by omega) (by omega) (by omega) hf))
  · rw [if_neg c7] at hf
    refine r_iconst (v := 0) C dL_law__1672 (by decide) ?_
    exact absurd (Option.some.inj hf) (by decide)
def KL_33 (xs : Nat → Int32) (Ls : Nat) (rec : Hp → Int32 → Option Int32) (h : Hp) (y : Int32) : Option Int32 := cl2 (fX11_lasts h) (fun x3 h1 => cl2 (fX12_lasts h1) (fun x6 h4 => (if x3 = x6 then lt9 (y + (6 : Int32)) (fun x8 => rec h4 x8) else some (0 : Int32))))
set_option maxHeartbeats 8000000 in
set_option maxRecDepth 100000 in
theorem tL_33 {X : Cx} {b Ls : Nat} {xs : Nat → Int32} (C : OK X cL_law_ 7 RL ret) (hR : xR X = { frames := 2048, cells := 601024, slots := 7293034, locals := 84000 }) (hX : SCR X b Ls xs) (hE : LAWQ X) (hLs : Ls ≤ 3072) {rec : Hp → Int32 → Option Int32} {i cs sl : Nat} (hi : i + 6 ≤ Ls) (h1 : cs ≤ 400 + i) (h2 : sl ≤ 60000 + 6 * i) (ih : (∀ (i : Nat) (h : Hp) (cs sl : Nat), i ≤ Ls + 6 → cs ≤ 400 + i → sl ≤ 60000 + 6 * i → rec h (nI i) = some 1 → VW X 7 h cs sl 23 [(0, .ref b), (1, .ref (gad (xG X) 0)), (2, .ref (gad (xG X) 208)), (3, .ref (gad (xG X) 221)), (4, .int (nI i))] [])) {h : Hp} (hf : KL_33 xs Ls rec h (nI i) = some 1) : VW X 7 h cs sl 1674 [(0, .ref b), (1, .ref (gad (xG X) 0)), (2, .ref (gad (xG X) 208)), (3, .ref (gad (xG X) 221)), (4, .int (nI i))] [] := by
  unfold KL_33 at hf
  refine r_aload_n (i := 1) C dL_law__1674 rfl 1 rfl ?_
  obtain ⟨x3, h1, e2, hf⟩ := cl2_of hf
  refine r_callVi (As := []) (st := []) C 0 rfl (by decide) rfl (kX11_lasts (xG X) e2) cw_L_235 rfl rfl (Nat.le_of_ble_eq_true rfl) (zl2 hR rfl rfl) (zlc hR (by omega) (by omega)) dL_law__1675 ?_
  refine r_aload_n (i := 2) C dL_law__1678 rfl 2 rfl ?_
  obtain ⟨x6, h4, e5, hf⟩ := cl2_of hf
  refine r_callVi (As := []) (st := [.int x3]) C 208 rfl (by decide) rfl (kX12_lasts (xG X) e5) cw_L_238 rfl rfl (Nat.le_of_ble_eq_true rfl) (zl2 hR rfl rfl) (zlc hR (by omega) (by omega)) dL_law__1679 ?_
  refine r_icmp_eq C 2395 dL_law__1682 (by decide) (fun c7 => ?_) (fun c7 => ?_)
  · rw [if_pos c7] at hf
    obtain ⟨x8, ex8, hf⟩ := lt_of hf
    refine r_iinc (j := 4) (v := x8) (lv' := [(0, .ref b), (1, .ref (gad (xG X) 0)), (2, .ref (gad (xG X) 208)), (3, .ref (gad (xG X) 221)), (4, .int x8)]) C dL_law__2395 rfl (by rw [ex8]; rfl) (by decide) [1, 2, 3, 4, 0] rfl ?_
    refine r_goto C 23 dL_law__2398 (by decide) ?_
    have e99 : x8 = nI (i + 6) := by rw [ex8]; exact nI_add i 6
    rw [e99] at hf ⊢
    exact r_widen (c2 := cs + 1) (s2 := sl + 6) (by omega) (by omega) (r_lv [0, 1, 2, 3, 4] rfl (ih (i + 6) _ (cs + 1) (sl + 6) (by omega) (by omega) (by omega) hf))
  · rw [if_neg c7] at hf
    refine r_iconst (v := 0) C dL_law__1685 (by decide) ?_
    exact absurd (Option.some.inj hf) (by decide)
def KL_34 (xs : Nat → Int32) (Ls : Nat) (rec : Hp → Int32 → Option Int32) (h : Hp) (y : Int32) : Option Int32 := gd (inb (y + (1 : Int32)) Ls) (gd (inb (y + (2 : Int32)) Ls) (cl2 (fL_stars h (xs (y + (1 : Int32)).toNatClampNeg) (xs (y + (2 : Int32)).toNatClampNeg)) (fun x3 h4 => gd (inb (y + (1 : Int32)) Ls) (gd (inb (y + (2 : Int32)) Ls) (cl2 (fX12_stars h4 (xs (y + (1 : Int32)).toNatClampNeg) (xs (y + (2 : Int32)).toNatClampNeg)) (fun x10 h8 => (if (fX12_thrown h8) = x3 then (if x3 = (0 : Int32) then (if (lg_cmp ((h8 221 0).toInt64) (x10.toInt64)) = (0 : Int32) then lt9 (y + (6 : Int32)) (fun x15 => rec h8 x15) else some (0 : Int32)) else lt9 (y + (6 : Int32)) (fun x13 => rec h8 x13)) else some (0 : Int32))))))))
set_option maxHeartbeats 8000000 in
set_option maxRecDepth 100000 in
theorem tL_34 {X : Cx} {b Ls : Nat} {xs : Nat → Int32} (C : OK X cL_law_ 7 RL ret) (hR : xR X = { frames := 2048, cells := 601024, slots := 7293034, locals := 84000 }) (hX : SCR X b Ls xs) (hE : LAWQ X) (hLs : Ls ≤ 3072) {rec : Hp → Int32 → Option Int32} {i cs sl : Nat} (hi : i + 6 ≤ Ls) (h1 : cs ≤ 400 + i) (h2 : sl ≤ 60000 + 6 * i) (ih : (∀ (i : Nat) (h : Hp) (cs sl : Nat), i ≤ Ls + 6 → cs ≤ 400 + i → sl ≤ 60000 + 6 * i → rec h (nI i) = some 1 → VW X 7 h cs sl 23 [(0, .ref b), (1, .ref (gad (xG X) 0)), (2, .ref (gad (xG X) 208)), (3, .ref (gad (xG X) 221)), (4, .int (nI i))] [])) {h : Hp} (hf : KL_34 xs Ls rec h (nI i) = some 1) : VW X 7 h cs sl 1687 [(0, .ref b), (1, .ref (gad (xG X) 0)), (2, .ref (gad (xG X) 208)), (3, .ref (gad (xG X) 221)), (4, .int (nI i))] [] := by
  unfold KL_34 at hf
  refine r_aload_n (i := 1) C dL_law__1687 rfl 1 rfl ?_
  refine r_aload_n (i := 0) C dL_law__1688 rfl 0 rfl ?_
  refine r_iload (i := 4) C dL_law__1689 4 rfl ?_
  refine r_iconst (v := 1) C dL_law__1691 (by decide) ?_
  refine r_iadd C dL_law__1692 ?_
  obtain ⟨g1, hf⟩ := gd_of hf
  refine r_sld C hX g1 dL_law__1693 ?_
  refine r_aload_n (i := 0) C dL_law__1694 rfl 0 rfl ?_
  refine r_iload (i := 4) C dL_law__1695 4 rfl ?_
  refine r_iconst (v := 2) C dL_law__1697 (by decide) ?_
  refine r_iadd C dL_law__1698 ?_
  obtain ⟨g2, hf⟩ := gd_of hf
  refine r_sld C hX g2 dL_law__1699 ?_
  refine r_aload_n (i := 3) C dL_law__1700 rfl 3 rfl ?_
  obtain ⟨x3, h4, e5, hf⟩ := cl2_of hf
  refine r_callSW (As := [.ref (gad (xG X) 0), .int (xs ((nI i) + (1 : Int32)).toNatClampNeg), .int (xs ((nI i) + (2 : Int32)).toNatClampNeg), .ref (gad (xG X) 221)]) (st := []) C (kL_stars (xG X) e5) hw_239 rfl rfl (Nat.le_of_ble_eq_true rfl) (zl2 hR rfl rfl) (zlc hR (by omega) (by omega)) dL_law__1701 ?_
  refine r_istore (i := 5) (lv' := [(0, .ref b), (1, .ref (gad (xG X) 0)), (2, .ref (gad (xG X) 208)), (3, .ref (gad (xG X) 221)), (4, .int (nI i)), (5, .int x3)]) C dL_law__1704 (by decide) [1, 2, 3, 4, 5, 0] rfl ?_
  refine r_aload_n (i := 2) C dL_law__1706 rfl 2 rfl ?_
  refine r_aload_n (i := 0) C dL_law__1707 rfl 0 rfl ?_
  refine r_iload (i := 4) C dL_law__1708 4 rfl ?_
  refine r_iconst (v := 1) C dL_law__1710 (by decide) ?_
  refine r_iadd C dL_law__1711 ?_
  obtain ⟨g6, hf⟩ := gd_of hf
  refine r_sld C hX g6 dL_law__1712 ?_
  refine r_aload_n (i := 0) C dL_law__1713 rfl 0 rfl ?_
  refine r_iload (i := 4) C dL_law__1714 4 rfl ?_
  refine r_iconst (v := 2) C dL_law__1716 (by decide) ?_
  refine r_iadd C dL_law__1717 ?_
  obtain ⟨g7, hf⟩ := gd_of hf
  refine r_sld C hX g7 dL_law__1718 ?_
  obtain ⟨x10, h8, e9, hf⟩ := cl2_of hf
  refine r_callVi (As := [.int (xs ((nI i) + (1 : Int32)).toNatClampNeg), .int (xs ((nI i) + (2 : Int32)).toNatClampNeg)]) (st := []) C 208 rfl (by decide) rfl (kX12_stars (xG X) e9) cw_L_241 rfl rfl (Nat.le_of_ble_eq_true rfl) (zl2 hR rfl rfl) (zlc hR (by omega) (by omega)) dL_law__1719 ?_
  refine r_istore (i := 6) (lv' := [(0, .ref b), (1, .ref (gad (xG X) 0)), (2, .ref (gad (xG X) 208)), (3, .ref (gad (xG X) 221)), (4, .int (nI i)), (5, .int x3), (6, .int x10)]) C dL_law__1722 (by decide) [1, 2, 3, 4, 5, 6, 0] rfl ?_
  refine r_aload_n (i := 2) C dL_law__1724 rfl 2 rfl ?_
  refine r_callVi (As := []) (st := []) C 208 rfl (by decide) rfl (kX12_thrown (xG X)) cw_L_126 rfl rfl (Nat.le_of_ble_eq_true rfl) (zl2 hR rfl rfl) (zlc hR (by omega) (by omega)) dL_law__1725 ?_
  refine r_iload (i := 5) C dL_law__1728 5 rfl ?_
  refine r_icmp_eq C 1735 dL_law__1730 (by decide) (fun c11 => ?_) (fun c11 => ?_)
  · rw [if_pos c11] at hf
    refine r_iload (i := 5) C dL_law__1735 5 rfl ?_
    refine r_if_ne C 1752 dL_law__1737 (by decide) (fun c12 => ?_) (fun c12 => ?_)
    · rw [if_neg c12] at hf
      refine r_goto C 2395 dL_law__1752 (by decide) ?_
      obtain ⟨x13, ex13, hf⟩ := lt_of hf
      refine r_iinc (j := 4) (v := x13) (lv' := [(0, .ref b), (1, .ref (gad (xG X) 0)), (2, .ref (gad (xG X) 208)), (3, .ref (gad (xG X) 221)), (4, .int x13), (5, .int x3), (6, .int x10)]) C dL_law__2395 rfl (by rw [ex13]; rfl) (by decide) [1, 2, 3, 4, 0, 5, 6] rfl ?_
      refine r_goto C 23 dL_law__2398 (by decide) ?_
      have e99 : x13 = nI (i + 6) := by rw [ex13]; exact nI_add i 6
      rw [e99] at hf ⊢
      exact r_widen (c2 := cs + 1) (s2 := sl + 6) (by omega) (by omega) (r_lv [0, 1, 2, 3, 4] rfl (ih (i + 6) _ (cs + 1) (sl + 6) (by omega) (by omega) (by omega) hf))
    · rw [if_pos c12] at hf
      refine r_aload_n (i := 3) C dL_law__1740 rfl 3 rfl ?_
      refine r_iconst (v := 0) C dL_law__1741 (by decide) ?_
      refine r_lald C dL_law__1742 ?_
      refine r_iload (i := 6) C dL_law__1743 6 rfl ?_
      refine r_i2l C dL_law__1745 ?_
      refine r_lcmp C dL_law__1746 ?_
      refine r_if_eq C 1752 dL_law__1747 (by decide) (fun c14 => ?_) (fun c14 => ?_)
      · rw [if_pos c14] at hf
        refine r_goto C 2395 dL_law__1752 (by decide) ?_
        obtain ⟨x15, ex15, hf⟩ := lt_of hf
        refine r_iinc (j := 4) (v := x15) (lv' := [(0, .ref b), (1, .ref (gad (xG X) 0)), (2, .ref (gad (xG X) 208)), (3, .ref (gad (xG X) 221)), (4, .int x15), (5, .int x3), (6, .int x10)]) C dL_law__2395 rfl (by rw [ex15]; rfl) (by decide) [1, 2, 3, 4, 0, 5, 6] rfl ?_
        refine r_goto C 23 dL_law__2398 (by decide) ?_
        have e99 : x15 = nI (i + 6) := by rw [ex15]; exact nI_add i 6
        rw [e99] at hf ⊢
        exact r_widen (c2 := cs + 1) (s2 := sl + 6) (by omega) (by omega) (r_lv [0, 1, 2, 3, 4] rfl (ih (i + 6) _ (cs + 1) (sl + 6) (by omega) (by omega) (by omega) hf))
      · rw [if_neg c14] at hf
        refine r_iconst (v := 0) C dL_law__1750 (by decide) ?_
        exact absurd (Option.some.inj hf) (by decide)
  · rw [if_neg c11] at hf
    refine r_iconst (v := 0) C dL_law__1733 (by decide) ?_
    exact absurd (Option.some.inj hf) (by decide)
def KL_35 (xs : Nat → Int32) (Ls : Nat) (rec : Hp → Int32 → Option Int32) (h : Hp) (y : Int32) : Option Int32 := cl2 (fX11_longest h) (fun x3 h1 => cl2 (fX12_longest h1) (fun x6 h4 => (if x3 = x6 then lt9 (y + (6 : Int32)) (fun x8 => rec h4 x8) else some (0 : Int32))))
set_option maxHeartbeats 8000000 in
set_option maxRecDepth 100000 in
theorem tL_35 {X : Cx} {b Ls : Nat} {xs : Nat → Int32} (C : OK X cL_law_ 7 RL ret) (hR : xR X = { frames := 2048, cells := 601024, slots := 7293034, locals := 84000 }) (hX : SCR X b Ls xs) (hE : LAWQ X) (hLs : Ls ≤ 3072) {rec : Hp → Int32 → Option Int32} {i cs sl : Nat} (hi : i + 6 ≤ Ls) (h1 : cs ≤ 400 + i) (h2 : sl ≤ 60000 + 6 * i) (ih : (∀ (i : Nat) (h : Hp) (cs sl : Nat), i ≤ Ls + 6 → cs ≤ 400 + i → sl ≤ 60000 + 6 * i → rec h (nI i) = some 1 → VW X 7 h cs sl 23 [(0, .ref b), (1, .ref (gad (xG X) 0)), (2, .ref (gad (xG X) 208)), (3, .ref (gad (xG X) 221)), (4, .int (nI i))] [])) {h : Hp} (hf : KL_35 xs Ls rec h (nI i) = some 1) : VW X 7 h cs sl 1755 [(0, .ref b), (1, .ref (gad (xG X) 0)), (2, .ref (gad (xG X) 208)), (3, .ref (gad (xG X) 221)), (4, .int (nI i))] [] := by
  unfold KL_35 at hf
  refine r_aload_n (i := 1) C dL_law__1755 rfl 1 rfl ?_
  obtain ⟨x3, h1, e2, hf⟩ := cl2_of hf
  refine r_callVi (As := []) (st := []) C 0 rfl (by decide) rfl (kX11_longest (xG X) e2) cw_L_242 rfl rfl (Nat.le_of_ble_eq_true rfl) (zl2 hR rfl rfl) (zlc hR (by omega) (by omega)) dL_law__1756 ?_
  refine r_aload_n (i := 2) C dL_law__1759 rfl 2 rfl ?_
  obtain ⟨x6, h4, e5, hf⟩ := cl2_of hf
  refine r_callVi (As := []) (st := [.int x3]) C 208 rfl (by decide) rfl (kX12_longest (xG X) e5) cw_L_245 rfl rfl (Nat.le_of_ble_eq_true rfl) (zl2 hR rfl rfl) (zlc hR (by omega) (by omega)) dL_law__1760 ?_
  refine r_icmp_eq C 2395 dL_law__1763 (by decide) (fun c7 => ?_) (fun c7 => ?_)
  · rw [if_pos c7] at hf
    obtain ⟨x8, ex8, hf⟩ := lt_of hf
    refine r_iinc (j := 4) (v := x8) (lv' := [(0, .ref b), (1, .ref (gad (xG X) 0)), (2, .ref (gad (xG X) 208)), (3, .ref (gad (xG X) 221)), (4, .int x8)]) C dL_law__2395 rfl (by rw [ex8]; rfl) (by decide) [1, 2, 3, 4, 0] rfl ?_
    refine r_goto C 23 dL_law__2398 (by decide) ?_
    have e99 : x8 = nI (i + 6) := by rw [ex8]; exact nI_add i 6
    rw [e99] at hf ⊢
    exact r_widen (c2 := cs + 1) (s2 := sl + 6) (by omega) (by omega) (r_lv [0, 1, 2, 3, 4] rfl (ih (i + 6) _ (cs + 1) (sl + 6) (by omega) (by omega) (by omega) hf))
  · rw [if_neg c7] at hf
    refine r_iconst (v := 0) C dL_law__1766 (by decide) ?_
    exact absurd (Option.some.inj hf) (by decide)

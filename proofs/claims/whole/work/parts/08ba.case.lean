def KL_0 (xs : Nat → Int32) (Ls : Nat) (rec : Hp → Int32 → Option Int32) (h : Hp) (y : Int32) : Option Int32 := gd (inb (y + (1 : Int32)) Ls) (gd (inb (y + (2 : Int32)) Ls) (gd (inb (y + (3 : Int32)) Ls) (gd (inb (y + (4 : Int32)) Ls) (gd (inb (y + (5 : Int32)) Ls) (cl2 (fX11_feed h (xs (y + (1 : Int32)).toNatClampNeg) (xs (y + (2 : Int32)).toNatClampNeg) (xs (y + (3 : Int32)).toNatClampNeg) (xs (y + (4 : Int32)).toNatClampNeg) (xs (y + (5 : Int32)).toNatClampNeg)) (fun x8 h6 => gd (inb (y + (1 : Int32)) Ls) (gd (inb (y + (2 : Int32)) Ls) (gd (inb (y + (3 : Int32)) Ls) (gd (inb (y + (4 : Int32)) Ls) (gd (inb (y + (5 : Int32)) Ls) (cl2 (fX12_feed h6 (xs (y + (1 : Int32)).toNatClampNeg) (xs (y + (2 : Int32)).toNatClampNeg) (xs (y + (3 : Int32)).toNatClampNeg) (xs (y + (4 : Int32)).toNatClampNeg) (xs (y + (5 : Int32)).toNatClampNeg)) (fun x16 h14 => (if x8 = x16 then lt9 (y + (6 : Int32)) (fun x18 => rec h14 x18) else some (0 : Int32))))))))))))))
set_option maxHeartbeats 8000000 in
set_option maxRecDepth 100000 in
theorem tL_0 {X : Cx} {b Ls : Nat} {xs : Nat → Int32} (C : OK X cL_law_ 7 RL ret) (hR : xR X = { frames := 2048, cells := 601024, slots := 7293034, locals := 84000 }) (hX : SCR X b Ls xs) (hE : LAWQ X) (hLs : Ls ≤ 3072) {rec : Hp → Int32 → Option Int32} {i cs sl : Nat} (hi : i + 6 ≤ Ls) (h1 : cs ≤ 400 + i) (h2 : sl ≤ 60000 + 6 * i) (ih : (∀ (i : Nat) (h : Hp) (cs sl : Nat), i ≤ Ls + 6 → cs ≤ 400 + i → sl ≤ 60000 + 6 * i → rec h (nI i) = some 1 → VW X 7 h cs sl 23 [(0, .ref b), (1, .ref (gad (xG X) 0)), (2, .ref (gad (xG X) 208)), (3, .ref (gad (xG X) 221)), (4, .int (nI i))] [])) {h : Hp} (hf : KL_0 xs Ls rec h (nI i) = some 1) : VW X 7 h cs sl 248 [(0, .ref b), (1, .ref (gad (xG X) 0)), (2, .ref (gad (xG X) 208)), (3, .ref (gad (xG X) 221)), (4, .int (nI i))] [] := by
  unfold KL_0 at hf
  refine r_aload_n (i := 1) C dL_law__248 rfl 1 rfl ?_
  refine r_aload_n (i := 0) C dL_law__249 rfl 0 rfl ?_
  refine r_iload (i := 4) C dL_law__250 4 rfl ?_
  refine r_iconst (v := 1) C dL_law__252 (by decide) ?_
  refine r_iadd C dL_law__253 ?_
  obtain ⟨g1, hf⟩ := gd_of hf
  refine r_sld C hX g1 dL_law__254 ?_
  refine r_aload_n (i := 0) C dL_law__255 rfl 0 rfl ?_
  refine r_iload (i := 4) C dL_law__256 4 rfl ?_
  refine r_iconst (v := 2) C dL_law__258 (by decide) ?_
  refine r_iadd C dL_law__259 ?_
  obtain ⟨g2, hf⟩ := gd_of hf
  refine r_sld C hX g2 dL_law__260 ?_
  refine r_aload_n (i := 0) C dL_law__261 rfl 0 rfl ?_
  refine r_iload (i := 4) C dL_law__262 4 rfl ?_
  refine r_iconst (v := 3) C dL_law__264 (by decide) ?_
  refine r_iadd C dL_law__265 ?_
  obtain ⟨g3, hf⟩ := gd_of hf
  refine r_sld C hX g3 dL_law__266 ?_
  refine r_aload_n (i := 0) C dL_law__267 rfl 0 rfl ?_
  refine r_iload (i := 4) C dL_law__268 4 rfl ?_
  refine r_iconst (v := 4) C dL_law__270 (by decide) ?_
  refine r_iadd C dL_law__271 ?_
  obtain ⟨g4, hf⟩ := gd_of hf
  refine r_sld C hX g4 dL_law__272 ?_
  refine r_aload_n (i := 0) C dL_law__273 rfl 0 rfl ?_
  refine r_iload (i := 4) C dL_law__274 4 rfl ?_
  refine r_iconst (v := 5) C dL_law__276 (by decide) ?_
  refine r_iadd C dL_law__277 ?_
  obtain ⟨g5, hf⟩ := gd_of hf
  refine r_sld C hX g5 dL_law__278 ?_
  obtain ⟨x8, h6, e7, hf⟩ := cl2_of hf
  refine r_callVi (As := [.int (xs ((nI i) + (1 : Int32)).toNatClampNeg), .int (xs ((nI i) + (2 : Int32)).toNatClampNeg), .int (xs ((nI i) + (3 : Int32)).toNatClampNeg), .int (xs ((nI i) + (4 : Int32)).toNatClampNeg), .int (xs ((nI i) + (5 : Int32)).toNatClampNeg)]) (st := []) C 0 rfl (by decide) rfl (kX11_feed (xG X) e7) cw_L_110 rfl rfl (Nat.le_of_ble_eq_true rfl) (zl2 hR rfl rfl) (zlc hR (by omega) (by omega)) dL_law__279 ?_
  refine r_aload_n (i := 2) C dL_law__282 rfl 2 rfl ?_
  refine r_aload_n (i := 0) C dL_law__283 rfl 0 rfl ?_
  refine r_iload (i := 4) C dL_law__284 4 rfl ?_
  refine r_iconst (v := 1) C dL_law__286 (by decide) ?_
  refine r_iadd C dL_law__287 ?_
  obtain ⟨g9, hf⟩ := gd_of hf
  refine r_sld C hX g9 dL_law__288 ?_
  refine r_aload_n (i := 0) C dL_law__289 rfl 0 rfl ?_
  refine r_iload (i := 4) C dL_law__290 4 rfl ?_
  refine r_iconst (v := 2) C dL_law__292 (by decide) ?_
  refine r_iadd C dL_law__293 ?_
  obtain ⟨g10, hf⟩ := gd_of hf
  refine r_sld C hX g10 dL_law__294 ?_
  refine r_aload_n (i := 0) C dL_law__295 rfl 0 rfl ?_
  refine r_iload (i := 4) C dL_law__296 4 rfl ?_
  refine r_iconst (v := 3) C dL_law__298 (by decide) ?_
  refine r_iadd C dL_law__299 ?_
  obtain ⟨g11, hf⟩ := gd_of hf
  refine r_sld C hX g11 dL_law__300 ?_
  refine r_aload_n (i := 0) C dL_law__301 rfl 0 rfl ?_
  refine r_iload (i := 4) C dL_law__302 4 rfl ?_
  refine r_iconst (v := 4) C dL_law__304 (by decide) ?_
  refine r_iadd C dL_law__305 ?_
  obtain ⟨g12, hf⟩ := gd_of hf
  refine r_sld C hX g12 dL_law__306 ?_
  refine r_aload_n (i := 0) C dL_law__307 rfl 0 rfl ?_
  refine r_iload (i := 4) C dL_law__308 4 rfl ?_
  refine r_iconst (v := 5) C dL_law__310 (by decide) ?_
  refine r_iadd C dL_law__311 ?_
  obtain ⟨g13, hf⟩ := gd_of hf
  refine r_sld C hX g13 dL_law__312 ?_
  obtain ⟨x16, h14, e15, hf⟩ := cl2_of hf
  refine r_callVi (As := [.int (xs ((nI i) + (1 : Int32)).toNatClampNeg), .int (xs ((nI i) + (2 : Int32)).toNatClampNeg), .int (xs ((nI i) + (3 : Int32)).toNatClampNeg), .int (xs ((nI i) + (4 : Int32)).toNatClampNeg), .int (xs ((nI i) + (5 : Int32)).toNatClampNeg)]) (st := [.int x8]) C 208 rfl (by decide) rfl (kX12_feed (xG X) e15) cw_L_114 rfl rfl (Nat.le_of_ble_eq_true rfl) (zl2 hR rfl rfl) (zlc hR (by omega) (by omega)) dL_law__313 ?_
  refine r_icmp_eq C 2395 dL_law__316 (by decide) (fun c17 => ?_) (fun c17 => ?_)
  · rw [if_pos c17] at hf
    obtain ⟨x18, ex18, hf⟩ := lt_of hf
    refine r_iinc (j := 4) (v := x18) (lv' := [(0, .ref b), (1, .ref (gad (xG X) 0)), (2, .ref (gad (xG X) 208)), (3, .ref (gad (xG X) 221)), (4, .int x18)]) C dL_law__2395 rfl (by rw [ex18]; rfl) (by decide) [1, 2, 3, 4, 0] rfl ?_
    refine r_goto C 23 dL_law__2398 (by decide) ?_
    have e99 : x18 = nI (i + 6) := by rw [ex18]; exact nI_add i 6
    rw [e99] at hf ⊢
    exact r_widen (c2 := cs + 1) (s2 := sl + 6) (by omega) (by omega) (r_lv [0, 1, 2, 3, 4] rfl (ih (i + 6) _ (cs + 1) (sl + 6) (by omega) (by omega) (by omega) hf))
  · rw [if_neg c17] at hf
    refine r_iconst (v := 0) C dL_law__319 (by decide) ?_
    exact absurd (Option.some.inj hf) (by decide)
def KL_1 (xs : Nat → Int32) (Ls : Nat) (rec : Hp → Int32 → Option Int32) (h : Hp) (y : Int32) : Option Int32 := gd (inb (y + (1 : Int32)) Ls) (cl2 (fX11_end h (xs (y + (1 : Int32)).toNatClampNeg)) (fun x4 h2 => gd (inb (y + (1 : Int32)) Ls) (cl2 (fX12_end h2 (xs (y + (1 : Int32)).toNatClampNeg)) (fun x8 h6 => (if x4 = x8 then lt9 (y + (6 : Int32)) (fun x10 => rec h6 x10) else some (0 : Int32))))))
set_option maxHeartbeats 8000000 in
set_option maxRecDepth 100000 in
theorem tL_1 {X : Cx} {b Ls : Nat} {xs : Nat → Int32} (C : OK X cL_law_ 7 RL ret) (hR : xR X = { frames := 2048, cells := 601024, slots := 7293034, locals := 84000 }) (hX : SCR X b Ls xs) (hE : LAWQ X) (hLs : Ls ≤ 3072) {rec : Hp → Int32 → Option Int32} {i cs sl : Nat} (hi : i + 6 ≤ Ls) (h1 : cs ≤ 400 + i) (h2 : sl ≤ 60000 + 6 * i) (ih : (∀ (i : Nat) (h : Hp) (cs sl : Nat), i ≤ Ls + 6 → cs ≤ 400 + i → sl ≤ 60000 + 6 * i → rec h (nI i) = some 1 → VW X 7 h cs sl 23 [(0, .ref b), (1, .ref (gad (xG X) 0)), (2, .ref (gad (xG X) 208)), (3, .ref (gad (xG X) 221)), (4, .int (nI i))] [])) {h : Hp} (hf : KL_1 xs Ls rec h (nI i) = some 1) : VW X 7 h cs sl 321 [(0, .ref b), (1, .ref (gad (xG X) 0)), (2, .ref (gad (xG X) 208)), (3, .ref (gad (xG X) 221)), (4, .int (nI i))] [] := by
  unfold KL_1 at hf
  refine r_aload_n (i := 1) C dL_law__321 rfl 1 rfl ?_
  refine r_aload_n (i := 0) C dL_law__322 rfl 0 rfl ?_
  refine r_iload (i := 4) C dL_law__323 4 rfl ?_
  refine r_iconst (v := 1) C dL_law__325 (by decide) ?_
  refine r_iadd C dL_law__326 ?_
  obtain ⟨g1, hf⟩ := gd_of hf
  refine r_sld C hX g1 dL_law__327 ?_
  obtain ⟨x4, h2, e3, hf⟩ := cl2_of hf
  refine r_callVi (As := [.int (xs ((nI i) + (1 : Int32)).toNatClampNeg)]) (st := []) C 0 rfl (by decide) rfl (kX11_end (xG X) e3) cw_L_115 rfl rfl (Nat.le_of_ble_eq_true rfl) (zl2 hR rfl rfl) (zlc hR (by omega) (by omega)) dL_law__328 ?_
  refine r_aload_n (i := 2) C dL_law__331 rfl 2 rfl ?_
  refine r_aload_n (i := 0) C dL_law__332 rfl 0 rfl ?_
  refine r_iload (i := 4) C dL_law__333 4 rfl ?_
  refine r_iconst (v := 1) C dL_law__335 (by decide) ?_
  refine r_iadd C dL_law__336 ?_
  obtain ⟨g5, hf⟩ := gd_of hf
  refine r_sld C hX g5 dL_law__337 ?_
  obtain ⟨x8, h6, e7, hf⟩ := cl2_of hf
  refine r_callVi (As := [.int (xs ((nI i) + (1 : Int32)).toNatClampNeg)]) (st := [.int x4]) C 208 rfl (by decide) rfl (kX12_end (xG X) e7) cw_L_119 rfl rfl (Nat.le_of_ble_eq_true rfl) (zl2 hR rfl rfl) (zlc hR (by omega) (by omega)) dL_law__338 ?_
  refine r_icmp_eq C 2395 dL_law__341 (by decide) (fun c9 => ?_) (fun c9 => ?_)
  · rw [if_pos c9] at hf
    obtain ⟨x10, ex10, hf⟩ := lt_of hf
    refine r_iinc (j := 4) (v := x10) (lv' := [(0, .ref b), (1, .ref (gad (xG X) 0)), (2, .ref (gad (xG X) 208)), (3, .ref (gad (xG X) 221)), (4, .int x10)]) C dL_law__2395 rfl (by rw [ex10]; rfl) (by decide) [1, 2, 3, 4, 0] rfl ?_
    refine r_goto C 23 dL_law__2398 (by decide) ?_
    have e99 : x10 = nI (i + 6) := by rw [ex10]; exact nI_add i 6
    rw [e99] at hf ⊢
    exact r_widen (c2 := cs + 1) (s2 := sl + 6) (by omega) (by omega) (r_lv [0, 1, 2, 3, 4] rfl (ih (i + 6) _ (cs + 1) (sl + 6) (by omega) (by omega) (by omega) hf))
  · rw [if_neg c9] at hf
    refine r_iconst (v := 0) C dL_law__344 (by decide) ?_
    exact absurd (Option.some.inj hf) (by decide)
def KL_2 (xs : Nat → Int32) (Ls : Nat) (rec : Hp → Int32 → Option Int32) (h : Hp) (y : Int32) : Option Int32 := cl2 (fL_sky h) (fun x1 h2 => cl2 (fX12_sky h2) (fun x6 h4 => (if (fX12_thrown h4) = x1 then (if x1 = (0 : Int32) then (if (lg_cmp ((h4 221 0).toInt64) (x6.toInt64)) = (0 : Int32) then lt9 (y + (6 : Int32)) (fun x11 => rec h4 x11) else some (0 : Int32)) else lt9 (y + (6 : Int32)) (fun x9 => rec h4 x9)) else some (0 : Int32))))
set_option maxHeartbeats 8000000 in
set_option maxRecDepth 100000 in
theorem tL_2 {X : Cx} {b Ls : Nat} {xs : Nat → Int32} (C : OK X cL_law_ 7 RL ret) (hR : xR X = { frames := 2048, cells := 601024, slots := 7293034, locals := 84000 }) (hX : SCR X b Ls xs) (hE : LAWQ X) (hLs : Ls ≤ 3072) {rec : Hp → Int32 → Option Int32} {i cs sl : Nat} (hi : i + 6 ≤ Ls) (h1 : cs ≤ 400 + i) (h2 : sl ≤ 60000 + 6 * i) (ih : (∀ (i : Nat) (h : Hp) (cs sl : Nat), i ≤ Ls + 6 → cs ≤ 400 + i → sl ≤ 60000 + 6 * i → rec h (nI i) = some 1 → VW X 7 h cs sl 23 [(0, .ref b), (1, .ref (gad (xG X) 0)), (2, .ref (gad (xG X) 208)), (3, .ref (gad (xG X) 221)), (4, .int (nI i))] [])) {h : Hp} (hf : KL_2 xs Ls rec h (nI i) = some 1) : VW X 7 h cs sl 346 [(0, .ref b), (1, .ref (gad (xG X) 0)), (2, .ref (gad (xG X) 208)), (3, .ref (gad (xG X) 221)), (4, .int (nI i))] [] := by
  unfold KL_2 at hf
  refine r_aload_n (i := 1) C dL_law__346 rfl 1 rfl ?_
  refine r_aload_n (i := 3) C dL_law__347 rfl 3 rfl ?_
  obtain ⟨x1, h2, e3, hf⟩ := cl2_of hf
  refine r_callSW (As := [.ref (gad (xG X) 0), .ref (gad (xG X) 221)]) (st := []) C (kL_sky (xG X) e3) hw_120 rfl rfl (Nat.le_of_ble_eq_true rfl) (zl2 hR rfl rfl) (zlc hR (by omega) (by omega)) dL_law__348 ?_
  refine r_istore (i := 5) (lv' := [(0, .ref b), (1, .ref (gad (xG X) 0)), (2, .ref (gad (xG X) 208)), (3, .ref (gad (xG X) 221)), (4, .int (nI i)), (5, .int x1)]) C dL_law__351 (by decide) [1, 2, 3, 4, 5, 0] rfl ?_
  refine r_aload_n (i := 2) C dL_law__353 rfl 2 rfl ?_
  obtain ⟨x6, h4, e5, hf⟩ := cl2_of hf
  refine r_callVi (As := []) (st := []) C 208 rfl (by decide) rfl (kX12_sky (xG X) e5) cw_L_125 rfl rfl (Nat.le_of_ble_eq_true rfl) (zl2 hR rfl rfl) (zlc hR (by omega) (by omega)) dL_law__354 ?_
  refine r_istore (i := 6) (lv' := [(0, .ref b), (1, .ref (gad (xG X) 0)), (2, .ref (gad (xG X) 208)), (3, .ref (gad (xG X) 221)), (4, .int (nI i)), (5, .int x1), (6, .int x6)]) C dL_law__357 (by decide) [1, 2, 3, 4, 5, 6, 0] rfl ?_
  refine r_aload_n (i := 2) C dL_law__359 rfl 2 rfl ?_
  refine r_callVi (As := []) (st := []) C 208 rfl (by decide) rfl (kX12_thrown (xG X)) cw_L_126 rfl rfl (Nat.le_of_ble_eq_true rfl) (zl2 hR rfl rfl) (zlc hR (by omega) (by omega)) dL_law__360 ?_
  refine r_iload (i := 5) C dL_law__363 5 rfl ?_
  refine r_icmp_eq C 370 dL_law__365 (by decide) (fun c7 => ?_) (fun c7 => ?_)
  · rw [if_pos c7] at hf
    refine r_iload (i := 5) C dL_law__370 5 rfl ?_
    refine r_if_ne C 387 dL_law__372 (by decide) (fun c8 => ?_) (fun c8 => ?_)
    · rw [if_neg c8] at hf
      refine r_goto C 2395 dL_law__387 (by decide) ?_
      obtain ⟨x9, ex9, hf⟩ := lt_of hf
      refine r_iinc (j := 4) (v := x9) (lv' := [(0, .ref b), (1, .ref (gad (xG X) 0)), (2, .ref (gad (xG X) 208)), (3, .ref (gad (xG X) 221)), (4, .int x9), (5, .int x1), (6, .int x6)]) C dL_law__2395 rfl (by rw [ex9]; rfl) (by decide) [1, 2, 3, 4, 0, 5, 6] rfl ?_
      refine r_goto C 23 dL_law__2398 (by decide) ?_
      have e99 : x9 = nI (i + 6) := by rw [ex9]; exact nI_add i 6
      rw [e99] at hf ⊢
      exact r_widen (c2 := cs + 1) (s2 := sl + 6) (by omega) (by omega) (r_lv [0, 1, 2, 3, 4] rfl (ih (i + 6) _ (cs + 1) (sl + 6) (by omega) (by omega) (by omega) hf))
    · rw [if_pos c8] at hf
      refine r_aload_n (i := 3) C dL_law__375 rfl 3 rfl ?_
      refine r_iconst (v := 0) C dL_law__376 (by decide) ?_
      refine r_lald C dL_law__377 ?_
      refine r_iload (i := 6) C dL_law__378 6 rfl ?_
      refine r_i2l C dL_law__380 ?_
      refine r_lcmp C dL_law__381 ?_
      refine r_if_eq C 387 dL_law__382 (by decide) (fun c10 => ?_) (fun c10 => ?_)
      · rw [if_pos c10] at hf
        refine r_goto C 2395 dL_law__387 (by decide) ?_
        obtain ⟨x11, ex11, hf⟩ := lt_of hf
        refine r_iinc (j := 4) (v := x11) (lv' := [(0, .ref b), (1, .ref (gad (xG X) 0)), (2, .ref (gad (xG X) 208)), (3, .ref (gad (xG X) 221)), (4, .int x11), (5, .int x1), (6, .int x6)]) C dL_law__2395 rfl (by rw [ex11]; rfl) (by decide) [1, 2, 3, 4, 0, 5, 6] rfl ?_
        refine r_goto C 23 dL_law__2398 (by decide) ?_
        have e99 : x11 = nI (i + 6) := by rw [ex11]; exact nI_add i 6
        rw [e99] at hf ⊢
        exact r_widen (c2 := cs + 1) (s2 := sl + 6) (by omega) (by omega) (r_lv [0, 1, 2, 3, 4] rfl (ih (i + 6) _ (cs + 1) (sl + 6) (by omega) (by omega) (by omega) hf))
      · rw [if_neg c10] at hf
        refine r_iconst (v := 0) C dL_law__385 (by decide) ?_
        exact absurd (Option.some.inj hf) (by decide)
  · rw [if_neg c7] at hf
    refine r_iconst (v := 0) C dL_law__368 (by decide) ?_
    exact absurd (Option.some.inj hf) (by decide)
def KL_3 (xs : Nat → Int32) (Ls : Nat) (rec : Hp → Int32 → Option Int32) (h : Hp) (y : Int32) : Option Int32 := cl2 (fL_law h) (fun x1 h2 => cl2 (fX12_law h2) (fun x6 h4 => (if (fX12_thrown h4) = x1 then (if x1 = (0 : Int32) then (if (lg_cmp ((h4 221 0).toInt64) (x6.toInt64)) = (0 : Int32) then lt9 (y + (6 : Int32)) (fun x11 => rec h4 x11) else some (0 : Int32)) else lt9 (y + (6 : Int32)) (fun x9 => rec h4 x9)) else some (0 : Int32))))
set_option maxHeartbeats 8000000 in
set_option maxRecDepth 100000 in
theorem tL_3 {X : Cx} {b Ls : Nat} {xs : Nat → Int32} (C : OK X cL_law_ 7 RL ret) (hR : xR X = { frames := 2048, cells := 601024, slots := 7293034, locals := 84000 }) (hX : SCR X b Ls xs) (hE : LAWQ X) (hLs : Ls ≤ 3072) {rec : Hp → Int32 → Option Int32} {i cs sl : Nat} (hi : i + 6 ≤ Ls) (h1 : cs ≤ 400 + i) (h2 : sl ≤ 60000 + 6 * i) (ih : (∀ (i : Nat) (h : Hp) (cs sl : Nat), i ≤ Ls + 6 → cs ≤ 400 + i → sl ≤ 60000 + 6 * i → rec h (nI i) = some 1 → VW X 7 h cs sl 23 [(0, .ref b), (1, .ref (gad (xG X) 0)), (2, .ref (gad (xG X) 208)), (3, .ref (gad (xG X) 221)), (4, .int (nI i))] [])) {h : Hp} (hf : KL_3 xs Ls rec h (nI i) = some 1) : VW X 7 h cs sl 390 [(0, .ref b), (1, .ref (gad (xG X) 0)), (2, .ref (gad (xG X) 208)), (3, .ref (gad (xG X) 221)), (4, .int (nI i))] [] := by
  unfold KL_3 at hf
  refine r_aload_n (i := 1) C dL_law__390 rfl 1 rfl ?_
  refine r_aload_n (i := 3) C dL_law__391 rfl 3 rfl ?_
  obtain ⟨x1, h2, e3, hf⟩ := cl2_of hf
  refine r_callSW (As := [.ref (gad (xG X) 0), .ref (gad (xG X) 221)]) (st := []) C (kL_law (xG X) e3) hw_129 rfl rfl (Nat.le_of_ble_eq_true rfl) (zl2 hR rfl rfl) (zlc hR (by omega) (by omega)) dL_law__392 ?_
  refine r_istore (i := 5) (lv' := [(0, .ref b), (1, .ref (gad (xG X) 0)), (2, .ref (gad (xG X) 208)), (3, .ref (gad (xG X) 221)), (4, .int (nI i)), (5, .int x1)]) C dL_law__395 (by decide) [1, 2, 3, 4, 5, 0] rfl ?_
  refine r_aload_n (i := 2) C dL_law__397 rfl 2 rfl ?_
  obtain ⟨x6, h4, e5, hf⟩ := cl2_of hf
  refine r_callVi (As := []) (st := []) C 208 rfl (by decide) rfl (kX12_law (xG X) e5) cw_L_131 rfl rfl (Nat.le_of_ble_eq_true rfl) (zl2 hR rfl rfl) (zlc hR (by omega) (by omega)) dL_law__398 ?_
  refine r_istore (i := 6) (lv' := [(0, .ref b), (1, .ref (gad (xG X) 0)), (2, .ref (gad (xG X) 208)), (3, .ref (gad (xG X) 221)), (4, .int (nI i)), (5, .int x1), (6, .int x6)]) C dL_law__401 (by decide) [1, 2, 3, 4, 5, 6, 0] rfl ?_
  refine r_aload_n (i := 2) C dL_law__403 rfl 2 rfl ?_
  refine r_callVi (As := []) (st := []) C 208 rfl (by decide) rfl (kX12_thrown (xG X)) cw_L_126 rfl rfl (Nat.le_of_ble_eq_true rfl) (zl2 hR rfl rfl) (zlc hR (by omega) (by omega)) dL_law__404 ?_
  refine r_iload (i := 5) C dL_law__407 5 rfl ?_
  refine r_icmp_eq C 414 dL_law__409 (by decide) (fun c7 => ?_) (fun c7 => ?_)
  · rw [if_pos c7] at hf
    refine r_iload (i := 5) C dL_law__414 5 rfl ?_
    refine r_if_ne C 431 dL_law__416 (by decide) (fun c8 => ?_) (fun c8 => ?_)
    · rw [if_neg c8] at hf
      refine r_goto C 2395 dL_law__431 (by decide) ?_
      obtain ⟨x9, ex9, hf⟩ := lt_of hf
      refine r_iinc (j := 4) (v := x9) (lv' := [(0, .ref b), (1, .ref (gad (xG X) 0)), (2, .ref (gad (xG X) 208)), (3, .ref (gad (xG X) 221)), (4, .int x9), (5, .int x1), (6, .int x6)]) C dL_law__2395 rfl (by rw [ex9]; rfl) (by decide) [1, 2, 3, 4, 0, 5, 6] rfl ?_
      refine r_goto C 23 dL_law__2398 (by decide) ?_
      have e99 : x9 = nI (i + 6) := by rw [ex9]; exact nI_add i 6
      rw [e99] at hf ⊢
      exact r_widen (c2 := cs + 1) (s2 := sl + 6) (by omega) (by omega) (r_lv [0, 1, 2, 3, 4] rfl (ih (i + 6) _ (cs + 1) (sl + 6) (by omega) (by omega) (by omega) hf))
    · rw [if_pos c8] at hf
      refine r_aload_n (i := 3) C dL_law__419 rfl 3 rfl ?_
      refine r_iconst (v := 0) C dL_law__420 (by decide) ?_
      refine r_lald C dL_law__421 ?_
      refine r_iload (i := 6) C dL_law__422 6 rfl ?_
      refine r_i2l C dL_law__424 ?_
      refine r_lcmp C dL_law__425 ?_
      refine r_if_eq C 431 dL_law__426 (by decide) (fun c10 => ?_) (fun c10 => ?_)
      · rw [if_pos c10] at hf
        refine r_goto C 2395 dL_law__431 (by decide) ?_
        obtain ⟨x11, ex11, hf⟩ := lt_of hf
        refine r_iinc (j := 4) (v := x11) (lv' := [(0, .ref b), (1, .ref (gad (xG X) 0)), (2, .ref (gad (xG X) 208)), (3, .ref (gad (xG X) 221)), (4, .int x11), (5, .int x1), (6, .int x6)]) C dL_law__2395 rfl (by rw [ex11]; rfl) (by decide) [1, 2, 3, 4, 0, 5, 6] rfl ?_
        refine r_goto C 23 dL_law__2398 (by decide) ?_
        have e99 : x11 = nI (i + 6) := by rw [ex11]; exact nI_add i 6
        rw [e99] at hf ⊢
        exact r_widen (c2 := cs + 1) (s2 := sl + 6) (by omega) (by omega) (r_lv [0, 1, 2, 3, 4] rfl (ih (i + 6) _ (cs + 1) (sl + 6) (by omega) (by omega) (by omega) hf))
      · rw [if_neg c10] at hf
        refine r_iconst (v := 0) C dL_law__429 (by decide) ?_
        exact absurd (Option.some.inj hf) (by decide)
  · rw [if_neg c7] at hf
    refine r_iconst (v := 0) C dL_law__412 (by decide) ?_
    exact absurd (Option.some.inj hf) (by decide)
def KL_4 (xs : Nat → Int32) (Ls : Nat) (rec : Hp → Int32 → Option Int32) (h : Hp) (y : Int32) : Option Int32 := cl2 (fX12_fault h) (fun x3 h1 => (if (fX11_fault h) = x3 then lt9 (y + (6 : Int32)) (fun x5 => rec h1 x5) else some (0 : Int32)))
set_option maxHeartbeats 8000000 in
set_option maxRecDepth 100000 in
theorem tL_4 {X : Cx} {b Ls : Nat} {xs : Nat → Int32} (C : OK X cL_law_ 7 RL ret) (hR : xR X = { frames := 2048, cells := 601024, slots := 7293034, locals := 84000 }) (hX : SCR X b Ls xs) (hE : LAWQ X) (hLs : Ls ≤ 3072) {rec : Hp → Int32 → Option Int32} {i cs sl : Nat} (hi : i + 6 ≤ Ls) (h1 : cs ≤ 400 + i) (h2 : sl ≤ 60000 + 6 * i) (ih : (∀ (i : Nat) (h : Hp) (cs sl : Nat), i ≤ Ls + 6 → cs ≤ 400 + i → sl ≤ 60000 + 6 * i → rec h (nI i) = some 1 → VW X 7 h cs sl 23 [(0, .ref b), (1, .ref (gad (xG X) 0)), (2, .ref (gad (xG X) 208)), (3, .ref (gad (xG X) 221)), (4, .int (nI i))] [])) {h : Hp} (hf : KL_4 xs Ls rec h (nI i) = some 1) : VW X 7 h cs sl 434 [(0, .ref b), (1, .ref (gad (xG X) 0)), (2, .ref (gad (xG X) 208)), (3, .ref (gad (xG X) 221)), (4, .int (nI i))] [] := by
  unfold KL_4 at hf
  refine r_aload_n (i := 1) C dL_law__434 rfl 1 rfl ?_
  refine r_callVi (As := []) (st := []) C 0 rfl (by decide) rfl (kX11_fault (xG X)) cw_L_132 rfl rfl (Nat.le_of_ble_eq_true rfl) (zl2 hR rfl rfl) (zlc hR (by omega) (by omega)) dL_law__435 ?_
  refine r_aload_n (i := 2) C dL_law__438 rfl 2 rfl ?_
  obtain ⟨x3, h1, e2, hf⟩ := cl2_of hf
  refine r_callVi (As := []) (st := [.int (fX11_fault h)]) C 208 rfl (by decide) rfl (kX12_fault (xG X) e2) cw_L_135 rfl rfl (Nat.le_of_ble_eq_true rfl) (zl2 hR rfl rfl) (zlc hR (by omega) (by omega)) dL_law__439 ?_
  refine r_icmp_eq C 2395 dL_law__442 (by decide) (fun c4 => ?_) (fun c4 => ?_)
  · rw [if_pos c4] at hf
    obtain ⟨x5, ex5, hf⟩ := lt_of hf
    refine r_iinc (j := 4) (v := x5) (lv' := [(0, .ref b), (1, .ref (gad (xG X) 0)), (2, .ref (gad (xG X) 208)), (3, .ref (gad (xG X) 221)), (4, .int x5)]) C dL_law__2395 rfl (by rw [ex5]; rfl) (by decide) [1, 2, 3, 4, 0] rfl ?_
    refine r_goto C 23 dL_law__2398 (by decide) ?_
    have e99 : x5 = nI (i + 6) := by rw [ex5]; exact nI_add i 6
    rw [e99] at hf ⊢
    exact r_widen (c2 := cs + 1) (s2 := sl + 6) (by omega) (by omega) (r_lv [0, 1, 2, 3, 4] rfl (ih (i + 6) _ (cs + 1) (sl + 6) (by omega) (by omega) (by omega) hf))
  · rw [if_neg c4] at hf
    refine r_iconst (v := 0) C dL_law__445 (by decide) ?_
    exact absurd (Option.some.inj hf) (by decide)
def KL_5 (xs : Nat → Int32) (Ls : Nat) (rec : Hp → Int32 → Option Int32) (h : Hp) (y : Int32) : Option Int32 := gd (inb (y + (1 : Int32)) Ls) (gd (inb (y + (2 : Int32)) Ls) (cl2 (fL_place h (xs (y + (1 : Int32)).toNatClampNeg) (xs (y + (2 : Int32)).toNatClampNeg)) (fun x3 h4 => gd (inb (y + (1 : Int32)) Ls) (gd (inb (y + (2 : Int32)) Ls) (cl2 (fX12_place h4 (xs (y + (1 : Int32)).toNatClampNeg) (xs (y + (2 : Int32)).toNatClampNeg)) (fun x10 h8 => (if (fX12_thrown h8) = x3 then (if x3 = (0 : Int32) then (if (lg_cmp ((h8 221 0).toInt64) (x10.toInt64)) = (0 : Int32) then lt9 (y + (6 : Int32)) (fun x15 => rec h8 x15) else some (0 : Int32)) else lt9 (y + (6 : Int32)) (fun x13 => rec h8 x13)) else some (0 : Int32))))))))
set_option maxHeartbeats 8000000 in
set_option maxRecDepth 100000 in
theorem tL_5 {X : Cx} {b Ls : Nat} {xs : Nat → Int32} (C : OK X cL_law_ 7 RL ret) (hR : xR X = { frames := 2048, cells := 601024, slots := 7293034, locals := 84000 }) (hX : SCR X b Ls xs) (hE : LAWQ X) (hLs : Ls ≤ 3072) {rec : Hp → Int32 → Option Int32} {i cs sl : Nat} (hi : i + 6 ≤ Ls) (h1 : cs ≤ 400 + i) (h2 : sl ≤ 60000 + 6 * i) (ih : (∀ (i : Nat) (h : Hp) (cs sl : Nat), i ≤ Ls + 6 → cs ≤ 400 + i → sl ≤ 60000 + 6 * i → rec h (nI i) = some 1 → VW X 7 h cs sl 23 [(0, .ref b), (1, .ref (gad (xG X) 0)), (2, .ref (gad (xG X) 208)), (3, .ref (gad (xG X) 221)), (4, .int (nI i))] [])) {h : Hp} (hf : KL_5 xs Ls rec h (nI i) = some 1) : VW X 7 h cs sl 447 [(0, .ref b), (1, .ref (gad (xG X) 0)), (2, .ref (gad (xG X) 208)), (3, .ref (gad (xG X) 221)), (4, .int (nI i))] [] := by
  unfold KL_5 at hf
  refine r_aload_n (i := 1) C dL_law__447 rfl 1 rfl ?_
  refine r_aload_n (i := 0) C dL_law__448 rfl 0 rfl ?_
  refine r_iload (i := 4) C dL_law__449 4 rfl ?_
  refine r_iconst (v := 1) C dL_law__451 (by decide) ?_
  refine r_iadd C dL_law__452 ?_
  obtain ⟨g1, hf⟩ := gd_of hf
  refine r_sld C hX g1 dL_law__453 ?_
  refine r_aload_n (i := 0) C dL_law__454 rfl 0 rfl ?_
  refine r_iload (i := 4) C dL_law__455 4 rfl ?_
  refine r_iconst (v := 2) C dL_law__457 (by decide) ?_
  refine r_iadd C dL_law__458 ?_
  obtain ⟨g2, hf⟩ := gd_of hf
  refine r_sld C hX g2 dL_law__459 ?_
  refine r_aload_n (i := 3) C dL_law__460 rfl 3 rfl ?_
  obtain ⟨x3, h4, e5, hf⟩ := cl2_of hf
  refine r_callSW (As := [.ref (gad (xG X) 0), .int (xs ((nI i) + (1 : Int32)).toNatClampNeg), .int (xs ((nI i) + (2 : Int32)).toNatClampNeg), .ref (gad (xG X) 221)]) (st := []) C (kL_place (xG X) e5) hw_136 rfl rfl (Nat.le_of_ble_eq_true rfl) (zl2 hR rfl rfl) (zlc hR (by omega) (by omega)) dL_law__461 ?_
  refine r_istore (i := 5) (lv' := [(0, .ref b), (1, .ref (gad (xG X) 0)), (2, .ref (gad (xG X) 208)), (3, .ref (gad (xG X) 221)), (4, .int (nI i)), (5, .int x3)]) C dL_law__464 (by decide) [1, 2, 3, 4, 5, 0] rfl ?_
  refine r_aload_n (i := 2) C dL_law__466 rfl 2 rfl ?_
  refine r_aload_n (i := 0) C dL_law__467 rfl 0 rfl ?_
  refine r_iload (i := 4) C dL_law__468 4 rfl ?_
  refine r_iconst (v := 1) C dL_law__470 (by decide) ?_
  refine r_iadd C dL_law__471 ?_
  obtain ⟨g6, hf⟩ := gd_of hf
  refine r_sld C hX g6 dL_law__472 ?_
  refine r_aload_n (i := 0) C dL_law__473 rfl 0 rfl ?_
  refine r_iload (i := 4) C dL_law__474 4 rfl ?_
  refine r_iconst (v := 2) C dL_law__476 (by decide) ?_
  refine r_iadd C dL_law__477 ?_
  obtain ⟨g7, hf⟩ := gd_of hf
  refine r_sld C hX g7 dL_law__478 ?_
  obtain ⟨x10, h8, e9, hf⟩ := cl2_of hf
  refine r_callVi (As := [.int (xs ((nI i) + (1 : Int32)).toNatClampNeg), .int (xs ((nI i) + (2 : Int32)).toNatClampNeg)]) (st := []) C 208 rfl (by decide) rfl (kX12_place (xG X) e9) cw_L_139 rfl rfl (Nat.le_of_ble_eq_true rfl) (zl2 hR rfl rfl) (zlc hR (by omega) (by omega)) dL_law__479 ?_
  refine r_istore (i := 6) (lv' := [(0, .ref b), (1, .ref (gad (xG X) 0)), (2, .ref (gad (xG X) 208)), (3, .ref (gad (xG X) 221)), (4, .int (nI i)), (5, .int x3), (6, .int x10)]) C dL_law__482 (by decide) [1, 2, 3, 4, 5, 6, 0] rfl ?_
  refine r_aload_n (i := 2) C dL_law__484 rfl 2 rfl ?_
  refine r_callVi (As := []) (st := []) C 208 rfl (by decide) rfl (kX12_thrown (xG X)) cw_L_126 rfl rfl (Nat.le_of_ble_eq_true rfl) (zl2 hR rfl rfl) (zlc hR (by omega) (by omega)) dL_law__485 ?_
  refine r_iload (i := 5) C dL_law__488 5 rfl ?_
  refine r_icmp_eq C 495 dL_law__490 (by decide) (fun c11 => ?_) (fun c11 => ?_)
  · rw [if_pos c11] at hf
    refine r_iload (i := 5) C dL_law__495 5 rfl ?_
    refine r_if_ne C 512 dL_law__497 (by decide) (fun c12 => ?_) (fun c12 => ?_)
    · rw [if_neg c12] at hf
      refine r_goto C 2395 dL_law__512 (by decide) ?_
      obtain ⟨x13, ex13, hf⟩ := lt_of hf
      refine r_iinc (j := 4) (v := x13) (lv' := [(0, .ref b), (1, .ref (gad (xG X) 0)), (2, .ref (gad (xG X) 208)), (3, .ref (gad (xG X) 221)), (4, .int x13), (5, .int x3), (6, .int x10)]) C dL_law__2395 rfl (by rw [ex13]; rfl) (by decide) [1, 2, 3, 4, 0, 5, 6] rfl ?_
      refine r_goto C 23 dL_law__2398 (by decide) ?_
      have e99 : x13 = nI (i + 6) := by rw [ex13]; exact nI_add i 6
      rw [e99] at hf ⊢
      exact r_widen (c2 := cs + 1) (s2 := sl + 6) (by omega) (by omega) (r_lv [0, 1, 2, 3, 4] rfl (ih (i + 6) _ (cs + 1) (sl + 6) (by omega) (by omega) (by omega) hf))
    · rw [if_pos c12] at hf
      refine r_aload_n (i := 3) C dL_law__500 rfl 3 rfl ?_
      refine r_iconst (v := 0) C dL_law__501 (by decide) ?_
      refine r_lald C dL_law__502 ?_
      refine r_iload (i := 6) C dL_law__503 6 rfl ?_
      refine r_i2l C dL_law__505 ?_
      refine r_lcmp C dL_law__506 ?_
      refine r_if_eq C 512 dL_law__507 (by decide) (fun c14 => ?_) (fun c14 => ?_)
      · rw [if_pos c14] at hf
        refine r_goto C 2395 dL_law__512 (by decide) ?_
        obtain ⟨x15, ex15, hf⟩ := lt_of hf
        refine r_iinc (j := 4) (v := x15) (lv' := [(0, .ref b), (1, .ref (gad (xG X) 0)), (2, .ref (gad (xG X) 208)), (3, .ref (gad (xG X) 221)), (4, .int x15), (5, .int x3), (6, .int x10)]) C dL_law__2395 rfl (by rw [ex15]; rfl) (by decide) [1, 2, 3, 4, 0, 5, 6] rfl ?_
        refine r_goto C 23 dL_law__2398 (by decide) ?_
        have e99 : x15 = nI (i + 6) := by rw [ex15]; exact nI_add i 6
        rw [e99] at hf ⊢
        exact r_widen (c2 := cs + 1) (s2 := sl + 6) (by omega) (by omega) (r_lv [0, 1, 2, 3, 4] rfl (ih (i + 6) _ (cs + 1) (sl + 6) (by omega) (by omega) (by omega) hf))
      · rw [if_neg c14] at hf
        refine r_iconst (v := 0) C dL_law__510 (by decide) ?_
        exact absurd (Option.some.inj hf) (by decide)
  · rw [if_neg c11] at hf
    refine r_iconst (v := 0) C dL_law__493 (by decide) ?_
    exact absurd (Option.some.inj hf) (by decide)
def KL_6 (xs : Nat → Int32) (Ls : Nat) (rec : Hp → Int32 → Option Int32) (h : Hp) (y : Int32) : Option Int32 := gd (inb (y + (1 : Int32)) Ls) (gd (inb (y + (2 : Int32)) Ls) (cl2 (fL_pinner h (xs (y + (1 : Int32)).toNatClampNeg) (xs (y + (2 : Int32)).toNatClampNeg)) (fun x3 h4 => gd (inb (y + (1 : Int32)) Ls) (gd (inb (y + (2 : Int32)) Ls) (cl2 (fX12_pinner h4 (xs (y + (1 : Int32)).toNatClampNeg) (xs (y + (2 : Int32)).toNatClampNeg)) (fun x10 h8 => (if (fX12_thrown h8) = x3 then (if x3 = (0 : Int32) then (if (lg_cmp ((h8 221 0).toInt64) (x10.toInt64)) = (0 : Int32) then lt9 (y + (6 : Int32)) (fun x15 => rec h8 x15) else some (0 : Int32)) else lt9 (y + (6 : Int32)) (fun x13 => rec h8 x13)) else some (0 : Int32))))))))
set_option maxHeartbeats 8000000 in
set_option maxRecDepth 100000 in
theorem tL_6 {X : Cx} {b Ls : Nat} {xs : Nat → Int32} (C : OK X cL_law_ 7 RL ret) (hR : xR X = { frames := 2048, cells := 601024, slots := 7293034, locals := 84000 }) (hX : SCR X b Ls xs) (hE : LAWQ X) (hLs : Ls ≤ 3072) {rec : Hp → Int32 → Option Int32} {i cs sl : Nat} (hi : i + 6 ≤ Ls) (h1 : cs ≤ 400 + i) (h2 : sl ≤ 60000 + 6 * i) (ih : (∀ (i : Nat) (h : Hp) (cs sl : Nat), i ≤ Ls + 6 → cs ≤ 400 + i → sl ≤ 60000 + 6 * i → rec h (nI i) = some 1 → VW X 7 h cs sl 23 [(0, .ref b), (1, .ref (gad (xG X) 0)), (2, .ref (gad (xG X) 208)), (3, .ref (gad (xG X) 221)), (4, .int (nI i))] [])) {h : Hp} (hf : KL_6 xs Ls rec h (nI i) = some 1) : VW X 7 h cs sl 515 [(0, .ref b), (1, .ref (gad (xG X) 0)), (2, .ref (gad (xG X) 208)), (3, .ref (gad (xG X) 221)), (4, .int (nI i))] [] := by
  unfold KL_6 at hf
  refine r_aload_n (i := 1) C dL_law__515 rfl 1 rfl ?_
  refine r_aload_n (i := 0) C dL_law__516 rfl 0 rfl ?_
  refine r_iload (i := 4) C dL_law__517 4 rfl ?_
  refine r_iconst (v := 1) C dL_law__519 (by decide) ?_
  refine r_iadd C dL_law__520 ?_
  obtain ⟨g1, hf⟩ := gd_of hf
  refine r_sld C hX g1 dL_law__521 ?_
  refine r_aload_n (i := 0) C dL_law__522 rfl 0 rfl ?_
  refine r_iload (i := 4) C dL_law__523 4 rfl ?_
  refine r_iconst (v := 2) C dL_law__525 (by decide) ?_
  refine r_iadd C dL_law__526 ?_
  obtain ⟨g2, hf⟩ := gd_of hf
  refine r_sld C hX g2 dL_law__527 ?_
  refine r_aload_n (i := 3) C dL_law__528 rfl 3 rfl ?_
  obtain ⟨x3, h4, e5, hf⟩ := cl2_of hf
  refine r_callSW (As := [.ref (gad (xG X) 0), .int (xs ((nI i) + (1 : Int32)).toNatClampNeg), .int (xs ((nI i) + (2 : Int32)).toNatClampNeg), .ref (gad (xG X) 221)]) (st := []) C (kL_pinner (xG X) e5) hw_140 rfl rfl (Nat.le_of_ble_eq_true rfl) (zl2 hR rfl rfl) (zlc hR (by omega) (by omega)) dL_law__529 ?_
  refine r_istore (i := 5) (lv' := [(0, .ref b), (1, .ref (gad (xG X) 0)), (2, .ref (gad (xG X) 208)), (3, .ref (gad (xG X) 221)), (4, .int (nI i)), (5, .int x3)]) C dL_law__532 (by decide) [1, 2, 3, 4, 5, 0] rfl ?_
  refine r_aload_n (i := 2) C dL_law__534 rfl 2 rfl ?_
  refine r_aload_n (i := 0) C dL_law__535 rfl 0 rfl ?_
  refine r_iload (i := 4) C dL_law__536 4 rfl ?_
  refine r_iconst (v := 1) C dL_law__538 (by decide) ?_
  refine r_iadd C dL_law__539 ?_
  obtain ⟨g6, hf⟩ := gd_of hf
  refine r_sld C hX g6 dL_law__540 ?_
  refine r_aload_n (i := 0) C dL_law__541 rfl 0 rfl ?_
  refine r_iload (i := 4) C dL_law__542 4 rfl ?_
  refine r_iconst (v := 2) C dL_law__544 (by decide) ?_
  refine r_iadd C dL_law__545 ?_
  obtain ⟨g7, hf⟩ := gd_of hf
  refine r_sld C hX g7 dL_law__546 ?_
  obtain ⟨x10, h8, e9, hf⟩ := cl2_of hf
  refine r_callVi (As := [.int (xs ((nI i) + (1 : Int32)).toNatClampNeg), .int (xs ((nI i) + (2 : Int32)).toNatClampNeg)]) (st := []) C 208 rfl (by decide) rfl (kX12_pinner (xG X) e9) cw_L_142 rfl rfl (Nat.le_of_ble_eq_true rfl) (zl2 hR rfl rfl) (zlc hR (by omega) (by omega)) dL_law__547 ?_
  refine r_istore (i := 6) (lv' := [(0, .ref b), (1, .ref (gad (xG X) 0)), (2, .ref (gad (xG X) 208)), (3, .ref (gad (xG X) 221)), (4, .int (nI i)), (5, .int x3), (6, .int x10)]) C dL_law__550 (by decide) [1, 2, 3, 4, 5, 6, 0] rfl ?_
  refine r_aload_n (i := 2) C dL_law__552 rfl 2 rfl ?_
  refine r_callVi (As := []) (st := []) C 208 rfl (by decide) rfl (kX12_thrown (xG X)) cw_L_126 rfl rfl (Nat.le_of_ble_eq_true rfl) (zl2 hR rfl rfl) (zlc hR (by omega) (by omega)) dL_law__553 ?_
  refine r_iload (i := 5) C dL_law__556 5 rfl ?_
  refine r_icmp_eq C 563 dL_law__558 (by decide) (fun c11 => ?_) (fun c11 => ?_)
  · rw [if_pos c11] at hf
    refine r_iload (i := 5) C dL_law__563 5 rfl ?_
    refine r_if_ne C 580 dL_law__565 (by decide) (fun c12 => ?_) (fun c12 => ?_)
    · rw [if_neg c12] at hf
      refine r_goto C 2395 dL_law__580 (by decide) ?_
      obtain ⟨x13, ex13, hf⟩ := lt_of hf
      refine r_iinc (j := 4) (v := x13) (lv' := [(0, .ref b), (1, .ref (gad (xG X) 0)), (2, .ref (gad (xG X) 208)), (3, .ref (gad (xG X) 221)), (4, .int x13), (5, .int x3), (6, .int x10)]) C dL_law__2395 rfl (by rw [ex13]; rfl) (by decide) [1, 2, 3, 4, 0, 5, 6] rfl ?_
      refine r_goto C 23 dL_law__2398 (by decide) ?_
      have e99 : x13 = nI (i + 6) := by rw [ex13]; exact nI_add i 6
      rw [e99] at hf ⊢
      exact r_widen (c2 := cs + 1) (s2 := sl + 6) (by omega) (by omega) (r_lv [0, 1, 2, 3, 4] rfl (ih (i + 6) _ (cs + 1) (sl + 6) (by omega) (by omega) (by omega) hf))
    · rw [if_pos c12] at hf
      refine r_aload_n (i := 3) C dL_law__568 rfl 3 rfl ?_
      refine r_iconst (v := 0) C dL_law__569 (by decide) ?_
      refine r_lald C dL_law__570 ?_
      refine r_iload (i := 6) C dL_law__571 6 rfl ?_
      refine r_i2l C dL_law__573 ?_
      refine r_lcmp C dL_law__574 ?_
      refine r_if_eq C 580 dL_law__575 (by decide) (fun c14 => ?_) (fun c14 => ?_)
      · rw [if_pos c14] at hf
        refine r_goto C 2395 dL_law__580 (by decide) ?_
        obtain ⟨x15, ex15, hf⟩ := lt_of hf
        refine r_iinc (j := 4) (v := x15) (lv' := [(0, .ref b), (1, .ref (gad (xG X) 0)), (2, .ref (gad (xG X) 208)), (3, .ref (gad (xG X) 221)), (4, .int x15), (5, .int x3), (6, .int x10)]) C dL_law__2395 rfl (by rw [ex15]; rfl) (by decide) [1, 2, 3, 4, 0, 5, 6] rfl ?_
        refine r_goto C 23 dL_law__2398 (by decide) ?_
        have e99 : x15 = nI (i + 6) := by rw [ex15]; exact nI_add i 6
        rw [e99] at hf ⊢
        exact r_widen (c2 := cs + 1) (s2 := sl + 6) (by omega) (by omega) (r_lv [0, 1, 2, 3, 4] rfl (ih (i + 6) _ (cs + 1) (sl + 6) (by omega) (by omega) (by omega) hf))
      · rw [if_neg c14] at hf
        refine r_iconst (v := 0) C dL_law__578 (by decide) ?_
        exact absurd (Option.some.inj hf) (by decide)
  · rw [if_neg c11] at hf
    refine r_iconst (v := 0) C dL_law__561 (by decide) ?_
    exact absurd (Option.some.inj hf) (by decide)
def KL_7 (xs : Nat → Int32) (Ls : Nat) (rec : Hp → Int32 → Option Int32) (h : Hp) (y : Int32) : Option Int32 := gd (inb (y + (1 : Int32)) Ls) (cl2 (fL_rusts h (xs (y + (1 : Int32)).toNatClampNeg)) (fun x2 h3 => gd (inb (y + (1 : Int32)) Ls) (cl2 (fX12_rusts h3 (xs (y + (1 : Int32)).toNatClampNeg)) (fun x8 h6 => (if (fX12_thrown h6) = x2 then (if x2 = (0 : Int32) then (if (lg_cmp ((h6 221 0).toInt64) (x8.toInt64)) = (0 : Int32) then lt9 (y + (6 : Int32)) (fun x13 => rec h6 x13) else some (0 : Int32)) else lt9 (y + (6 : Int32)) (fun x11 => rec h6 x11)) else some (0 : Int32))))))
set_option maxHeartbeats 8000000 in
set_option maxRecDepth 100000 in
theorem tL_7 {X : Cx} {b Ls : Nat} {xs : Nat → Int32} (C : OK X cL_law_ 7 RL ret) (hR : xR X = { frames := 2048, cells := 601024, slots := 7293034, locals := 84000 }) (hX : SCR X b Ls xs) (hE : LAWQ X) (hLs : Ls ≤ 3072) {rec : Hp → Int32 → Option Int32} {i cs sl : Nat} (hi : i + 6 ≤ Ls) (h1 : cs ≤ 400 + i) (h2 : sl ≤ 60000 + 6 * i) (ih : (∀ (i : Nat) (h : Hp) (cs sl : Nat), i ≤ Ls + 6 → cs ≤ 400 + i → sl ≤ 60000 + 6 * i → rec h (nI i) = some 1 → VW X 7 h cs sl 23 [(0, .ref b), (1, .ref (gad (xG X) 0)), (2, .ref (gad (xG X) 208)), (3, .ref (gad (xG X) 221)), (4, .int (nI i))] [])) {h : Hp} (hf : KL_7 xs Ls rec h (nI i) = some 1) : VW X 7 h cs sl 583 [(0, .ref b), (1, .ref (gad (xG X) 0)), (2, .ref (gad (xG X) 208)), (3, .ref (gad (xG X) 221)), (4, .int (nI i))] [] := by
  unfold KL_7 at hf
  refine r_aload_n (i := 1) C dL_law__583 rfl 1 rfl ?_
  refine r_aload_n (i := 0) C dL_law__584 rfl 0 rfl ?_
  refine r_iload (i := 4) C dL_law__585 4 rfl ?_
  refine r_iconst (v := 1) C dL_law__587 (by decide) ?_
  refine r_iadd C dL_law__588 ?_
  obtain ⟨g1, hf⟩ := gd_of hf
  refine r_sld C hX g1 dL_law__589 ?_
  refine r_aload_n (i := 3) C dL_law__590 rfl 3 rfl ?_
  obtain ⟨x2, h3, e4, hf⟩ := cl2_of hf
  refine r_callSW (As := [.ref (gad (xG X) 0), .int (xs ((nI i) + (1 : Int32)).toNatClampNeg), .ref (gad (xG X) 221)]) (st := []) C (kL_rusts (xG X) e4) hw_143 rfl rfl (Nat.le_of_ble_eq_true rfl) (zl2 hR rfl rfl) (zlc hR (by omega) (by omega)) dL_law__591 ?_
  refine r_istore (i := 5) (lv' := [(0, .ref b), (1, .ref (gad (xG X) 0)), (2, .ref (gad (xG X) 208)), (3, .ref (gad (xG X) 221)), (4, .int (nI i)), (5, .int x2)]) C dL_law__594 (by decide) [1, 2, 3, 4, 5, 0] rfl ?_
  refine r_aload_n (i := 2) C dL_law__596 rfl 2 rfl ?_
  refine r_aload_n (i := 0) C dL_law__597 rfl 0 rfl ?_
  refine r_iload (i := 4) C dL_law__598 4 rfl ?_
  refine r_iconst (v := 1) C dL_law__600 (by decide) ?_
  refine r_iadd C dL_law__601 ?_
  obtain ⟨g5, hf⟩ := gd_of hf
  refine r_sld C hX g5 dL_law__602 ?_
  obtain ⟨x8, h6, e7, hf⟩ := cl2_of hf
  refine r_callVi (As := [.int (xs ((nI i) + (1 : Int32)).toNatClampNeg)]) (st := []) C 208 rfl (by decide) rfl (kX12_rusts (xG X) e7) cw_L_146 rfl rfl (Nat.le_of_ble_eq_true rfl) (zl2 hR rfl rfl) (zlc hR (by omega) (by omega)) dL_law__603 ?_
  refine r_istore (i := 6) (lv' := [(0, .ref b), (1, .ref (gad (xG X) 0)), (2, .ref (gad (xG X) 208)), (3, .ref (gad (xG X) 221)), (4, .int (nI i)), (5, .int x2), (6, .int x8)]) C dL_law__606 (by decide) [1, 2, 3, 4, 5, 6, 0] rfl ?_
  refine r_aload_n (i := 2) C dL_law__608 rfl 2 rfl ?_
  refine r_callVi (As := []) (st := []) C 208 rfl (by decide) rfl (kX12_thrown (xG X)) cw_L_126 rfl rfl (Nat.le_of_ble_eq_true rfl) (zl2 hR rfl rfl) (zlc hR (by omega) (by omega)) dL_law__609 ?_
  refine r_iload (i := 5) C dL_law__612 5 rfl ?_
  refine r_icmp_eq C 619 dL_law__614 (by decide) (fun c9 => ?_) (fun c9 => ?_)
  · rw [if_pos c9] at hf
    refine r_iload (i := 5) C dL_law__619 5 rfl ?_
    refine r_if_ne C 636 dL_law__621 (by decide) (fun c10 => ?_) (fun c10 => ?_)
    · rw [if_neg c10] at hf
      refine r_goto C 2395 dL_law__636 (by decide) ?_
      obtain ⟨x11, ex11, hf⟩ := lt_of hf
      refine r_iinc (j := 4) (v := x11) (lv' := [(0, .ref b), (1, .ref (gad (xG X) 0)), (2, .ref (gad (xG X) 208)), (3, .ref (gad (xG X) 221)), (4, .int x11), (5, .int x2), (6, .int x8)]) C dL_law__2395 rfl (by rw [ex11]; rfl) (by decide) [1, 2, 3, 4, 0, 5, 6] rfl ?_
      refine r_goto C 23 dL_law__2398 (by decide) ?_
      have e99 : x11 = nI (i + 6) := by rw [ex11]; exact nI_add i 6
      rw [e99] at hf ⊢
      exact r_widen (c2 := cs + 1) (s2 := sl + 6) (by omega) (by omega) (r_lv [0, 1, 2, 3, 4] rfl (ih (i + 6) _ (cs + 1) (sl + 6) (by omega) (by omega) (by omega) hf))
    · rw [if_pos c10] at hf
      refine r_aload_n (i := 3) C dL_law__624 rfl 3 rfl ?_
      refine r_iconst (v := 0) C dL_law__625 (by decide) ?_
      refine r_lald C dL_law__626 ?_
      refine r_iload (i := 6) C dL_law__627 6 rfl ?_
      refine r_i2l C dL_law__629 ?_
      refine r_lcmp C dL_law__630 ?_
      refine r_if_eq C 636 dL_law__631 (by decide) (fun c12 => ?_) (fun c12 => ?_)
      · rw [if_pos c12] at hf
        refine r_goto C 2395 dL_law__636 (by decide) ?_
        obtain ⟨x13, ex13, hf⟩ := lt_of hf
        refine r_iinc (j := 4) (v := x13) (lv' := [(0, .ref b), (1, .ref (gad (xG X) 0)), (2, .ref (gad (xG X) 208)), (3, .ref (gad (xG X) 221)), (4, .int x13), (5, .int x2), (6, .int x8)]) C dL_law__2395 rfl (by rw [ex13]; rfl) (by decide) [1, 2, 3, 4, 0, 5, 6] rfl ?_
        refine r_goto C 23 dL_law__2398 (by decide) ?_
        have e99 : x13 = nI (i + 6) := by rw [ex13]; exact nI_add i 6
        rw [e99] at hf ⊢
        exact r_widen (c2 := cs + 1) (s2 := sl + 6) (by omega) (by omega) (r_lv [0, 1, 2, 3, 4] rfl (ih (i + 6) _ (cs + 1) (sl + 6) (by omega) (by omega) (by omega) hf))
      · rw [if_neg c12] at hf
        refine r_iconst (v := 0) C dL_law__634 (by decide) ?_
        exact absurd (Option.some.inj hf) (by decide)
  · rw [if_neg c9] at hf
    refine r_iconst (v := 0) C dL_law__617 (by decide) ?_
    exact absurd (Option.some.inj hf) (by decide)
def KL_8 (xs : Nat → Int32) (Ls : Nat) (rec : Hp → Int32 → Option Int32) (h : Hp) (y : Int32) : Option Int32 := gd (inb (y + (1 : Int32)) Ls) (cl2 (fL_pin h (xs (y + (1 : Int32)).toNatClampNeg)) (fun x2 h3 => gd (inb (y + (1 : Int32)) Ls) (cl2 (fX12_pin h3 (xs (y + (1 : Int32)).toNatClampNeg)) (fun x8 h6 => (if (fX12_thrown h6) = x2 then (if x2 = (0 : Int32) then (if (lg_cmp ((h6 221 0).toInt64) (x8.toInt64)) = (0 : Int32) then lt9 (y + (6 : Int32)) (fun x13 => rec h6 x13) else some (0 : Int32)) else lt9 (y + (6 : Int32)) (fun x11 => rec h6 x11)) else some (0 : Int32))))))
set_option maxHeartbeats 8000000 in
set_option maxRecDepth 100000 in
theorem tL_8 {X : Cx} {b Ls : Nat} {xs : Nat → Int32} (C : OK X cL_law_ 7 RL ret) (hR : xR X = { frames := 2048, cells := 601024, slots := 7293034, locals := 84000 }) (hX : SCR X b Ls xs) (hE : LAWQ X) (hLs : Ls ≤ 3072) {rec : Hp → Int32 → Option Int32} {i cs sl : Nat} (hi : i + 6 ≤ Ls) (h1 : cs ≤ 400 + i) (h2 : sl ≤ 60000 + 6 * i) (ih : (∀ (i : Nat) (h : Hp) (cs sl : Nat), i ≤ Ls + 6 → cs ≤ 400 + i → sl ≤ 60000 + 6 * i → rec h (nI i) = some 1 → VW X 7 h cs sl 23 [(0, .ref b), (1, .ref (gad (xG X) 0)), (2, .ref (gad (xG X) 208)), (3, .ref (gad (xG X) 221)), (4, .int (nI i))] [])) {h : Hp} (hf : KL_8 xs Ls rec h (nI i) = some 1) : VW X 7 h cs sl 639 [(0, .ref b), (1, .ref (gad (xG X) 0)), (2, .ref (gad (xG X) 208)), (3, .ref (gad (xG X) 221)), (4, .int (nI i))] [] := by
  unfold KL_8 at hf
  refine r_aload_n (i := 1) C dL_law__639 rfl 1 rfl ?_
  refine r_aload_n (i := 0) C dL_law__640 rfl 0 rfl ?_
  refine r_iload (i := 4) C dL_law__641 4 rfl ?_
  refine r_iconst (v := 1) C dL_law__643 (by decide) ?_
  refine r_iadd C dL_law__644 ?_
  obtain ⟨g1, hf⟩ := gd_of hf
  refine r_sld C hX g1 dL_law__645 ?_
  refine r_aload_n (i := 3) C dL_law__646 rfl 3 rfl ?_
  obtain ⟨x2, h3, e4, hf⟩ := cl2_of hf
  refine r_callSW (As := [.ref (gad (xG X) 0), .int (xs ((nI i) + (1 : Int32)).toNatClampNeg), .ref (gad (xG X) 221)]) (st := []) C (kL_pin (xG X) e4) hw_147 rfl rfl (Nat.le_of_ble_eq_true rfl) (zl2 hR rfl rfl) (zlc hR (by omega) (by omega)) dL_law__647 ?_
  refine r_istore (i := 5) (lv' := [(0, .ref b), (1, .ref (gad (xG X) 0)), (2, .ref (gad (xG X) 208)), (3, .ref (gad (xG X) 221)), (4, .int (nI i)), (5, .int x2)]) C dL_law__650 (by decide) [1, 2, 3, 4, 5, 0] rfl ?_
  refine r_aload_n (i := 2) C dL_law__652 rfl 2 rfl ?_
  refine r_aload_n (i := 0) C dL_law__653 rfl 0 rfl ?_
  refine r_iload (i := 4) C dL_law__654 4 rfl ?_
  refine r_iconst (v := 1) C dL_law__656 (by decide) ?_
  refine r_iadd C dL_law__657 ?_
  obtain ⟨g5, hf⟩ := gd_of hf
  refine r_sld C hX g5 dL_law__658 ?_
  obtain ⟨x8, h6, e7, hf⟩ := cl2_of hf
  refine r_callVi (As := [.int (xs ((nI i) + (1 : Int32)).toNatClampNeg)]) (st := []) C 208 rfl (by decide) rfl (kX12_pin (xG X) e7) cw_L_149 rfl rfl (Nat.le_of_ble_eq_true rfl) (zl2 hR rfl rfl) (zlc hR (by omega) (by omega)) dL_law__659 ?_
  refine r_istore (i := 6) (lv' := [(0, .ref b), (1, .ref (gad (xG X) 0)), (2, .ref (gad (xG X) 208)), (3, .ref (gad (xG X) 221)), (4, .int (nI i)), (5, .int x2), (6, .int x8)]) C dL_law__662 (by decide) [1, 2, 3, 4, 5, 6, 0] rfl ?_
  refine r_aload_n (i := 2) C dL_law__664 rfl 2 rfl ?_
  refine r_callVi (As := []) (st := []) C 208 rfl (by decide) rfl (kX12_thrown (xG X)) cw_L_126 rfl rfl (Nat.le_of_ble_eq_true rfl) (zl2 hR rfl rfl) (zlc hR (by omega) (by omega)) dL_law__665 ?_
  refine r_iload (i := 5) C dL_law__668 5 rfl ?_
  refine r_icmp_eq C 675 dL_law__670 (by decide) (fun c9 => ?_) (fun c9 => ?_)
  · rw [if_pos c9] at hf
    refine r_iload (i := 5) C dL_law__675 5 rfl ?_
    refine r_if_ne C 692 dL_law__677 (by decide) (fun c10 => ?_) (fun c10 => ?_)
    · rw [if_neg c10] at hf
      refine r_goto C 2395 dL_law__692 (by decide) ?_
      obtain ⟨x11, ex11, hf⟩ := lt_of hf
      refine r_iinc (j := 4) (v := x11) (lv' := [(0, .ref b), (1, .ref (gad (xG X) 0)), (2, .ref (gad (xG X) 208)), (3, .ref (gad (xG X) 221)), (4, .int x11), (5, .int x2), (6, .int x8)]) C dL_law__2395 rfl (by rw [ex11]; rfl) (by decide) [1, 2, 3, 4, 0, 5, 6] rfl ?_
      refine r_goto C 23 dL_law__2398 (by decide) ?_
      have e99 : x11 = nI (i + 6) := by rw [ex11]; exact nI_add i 6
      rw [e99] at hf ⊢
      exact r_widen (c2 := cs + 1) (s2 := sl + 6) (by omega) (by omega) (r_lv [0, 1, 2, 3, 4] rfl (ih (i + 6) _ (cs + 1) (sl + 6) (by omega) (by omega) (by omega) hf))
    · rw [if_pos c10] at hf
      refine r_aload_n (i := 3) C dL_law__680 rfl 3 rfl ?_
      refine r_iconst (v := 0) C dL_law__681 (by decide) ?_
      refine r_lald C dL_law__682 ?_
      refine r_iload (i := 6) C dL_law__683 6 rfl ?_
      refine r_i2l C dL_law__685 ?_
      refine r_lcmp C dL_law__686 ?_
      refine r_if_eq C 692 dL_law__687 (by decide) (fun c12 => ?_) (fun c12 => ?_)
      · rw [if_pos c12] at hf
        refine r_goto C 2395 dL_law__692 (by decide) ?_
        obtain ⟨x13, ex13, hf⟩ := lt_of hf
        refine r_iinc (j := 4) (v := x13) (lv' := [(0, .ref b), (1, .ref (gad (xG X) 0)), (2, .ref (gad (xG X) 208)), (3, .ref (gad (xG X) 221)), (4, .int x13), (5, .int x2), (6, .int x8)]) C dL_law__2395 rfl (by rw [ex13]; rfl) (by decide) [1, 2, 3, 4, 0, 5, 6] rfl ?_
        refine r_goto C 23 dL_law__2398 (by decide) ?_
        have e99 : x13 = nI (i + 6) := by rw [ex13]; exact nI_add i 6
        rw [e99] at hf ⊢
        exact r_widen (c2 := cs + 1) (s2 := sl + 6) (by omega) (by omega) (r_lv [0, 1, 2, 3, 4] rfl (ih (i + 6) _ (cs + 1) (sl + 6) (by omega) (by omega) (by omega) hf))
      · rw [if_neg c12] at hf
        refine r_iconst (v := 0) C dL_law__690 (by decide) ?_
        exact absurd (Option.some.inj hf) (by decide)
  · rw [if_neg c9] at hf
    refine r_iconst (v := 0) C dL_law__673 (by decide) ?_
    exact absurd (Option.some.inj hf) (by decide)
def KL_9 (xs : Nat → Int32) (Ls : Nat) (rec : Hp → Int32 → Option Int32) (h : Hp) (y : Int32) : Option Int32 := gd (inb (y + (1 : Int32)) Ls) (cl2 (fL_change h (xs (y + (1 : Int32)).toNatClampNeg)) (fun x2 h3 => gd (inb (y + (1 : Int32)) Ls) (cl2 (fX12_change h3 (xs (y + (1 : Int32)).toNatClampNeg)) (fun x8 h6 => (if (fX12_thrown h6) = x2 then (if x2 = (0 : Int32) then (if (lg_cmp ((h6 221 0).toInt64) (x8.toInt64)) = (0 : Int32) then lt9 (y + (6 : Int32)) (fun x13 => rec h6 x13) else some (0 : Int32)) else lt9 (y + (6 : Int32)) (fun x11 => rec h6 x11)) else some (0 : Int32))))))
set_option maxHeartbeats 8000000 in
set_option maxRecDepth 100000 in
theorem tL_9 {X : Cx} {b Ls : Nat} {xs : Nat → Int32} (C : OK X cL_law_ 7 RL ret) (hR : xR X = { frames := 2048, cells := 601024, slots := 7293034, locals := 84000 }) (hX : SCR X b Ls xs) (hE : LAWQ X) (hLs : Ls ≤ 3072) {rec : Hp → Int32 → Option Int32} {i cs sl : Nat} (hi : i + 6 ≤ Ls) (h1 : cs ≤ 400 + i) (h2 : sl ≤ 60000 + 6 * i) (ih : (∀ (i : Nat) (h : Hp) (cs sl : Nat), i ≤ Ls + 6 → cs ≤ 400 + i → sl ≤ 60000 + 6 * i → rec h (nI i) = some 1 → VW X 7 h cs sl 23 [(0, .ref b), (1, .ref (gad (xG X) 0)), (2, .ref (gad (xG X) 208)), (3, .ref (gad (xG X) 221)), (4, .int (nI i))] [])) {h : Hp} (hf : KL_9 xs Ls rec h (nI i) = some 1) : VW X 7 h cs sl 695 [(0, .ref b), (1, .ref (gad (xG X) 0)), (2, .ref (gad (xG X) 208)), (3, .ref (gad (xG X) 221)), (4, .int (nI i))] [] := by
  unfold KL_9 at hf
  refine r_aload_n (i := 1) C dL_law__695 rfl 1 rfl ?_
  refine r_aload_n (i := 0) C dL_law__696 rfl 0 rfl ?_
  refine r_iload (i := 4) C dL_law__697 4 rfl ?_
  refine r_iconst (v := 1) C dL_law__699 (by decide) ?_
  refine r_iadd C dL_law__700 ?_
  obtain ⟨g1, hf⟩ := gd_of hf
  refine r_sld C hX g1 dL_law__701 ?_
  refine r_aload_n (i := 3) C dL_law__702 rfl 3 rfl ?_
  obtain ⟨x2, h3, e4, hf⟩ := cl2_of hf
  refine r_callSW (As := [.ref (gad (xG X) 0), .int (xs ((nI i) + (1 : Int32)).toNatClampNeg), .ref (gad (xG X) 221)]) (st := []) C (kL_change (xG X) e4) hw_150 rfl rfl (Nat.le_of_ble_eq_true rfl) (zl2 hR rfl rfl) (zlc hR (by omega) (by omega)) dL_law__703 ?_
  refine r_istore (i := 5) (lv' := [(0, .ref b), (1, .ref (gad (xG X) 0)), (2, .ref (gad (xG X) 208)), (3, .ref (gad (xG X) 221)), (4, .int (nI i)), (5, .int x2)]) C dL_law__706 (by decide) [1, 2, 3, 4, 5, 0] rfl ?_
  refine r_aload_n (i := 2) C dL_law__708 rfl 2 rfl ?_
  refine r_aload_n (i := 0) C dL_law__709 rfl 0 rfl ?_
  refine r_iload (i := 4) C dL_law__710 4 rfl ?_
  refine r_iconst (v := 1) C dL_law__712 (by decide) ?_
  refine r_iadd C dL_law__713 ?_
  obtain ⟨g5, hf⟩ := gd_of hf
  refine r_sld C hX g5 dL_law__714 ?_
  obtain ⟨x8, h6, e7, hf⟩ := cl2_of hf
  refine r_callVi (As := [.int (xs ((nI i) + (1 : Int32)).toNatClampNeg)]) (st := []) C 208 rfl (by decide) rfl (kX12_change (xG X) e7) cw_L_152 rfl rfl (Nat.le_of_ble_eq_true rfl) (zl2 hR rfl rfl) (zlc hR (by omega) (by omega)) dL_law__715 ?_
  refine r_istore (i := 6) (lv' := [(0, .ref b), (1, .ref (gad (xG X) 0)), (2, .ref (gad (xG X) 208)), (3, .ref (gad (xG X) 221)), (4, .int (nI i)), (5, .int x2), (6, .int x8)]) C dL_law__718 (by decide) [1, 2, 3, 4, 5, 6, 0] rfl ?_
  refine r_aload_n (i := 2) C dL_law__720 rfl 2 rfl ?_
  refine r_callVi (As := []) (st := []) C 208 rfl (by decide) rfl (kX12_thrown (xG X)) cw_L_126 rfl rfl (Nat.le_of_ble_eq_true rfl) (zl2 hR rfl rfl) (zlc hR (by omega) (by omega)) dL_law__721 ?_
  refine r_iload (i := 5) C dL_law__724 5 rfl ?_
  refine r_icmp_eq C 731 dL_law__726 (by decide) (fun c9 => ?_) (fun c9 => ?_)
  · rw [if_pos c9] at hf
    refine r_iload (i := 5) C dL_law__731 5 rfl ?_
    refine r_if_ne C 748 dL_law__733 (by decide) (fun c10 => ?_) (fun c10 => ?_)
    · rw [if_neg c10] at hf
      refine r_goto C 2395 dL_law__748 (by decide) ?_
      obtain ⟨x11, ex11, hf⟩ := lt_of hf
      refine r_iinc (j := 4) (v := x11) (lv' := [(0, .ref b), (1, .ref (gad (xG X) 0)), (2, .ref (gad (xG X) 208)), (3, .ref (gad (xG X) 221)), (4, .int x11), (5, .int x2), (6, .int x8)]) C dL_law__2395 rfl (by rw [ex11]; rfl) (by decide) [1, 2, 3, 4, 0, 5, 6] rfl ?_
      refine r_goto C 23 dL_law__2398 (by decide) ?_
      have e99 : x11 = nI (i + 6) := by rw [ex11]; exact nI_add i 6
      rw [e99] at hf ⊢
      exact r_widen (c2 := cs + 1) (s2 := sl + 6) (by omega) (by omega) (r_lv [0, 1, 2, 3, 4] rfl (ih (i + 6) _ (cs + 1) (sl + 6) (by omega) (by omega) (by omega) hf))
    · rw [if_pos c10] at hf
      refine r_aload_n (i := 3) C dL_law__736 rfl 3 rfl ?_
      refine r_iconst (v := 0) C dL_law__737 (by decide) ?_
      refine r_lald C dL_law__738 ?_
      refine r_iload (i := 6) C dL_law__739 6 rfl ?_
      refine r_i2l C dL_law__741 ?_
      refine r_lcmp C dL_law__742 ?_
      refine r_if_eq C 748 dL_law__743 (by decide) (fun c12 => ?_) (fun c12 => ?_)
      · rw [if_pos c12] at hf
        refine r_goto C 2395 dL_law__748 (by decide) ?_
        obtain ⟨x13, ex13, hf⟩ := lt_of hf
        refine r_iinc (j := 4) (v := x13) (lv' := [(0, .ref b), (1, .ref (gad (xG X) 0)), (2, .ref (gad (xG X) 208)), (3, .ref (gad (xG X) 221)), (4, .int x13), (5, .int x2), (6, .int x8)]) C dL_law__2395 rfl (by rw [ex13]; rfl) (by decide) [1, 2, 3, 4, 0, 5, 6] rfl ?_
        refine r_goto C 23 dL_law__2398 (by decide) ?_
        have e99 : x13 = nI (i + 6) := by rw [ex13]; exact nI_add i 6
        rw [e99] at hf ⊢
        exact r_widen (c2 := cs + 1) (s2 := sl + 6) (by omega) (by omega) (r_lv [0, 1, 2, 3, 4] rfl (ih (i + 6) _ (cs + 1) (sl + 6) (by omega) (by omega) (by omega) hf))
      · rw [if_neg c12] at hf
        refine r_iconst (v := 0) C dL_law__746 (by decide) ?_
        exact absurd (Option.some.inj hf) (by decide)
  · rw [if_neg c9] at hf
    refine r_iconst (v := 0) C dL_law__729 (by decide) ?_
    exact absurd (Option.some.inj hf) (by decide)
def KL_10 (xs : Nat → Int32) (Ls : Nat) (rec : Hp → Int32 → Option Int32) (h : Hp) (y : Int32) : Option Int32 := gd (inb (y + (1 : Int32)) Ls) (gd (inb (y + (2 : Int32)) Ls) (cl2 (fL_go h (xs (y + (1 : Int32)).toNatClampNeg) (xs (y + (2 : Int32)).toNatClampNeg)) (fun x3 h4 => gd (inb (y + (1 : Int32)) Ls) (gd (inb (y + (2 : Int32)) Ls) (cl2 (fX12_go h4 (xs (y + (1 : Int32)).toNatClampNeg) (xs (y + (2 : Int32)).toNatClampNeg)) (fun x10 h8 => (if (fX12_thrown h8) = x3 then (if x3 = (0 : Int32) then (if (lg_cmp ((h8 221 0).toInt64) (x10.toInt64)) = (0 : Int32) then lt9 (y + (6 : Int32)) (fun x15 => rec h8 x15) else some (0 : Int32)) else lt9 (y + (6 : Int32)) (fun x13 => rec h8 x13)) else some (0 : Int32))))))))
set_option maxHeartbeats 8000000 in
set_option maxRecDepth 100000 in
theorem tL_10 {X : Cx} {b Ls : Nat} {xs : Nat → Int32} (C : OK X cL_law_ 7 RL ret) (hR : xR X = { frames := 2048, cells := 601024, slots := 7293034, locals := 84000 }) (hX : SCR X b Ls xs) (hE : LAWQ X) (hLs : Ls ≤ 3072) {rec : Hp → Int32 → Option Int32} {i cs sl : Nat} (hi : i + 6 ≤ Ls) (h1 : cs ≤ 400 + i) (h2 : sl ≤ 60000 + 6 * i) (ih : (∀ (i : Nat) (h : Hp) (cs sl : Nat), i ≤ Ls + 6 → cs ≤ 400 + i → sl ≤ 60000 + 6 * i → rec h (nI i) = some 1 → VW X 7 h cs sl 23 [(0, .ref b), (1, .ref (gad (xG X) 0)), (2, .ref (gad (xG X) 208)), (3, .ref (gad (xG X) 221)), (4, .int (nI i))] [])) {h : Hp} (hf : KL_10 xs Ls rec h (nI i) = some 1) : VW X 7 h cs sl 751 [(0, .ref b), (1, .ref (gad (xG X) 0)), (2, .ref (gad (xG X) 208)), (3, .ref (gad (xG X) 221)), (4, .int (nI i))] [] := by
  unfold KL_10 at hf
  refine r_aload_n (i := 1) C dL_law__751 rfl 1 rfl ?_
  refine r_aload_n (i := 0) C dL_law__752 rfl 0 rfl ?_
  refine r_iload (i := 4) C dL_law__753 4 rfl ?_
  refine r_iconst (v := 1) C dL_law__755 (by decide) ?_
  refine r_iadd C dL_law__756 ?_
  obtain ⟨g1, hf⟩ := gd_of hf
  refine r_sld C hX g1 dL_law__757 ?_
  refine r_aload_n (i := 0) C dL_law__758 rfl 0 rfl ?_
  refine r_iload (i := 4) C dL_law__759 4 rfl ?_
  refine r_iconst (v := 2) C dL_law__761 (by decide) ?_
  refine r_iadd C dL_law__762 ?_
  obtain ⟨g2, hf⟩ := gd_of hf
  refine r_sld C hX g2 dL_law__763 ?_
  refine r_aload_n (i := 3) C dL_law__764 rfl 3 rfl ?_
  obtain ⟨x3, h4, e5, hf⟩ := cl2_of hf
  refine r_callSW (As := [.ref (gad (xG X) 0), .int (xs ((nI i) + (1 : Int32)).toNatClampNeg), .int (xs ((nI i) + (2 : Int32)).toNatClampNeg), .ref (gad (xG X) 221)]) (st := []) C (kL_go (xG X) e5) hw_153 rfl rfl (Nat.le_of_ble_eq_true rfl) (zl2 hR rfl rfl) (zlc hR (by omega) (by omega)) dL_law__765 ?_
  refine r_istore (i := 5) (lv' := [(0, .ref b), (1, .ref (gad (xG X) 0)), (2, .ref (gad (xG X) 208)), (3, .ref (gad (xG X) 221)), (4, .int (nI i)), (5, .int x3)]) C dL_law__768 (by decide) [1, 2, 3, 4, 5, 0] rfl ?_
  refine r_aload_n (i := 2) C dL_law__770 rfl 2 rfl ?_
  refine r_aload_n (i := 0) C dL_law__771 rfl 0 rfl ?_
  refine r_iload (i := 4) C dL_law__772 4 rfl ?_
  refine r_iconst (v := 1) C dL_law__774 (by decide) ?_
  refine r_iadd C dL_law__775 ?_
  obtain ⟨g6, hf⟩ := gd_of hf
  refine r_sld C hX g6 dL_law__776 ?_
  refine r_aload_n (i := 0) C dL_law__777 rfl 0 rfl ?_
  refine r_iload (i := 4) C dL_law__778 4 rfl ?_
  refine r_iconst (v := 2) C dL_law__780 (by decide) ?_
  refine r_iadd C dL_law__781 ?_
  obtain ⟨g7, hf⟩ := gd_of hf
  refine r_sld C hX g7 dL_law__782 ?_
  obtain ⟨x10, h8, e9, hf⟩ := cl2_of hf
  refine r_callVi (As := [.int (xs ((nI i) + (1 : Int32)).toNatClampNeg), .int (xs ((nI i) + (2 : Int32)).toNatClampNeg)]) (st := []) C 208 rfl (by decide) rfl (kX12_go (xG X) e9) cw_L_155 rfl rfl (Nat.le_of_ble_eq_true rfl) (zl2 hR rfl rfl) (zlc hR (by omega) (by omega)) dL_law__783 ?_
  refine r_istore (i := 6) (lv' := [(0, .ref b), (1, .ref (gad (xG X) 0)), (2, .ref (gad (xG X) 208)), (3, .ref (gad (xG X) 221)), (4, .int (nI i)), (5, .int x3), (6, .int x10)]) C dL_law__786 (by decide) [1, 2, 3, 4, 5, 6, 0] rfl ?_
  refine r_aload_n (i := 2) C dL_law__788 rfl 2 rfl ?_
  refine r_callVi (As := []) (st := []) C 208 rfl (by decide) rfl (kX12_thrown (xG X)) cw_L_126 rfl rfl (Nat.le_of_ble_eq_true rfl) (zl2 hR rfl rfl) (zlc hR (by omega) (by omega)) dL_law__789 ?_
  refine r_iload (i := 5) C dL_law__792 5 rfl ?_
  refine r_icmp_eq C 799 dL_law__794 (by decide) (fun c11 => ?_) (fun c11 => ?_)
  · rw [if_pos c11] at hf
    refine r_iload (i := 5) C dL_law__799 5 rfl ?_
    refine r_if_ne C 816 dL_law__801 (by decide) (fun c12 => ?_) (fun c12 => ?_)
    · rw [if_neg c12] at hf
      refine r_goto C 2395 dL_law__816 (by decide) ?_
      obtain ⟨x13, ex13, hf⟩ := lt_of hf
      refine r_iinc (j := 4) (v := x13) (lv' := [(0, .ref b), (1, .ref (gad (xG X) 0)), (2, .ref (gad (xG X) 208)), (3, .ref (gad (xG X) 221)), (4, .int x13), (5, .int x3), (6, .int x10)]) C dL_law__2395 rfl (by rw [ex13]; rfl) (by decide) [1, 2, 3, 4, 0, 5, 6] rfl ?_
      refine r_goto C 23 dL_law__2398 (by decide) ?_
      have e99 : x13 = nI (i + 6) := by rw [ex13]; exact nI_add i 6
      rw [e99] at hf ⊢
      exact r_widen (c2 := cs + 1) (s2 := sl + 6) (by omega) (by omega) (r_lv [0, 1, 2, 3, 4] rfl (ih (i + 6) _ (cs + 1) (sl + 6) (by omega) (by omega) (by omega) hf))
    · rw [if_pos c12] at hf
      refine r_aload_n (i := 3) C dL_law__804 rfl 3 rfl ?_
      refine r_iconst (v := 0) C dL_law__805 (by decide) ?_
      refine r_lald C dL_law__806 ?_
      refine r_iload (i := 6) C dL_law__807 6 rfl ?_
      refine r_i2l C dL_law__809 ?_
      refine r_lcmp C dL_law__810 ?_
      refine r_if_eq C 816 dL_law__811 (by decide) (fun c14 => ?_) (fun c14 => ?_)
      · rw [if_pos c14] at hf
        refine r_goto C 2395 dL_law__816 (by decide) ?_
        obtain ⟨x15, ex15, hf⟩ := lt_of hf
        refine r_iinc (j := 4) (v := x15) (lv' := [(0, .ref b), (1, .ref (gad (xG X) 0)), (2, .ref (gad (xG X) 208)), (3, .ref (gad (xG X) 221)), (4, .int x15), (5, .int x3), (6, .int x10)]) C dL_law__2395 rfl (by rw [ex15]; rfl) (by decide) [1, 2, 3, 4, 0, 5, 6] rfl ?_
        refine r_goto C 23 dL_law__2398 (by decide) ?_
        have e99 : x15 = nI (i + 6) := by rw [ex15]; exact nI_add i 6
        rw [e99] at hf ⊢
        exact r_widen (c2 := cs + 1) (s2 := sl + 6) (by omega) (by omega) (r_lv [0, 1, 2, 3, 4] rfl (ih (i + 6) _ (cs + 1) (sl + 6) (by omega) (by omega) (by omega) hf))
      · rw [if_neg c14] at hf
        refine r_iconst (v := 0) C dL_law__814 (by decide) ?_
        exact absurd (Option.some.inj hf) (by decide)
  · rw [if_neg c11] at hf
    refine r_iconst (v := 0) C dL_law__797 (by decide) ?_
    exact absurd (Option.some.inj hf) (by decide)
def KL_11 (xs : Nat → Int32) (Ls : Nat) (rec : Hp → Int32 → Option Int32) (h : Hp) (y : Int32) : Option Int32 := gd (inb (y + (1 : Int32)) Ls) (cl2 (fL_pull h (xs (y + (1 : Int32)).toNatClampNeg)) (fun x2 h3 => gd (inb (y + (1 : Int32)) Ls) (cl2 (fX12_pull h3 (xs (y + (1 : Int32)).toNatClampNeg)) (fun x8 h6 => (if (fX12_thrown h6) = x2 then (if x2 = (0 : Int32) then (if (lg_cmp ((h6 221 0).toInt64) (x8.toInt64)) = (0 : Int32) then lt9 (y + (6 : Int32)) (fun x13 => rec h6 x13) else some (0 : Int32)) else lt9 (y + (6 : Int32)) (fun x11 => rec h6 x11)) else some (0 : Int32))))))
set_option maxHeartbeats 8000000 in
set_option maxRecDepth 100000 in
theorem tL_11 {X : Cx} {b Ls : Nat} {xs : Nat → Int32} (C : OK X cL_law_ 7 RL ret) (hR : xR X = { frames := 2048, cells := 601024, slots := 7293034, locals := 84000 }) (hX : SCR X b Ls xs) (hE : LAWQ X) (hLs : Ls ≤ 3072) {rec : Hp → Int32 → Option Int32} {i cs sl : Nat} (hi : i + 6 ≤ Ls) (h1 : cs ≤ 400 + i) (h2 : sl ≤ 60000 + 6 * i) (ih : (∀ (i : Nat) (h : Hp) (cs sl : Nat), i ≤ Ls + 6 → cs ≤ 400 + i → sl ≤ 60000 + 6 * i → rec h (nI i) = some 1 → VW X 7 h cs sl 23 [(0, .ref b), (1, .ref (gad (xG X) 0)), (2, .ref (gad (xG X) 208)), (3, .ref (gad (xG X) 221)), (4, .int (nI i))] [])) {h : Hp} (hf : KL_11 xs Ls rec h (nI i) = some 1) : VW X 7 h cs sl 819 [(0, .ref b), (1, .ref (gad (xG X) 0)), (2, .ref (gad (xG X) 208)), (3, .ref (gad (xG X) 221)), (4, .int (nI i))] [] := by
  unfold KL_11 at hf
  refine r_aload_n (i := 1) C dL_law__819 rfl 1 rfl ?_
  refine r_aload_n (i := 0) C dL_law__820 rfl 0 rfl ?_
  refine r_iload (i := 4) C dL_law__821 4 rfl ?_
  refine r_iconst (v := 1) C dL_law__823 (by decide) ?_
  refine r_iadd C dL_law__824 ?_
  obtain ⟨g1, hf⟩ := gd_of hf
  refine r_sld C hX g1 dL_law__825 ?_
  refine r_aload_n (i := 3) C dL_law__826 rfl 3 rfl ?_
  obtain ⟨x2, h3, e4, hf⟩ := cl2_of hf
  refine r_callSW (As := [.ref (gad (xG X) 0), .int (xs ((nI i) + (1 : Int32)).toNatClampNeg), .ref (gad (xG X) 221)]) (st := []) C (kL_pull (xG X) e4) hw_156 rfl rfl (Nat.le_of_ble_eq_true rfl) (zl2 hR rfl rfl) (zlc hR (by omega) (by omega)) dL_law__827 ?_
  refine r_istore (i := 5) (lv' := [(0, .ref b), (1, .ref (gad (xG X) 0)), (2, .ref (gad (xG X) 208)), (3, .ref (gad (xG X) 221)), (4, .int (nI i)), (5, .int x2)]) C dL_law__830 (by decide) [1, 2, 3, 4, 5, 0] rfl ?_
  refine r_aload_n (i := 2) C dL_law__832 rfl 2 rfl ?_
  refine r_aload_n (i := 0) C dL_law__833 rfl 0 rfl ?_
  refine r_iload (i := 4) C dL_law__834 4 rfl ?_
  refine r_iconst (v := 1) C dL_law__836 (by decide) ?_
  refine r_iadd C dL_law__837 ?_
  obtain ⟨g5, hf⟩ := gd_of hf
  refine r_sld C hX g5 dL_law__838 ?_
  obtain ⟨x8, h6, e7, hf⟩ := cl2_of hf
  refine r_callVi (As := [.int (xs ((nI i) + (1 : Int32)).toNatClampNeg)]) (st := []) C 208 rfl (by decide) rfl (kX12_pull (xG X) e7) cw_L_158 rfl rfl (Nat.le_of_ble_eq_true rfl) (zl2 hR rfl rfl) (zlc hR (by omega) (by omega)) dL_law__839 ?_
  refine r_istore (i := 6) (lv' := [(0, .ref b), (1, .ref (gad (xG X) 0)), (2, .ref (gad (xG X) 208)), (3, .ref (gad (xG X) 221)), (4, .int (nI i)), (5, .int x2), (6, .int x8)]) C dL_law__842 (by decide) [1, 2, 3, 4, 5, 6, 0] rfl ?_
  refine r_aload_n (i := 2) C dL_law__844 rfl 2 rfl ?_
  refine r_callVi (As := []) (st := []) C 208 rfl (by decide) rfl (kX12_thrown (xG X)) cw_L_126 rfl rfl (Nat.le_of_ble_eq_true rfl) (zl2 hR rfl rfl) (zlc hR (by omega) (by omega)) dL_law__845 ?_
  refine r_iload (i := 5) C dL_law__848 5 rfl ?_
  refine r_icmp_eq C 855 dL_law__850 (by decide) (fun c9 => ?_) (fun c9 => ?_)
  · rw [if_pos c9] at hf
    refine r_iload (i := 5) C dL_law__855 5 rfl ?_
    refine r_if_ne C 872 dL_law__857 (by decide) (fun c10 => ?_) (fun c10 => ?_)
    · rw [if_neg c10] at hf
      refine r_goto C 2395 dL_law__872 (by decide) ?_
      obtain ⟨x11, ex11, hf⟩ := lt_of hf
      refine r_iinc (j := 4) (v := x11) (lv' := [(0, .ref b), (1, .ref (gad (xG X) 0)), (2, .ref (gad (xG X) 208)), (3, .ref (gad (xG X) 221)), (4, .int x11), (5, .int x2), (6, .int x8)]) C dL_law__2395 rfl (by rw [ex11]; rfl) (by decide) [1, 2, 3, 4, 0, 5, 6] rfl ?_
      refine r_goto C 23 dL_law__2398 (by decide) ?_
      have e99 : x11 = nI (i + 6) := by rw [ex11]; exact nI_add i 6
      rw [e99] at hf ⊢
      exact r_widen (c2 := cs + 1) (s2 := sl + 6) (by omega) (by omega) (r_lv [0, 1, 2, 3, 4] rfl (ih (i + 6) _ (cs + 1) (sl + 6) (by omega) (by omega) (by omega) hf))
    · rw [if_pos c10] at hf
      refine r_aload_n (i := 3) C dL_law__860 rfl 3 rfl ?_
      refine r_iconst (v := 0) C dL_law__861 (by decide) ?_
      refine r_lald C dL_law__862 ?_
      refine r_iload (i := 6) C dL_law__863 6 rfl ?_
      refine r_i2l C dL_law__865 ?_
      refine r_lcmp C dL_law__866 ?_
      refine r_if_eq C 872 dL_law__867 (by decide) (fun c12 => ?_) (fun c12 => ?_)
      · rw [if_pos c12] at hf
        refine r_goto C 2395 dL_law__872 (by decide) ?_
        obtain ⟨x13, ex13, hf⟩ := lt_of hf
        refine r_iinc (j := 4) (v := x13) (lv' := [(0, .ref b), (1, .ref (gad (xG X) 0)), (2, .ref (gad (xG X) 208)), (3, .ref (gad (xG X) 221)), (4, .int x13), (5, .int x2), (6, .int x8)]) C dL_law__2395 rfl (by rw [ex13]; rfl) (by decide) [1, 2, 3, 4, 0, 5, 6] rfl ?_
        refine r_goto C 23 dL_law__2398 (by decide) ?_
        have e99 : x13 = nI (i + 6) := by rw [ex13]; exact nI_add i 6
        rw [e99] at hf ⊢
        exact r_widen (c2 := cs + 1) (s2 := sl + 6) (by omega) (by omega) (r_lv [0, 1, 2, 3, 4] rfl (ih (i + 6) _ (cs + 1) (sl + 6) (by omega) (by omega) (by omega) hf))
      · rw [if_neg c12] at hf
        refine r_iconst (v := 0) C dL_law__870 (by decide) ?_
        exact absurd (Option.some.inj hf) (by decide)
  · rw [if_neg c9] at hf
    refine r_iconst (v := 0) C dL_law__853 (by decide) ?_
    exact absurd (Option.some.inj hf) (by decide)
def KL_12 (xs : Nat → Int32) (Ls : Nat) (rec : Hp → Int32 → Option Int32) (h : Hp) (y : Int32) : Option Int32 := gd (inb (y + (1 : Int32)) Ls) (gd (inb (y + (2 : Int32)) Ls) (cl2 (fL_hand h (xs (y + (1 : Int32)).toNatClampNeg) (xs (y + (2 : Int32)).toNatClampNeg)) (fun x3 h4 => gd (inb (y + (1 : Int32)) Ls) (gd (inb (y + (2 : Int32)) Ls) (cl2 (fX12_hand h4 (xs (y + (1 : Int32)).toNatClampNeg) (xs (y + (2 : Int32)).toNatClampNeg)) (fun x10 h8 => (if (fX12_thrown h8) = x3 then (if x3 = (0 : Int32) then (if (lg_cmp ((h8 221 0).toInt64) (x10.toInt64)) = (0 : Int32) then lt9 (y + (6 : Int32)) (fun x15 => rec h8 x15) else some (0 : Int32)) else lt9 (y + (6 : Int32)) (fun x13 => rec h8 x13)) else some (0 : Int32))))))))
set_option maxHeartbeats 8000000 in
set_option maxRecDepth 100000 in
theorem tL_12 {X : Cx} {b Ls : Nat} {xs : Nat → Int32} (C : OK X cL_law_ 7 RL ret) (hR : xR X = { frames := 2048, cells := 601024, slots := 7293034, locals := 84000 }) (hX : SCR X b Ls xs) (hE : LAWQ X) (hLs : Ls ≤ 3072) {rec : Hp → Int32 → Option Int32} {i cs sl : Nat} (hi : i + 6 ≤ Ls) (h1 : cs ≤ 400 + i) (h2 : sl ≤ 60000 + 6 * i) (ih : (∀ (i : Nat) (h : Hp) (cs sl : Nat), i ≤ Ls + 6 → cs ≤ 400 + i → sl ≤ 60000 + 6 * i → rec h (nI i) = some 1 → VW X 7 h cs sl 23 [(0, .ref b), (1, .ref (gad (xG X) 0)), (2, .ref (gad (xG X) 208)), (3, .ref (gad (xG X) 221)), (4, .int (nI i))] [])) {h : Hp} (hf : KL_12 xs Ls rec h (nI i) = some 1) : VW X 7 h cs sl 875 [(0, .ref b), (1, .ref (gad (xG X) 0)), (2, .ref (gad (xG X) 208)), (3, .ref (gad (xG X) 221)), (4, .int (nI i))] [] := by
  unfold KL_12 at hf
  refine r_aload_n (i := 1) C dL_law__875 rfl 1 rfl ?_
  refine r_aload_n (i := 0) C dL_law__876 rfl 0 rfl ?_
  refine r_iload (i := 4) C dL_law__877 4 rfl ?_
  refine r_iconst (v := 1) C dL_law__879 (by decide) ?_
  refine r_iadd C dL_law__880 ?_
  obtain ⟨g1, hf⟩ := gd_of hf
  refine r_sld C hX g1 dL_law__881 ?_
  refine r_aload_n (i := 0) C dL_law__882 rfl 0 rfl ?_
  refine r_iload (i := 4) C dL_law__883 4 rfl ?_
  refine r_iconst (v := 2) C dL_law__885 (by decide) ?_
  refine r_iadd C dL_law__886 ?_
  obtain ⟨g2, hf⟩ := gd_of hf
  refine r_sld C hX g2 dL_law__887 ?_
  refine r_aload_n (i := 3) C dL_law__888 rfl 3 rfl ?_
  obtain ⟨x3, h4, e5, hf⟩ := cl2_of hf
  refine r_callSW (As := [.ref (gad (xG X) 0), .int (xs ((nI i) + (1 : Int32)).toNatClampNeg), .int (xs ((nI i) + (2 : Int32)).toNatClampNeg), .ref (gad (xG X) 221)]) (st := []) C (kL_hand (xG X) e5) hw_159 rfl rfl (Nat.le_of_ble_eq_true rfl) (zl2 hR rfl rfl) (zlc hR (by omega) (by omega)) dL_law__889 ?_
  refine r_istore (i := 5) (lv' := [(0, .ref b), (1, .ref (gad (xG X) 0)), (2, .ref (gad (xG X) 208)), (3, .ref (gad (xG X) 221)), (4, .int (nI i)), (5, .int x3)]) C dL_law__892 (by decide) [1, 2, 3, 4, 5, 0] rfl ?_
  refine r_aload_n (i := 2) C dL_law__894 rfl 2 rfl ?_
  refine r_aload_n (i := 0) C dL_law__895 rfl 0 rfl ?_
  refine r_iload (i := 4) C dL_law__896 4 rfl ?_
  refine r_iconst (v := 1) C dL_law__898 (by decide) ?_
  refine r_iadd C dL_law__899 ?_
  obtain ⟨g6, hf⟩ := gd_of hf
  refine r_sld C hX g6 dL_law__900 ?_
  refine r_aload_n (i := 0) C dL_law__901 rfl 0 rfl ?_
  refine r_iload (i := 4) C dL_law__902 4 rfl ?_
  refine r_iconst (v := 2) C dL_law__904 (by decide) ?_
  refine r_iadd C dL_law__905 ?_
  obtain ⟨g7, hf⟩ := gd_of hf
  refine r_sld C hX g7 dL_law__906 ?_
  obtain ⟨x10, h8, e9, hf⟩ := cl2_of hf
  refine r_callVi (As := [.int (xs ((nI i) + (1 : Int32)).toNatClampNeg), .int (xs ((nI i) + (2 : Int32)).toNatClampNeg)]) (st := []) C 208 rfl (by decide) rfl (kX12_hand (xG X) e9) cw_L_161 rfl rfl (Nat.le_of_ble_eq_true rfl) (zl2 hR rfl rfl) (zlc hR (by omega) (by omega)) dL_law__907 ?_
  refine r_istore (i := 6) (lv' := [(0, .ref b), (1, .ref (gad (xG X) 0)), (2, .ref (gad (xG X) 208)), (3, .ref (gad (xG X) 221)), (4, .int (nI i)), (5, .int x3), (6, .int x10)]) C dL_law__910 (by decide) [1, 2, 3, 4, 5, 6, 0] rfl ?_
  refine r_aload_n (i := 2) C dL_law__912 rfl 2 rfl ?_
  refine r_callVi (As := []) (st := []) C 208 rfl (by decide) rfl (kX12_thrown (xG X)) cw_L_126 rfl rfl (Nat.le_of_ble_eq_true rfl) (zl2 hR rfl rfl) (zlc hR (by omega) (by omega)) dL_law__913 ?_
  refine r_iload (i := 5) C dL_law__916 5 rfl ?_
  refine r_icmp_eq C 923 dL_law__918 (by decide) (fun c11 => ?_) (fun c11 => ?_)
  · rw [if_pos c11] at hf
    refine r_iload (i := 5) C dL_law__923 5 rfl ?_
    refine r_if_ne C 940 dL_law__925 (by decide) (fun c12 => ?_) (fun c12 => ?_)
    · rw [if_neg c12] at hf
      refine r_goto C 2395 dL_law__940 (by decide) ?_
      obtain ⟨x13, ex13, hf⟩ := lt_of hf
      refine r_iinc (j := 4) (v := x13) (lv' := [(0, .ref b), (1, .ref (gad (xG X) 0)), (2, .ref (gad (xG X) 208)), (3, .ref (gad (xG X) 221)), (4, .int x13), (5, .int x3), (6, .int x10)]) C dL_law__2395 rfl (by rw [ex13]; rfl) (by decide) [1, 2, 3, 4, 0, 5, 6] rfl ?_
      refine r_goto C 23 dL_law__2398 (by decide) ?_
      have e99 : x13 = nI (i + 6) := by rw [ex13]; exact nI_add i 6
      rw [e99] at hf ⊢
      exact r_widen (c2 := cs + 1) (s2 := sl + 6) (by omega) (by omega) (r_lv [0, 1, 2, 3, 4] rfl (ih (i + 6) _ (cs + 1) (sl + 6) (by omega) (by omega) (by omega) hf))
    · rw [if_pos c12] at hf
      refine r_aload_n (i := 3) C dL_law__928 rfl 3 rfl ?_
      refine r_iconst (v := 0) C dL_law__929 (by decide) ?_
      refine r_lald C dL_law__930 ?_
      refine r_iload (i := 6) C dL_law__931 6 rfl ?_
      refine r_i2l C dL_law__933 ?_
      refine r_lcmp C dL_law__934 ?_
      refine r_if_eq C 940 dL_law__935 (by decide) (fun c14 => ?_) (fun c14 => ?_)
      · rw [if_pos c14] at hf
        refine r_goto C 2395 dL_law__940 (by decide) ?_
        obtain ⟨x15, ex15, hf⟩ := lt_of hf
        refine r_iinc (j := 4) (v := x15) (lv' := [(0, .ref b), (1, .ref (gad (xG X) 0)), (2, .ref (gad (xG X) 208)), (3, .ref (gad (xG X) 221)), (4, .int x15), (5, .int x3), (6, .int x10)]) C dL_law__2395 rfl (by rw [ex15]; rfl) (by decide) [1, 2, 3, 4, 0, 5, 6] rfl ?_
        refine r_goto C 23 dL_law__2398 (by decide) ?_
        have e99 : x15 = nI (i + 6) := by rw [ex15]; exact nI_add i 6
        rw [e99] at hf ⊢
        exact r_widen (c2 := cs + 1) (s2 := sl + 6) (by omega) (by omega) (r_lv [0, 1, 2, 3, 4] rfl (ih (i + 6) _ (cs + 1) (sl + 6) (by omega) (by omega) (by omega) hf))
      · rw [if_neg c14] at hf
        refine r_iconst (v := 0) C dL_law__938 (by decide) ?_
        exact absurd (Option.some.inj hf) (by decide)
  · rw [if_neg c11] at hf
    refine r_iconst (v := 0) C dL_law__921 (by decide) ?_
    exact absurd (Option.some.inj hf) (by decide)
def KL_13 (xs : Nat → Int32) (Ls : Nat) (rec : Hp → Int32 → Option Int32) (h : Hp) (y : Int32) : Option Int32 := gd (inb (y + (1 : Int32)) Ls) (cl2 (fL_fell h (xs (y + (1 : Int32)).toNatClampNeg)) (fun x2 h3 => gd (inb (y + (1 : Int32)) Ls) (cl2 (fX12_fell h3 (xs (y + (1 : Int32)).toNatClampNeg)) (fun x8 h6 => (if (fX12_thrown h6) = x2 then (if x2 = (0 : Int32) then (if (lg_cmp ((h6 221 0).toInt64) (x8.toInt64)) = (0 : Int32) then lt9 (y + (6 : Int32)) (fun x13 => rec h6 x13) else some (0 : Int32)) else lt9 (y + (6 : Int32)) (fun x11 => rec h6 x11)) else some (0 : Int32))))))
set_option maxHeartbeats 8000000 in
set_option maxRecDepth 100000 in
theorem tL_13 {X : Cx} {b Ls : Nat} {xs : Nat → Int32} (C : OK X cL_law_ 7 RL ret) (hR : xR X = { frames := 2048, cells := 601024, slots := 7293034, locals := 84000 }) (hX : SCR X b Ls xs) (hE : LAWQ X) (hLs : Ls ≤ 3072) {rec : Hp → Int32 → Option Int32} {i cs sl : Nat} (hi : i + 6 ≤ Ls) (h1 : cs ≤ 400 + i) (h2 : sl ≤ 60000 + 6 * i) (ih : (∀ (i : Nat) (h : Hp) (cs sl : Nat), i ≤ Ls + 6 → cs ≤ 400 + i → sl ≤ 60000 + 6 * i → rec h (nI i) = some 1 → VW X 7 h cs sl 23 [(0, .ref b), (1, .ref (gad (xG X) 0)), (2, .ref (gad (xG X) 208)), (3, .ref (gad (xG X) 221)), (4, .int (nI i))] [])) {h : Hp} (hf : KL_13 xs Ls rec h (nI i) = some 1) : VW X 7 h cs sl 943 [(0, .ref b), (1, .ref (gad (xG X) 0)), (2, .ref (gad (xG X) 208)), (3, .ref (gad (xG X) 221)), (4, .int (nI i))] [] := by
  unfold KL_13 at hf
  refine r_aload_n (i := 1) C dL_law__943 rfl 1 rfl ?_
  refine r_aload_n (i := 0) C dL_law__944 rfl 0 rfl ?_
  refine r_iload (i := 4) C dL_law__945 4 rfl ?_
  refine r_iconst (v := 1) C dL_law__947 (by decide) ?_
  refine r_iadd C dL_law__948 ?_
  obtain ⟨g1, hf⟩ := gd_of hf
  refine r_sld C hX g1 dL_law__949 ?_
  refine r_aload_n (i := 3) C dL_law__950 rfl 3 rfl ?_
  obtain ⟨x2, h3, e4, hf⟩ := cl2_of hf
  refine r_callSW (As := [.ref (gad (xG X) 0), .int (xs ((nI i) + (1 : Int32)).toNatClampNeg), .ref (gad (xG X) 221)]) (st := []) C (kL_fell (xG X) e4) hw_162 rfl rfl (Nat.le_of_ble_eq_true rfl) (zl2 hR rfl rfl) (zlc hR (by omega) (by omega)) dL_law__951 ?_
  refine r_istore (i := 5) (lv' := [(0, .ref b), (1, .ref (gad (xG X) 0)), (2, .ref (gad (xG X) 208)), (3, .ref (gad (xG X) 221)), (4, .int (nI i)), (5, .int x2)]) C dL_law__954 (by decide) [1, 2, 3, 4, 5, 0] rfl ?_
  refine r_aload_n (i := 2) C dL_law__956 rfl 2 rfl ?_
  refine r_aload_n (i := 0) C dL_law__957 rfl 0 rfl ?_
  refine r_iload (i := 4) C dL_law__958 4 rfl ?_
  refine r_iconst (v := 1) C dL_law__960 (by decide) ?_
  refine r_iadd C dL_law__961 ?_
  obtain ⟨g5, hf⟩ := gd_of hf
  refine r_sld C hX g5 dL_law__962 ?_
  obtain ⟨x8, h6, e7, hf⟩ := cl2_of hf
  refine r_callVi (As := [.int (xs ((nI i) + (1 : Int32)).toNatClampNeg)]) (st := []) C 208 rfl (by decide) rfl (kX12_fell (xG X) e7) cw_L_164 rfl rfl (Nat.le_of_ble_eq_true rfl) (zl2 hR rfl rfl) (zlc hR (by omega) (by omega)) dL_law__963 ?_
  refine r_istore (i := 6) (lv' := [(0, .ref b), (1, .ref (gad (xG X) 0)), (2, .ref (gad (xG X) 208)), (3, .ref (gad (xG X) 221)), (4, .int (nI i)), (5, .int x2), (6, .int x8)]) C dL_law__966 (by decide) [1, 2, 3, 4, 5, 6, 0] rfl ?_
  refine r_aload_n (i := 2) C dL_law__968 rfl 2 rfl ?_
  refine r_callVi (As := []) (st := []) C 208 rfl (by decide) rfl (kX12_thrown (xG X)) cw_L_126 rfl rfl (Nat.le_of_ble_eq_true rfl) (zl2 hR rfl rfl) (zlc hR (by omega) (by omega)) dL_law__969 ?_
  refine r_iload (i := 5) C dL_law__972 5 rfl ?_
  refine r_icmp_eq C 979 dL_law__974 (by decide) (fun c9 => ?_) (fun c9 => ?_)
  · rw [if_pos c9] at hf
    refine r_iload (i := 5) C dL_law__979 5 rfl ?_
    refine r_if_ne C 996 dL_law__981 (by decide) (fun c10 => ?_) (fun c10 => ?_)
    · rw [if_neg c10] at hf
      refine r_goto C 2395 dL_law__996 (by decide) ?_
      obtain ⟨x11, ex11, hf⟩ := lt_of hf
      refine r_iinc (j := 4) (v := x11) (lv' := [(0, .ref b), (1, .ref (gad (xG X) 0)), (2, .ref (gad (xG X) 208)), (3, .ref (gad (xG X) 221)), (4, .int x11), (5, .int x2), (6, .int x8)]) C dL_law__2395 rfl (by rw [ex11]; rfl) (by decide) [1, 2, 3, 4, 0, 5, 6] rfl ?_
      refine r_goto C 23 dL_law__2398 (by decide) ?_
      have e99 : x11 = nI (i + 6) := by rw [ex11]; exact nI_add i 6
      rw [e99] at hf ⊢
      exact r_widen (c2 := cs + 1) (s2 := sl + 6) (by omega) (by omega) (r_lv [0, 1, 2, 3, 4] rfl (ih (i + 6) _ (cs + 1) (sl + 6) (by omega) (by omega) (by omega) hf))
    · rw [if_pos c10] at hf
      refine r_aload_n (i := 3) C dL_law__984 rfl 3 rfl ?_
      refine r_iconst (v := 0) C dL_law__985 (by decide) ?_
      refine r_lald C dL_law__986 ?_
      refine r_iload (i := 6) C dL_law__987 6 rfl ?_
      refine r_i2l C dL_law__989 ?_
      refine r_lcmp C dL_law__990 ?_
      refine r_if_eq C 996 dL_law__991 (by decide) (fun c12 => ?_) (fun c12 => ?_)
      · rw [if_pos c12] at hf
        refine r_goto C 2395 dL_law__996 (by decide) ?_
        obtain ⟨x13, ex13, hf⟩ := lt_of hf
        refine r_iinc (j := 4) (v := x13) (lv' := [(0, .ref b), (1, .ref (gad (xG X) 0)), (2, .ref (gad (xG X) 208)), (3, .ref (gad (xG X) 221)), (4, .int x13), (5, .int x2), (6, .int x8)]) C dL_law__2395 rfl (by rw [ex13]; rfl) (by decide) [1, 2, 3, 4, 0, 5, 6] rfl ?_
        refine r_goto C 23 dL_law__2398 (by decide) ?_
        have e99 : x13 = nI (i + 6) := by rw [ex13]; exact nI_add i 6
        rw [e99] at hf ⊢
        exact r_widen (c2 := cs + 1) (s2 := sl + 6) (by omega) (by omega) (r_lv [0, 1, 2, 3, 4] rfl (ih (i + 6) _ (cs + 1) (sl + 6) (by omega) (by omega) (by omega) hf))
      · rw [if_neg c12] at hf
        refine r_iconst (v := 0) C dL_law__994 (by decide) ?_
        exact absurd (Option.some.inj hf) (by decide)
  · rw [if_neg c9] at hf
    refine r_iconst (v := 0) C dL_law__977 (by decide) ?_
    exact absurd (Option.some.inj hf) (by decide)
def KL_14 (xs : Nat → Int32) (Ls : Nat) (rec : Hp → Int32 → Option Int32) (h : Hp) (y : Int32) : Option Int32 := gd (inb (y + (1 : Int32)) Ls) (cl2 (fL_height h (xs (y + (1 : Int32)).toNatClampNeg)) (fun x2 h3 => gd (inb (y + (1 : Int32)) Ls) (cl2 (fX12_height h3 (xs (y + (1 : Int32)).toNatClampNeg)) (fun x8 h6 => (if (fX12_thrown h6) = x2 then (if x2 = (0 : Int32) then (if (lg_cmp ((h6 221 0).toInt64) (x8.toInt64)) = (0 : Int32) then lt9 (y + (6 : Int32)) (fun x13 => rec h6 x13) else some (0 : Int32)) else lt9 (y + (6 : Int32)) (fun x11 => rec h6 x11)) else some (0 : Int32))))))
set_option maxHeartbeats 8000000 in
set_option maxRecDepth 100000 in
theorem tL_14 {X : Cx} {b Ls : Nat} {xs : Nat → Int32} (C : OK X cL_law_ 7 RL ret) (hR : xR X = { frames := 2048, cells := 601024, slots := 7293034, locals := 84000 }) (hX : SCR X b Ls xs) (hE : LAWQ X) (hLs : Ls ≤ 3072) {rec : Hp → Int32 → Option Int32} {i cs sl : Nat} (hi : i + 6 ≤ Ls) (h1 : cs ≤ 400 + i) (h2 : sl ≤ 60000 + 6 * i) (ih : (∀ (i : Nat) (h : Hp) (cs sl : Nat), i ≤ Ls + 6 → cs ≤ 400 + i → sl ≤ 60000 + 6 * i → rec h (nI i) = some 1 → VW X 7 h cs sl 23 [(0, .ref b), (1, .ref (gad (xG X) 0)), (2, .ref (gad (xG X) 208)), (3, .ref (gad (xG X) 221)), (4, .int (nI i))] [])) {h : Hp} (hf : KL_14 xs Ls rec h (nI i) = some 1) : VW X 7 h cs sl 999 [(0, .ref b), (1, .ref (gad (xG X) 0)), (2, .ref (gad (xG X) 208)), (3, .ref (gad (xG X) 221)), (4, .int (nI i))] [] := by
  unfold KL_14 at hf
  refine r_aload_n (i := 1) C dL_law__999 rfl 1 rfl ?_
  refine r_aload_n (i := 0) C dL_law__1000 rfl 0 rfl ?_
  refine r_iload (i := 4) C dL_law__1001 4 rfl ?_
  refine r_iconst (v := 1) C dL_law__1003 (by decide) ?_
  refine r_iadd C dL_law__1004 ?_
  obtain ⟨g1, hf⟩ := gd_of hf
  refine r_sld C hX g1 dL_law__1005 ?_
  refine r_aload_n (i := 3) C dL_law__1006 rfl 3 rfl ?_
  obtain ⟨x2, h3, e4, hf⟩ := cl2_of hf
  refine r_callSW (As := [.ref (gad (xG X) 0), .int (xs ((nI i) + (1 : Int32)).toNatClampNeg), .ref (gad (xG X) 221)]) (st := []) C (kL_height (xG X) e4) hw_165 rfl rfl (Nat.le_of_ble_eq_true rfl) (zl2 hR rfl rfl) (zlc hR (by omega) (by omega)) dL_law__1007 ?_
  refine r_istore (i := 5) (lv' := [(0, .ref b), (1, .ref (gad (xG X) 0)), (2, .ref (gad (xG X) 208)), (3, .ref (gad (xG X) 221)), (4, .int (nI i)), (5, .int x2)]) C dL_law__1010 (by decide) [1, 2, 3, 4, 5, 0] rfl ?_
  refine r_aload_n (i := 2) C dL_law__1012 rfl 2 rfl ?_
  refine r_aload_n (i := 0) C dL_law__1013 rfl 0 rfl ?_
  refine r_iload (i := 4) C dL_law__1014 4 rfl ?_
  refine r_iconst (v := 1) C dL_law__1016 (by decide) ?_
  refine r_iadd C dL_law__1017 ?_
  obtain ⟨g5, hf⟩ := gd_of hf
  refine r_sld C hX g5 dL_law__1018 ?_
  obtain ⟨x8, h6, e7, hf⟩ := cl2_of hf
  refine r_callVi (As := [.int (xs ((nI i) + (1 : Int32)).toNatClampNeg)]) (st := []) C 208 rfl (by decide) rfl (kX12_height (xG X) e7) cw_L_167 rfl rfl (Nat.le_of_ble_eq_true rfl) (zl2 hR rfl rfl) (zlc hR (by omega) (by omega)) dL_law__1019 ?_
  refine r_istore (i := 6) (lv' := [(0, .ref b), (1, .ref (gad (xG X) 0)), (2, .ref (gad (xG X) 208)), (3, .ref (gad (xG X) 221)), (4, .int (nI i)), (5, .int x2), (6, .int x8)]) C dL_law__1022 (by decide) [1, 2, 3, 4, 5, 6, 0] rfl ?_
  refine r_aload_n (i := 2) C dL_law__1024 rfl 2 rfl ?_
  refine r_callVi (As := []) (st := []) C 208 rfl (by decide) rfl (kX12_thrown (xG X)) cw_L_126 rfl rfl (Nat.le_of_ble_eq_true rfl) (zl2 hR rfl rfl) (zlc hR (by omega) (by omega)) dL_law__1025 ?_
  refine r_iload (i := 5) C dL_law__1028 5 rfl ?_
  refine r_icmp_eq C 1035 dL_law__1030 (by decide) (fun c9 => ?_) (fun c9 => ?_)
  · rw [if_pos c9] at hf
    refine r_iload (i := 5) C dL_law__1035 5 rfl ?_
    refine r_if_ne C 1052 dL_law__1037 (by decide) (fun c10 => ?_) (fun c10 => ?_)
    · rw [if_neg c10] at hf
      refine r_goto C 2395 dL_law__1052 (by decide) ?_
      obtain ⟨x11, ex11, hf⟩ := lt_of hf
      refine r_iinc (j := 4) (v := x11) (lv' := [(0, .ref b), (1, .ref (gad (xG X) 0)), (2, .ref (gad (xG X) 208)), (3, .ref (gad (xG X) 221)), (4, .int x11), (5, .int x2), (6, .int x8)]) C dL_law__2395 rfl (by rw [ex11]; rfl) (by decide) [1, 2, 3, 4, 0, 5, 6] rfl ?_
      refine r_goto C 23 dL_law__2398 (by decide) ?_
      have e99 : x11 = nI (i + 6) := by rw [ex11]; exact nI_add i 6
      rw [e99] at hf ⊢
      exact r_widen (c2 := cs + 1) (s2 := sl + 6) (by omega) (by omega) (r_lv [0, 1, 2, 3, 4] rfl (ih (i + 6) _ (cs + 1) (sl + 6) (by omega) (by omega) (by omega) hf))
    · rw [if_pos c10] at hf
      refine r_aload_n (i := 3) C dL_law__1040 rfl 3 rfl ?_
      refine r_iconst (v := 0) C dL_law__1041 (by decide) ?_
      refine r_lald C dL_law__1042 ?_
      refine r_iload (i := 6) C dL_law__1043 6 rfl ?_
      refine r_i2l C dL_law__1045 ?_
      refine r_lcmp C dL_law__1046 ?_
      refine r_if_eq C 1052 dL_law__1047 (by decide) (fun c12 => ?_) (fun c12 => ?_)
      · rw [if_pos c12] at hf
        refine r_goto C 2395 dL_law__1052 (by decide) ?_
        obtain ⟨x13, ex13, hf⟩ := lt_of hf
        refine r_iinc (j := 4) (v := x13) (lv' := [(0, .ref b), (1, .ref (gad (xG X) 0)), (2, .ref (gad (xG X) 208)), (3, .ref (gad (xG X) 221)), (4, .int x13), (5, .int x2), (6, .int x8)]) C dL_law__2395 rfl (by rw [ex13]; rfl) (by decide) [1, 2, 3, 4, 0, 5, 6] rfl ?_
        refine r_goto C 23 dL_law__2398 (by decide) ?_
        have e99 : x13 = nI (i + 6) := by rw [ex13]; exact nI_add i 6
        rw [e99] at hf ⊢
        exact r_widen (c2 := cs + 1) (s2 := sl + 6) (by omega) (by omega) (r_lv [0, 1, 2, 3, 4] rfl (ih (i + 6) _ (cs + 1) (sl + 6) (by omega) (by omega) (by omega) hf))
      · rw [if_neg c12] at hf
        refine r_iconst (v := 0) C dL_law__1050 (by decide) ?_
        exact absurd (Option.some.inj hf) (by decide)
  · rw [if_neg c9] at hf
    refine r_iconst (v := 0) C dL_law__1033 (by decide) ?_
    exact absurd (Option.some.inj hf) (by decide)
def KL_15 (xs : Nat → Int32) (Ls : Nat) (rec : Hp → Int32 → Option Int32) (h : Hp) (y : Int32) : Option Int32 := gd (inb (y + (1 : Int32)) Ls) (cl2 (fL_days h (xs (y + (1 : Int32)).toNatClampNeg)) (fun x2 h3 => gd (inb (y + (1 : Int32)) Ls) (cl2 (fX12_days h3 (xs (y + (1 : Int32)).toNatClampNeg)) (fun x8 h6 => (if (fX12_thrown h6) = x2 then (if x2 = (0 : Int32) then (if (lg_cmp ((h6 221 0).toInt64) (x8.toInt64)) = (0 : Int32) then lt9 (y + (6 : Int32)) (fun x13 => rec h6 x13) else some (0 : Int32)) else lt9 (y + (6 : Int32)) (fun x11 => rec h6 x11)) else some (0 : Int32))))))
set_option maxHeartbeats 8000000 in
set_option maxRecDepth 100000 in
theorem tL_15 {X : Cx} {b Ls : Nat} {xs : Nat → Int32} (C : OK X cL_law_ 7 RL ret) (hR : xR X = { frames := 2048, cells := 601024, slots := 7293034, locals := 84000 }) (hX : SCR X b Ls xs) (hE : LAWQ X) (hLs : Ls ≤ 3072) {rec : Hp → Int32 → Option Int32} {i cs sl : Nat} (hi : i + 6 ≤ Ls) (h1 : cs ≤ 400 + i) (h2 : sl ≤ 60000 + 6 * i) (ih : (∀ (i : Nat) (h : Hp) (cs sl : Nat), i ≤ Ls + 6 → cs ≤ 400 + i → sl ≤ 60000 + 6 * i → rec h (nI i) = some 1 → VW X 7 h cs sl 23 [(0, .ref b), (1, .ref (gad (xG X) 0)), (2, .ref (gad (xG X) 208)), (3, .ref (gad (xG X) 221)), (4, .int (nI i))] [])) {h : Hp} (hf : KL_15 xs Ls rec h (nI i) = some 1) : VW X 7 h cs sl 1055 [(0, .ref b), (1, .ref (gad (xG X) 0)), (2, .ref (gad (xG X) 208)), (3, .ref (gad (xG X) 221)), (4, .int (nI i))] [] := by
  unfold KL_15 at hf
  refine r_aload_n (i := 1) C dL_law__1055 rfl 1 rfl ?_
  refine r_aload_n (i := 0) C dL_law__1056 rfl 0 rfl ?_
  refine r_iload (i := 4) C dL_law__1057 4 rfl ?_
  refine r_iconst (v := 1) C dL_law__1059 (by decide) ?_
  refine r_iadd C dL_law__1060 ?_
  obtain ⟨g1, hf⟩ := gd_of hf
  refine r_sld C hX g1 dL_law__1061 ?_
  refine r_aload_n (i := 3) C dL_law__1062 rfl 3 rfl ?_
  obtain ⟨x2, h3, e4, hf⟩ := cl2_of hf
  refine r_callSW (As := [.ref (gad (xG X) 0), .int (xs ((nI i) + (1 : Int32)).toNatClampNeg), .ref (gad (xG X) 221)]) (st := []) C (kL_days (xG X) e4) hw_168 rfl rfl (Nat.le_of_ble_eq_true rfl) (zl2 hR rfl rfl) (zlc hR (by omega) (by omega)) dL_law__1063 ?_
  refine r_istore (i := 5) (lv' := [(0, .ref b), (1, .ref (gad (xG X) 0)), (2, .ref (gad (xG X) 208)), (3, .ref (gad (xG X) 221)), (4, .int (nI i)), (5, .int x2)]) C dL_law__1066 (by decide) [1, 2, 3, 4, 5, 0] rfl ?_
  refine r_aload_n (i := 2) C dL_law__1068 rfl 2 rfl ?_
  refine r_aload_n (i := 0) C dL_law__1069 rfl 0 rfl ?_
  refine r_iload (i := 4) C dL_law__1070 4 rfl ?_
  refine r_iconst (v := 1) C dL_law__1072 (by decide) ?_
  refine r_iadd C dL_law__1073 ?_
  obtain ⟨g5, hf⟩ := gd_of hf
  refine r_sld C hX g5 dL_law__1074 ?_
  obtain ⟨x8, h6, e7, hf⟩ := cl2_of hf
  refine r_callVi (As := [.int (xs ((nI i) + (1 : Int32)).toNatClampNeg)]) (st := []) C 208 rfl (by decide) rfl (kX12_days (xG X) e7) cw_L_170 rfl rfl (Nat.le_of_ble_eq_true rfl) (zl2 hR rfl rfl) (zlc hR (by omega) (by omega)) dL_law__1075 ?_
  refine r_istore (i := 6) (lv' := [(0, .ref b), (1, .ref (gad (xG X) 0)), (2, .ref (gad (xG X) 208)), (3, .ref (gad (xG X) 221)), (4, .int (nI i)), (5, .int x2), (6, .int x8)]) C dL_law__1078 (by decide) [1, 2, 3, 4, 5, 6, 0] rfl ?_
  refine r_aload_n (i := 2) C dL_law__1080 rfl 2 rfl ?_
  refine r_callVi (As := []) (st := []) C 208 rfl (by decide) rfl (kX12_thrown (xG X)) cw_L_126 rfl rfl (Nat.le_of_ble_eq_true rfl) (zl2 hR rfl rfl) (zlc hR (by omega) (by omega)) dL_law__1081 ?_
  refine r_iload (i := 5) C dL_law__1084 5 rfl ?_
  refine r_icmp_eq C 1091 dL_law__1086 (by decide) (fun c9 => ?_) (fun c9 => ?_)
  · rw [if_pos c9] at hf
    refine r_iload (i := 5) C dL_law__1091 5 rfl ?_
    refine r_if_ne C 1108 dL_law__1093 (by decide) (fun c10 => ?_) (fun c10 => ?_)
    · rw [if_neg c10] at hf
      refine r_goto C 2395 dL_law__1108 (by decide) ?_
      obtain ⟨x11, ex11, hf⟩ := lt_of hf
      refine r_iinc (j := 4) (v := x11) (lv' := [(0, .ref b), (1, .ref (gad (xG X) 0)), (2, .ref (gad (xG X) 208)), (3, .ref (gad (xG X) 221)), (4, .int x11), (5, .int x2), (6, .int x8)]) C dL_law__2395 rfl (by rw [ex11]; rfl) (by decide) [1, 2, 3, 4, 0, 5, 6] rfl ?_
      refine r_goto C 23 dL_law__2398 (by decide) ?_
      have e99 : x11 = nI (i + 6) := by rw [ex11]; exact nI_add i 6
      rw [e99] at hf ⊢
      exact r_widen (c2 := cs + 1) (s2 := sl + 6) (by omega) (by omega) (r_lv [0, 1, 2, 3, 4] rfl (ih (i + 6) _ (cs + 1) (sl + 6) (by omega) (by omega) (by omega) hf))
    · rw [if_pos c10] at hf
      refine r_aload_n (i := 3) C dL_law__1096 rfl 3 rfl ?_
      refine r_iconst (v := 0) C dL_law__1097 (by decide) ?_
      refine r_lald C dL_law__1098 ?_
      refine r_iload (i := 6) C dL_law__1099 6 rfl ?_
      refine r_i2l C dL_law__1101 ?_
      refine r_lcmp C dL_law__1102 ?_
      refine r_if_eq C 1108 dL_law__1103 (by decide) (fun c12 => ?_) (fun c12 => ?_)
      · rw [if_pos c12] at hf
        refine r_goto C 2395 dL_law__1108 (by decide) ?_
        obtain ⟨x13, ex13, hf⟩ := lt_of hf
        refine r_iinc (j := 4) (v := x13) (lv' := [(0, .ref b), (1, .ref (gad (xG X) 0)), (2, .ref (gad (xG X) 208)), (3, .ref (gad (xG X) 221)), (4, .int x13), (5, .int x2), (6, .int x8)]) C dL_law__2395 rfl (by rw [ex13]; rfl) (by decide) [1, 2, 3, 4, 0, 5, 6] rfl ?_
        refine r_goto C 23 dL_law__2398 (by decide) ?_
        have e99 : x13 = nI (i + 6) := by rw [ex13]; exact nI_add i 6
        rw [e99] at hf ⊢
        exact r_widen (c2 := cs + 1) (s2 := sl + 6) (by omega) (by omega) (r_lv [0, 1, 2, 3, 4] rfl (ih (i + 6) _ (cs + 1) (sl + 6) (by omega) (by omega) (by omega) hf))
      · rw [if_neg c12] at hf
        refine r_iconst (v := 0) C dL_law__1106 (by decide) ?_
        exact absurd (Option.some.inj hf) (by decide)
  · rw [if_neg c9] at hf
    refine r_iconst (v := 0) C dL_law__1089 (by decide) ?_
    exact absurd (Option.some.inj hf) (by decide)

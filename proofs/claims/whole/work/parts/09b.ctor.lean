theorem gx_280 : Cond.methodLink RX10 3 objectInit ∈ GT := gt_in 280 (by decide +kernel) rfl
theorem gx_202 : Cond.methodLink RX9 3 objectInit ∈ GT := gt_in 202 (by decide +kernel) rfl
theorem gx_203 : Cond.fieldLink RX9 11 "PinnedSky$Tape" "bytes" "[B" ∈ GT := gt_in 203 (by decide +kernel) rfl
theorem gx_211 : Cond.fieldLink RX9 15 "PinnedSky$Tape" "wrong" "I" ∈ GT := gt_in 211 (by decide +kernel) rfl
theorem gx_292 : Cond.methodLink RX0 1 objectInit ∈ GT := gt_in 292 (by decide +kernel) rfl
theorem gx_297 : Cond.fieldLink RX0 9 "PinnedSky$Crew" "at" "[I" ∈ GT := gt_in 297 (by decide +kernel) rfl
theorem gx_299 : Cond.fieldLink RX0 13 "PinnedSky$Crew" "pace" "[I" ∈ GT := gt_in 299 (by decide +kernel) rfl
theorem gx_301 : Cond.fieldLink RX0 16 "PinnedSky$Crew" "brass" "[I" ∈ GT := gt_in 301 (by decide +kernel) rfl
theorem gx_317 : Cond.methodLink RX4 3 objectInit ∈ GT := gt_in 317 (by decide +kernel) rfl
theorem gx_318 : Cond.fieldLink RX4 11 "PinnedSky$Log" "rows" "[I" ∈ GT := gt_in 318 (by decide +kernel) rfl
theorem gx_286 : Cond.methodLink RX7 3 objectInit ∈ GT := gt_in 286 (by decide +kernel) rfl
theorem gx_329 : Cond.fieldLink RX7 9 "PinnedSky$Sky" "ground" "[I" ∈ GT := gt_in 329 (by decide +kernel) rfl
theorem gx_333 : Cond.fieldLink RX7 15 "PinnedSky$Sky" "need" "[I" ∈ GT := gt_in 333 (by decide +kernel) rfl
theorem gx_336 : Cond.fieldLink RX7 18 "PinnedSky$Sky" "tree" "[I" ∈ GT := gt_in 336 (by decide +kernel) rfl
theorem gx_341 : Cond.fieldLink RX7 21 "PinnedSky$Sky" "rust" "[I" ∈ GT := gt_in 341 (by decide +kernel) rfl
theorem gx_287 : Cond.classLink RX7 24 RX0 ∈ GT := gt_in 287 (by decide +kernel) rfl
theorem gx_288 : Cond.instantiable RX0 4 ∈ GT := gt_in 288 (by decide +kernel) rfl
theorem gx_167 : Cond.initialized RX0 ∈ GT := gt_in 167 (by decide +kernel) rfl
theorem gx_291 : Cond.code yX0_init prog_2_method_1_code 1 none ∈ GT := gt_in 291 (by decide +kernel) rfl
theorem gx_289 : Cond.methodLinkNest RX7 26 yX0_init "PinnedSky" ∈ NW := nw_in 289 (by decide +kernel) rfl
theorem gx_290 : Cond.instanceMethod yX0_init ∈ GT := gt_in 290 (by decide +kernel) rfl
theorem gx_351 : Cond.fieldLink RX7 27 "PinnedSky$Sky" "crew" "LPinnedSky$Crew;" ∈ GT := gt_in 351 (by decide +kernel) rfl
theorem gx_312 : Cond.classLink RX7 31 RX4 ∈ GT := gt_in 312 (by decide +kernel) rfl
theorem gx_313 : Cond.instantiable RX4 3 ∈ GT := gt_in 313 (by decide +kernel) rfl
theorem gx_168 : Cond.initialized RX4 ∈ GT := gt_in 168 (by decide +kernel) rfl
theorem gx_316 : Cond.code yX4_init prog_6_method_1_code 1 none ∈ GT := gt_in 316 (by decide +kernel) rfl
theorem gx_314 : Cond.methodLinkNest RX7 33 yX4_init "PinnedSky" ∈ NW := nw_in 314 (by decide +kernel) rfl
theorem gx_315 : Cond.instanceMethod yX4_init ∈ GT := gt_in 315 (by decide +kernel) rfl
theorem gx_354 : Cond.fieldLink RX7 34 "PinnedSky$Sky" "log" "LPinnedSky$Log;" ∈ GT := gt_in 354 (by decide +kernel) rfl
theorem gx_356 : Cond.fieldLink RX7 38 "PinnedSky$Sky" "height" "I" ∈ GT := gt_in 356 (by decide +kernel) rfl
theorem gx_360 : Cond.fieldLink RX7 42 "PinnedSky$Sky" "tight" "I" ∈ GT := gt_in 360 (by decide +kernel) rfl
theorem gx_377 : Cond.fieldLink RX7 45 "PinnedSky$Sky" "seed" "I" ∈ GT := gt_in 377 (by decide +kernel) rfl
theorem gx_238 : Cond.methodLink RX2 3 objectInit ∈ GT := gt_in 238 (by decide +kernel) rfl
theorem gx_239 : Cond.fieldLink RX2 9 "PinnedSky$Law" "lines" "I" ∈ GT := gt_in 239 (by decide +kernel) rfl
theorem gx_242 : Cond.fieldLink RX2 15 "PinnedSky$Law" "kinds" "[I" ∈ GT := gt_in 242 (by decide +kernel) rfl
theorem gx_243 : Cond.fieldLink RX2 19 "PinnedSky$Law" "amounts" "[I" ∈ GT := gt_in 243 (by decide +kernel) rfl
theorem gx_244 : Cond.fieldLink RX2 22 "PinnedSky$Law" "ends" "[I" ∈ GT := gt_in 244 (by decide +kernel) rfl
theorem gx_245 : Cond.fieldLink RX2 27 "PinnedSky$Law" "steps" "[I" ∈ GT := gt_in 245 (by decide +kernel) rfl
theorem gx_232 : Cond.methodLink RX1 3 objectInit ∈ GT := gt_in 232 (by decide +kernel) rfl
theorem gx_233 : Cond.classLink RX1 9 RX2 ∈ GT := gt_in 233 (by decide +kernel) rfl
theorem gx_234 : Cond.instantiable RX2 6 ∈ GT := gt_in 234 (by decide +kernel) rfl
theorem gx_163 : Cond.initialized RX2 ∈ GT := gt_in 163 (by decide +kernel) rfl
theorem gx_237 : Cond.code yX2_init prog_4_method_1_code 1 none ∈ GT := gt_in 237 (by decide +kernel) rfl
theorem gx_235 : Cond.methodLinkNest RX1 11 yX2_init "PinnedSky" ∈ NW := nw_in 235 (by decide +kernel) rfl
theorem gx_236 : Cond.instanceMethod yX2_init ∈ GT := gt_in 236 (by decide +kernel) rfl
theorem gx_261 : Cond.fieldLink RX1 12 "PinnedSky$Judge" "law" "LPinnedSky$Law;" ∈ GT := gt_in 261 (by decide +kernel) rfl
theorem gx_263 : Cond.fieldLink RX1 18 "PinnedSky$Judge" "asked" "[I" ∈ GT := gt_in 263 (by decide +kernel) rfl
theorem gx_264 : Cond.fieldLink RX1 22 "PinnedSky$Judge" "firm" "[I" ∈ GT := gt_in 264 (by decide +kernel) rfl
theorem gx_279 : Cond.code yX10_init prog_12_method_1_code 1 none ∈ GT := gt_in 279 (by decide +kernel) rfl
theorem gx_164 : Cond.initialized RX10 ∈ GT := gt_in 164 (by decide +kernel) rfl
theorem gx_277 : Cond.methodLinkNest RX8 3 yX10_init "PinnedSky" ∈ NW := nw_in 277 (by decide +kernel) rfl
theorem gx_278 : Cond.instanceMethod yX10_init ∈ GT := gt_in 278 (by decide +kernel) rfl
theorem gx_281 : Cond.classLink RX8 9 RX7 ∈ GT := gt_in 281 (by decide +kernel) rfl
theorem gx_282 : Cond.instantiable RX7 17 ∈ GT := gt_in 282 (by decide +kernel) rfl
theorem gx_166 : Cond.initialized RX7 ∈ GT := gt_in 166 (by decide +kernel) rfl
theorem gx_285 : Cond.code yX7_init prog_9_method_1_code 1 none ∈ GT := gt_in 285 (by decide +kernel) rfl
theorem gx_283 : Cond.methodLinkNest RX8 11 yX7_init "PinnedSky" ∈ NW := nw_in 283 (by decide +kernel) rfl
theorem gx_284 : Cond.instanceMethod yX7_init ∈ GT := gt_in 284 (by decide +kernel) rfl
theorem gx_418 : Cond.fieldLink RX8 12 "PinnedSky$SkyText" "draft" "LPinnedSky$Sky;" ∈ GT := gt_in 418 (by decide +kernel) rfl
theorem gx_428 : Cond.methodLinkNest RX3 3 yX10_init "PinnedSky" ∈ NW := nw_in 428 (by decide +kernel) rfl
theorem gx_429 : Cond.classLink RX3 9 RX2 ∈ GT := gt_in 429 (by decide +kernel) rfl
theorem gx_430 : Cond.methodLinkNest RX3 11 yX2_init "PinnedSky" ∈ NW := nw_in 430 (by decide +kernel) rfl
theorem gx_431 : Cond.fieldLink RX3 12 "PinnedSky$LawText" "draft" "LPinnedSky$Law;" ∈ GT := gt_in 431 (by decide +kernel) rfl
theorem gx_461 : Cond.methodLink RX6 3 objectInit ∈ GT := gt_in 461 (by decide +kernel) rfl
theorem gx_462 : Cond.fieldLink RX6 11 "PinnedSky$Rota" "places" "[I" ∈ GT := gt_in 462 (by decide +kernel) rfl
theorem gx_463 : Cond.fieldLink RX6 17 "PinnedSky$Rota" "way" "[I" ∈ GT := gt_in 463 (by decide +kernel) rfl
theorem gx_464 : Cond.fieldLink RX6 20 "PinnedSky$Rota" "best" "[I" ∈ GT := gt_in 464 (by decide +kernel) rfl
theorem dv_X0 : ∀ j, j < 4 → defaultValue (tyX0 j) = vp_V [.int 0, .null, .null, .null] j := by
  intro j hj
  match j, hj with
  | 0, _ => rfl
  | 1, _ => rfl
  | 2, _ => rfl
  | 3, _ => rfl
  | j + 4, hj => exact absurd hj (by omega)
theorem dv_X1 : ∀ j, j < 3 → defaultValue (tyX1 j) = vp_V [.null, .null, .null] j := by
  intro j hj
  match j, hj with
  | 0, _ => rfl
  | 1, _ => rfl
  | 2, _ => rfl
  | j + 3, hj => exact absurd hj (by omega)
theorem dv_X2 : ∀ j, j < 6 → defaultValue (tyX2 j) = vp_V [.int 0, .null, .null, .null, .null, .int 0] j := by
  intro j hj
  match j, hj with
  | 0, _ => rfl
  | 1, _ => rfl
  | 2, _ => rfl
  | 3, _ => rfl
  | 4, _ => rfl
  | 5, _ => rfl
  | j + 6, hj => exact absurd hj (by omega)
theorem dv_X3 : ∀ j, j < 1 → defaultValue (tyX3 j) = vp_V [.null] j := by
  intro j hj
  match j, hj with
  | 0, _ => rfl
  | j + 1, hj => exact absurd hj (by omega)
theorem dv_X4 : ∀ j, j < 3 → defaultValue (tyX4 j) = vp_V [.null, .int 0, .int 0] j := by
  intro j hj
  match j, hj with
  | 0, _ => rfl
  | 1, _ => rfl
  | 2, _ => rfl
  | j + 3, hj => exact absurd hj (by omega)
theorem dv_X5 : ∀ j, j < 3 → defaultValue (tyX5 j) = vp_V [.null, .int 0, .int 0] j := by
  intro j hj
  match j, hj with
  | 0, _ => rfl
  | 1, _ => rfl
  | 2, _ => rfl
  | j + 3, hj => exact absurd hj (by omega)
theorem dv_X6 : ∀ j, j < 4 → defaultValue (tyX6 j) = vp_V [.null, .null, .null, .int 0] j := by
  intro j hj
  match j, hj with
  | 0, _ => rfl
  | 1, _ => rfl
  | 2, _ => rfl
  | 3, _ => rfl
  | j + 4, hj => exact absurd hj (by omega)
theorem dv_X7 : ∀ j, j < 17 → defaultValue (tyX7 j) = vp_V [.null, .null, .null, .null, .int 0, .int 0, .null, .null, .int 0, .int 0, .int 0, .int 0, .int 0, .int 0, .int 0, .int 0, .int 0] j := by
  intro j hj
  match j, hj with
  | 0, _ => rfl
  | 1, _ => rfl
  | 2, _ => rfl
  | 3, _ => rfl
  | 4, _ => rfl
  | 5, _ => rfl
  | 6, _ => rfl
  | 7, _ => rfl
  | 8, _ => rfl
  | 9, _ => rfl
  | 10, _ => rfl
  | 11, _ => rfl
  | 12, _ => rfl
  | 13, _ => rfl
  | 14, _ => rfl
  | 15, _ => rfl
  | 16, _ => rfl
  | j + 17, hj => exact absurd hj (by omega)
theorem dv_X8 : ∀ j, j < 1 → defaultValue (tyX8 j) = vp_V [.null] j := by
  intro j hj
  match j, hj with
  | 0, _ => rfl
  | j + 1, hj => exact absurd hj (by omega)
theorem dv_X9 : ∀ j, j < 6 → defaultValue (tyX9 j) = vp_V [.null, .int 0, .int 0, .int 0, .int 0, .int 0] j := by
  intro j hj
  match j, hj with
  | 0, _ => rfl
  | 1, _ => rfl
  | 2, _ => rfl
  | 3, _ => rfl
  | 4, _ => rfl
  | 5, _ => rfl
  | j + 6, hj => exact absurd hj (by omega)
theorem dv_X11 : ∀ j, j < 15 → defaultValue (tyX11 j) = vp_V [.null, .null, .null, .null, .null, .null, .null, .null, .null, .null, .int 0, .int 0, .null, .null, .null] j := by
  intro j hj
  match j, hj with
  | 0, _ => rfl
  | 1, _ => rfl
  | 2, _ => rfl
  | 3, _ => rfl
  | 4, _ => rfl
  | 5, _ => rfl
  | 6, _ => rfl
  | 7, _ => rfl
  | 8, _ => rfl
  | 9, _ => rfl
  | 10, _ => rfl
  | 11, _ => rfl
  | 12, _ => rfl
  | 13, _ => rfl
  | 14, _ => rfl
  | j + 15, hj => exact absurd hj (by omega)
theorem dv_X12 : ∀ j, j < 24 → defaultValue (tyX12 j) = vp_V [.int 0, .null, .null, .null, .null, .null, .int 0, .int 0, .null, .int 0, .int 0, .int 0, .int 0, .int 0, .int 0, .null, .int 0, .null, .int 0, .null, .null, .null, .int 0, .null] j := by
  intro j hj
  match j, hj with
  | 0, _ => rfl
  | 1, _ => rfl
  | 2, _ => rfl
  | 3, _ => rfl
  | 4, _ => rfl
  | 5, _ => rfl
  | 6, _ => rfl
  | 7, _ => rfl
  | 8, _ => rfl
  | 9, _ => rfl
  | 10, _ => rfl
  | 11, _ => rfl
  | 12, _ => rfl
  | 13, _ => rfl
  | 14, _ => rfl
  | 15, _ => rfl
  | 16, _ => rfl
  | 17, _ => rfl
  | 18, _ => rfl
  | 19, _ => rfl
  | 20, _ => rfl
  | 21, _ => rfl
  | 22, _ => rfl
  | 23, _ => rfl
  | j + 24, hj => exact absurd hj (by omega)
set_option maxHeartbeats 4000000 in
theorem kX10_init (G : Gx) (ci : Nat) (fs0 : List Value) : MK G yX10_init cX10_init 1 2 128 0 0 ci fs0 (fun a => [(a 0, .inr (ci, fs0))]) := by
  refine MK.of RX10 (by decide) rfl rfl (by decide) (fun ws q0 X C hI hG hR hF => ?_)
  subst hG
  refine n_aload_n (i := 0) C dX10_init_0 rfl 0 rfl ?_
  refine n_obj C gx_280 (zkf hR rfl rfl) dX10_init_1 ?_
  exact n_ret C hI hF (vF [q0]) rfl rfl dX10_init_4
def blkX9 (cA : Nat → ClassId) (a : Nat → Nat) : va_W := ((a 0, .inr (9, [.ref (a 1), .int 0, .int 0, .int 0, .int 0, .int (-1)])) :: [(a 1, .inl (cA 1, 400, .inl (fun _ => 0)))])
set_option maxHeartbeats 4000000 in
set_option maxRecDepth 100000 in
theorem kX9_init (G : Gx) : MK G yX9_init cX9_init 1 1 64 1 400 9 [.null, .int 0, .int 0, .int 0, .int 0, .int 0] (blkX9 G.2.2.1) := by
  refine MK.of RX9 (by decide) rfl rfl (by decide) (fun ws q0 X C hI hG hR hF => ?_)
  subst hG
  refine n_aload_n (i := 0) C dX9_init_0 rfl 0 rfl ?_
  refine n_obj C gx_202 (zkf hR rfl rfl) dX9_init_1 ?_
  refine n_aload_n (i := 0) C dX9_init_4 rfl 0 rfl ?_
  refine n_sipush (v := 400) C dX9_init_5 (by decide) ?_
  refine n_newa_byte (N := 400) (L2 := fun q => ((q0, .inr (9, [.null, .int 0, .int 0, .int 0, .int 0, .int 0])) :: [(q, .inl ((xG X).2.2.1 1, 400, .inl (fun _ => 0)))])) C (fun _ => rfl) ga_byte (by decide) (by decide) (by decide) (zk hR rfl rfl) dX9_init_8 (fun q1 => ?_)
  refine n_putF (fs := [.null, .int 0, .int 0, .int 0, .int 0, .int 0]) (L2 := ((q0, .inr (9, [.ref q1, .int 0, .int 0, .int 0, .int 0, .int 0])) :: [(q1, .inl ((xG X).2.2.1 1, 400, .inl (fun _ => 0)))])) C 0 0 rfl rfl rfl u_X9 tyX9 tyX9_ok nmX9 (by decide) gx_203 rfl hI rfl rfl rfl rfl (Nat.le_of_ble_eq_true rfl) dX9_init_10 ?_
  refine n_aload_n (i := 0) C dX9_init_13 rfl 0 rfl ?_
  refine n_iconst (v := (-1)) C dX9_init_14 (by decide) ?_
  refine n_put (fs := [.ref q1, .int 0, .int 0, .int 0, .int 0, .int 0]) (L2 := ((q0, .inr (9, [.ref q1, .int 0, .int 0, .int 0, .int 0, .int (-1)])) :: [(q1, .inl ((xG X).2.2.1 1, 400, .inl (fun _ => 0)))])) C 0 5 rfl rfl rfl u_X9 tyX9 tyX9_ok nmX9 (by decide) gx_211 rfl rfl rfl rfl (Nat.le_of_ble_eq_true rfl) dX9_init_15 ?_
  refine n_cs (c2 := 1) (s2 := 400) rfl rfl ?_
  exact n_ret C hI hF (vF [q0, q1]) rfl rfl dX9_init_18
def blkX0 (cA : Nat → ClassId) (a : Nat → Nat) : va_W := ((a 0, .inr (0, [.int 0, .ref (a 1), .ref (a 2), .ref (a 3)])) :: ((a 1, .inl (cA 0, 5, .inl (fun _ => 0))) :: ((a 2, .inl (cA 0, 5, .inl (fun _ => 0))) :: [(a 3, .inl (cA 0, 5, .inl (fun _ => 0)))])))
set_option maxHeartbeats 4000000 in
set_option maxRecDepth 100000 in
theorem kX0_init (G : Gx) : MK G yX0_init cX0_init 1 1 64 3 15 0 [.int 0, .null, .null, .null] (blkX0 G.2.2.1) := by
  refine MK.of RX0 (by decide) rfl rfl (by decide) (fun ws q0 X C hI hG hR hF => ?_)
  subst hG
  refine n_aload_n (i := 0) C dX0_init_0 rfl 0 rfl ?_
  refine n_obj C gx_292 (zkf hR rfl rfl) dX0_init_1 ?_
  refine n_aload_n (i := 0) C dX0_init_4 rfl 0 rfl ?_
  refine n_iconst (v := 5) C dX0_init_5 (by decide) ?_
  refine n_newa_int (N := 5) (L2 := fun q => ((q0, .inr (0, [.int 0, .null, .null, .null])) :: [(q, .inl ((xG X).2.2.1 0, 5, .inl (fun _ => 0)))])) C (fun _ => rfl) ga_int (by decide) (by decide) (by decide) (zk hR rfl rfl) dX0_init_6 (fun q1 => ?_)
  refine n_putF (fs := [.int 0, .null, .null, .null]) (L2 := ((q0, .inr (0, [.int 0, .ref q1, .null, .null])) :: [(q1, .inl ((xG X).2.2.1 0, 5, .inl (fun _ => 0)))])) C 0 1 rfl rfl rfl u_X0 tyX0 tyX0_ok nmX0 (by decide) gx_297 rfl hI rfl rfl rfl rfl (Nat.le_of_ble_eq_true rfl) dX0_init_8 ?_
  refine n_aload_n (i := 0) C dX0_init_11 rfl 0 rfl ?_
  refine n_iconst (v := 5) C dX0_init_12 (by decide) ?_
  refine n_newa_int (N := 5) (L2 := fun q => ((q0, .inr (0, [.int 0, .ref q1, .null, .null])) :: ((q1, .inl ((xG X).2.2.1 0, 5, .inl (fun _ => 0))) :: [(q, .inl ((xG X).2.2.1 0, 5, .inl (fun _ => 0)))]))) C (fun _ => rfl) ga_int (by decide) (by decide) (by decide) (zk hR rfl rfl) dX0_init_13 (fun q2 => ?_)
  refine n_putF (fs := [.int 0, .ref q1, .null, .null]) (L2 := ((q0, .inr (0, [.int 0, .ref q1, .ref q2, .null])) :: ((q1, .inl ((xG X).2.2.1 0, 5, .inl (fun _ => 0))) :: [(q2, .inl ((xG X).2.2.1 0, 5, .inl (fun _ => 0)))]))) C 0 2 rfl rfl rfl u_X0 tyX0 tyX0_ok nmX0 (by decide) gx_299 rfl hI rfl rfl rfl rfl (Nat.le_of_ble_eq_true rfl) dX0_init_15 ?_
  refine n_aload_n (i := 0) C dX0_init_18 rfl 0 rfl ?_
  refine n_iconst (v := 5) C dX0_init_19 (by decide) ?_
  refine n_newa_int (N := 5) (L2 := fun q => ((q0, .inr (0, [.int 0, .ref q1, .ref q2, .null])) :: ((q1, .inl ((xG X).2.2.1 0, 5, .inl (fun _ => 0))) :: ((q2, .inl ((xG X).2.2.1 0, 5, .inl (fun _ => 0))) :: [(q, .inl ((xG X).2.2.1 0, 5, .inl (fun _ => 0)))])))) C (fun _ => rfl) ga_int (by decide) (by decide) (by decide) (zk hR rfl rfl) dX0_init_20 (fun q3 => ?_)
  refine n_putF (fs := [.int 0, .ref q1, .ref q2, .null]) (L2 := ((q0, .inr (0, [.int 0, .ref q1, .ref q2, .ref q3])) :: ((q1, .inl ((xG X).2.2.1 0, 5, .inl (fun _ => 0))) :: ((q2, .inl ((xG X).2.2.1 0, 5, .inl (fun _ => 0))) :: [(q3, .inl ((xG X).2.2.1 0, 5, .inl (fun _ => 0)))])))) C 0 3 rfl rfl rfl u_X0 tyX0 tyX0_ok nmX0 (by decide) gx_301 rfl hI rfl rfl rfl rfl (Nat.le_of_ble_eq_true rfl) dX0_init_22 ?_
  refine n_cs (c2 := 3) (s2 := 15) rfl rfl ?_
  exact n_ret C hI hF (vF [q0, q1, q2, q3]) rfl rfl dX0_init_25
def blkX4 (cA : Nat → ClassId) (a : Nat → Nat) : va_W := ((a 0, .inr (4, [.ref (a 1), .int 0, .int 0])) :: [(a 1, .inl (cA 0, 60, .inl (fun _ => 0)))])
set_option maxHeartbeats 4000000 in
set_option maxRecDepth 100000 in
theorem kX4_init (G : Gx) : MK G yX4_init cX4_init 1 1 64 1 60 4 [.null, .int 0, .int 0] (blkX4 G.2.2.1) := by
  refine MK.of RX4 (by decide) rfl rfl (by decide) (fun ws q0 X C hI hG hR hF => ?_)
  subst hG
  refine n_aload_n (i := 0) C dX4_init_0 rfl 0 rfl ?_
  refine n_obj C gx_317 (zkf hR rfl rfl) dX4_init_1 ?_
  refine n_aload_n (i := 0) C dX4_init_4 rfl 0 rfl ?_
  refine n_bipush (v := 60) C dX4_init_5 (by decide) ?_
  refine n_newa_int (N := 60) (L2 := fun q => ((q0, .inr (4, [.null, .int 0, .int 0])) :: [(q, .inl ((xG X).2.2.1 0, 60, .inl (fun _ => 0)))])) C (fun _ => rfl) ga_int (by decide) (by decide) (by decide) (zk hR rfl rfl) dX4_init_7 (fun q1 => ?_)
  refine n_putF (fs := [.null, .int 0, .int 0]) (L2 := ((q0, .inr (4, [.ref q1, .int 0, .int 0])) :: [(q1, .inl ((xG X).2.2.1 0, 60, .inl (fun _ => 0)))])) C 0 0 rfl rfl rfl u_X4 tyX4 tyX4_ok nmX4 (by decide) gx_318 rfl hI rfl rfl rfl rfl (Nat.le_of_ble_eq_true rfl) dX4_init_9 ?_
  refine n_cs (c2 := 1) (s2 := 60) rfl rfl ?_
  exact n_ret C hI hF (vF [q0, q1]) rfl rfl dX4_init_12
def blkX7 (cA : Nat → ClassId) (a : Nat → Nat) : va_W := ((a 0, .inr (7, [.ref (a 1), .ref (a 2), .ref (a 3), .ref (a 4), .int 0, .int 0, .ref (a 5), .ref (a 9), .int 20, .int 3, .int 0, .int 0, .int 0, .int 0, .int 1, .int 0, .int 0])) :: ((a 1, .inl (cA 0, 16, .inl (fun _ => 0))) :: ((a 2, .inl (cA 0, 16, .inl (fun _ => 0))) :: ((a 3, .inl (cA 0, 16, .inl (fun _ => 0))) :: ((a 4, .inl (cA 0, 16, .inl (fun _ => 0))) :: (blkX0 cA (fun j => a (5 + j)) ++ (blkX4 cA (fun j => a (9 + j)))))))))
set_option maxHeartbeats 4000000 in
set_option maxRecDepth 100000 in
theorem kX7_init (G : Gx) : MK G yX7_init cX7_init 1 2 128 10 146 7 [.null, .null, .null, .null, .int 0, .int 0, .null, .null, .int 0, .int 0, .int 0, .int 0, .int 0, .int 0, .int 0, .int 0, .int 0] (blkX7 G.2.2.1) := by
  refine MK.of RX7 (by decide) rfl rfl (by decide) (fun ws q0 X C hI hG hR hF => ?_)
  subst hG
  refine n_aload_n (i := 0) C dX7_init_0 rfl 0 rfl ?_
  refine n_obj C gx_286 (zkf hR rfl rfl) dX7_init_1 ?_
  refine n_aload_n (i := 0) C dX7_init_4 rfl 0 rfl ?_
  refine n_bipush (v := 16) C dX7_init_5 (by decide) ?_
  refine n_newa_int (N := 16) (L2 := fun q => ((q0, .inr (7, [.null, .null, .null, .null, .int 0, .int 0, .null, .null, .int 0, .int 0, .int 0, .int 0, .int 0, .int 0, .int 0, .int 0, .int 0])) :: [(q, .inl ((xG X).2.2.1 0, 16, .inl (fun _ => 0)))])) C (fun _ => rfl) ga_int (by decide) (by decide) (by decide) (zk hR rfl rfl) dX7_init_7 (fun q1 => ?_)
  refine n_putF (fs := [.null, .null, .null, .null, .int 0, .int 0, .null, .null, .int 0, .int 0, .int 0, .int 0, .int 0, .int 0, .int 0, .int 0, .int 0]) (L2 := ((q0, .inr (7, [.ref q1, .null, .null, .null, .int 0, .int 0, .null, .null, .int 0, .int 0, .int 0, .int 0, .int 0, .int 0, .int 0, .int 0, .int 0])) :: [(q1, .inl ((xG X).2.2.1 0, 16, .inl (fun _ => 0)))])) C 0 0 rfl rfl rfl u_X7 tyX7 tyX7_ok nmX7 (by decide) gx_329 rfl hI rfl rfl rfl rfl (Nat.le_of_ble_eq_true rfl) dX7_init_9 ?_
  refine n_aload_n (i := 0) C dX7_init_12 rfl 0 rfl ?_
  refine n_bipush (v := 16) C dX7_init_13 (by decide) ?_
  refine n_newa_int (N := 16) (L2 := fun q => ((q0, .inr (7, [.ref q1, .null, .null, .null, .int 0, .int 0, .null, .null, .int 0, .int 0, .int 0, .int 0, .int 0, .int 0, .int 0, .int 0, .int 0])) :: ((q1, .inl ((xG X).2.2.1 0, 16, .inl (fun _ => 0))) :: [(q, .inl ((xG X).2.2.1 0, 16, .inl (fun _ => 0)))]))) C (fun _ => rfl) ga_int (by decide) (by decide) (by decide) (zk hR rfl rfl) dX7_init_15 (fun q2 => ?_)
  refine n_putF (fs := [.ref q1, .null, .null, .null, .int 0, .int 0, .null, .null, .int 0, .int 0, .int 0, .int 0, .int 0, .int 0, .int 0, .int 0, .int 0]) (L2 := ((q0, .inr (7, [.ref q1, .ref q2, .null, .null, .int 0, .int 0, .null, .null, .int 0, .int 0, .int 0, .int 0, .int 0, .int 0, .int 0, .int 0, .int 0])) :: ((q1, .inl ((xG X).2.2.1 0, 16, .inl (fun _ => 0))) :: [(q2, .inl ((xG X).2.2.1 0, 16, .inl (fun _ => 0)))]))) C 0 1 rfl rfl rfl u_X7 tyX7 tyX7_ok nmX7 (by decide) gx_333 rfl hI rfl rfl rfl rfl (Nat.le_of_ble_eq_true rfl) dX7_init_17 ?_
  refine n_aload_n (i := 0) C dX7_init_20 rfl 0 rfl ?_
  refine n_bipush (v := 16) C dX7_init_21 (by decide) ?_
  refine n_newa_int (N := 16) (L2 := fun q => ((q0, .inr (7, [.ref q1, .ref q2, .null, .null, .int 0, .int 0, .null, .null, .int 0, .int 0, .int 0, .int 0, .int 0, .int 0, .int 0, .int 0, .int 0])) :: ((q1, .inl ((xG X).2.2.1 0, 16, .inl (fun _ => 0))) :: ((q2, .inl ((xG X).2.2.1 0, 16, .inl (fun _ => 0))) :: [(q, .inl ((xG X).2.2.1 0, 16, .inl (fun _ => 0)))])))) C (fun _ => rfl) ga_int (by decide) (by decide) (by decide) (zk hR rfl rfl) dX7_init_23 (fun q3 => ?_)
  refine n_putF (fs := [.ref q1, .ref q2, .null, .null, .int 0, .int 0, .null, .null, .int 0, .int 0, .int 0, .int 0, .int 0, .int 0, .int 0, .int 0, .int 0]) (L2 := ((q0, .inr (7, [.ref q1, .ref q2, .ref q3, .null, .int 0, .int 0, .null, .null, .int 0, .int 0, .int 0, .int 0, .int 0, .int 0, .int 0, .int 0, .int 0])) :: ((q1, .inl ((xG X).2.2.1 0, 16, .inl (fun _ => 0))) :: ((q2, .inl ((xG X).2.2.1 0, 16, .inl (fun _ => 0))) :: [(q3, .inl ((xG X).2.2.1 0, 16, .inl (fun _ => 0)))])))) C 0 2 rfl rfl rfl u_X7 tyX7 tyX7_ok nmX7 (by decide) gx_336 rfl hI rfl rfl rfl rfl (Nat.le_of_ble_eq_true rfl) dX7_init_25 ?_
  refine n_aload_n (i := 0) C dX7_init_28 rfl 0 rfl ?_
  refine n_bipush (v := 16) C dX7_init_29 (by decide) ?_
  refine n_newa_int (N := 16) (L2 := fun q => ((q0, .inr (7, [.ref q1, .ref q2, .ref q3, .null, .int 0, .int 0, .null, .null, .int 0, .int 0, .int 0, .int 0, .int 0, .int 0, .int 0, .int 0, .int 0])) :: ((q1, .inl ((xG X).2.2.1 0, 16, .inl (fun _ => 0))) :: ((q2, .inl ((xG X).2.2.1 0, 16, .inl (fun _ => 0))) :: ((q3, .inl ((xG X).2.2.1 0, 16, .inl (fun _ => 0))) :: [(q, .inl ((xG X).2.2.1 0, 16, .inl (fun _ => 0)))]))))) C (fun _ => rfl) ga_int (by decide) (by decide) (by decide) (zk hR rfl rfl) dX7_init_31 (fun q4 => ?_)
  refine n_putF (fs := [.ref q1, .ref q2, .ref q3, .null, .int 0, .int 0, .null, .null, .int 0, .int 0, .int 0, .int 0, .int 0, .int 0, .int 0, .int 0, .int 0]) (L2 := ((q0, .inr (7, [.ref q1, .ref q2, .ref q3, .ref q4, .int 0, .int 0, .null, .null, .int 0, .int 0, .int 0, .int 0, .int 0, .int 0, .int 0, .int 0, .int 0])) :: ((q1, .inl ((xG X).2.2.1 0, 16, .inl (fun _ => 0))) :: ((q2, .inl ((xG X).2.2.1 0, 16, .inl (fun _ => 0))) :: ((q3, .inl ((xG X).2.2.1 0, 16, .inl (fun _ => 0))) :: [(q4, .inl ((xG X).2.2.1 0, 16, .inl (fun _ => 0)))]))))) C 0 3 rfl rfl rfl u_X7 tyX7 tyX7_ok nmX7 (by decide) gx_341 rfl hI rfl rfl rfl rfl (Nat.le_of_ble_eq_true rfl) dX7_init_33 ?_
  refine n_aload_n (i := 0) C dX7_init_36 rfl 0 rfl ?_
  refine n_new (ci := 0) (fs := [.int 0, .null, .null, .null]) (L2 := fun q => ((q0, .inr (7, [.ref q1, .ref q2, .ref q3, .ref q4, .int 0, .int 0, .null, .null, .int 0, .int 0, .int 0, .int 0, .int 0, .int 0, .int 0, .int 0, .int 0])) :: ((q1, .inl ((xG X).2.2.1 0, 16, .inl (fun _ => 0))) :: ((q2, .inl ((xG X).2.2.1 0, 16, .inl (fun _ => 0))) :: ((q3, .inl ((xG X).2.2.1 0, 16, .inl (fun _ => 0))) :: ((q4, .inl ((xG X).2.2.1 0, 16, .inl (fun _ => 0))) :: [(q, .inr (0, [.int 0, .null, .null, .null]))])))))) C (fun _ => rfl) u_X0 tyX0 tyX0_ok gx_287 gx_288 gx_167 rfl dv_X0 (zk hR rfl rfl) dX7_init_37 (fun q5 => ?_)
  refine n_dup C dX7_init_40 rfl ?_
  refine n_initN (L1 := ((q0, .inr (7, [.ref q1, .ref q2, .ref q3, .ref q4, .int 0, .int 0, .null, .null, .int 0, .int 0, .int 0, .int 0, .int 0, .int 0, .int 0, .int 0, .int 0])) :: ((q1, .inl ((xG X).2.2.1 0, 16, .inl (fun _ => 0))) :: ((q2, .inl ((xG X).2.2.1 0, 16, .inl (fun _ => 0))) :: ((q3, .inl ((xG X).2.2.1 0, 16, .inl (fun _ => 0))) :: [(q4, .inl ((xG X).2.2.1 0, 16, .inl (fun _ => 0)))]))))) (L2 := fun a => ((q0, .inr (7, [.ref q1, .ref q2, .ref q3, .ref q4, .int 0, .int 0, .null, .null, .int 0, .int 0, .int 0, .int 0, .int 0, .int 0, .int 0, .int 0, .int 0])) :: ((q1, .inl ((xG X).2.2.1 0, 16, .inl (fun _ => 0))) :: ((q2, .inl ((xG X).2.2.1 0, 16, .inl (fun _ => 0))) :: ((q3, .inl ((xG X).2.2.1 0, 16, .inl (fun _ => 0))) :: ((q4, .inl ((xG X).2.2.1 0, 16, .inl (fun _ => 0))) :: (blkX0 ((xG X).2.2.1) a))))))) C (kX0_init (xG X)) (rfl) (fun _ => rfl) rfl ⟨gx_291, gx_167, ⟨by decide, by decide, by decide +kernel⟩, gx_289, gx_290⟩ (Nat.le_of_ble_eq_true rfl) (zq2 hR rfl rfl) (zk hR rfl rfl) dX7_init_41 (fun a6 ha6 => ?_)
  subst ha6
  refine n_putF (fs := [.ref q1, .ref q2, .ref q3, .ref q4, .int 0, .int 0, .null, .null, .int 0, .int 0, .int 0, .int 0, .int 0, .int 0, .int 0, .int 0, .int 0]) (L2 := ((q0, .inr (7, [.ref q1, .ref q2, .ref q3, .ref q4, .int 0, .int 0, .ref (a6 0), .null, .int 0, .int 0, .int 0, .int 0, .int 0, .int 0, .int 0, .int 0, .int 0])) :: ((q1, .inl ((xG X).2.2.1 0, 16, .inl (fun _ => 0))) :: ((q2, .inl ((xG X).2.2.1 0, 16, .inl (fun _ => 0))) :: ((q3, .inl ((xG X).2.2.1 0, 16, .inl (fun _ => 0))) :: ((q4, .inl ((xG X).2.2.1 0, 16, .inl (fun _ => 0))) :: (blkX0 ((xG X).2.2.1) a6))))))) C 0 6 rfl rfl rfl u_X7 tyX7 tyX7_ok nmX7 (by decide) gx_351 rfl hI rfl rfl rfl rfl (Nat.le_of_ble_eq_true rfl) dX7_init_44 ?_
  refine n_aload_n (i := 0) C dX7_init_47 rfl 0 rfl ?_
  refine n_new (ci := 4) (fs := [.null, .int 0, .int 0]) (L2 := fun q => ((q0, .inr (7, [.ref q1, .ref q2, .ref q3, .ref q4, .int 0, .int 0, .ref (a6 0), .null, .int 0, .int 0, .int 0, .int 0, .int 0, .int 0, .int 0, .int 0, .int 0])) :: ((q1, .inl ((xG X).2.2.1 0, 16, .inl (fun _ => 0))) :: ((q2, .inl ((xG X).2.2.1 0, 16, .inl (fun _ => 0))) :: ((q3, .inl ((xG X).2.2.1 0, 16, .inl (fun _ => 0))) :: ((q4, .inl ((xG X).2.2.1 0, 16, .inl (fun _ => 0))) :: (blkX0 ((xG X).2.2.1) a6 ++ [(q, .inr (4, [.null, .int 0, .int 0]))]))))))) C (fun _ => by simp only [List.cons_append, List.append_assoc, List.nil_append]) u_X4 tyX4 tyX4_ok gx_312 gx_313 gx_168 rfl dv_X4 (zk hR rfl rfl) dX7_init_48 (fun q7 => ?_)
  refine n_dup C dX7_init_51 rfl ?_
  refine n_initN (L1 := ((q0, .inr (7, [.ref q1, .ref q2, .ref q3, .ref q4, .int 0, .int 0, .ref (a6 0), .null, .int 0, .int 0, .int 0, .int 0, .int 0, .int 0, .int 0, .int 0, .int 0])) :: ((q1, .inl ((xG X).2.2.1 0, 16, .inl (fun _ => 0))) :: ((q2, .inl ((xG X).2.2.1 0, 16, .inl (fun _ => 0))) :: ((q3, .inl ((xG X).2.2.1 0, 16, .inl (fun _ => 0))) :: ((q4, .inl ((xG X).2.2.1 0, 16, .inl (fun _ => 0))) :: (blkX0 ((xG X).2.2.1) a6))))))) (L2 := fun a => ((q0, .inr (7, [.ref q1, .ref q2, .ref q3, .ref q4, .int 0, .int 0, .ref (a6 0), .null, .int 0, .int 0, .int 0, .int 0, .int 0, .int 0, .int 0, .int 0, .int 0])) :: ((q1, .inl ((xG X).2.2.1 0, 16, .inl (fun _ => 0))) :: ((q2, .inl ((xG X).2.2.1 0, 16, .inl (fun _ => 0))) :: ((q3, .inl ((xG X).2.2.1 0, 16, .inl (fun _ => 0))) :: ((q4, .inl ((xG X).2.2.1 0, 16, .inl (fun _ => 0))) :: (blkX0 ((xG X).2.2.1) a6 ++ (blkX4 ((xG X).2.2.1) a)))))))) C (kX4_init (xG X)) (by simp only [List.cons_append, List.append_assoc, List.nil_append]) (fun _ => by simp only [List.cons_append, List.append_assoc, List.nil_append]) rfl ⟨gx_316, gx_168, ⟨by decide, by decide, by decide +kernel⟩, gx_314, gx_315⟩ (Nat.le_of_ble_eq_true rfl) (zq2 hR rfl rfl) (zk hR rfl rfl) dX7_init_52 (fun a8 ha8 => ?_)
  subst ha8
  refine n_putF (fs := [.ref q1, .ref q2, .ref q3, .ref q4, .int 0, .int 0, .ref (a6 0), .null, .int 0, .int 0, .int 0, .int 0, .int 0, .int 0, .int 0, .int 0, .int 0]) (L2 := ((q0, .inr (7, [.ref q1, .ref q2, .ref q3, .ref q4, .int 0, .int 0, .ref (a6 0), .ref (a8 0), .int 0, .int 0, .int 0, .int 0, .int 0, .int 0, .int 0, .int 0, .int 0])) :: ((q1, .inl ((xG X).2.2.1 0, 16, .inl (fun _ => 0))) :: ((q2, .inl ((xG X).2.2.1 0, 16, .inl (fun _ => 0))) :: ((q3, .inl ((xG X).2.2.1 0, 16, .inl (fun _ => 0))) :: ((q4, .inl ((xG X).2.2.1 0, 16, .inl (fun _ => 0))) :: (blkX0 ((xG X).2.2.1) a6 ++ (blkX4 ((xG X).2.2.1) a8)))))))) C 0 7 rfl rfl rfl u_X7 tyX7 tyX7_ok nmX7 (by decide) gx_354 rfl hI rfl rfl rfl rfl (Nat.le_of_ble_eq_true rfl) dX7_init_55 ?_
  refine n_aload_n (i := 0) C dX7_init_58 rfl 0 rfl ?_
  refine n_bipush (v := 20) C dX7_init_59 (by decide) ?_
  refine n_put (fs := [.ref q1, .ref q2, .ref q3, .ref q4, .int 0, .int 0, .ref (a6 0), .ref (a8 0), .int 0, .int 0, .int 0, .int 0, .int 0, .int 0, .int 0, .int 0, .int 0]) (L2 := ((q0, .inr (7, [.ref q1, .ref q2, .ref q3, .ref q4, .int 0, .int 0, .ref (a6 0), .ref (a8 0), .int 20, .int 0, .int 0, .int 0, .int 0, .int 0, .int 0, .int 0, .int 0])) :: ((q1, .inl ((xG X).2.2.1 0, 16, .inl (fun _ => 0))) :: ((q2, .inl ((xG X).2.2.1 0, 16, .inl (fun _ => 0))) :: ((q3, .inl ((xG X).2.2.1 0, 16, .inl (fun _ => 0))) :: ((q4, .inl ((xG X).2.2.1 0, 16, .inl (fun _ => 0))) :: (blkX0 ((xG X).2.2.1) a6 ++ (blkX4 ((xG X).2.2.1) a8)))))))) C 0 8 rfl rfl rfl u_X7 tyX7 tyX7_ok nmX7 (by decide) gx_356 rfl rfl rfl rfl (Nat.le_of_ble_eq_true rfl) dX7_init_61 ?_
  refine n_aload_n (i := 0) C dX7_init_64 rfl 0 rfl ?_
  refine n_iconst (v := 3) C dX7_init_65 (by decide) ?_
  refine n_put (fs := [.ref q1, .ref q2, .ref q3, .ref q4, .int 0, .int 0, .ref (a6 0), .ref (a8 0), .int 20, .int 0, .int 0, .int 0, .int 0, .int 0, .int 0, .int 0, .int 0]) (L2 := ((q0, .inr (7, [.ref q1, .ref q2, .ref q3, .ref q4, .int 0, .int 0, .ref (a6 0), .ref (a8 0), .int 20, .int 3, .int 0, .int 0, .int 0, .int 0, .int 0, .int 0, .int 0])) :: ((q1, .inl ((xG X).2.2.1 0, 16, .inl (fun _ => 0))) :: ((q2, .inl ((xG X).2.2.1 0, 16, .inl (fun _ => 0))) :: ((q3, .inl ((xG X).2.2.1 0, 16, .inl (fun _ => 0))) :: ((q4, .inl ((xG X).2.2.1 0, 16, .inl (fun _ => 0))) :: (blkX0 ((xG X).2.2.1) a6 ++ (blkX4 ((xG X).2.2.1) a8)))))))) C 0 9 rfl rfl rfl u_X7 tyX7 tyX7_ok nmX7 (by decide) gx_360 rfl rfl rfl rfl (Nat.le_of_ble_eq_true rfl) dX7_init_66 ?_
  refine n_aload_n (i := 0) C dX7_init_69 rfl 0 rfl ?_
  refine n_iconst (v := 1) C dX7_init_70 (by decide) ?_
  refine n_put (fs := [.ref q1, .ref q2, .ref q3, .ref q4, .int 0, .int 0, .ref (a6 0), .ref (a8 0), .int 20, .int 3, .int 0, .int 0, .int 0, .int 0, .int 0, .int 0, .int 0]) (L2 := ((q0, .inr (7, [.ref q1, .ref q2, .ref q3, .ref q4, .int 0, .int 0, .ref (a6 0), .ref (a8 0), .int 20, .int 3, .int 0, .int 0, .int 0, .int 0, .int 1, .int 0, .int 0])) :: ((q1, .inl ((xG X).2.2.1 0, 16, .inl (fun _ => 0))) :: ((q2, .inl ((xG X).2.2.1 0, 16, .inl (fun _ => 0))) :: ((q3, .inl ((xG X).2.2.1 0, 16, .inl (fun _ => 0))) :: ((q4, .inl ((xG X).2.2.1 0, 16, .inl (fun _ => 0))) :: (blkX0 ((xG X).2.2.1) a6 ++ (blkX4 ((xG X).2.2.1) a8)))))))) C 0 14 rfl rfl rfl u_X7 tyX7 tyX7_ok nmX7 (by decide) gx_377 rfl rfl rfl rfl (Nat.le_of_ble_eq_true rfl) dX7_init_71 ?_
  refine n_cs (c2 := 10) (s2 := 146) rfl rfl ?_
  exact n_ret C hI hF (vF [q0, q1, q2, q3, q4, (a6 0), (a6 1), (a6 2), (a6 3), (a8 0), (a8 1)]) rfl rfl dX7_init_74
def blkX2 (cA : Nat → ClassId) (a : Nat → Nat) : va_W := ((a 0, .inr (2, [.int (-1), .ref (a 1), .ref (a 2), .ref (a 3), .ref (a 4), .int 0])) :: ((a 1, .inl (cA 0, 12, .inl (fun _ => 0))) :: ((a 2, .inl (cA 0, 12, .inl (fun _ => 0))) :: ((a 3, .inl (cA 0, 12, .inl (fun _ => 0))) :: [(a 4, .inl (cA 0, 400, .inl (fun _ => 0)))]))))
set_option maxHeartbeats 4000000 in
set_option maxRecDepth 100000 in
theorem kX2_init (G : Gx) : MK G yX2_init cX2_init 1 1 64 4 436 2 [.int 0, .null, .null, .null, .null, .int 0] (blkX2 G.2.2.1) := by
  refine MK.of RX2 (by decide) rfl rfl (by decide) (fun ws q0 X C hI hG hR hF => ?_)
  subst hG
  refine n_aload_n (i := 0) C dX2_init_0 rfl 0 rfl ?_
  refine n_obj C gx_238 (zkf hR rfl rfl) dX2_init_1 ?_
  refine n_aload_n (i := 0) C dX2_init_4 rfl 0 rfl ?_
  refine n_iconst (v := (-1)) C dX2_init_5 (by decide) ?_
  refine n_put (fs := [.int 0, .null, .null, .null, .null, .int 0]) (L2 := [(q0, .inr (2, [.int (-1), .null, .null, .null, .null, .int 0]))]) C 0 0 rfl rfl rfl u_X2 tyX2 tyX2_ok nmX2 (by decide) gx_239 rfl rfl rfl rfl (Nat.le_of_ble_eq_true rfl) dX2_init_6 ?_
  refine n_aload_n (i := 0) C dX2_init_9 rfl 0 rfl ?_
  refine n_bipush (v := 12) C dX2_init_10 (by decide) ?_
  refine n_newa_int (N := 12) (L2 := fun q => ((q0, .inr (2, [.int (-1), .null, .null, .null, .null, .int 0])) :: [(q, .inl ((xG X).2.2.1 0, 12, .inl (fun _ => 0)))])) C (fun _ => rfl) ga_int (by decide) (by decide) (by decide) (zk hR rfl rfl) dX2_init_12 (fun q1 => ?_)
  refine n_putF (fs := [.int (-1), .null, .null, .null, .null, .int 0]) (L2 := ((q0, .inr (2, [.int (-1), .ref q1, .null, .null, .null, .int 0])) :: [(q1, .inl ((xG X).2.2.1 0, 12, .inl (fun _ => 0)))])) C 0 1 rfl rfl rfl u_X2 tyX2 tyX2_ok nmX2 (by decide) gx_242 rfl hI rfl rfl rfl rfl (Nat.le_of_ble_eq_true rfl) dX2_init_14 ?_
  refine n_aload_n (i := 0) C dX2_init_17 rfl 0 rfl ?_
  refine n_bipush (v := 12) C dX2_init_18 (by decide) ?_
  refine n_newa_int (N := 12) (L2 := fun q => ((q0, .inr (2, [.int (-1), .ref q1, .null, .null, .null, .int 0])) :: ((q1, .inl ((xG X).2.2.1 0, 12, .inl (fun _ => 0))) :: [(q, .inl ((xG X).2.2.1 0, 12, .inl (fun _ => 0)))]))) C (fun _ => rfl) ga_int (by decide) (by decide) (by decide) (zk hR rfl rfl) dX2_init_20 (fun q2 => ?_)
  refine n_putF (fs := [.int (-1), .ref q1, .null, .null, .null, .int 0]) (L2 := ((q0, .inr (2, [.int (-1), .ref q1, .ref q2, .null, .null, .int 0])) :: ((q1, .inl ((xG X).2.2.1 0, 12, .inl (fun _ => 0))) :: [(q2, .inl ((xG X).2.2.1 0, 12, .inl (fun _ => 0)))]))) C 0 2 rfl rfl rfl u_X2 tyX2 tyX2_ok nmX2 (by decide) gx_243 rfl hI rfl rfl rfl rfl (Nat.le_of_ble_eq_true rfl) dX2_init_22 ?_
  refine n_aload_n (i := 0) C dX2_init_25 rfl 0 rfl ?_
  refine n_bipush (v := 12) C dX2_init_26 (by decide) ?_
  refine n_newa_int (N := 12) (L2 := fun q => ((q0, .inr (2, [.int (-1), .ref q1, .ref q2, .null, .null, .int 0])) :: ((q1, .inl ((xG X).2.2.1 0, 12, .inl (fun _ => 0))) :: ((q2, .inl ((xG X).2.2.1 0, 12, .inl (fun _ => 0))) :: [(q, .inl ((xG X).2.2.1 0, 12, .inl (fun _ => 0)))])))) C (fun _ => rfl) ga_int (by decide) (by decide) (by decide) (zk hR rfl rfl) dX2_init_28 (fun q3 => ?_)
  refine n_putF (fs := [.int (-1), .ref q1, .ref q2, .null, .null, .int 0]) (L2 := ((q0, .inr (2, [.int (-1), .ref q1, .ref q2, .ref q3, .null, .int 0])) :: ((q1, .inl ((xG X).2.2.1 0, 12, .inl (fun _ => 0))) :: ((q2, .inl ((xG X).2.2.1 0, 12, .inl (fun _ => 0))) :: [(q3, .inl ((xG X).2.2.1 0, 12, .inl (fun _ => 0)))])))) C 0 3 rfl rfl rfl u_X2 tyX2 tyX2_ok nmX2 (by decide) gx_244 rfl hI rfl rfl rfl rfl (Nat.le_of_ble_eq_true rfl) dX2_init_30 ?_
  refine n_aload_n (i := 0) C dX2_init_33 rfl 0 rfl ?_
  refine n_sipush (v := 400) C dX2_init_34 (by decide) ?_
  refine n_newa_int (N := 400) (L2 := fun q => ((q0, .inr (2, [.int (-1), .ref q1, .ref q2, .ref q3, .null, .int 0])) :: ((q1, .inl ((xG X).2.2.1 0, 12, .inl (fun _ => 0))) :: ((q2, .inl ((xG X).2.2.1 0, 12, .inl (fun _ => 0))) :: ((q3, .inl ((xG X).2.2.1 0, 12, .inl (fun _ => 0))) :: [(q, .inl ((xG X).2.2.1 0, 400, .inl (fun _ => 0)))]))))) C (fun _ => rfl) ga_int (by decide) (by decide) (by decide) (zk hR rfl rfl) dX2_init_37 (fun q4 => ?_)
  refine n_putF (fs := [.int (-1), .ref q1, .ref q2, .ref q3, .null, .int 0]) (L2 := ((q0, .inr (2, [.int (-1), .ref q1, .ref q2, .ref q3, .ref q4, .int 0])) :: ((q1, .inl ((xG X).2.2.1 0, 12, .inl (fun _ => 0))) :: ((q2, .inl ((xG X).2.2.1 0, 12, .inl (fun _ => 0))) :: ((q3, .inl ((xG X).2.2.1 0, 12, .inl (fun _ => 0))) :: [(q4, .inl ((xG X).2.2.1 0, 400, .inl (fun _ => 0)))]))))) C 0 4 rfl rfl rfl u_X2 tyX2 tyX2_ok nmX2 (by decide) gx_245 rfl hI rfl rfl rfl rfl (Nat.le_of_ble_eq_true rfl) dX2_init_39 ?_
  refine n_cs (c2 := 4) (s2 := 436) rfl rfl ?_
  exact n_ret C hI hF (vF [q0, q1, q2, q3, q4]) rfl rfl dX2_init_42
def blkX1 (cA : Nat → ClassId) (a : Nat → Nat) : va_W := ((a 0, .inr (1, [.ref (a 1), .ref (a 6), .ref (a 7)])) :: (blkX2 cA (fun j => a (1 + j)) ++ ((a 6, .inl (cA 0, 16, .inl (fun _ => 0))) :: [(a 7, .inl (cA 0, 16, .inl (fun _ => 0)))])))
set_option maxHeartbeats 4000000 in
set_option maxRecDepth 100000 in
theorem kX1_init (G : Gx) : MK G yX1_init cX1_init 1 2 128 7 474 1 [.null, .null, .null] (blkX1 G.2.2.1) := by
  refine MK.of RX1 (by decide) rfl rfl (by decide) (fun ws q0 X C hI hG hR hF => ?_)
  subst hG
  refine n_aload_n (i := 0) C dX1_init_0 rfl 0 rfl ?_
  refine n_obj C gx_232 (zkf hR rfl rfl) dX1_init_1 ?_
  refine n_aload_n (i := 0) C dX1_init_4 rfl 0 rfl ?_
  refine n_new (ci := 2) (fs := [.int 0, .null, .null, .null, .null, .int 0]) (L2 := fun q => ((q0, .inr (1, [.null, .null, .null])) :: [(q, .inr (2, [.int 0, .null, .null, .null, .null, .int 0]))])) C (fun _ => rfl) u_X2 tyX2 tyX2_ok gx_233 gx_234 gx_163 rfl dv_X2 (zk hR rfl rfl) dX1_init_5 (fun q1 => ?_)
  refine n_dup C dX1_init_8 rfl ?_
  refine n_initN (L1 := [(q0, .inr (1, [.null, .null, .null]))]) (L2 := fun a => ((q0, .inr (1, [.null, .null, .null])) :: (blkX2 ((xG X).2.2.1) a))) C (kX2_init (xG X)) (rfl) (fun _ => rfl) rfl ⟨gx_237, gx_163, ⟨by decide, by decide, by decide +kernel⟩, gx_235, gx_236⟩ (Nat.le_of_ble_eq_true rfl) (zq2 hR rfl rfl) (zk hR rfl rfl) dX1_init_9 (fun a2 ha2 => ?_)
  subst ha2
  refine n_putF (fs := [.null, .null, .null]) (L2 := ((q0, .inr (1, [.ref (a2 0), .null, .null])) :: (blkX2 ((xG X).2.2.1) a2))) C 0 0 rfl rfl rfl u_X1 tyX1 tyX1_ok nmX1 (by decide) gx_261 rfl hI rfl rfl rfl rfl (Nat.le_of_ble_eq_true rfl) dX1_init_12 ?_
  refine n_aload_n (i := 0) C dX1_init_15 rfl 0 rfl ?_
  refine n_bipush (v := 16) C dX1_init_16 (by decide) ?_
  refine n_newa_int (N := 16) (L2 := fun q => ((q0, .inr (1, [.ref (a2 0), .null, .null])) :: (blkX2 ((xG X).2.2.1) a2 ++ [(q, .inl ((xG X).2.2.1 0, 16, .inl (fun _ => 0)))]))) C (fun _ => by simp only [List.cons_append, List.append_assoc, List.nil_append]) ga_int (by decide) (by decide) (by decide) (zk hR rfl rfl) dX1_init_18 (fun q3 => ?_)
  refine n_putF (fs := [.ref (a2 0), .null, .null]) (L2 := ((q0, .inr (1, [.ref (a2 0), .ref q3, .null])) :: (blkX2 ((xG X).2.2.1) a2 ++ [(q3, .inl ((xG X).2.2.1 0, 16, .inl (fun _ => 0)))]))) C 0 1 rfl rfl rfl u_X1 tyX1 tyX1_ok nmX1 (by decide) gx_263 rfl hI rfl rfl rfl rfl (Nat.le_of_ble_eq_true rfl) dX1_init_20 ?_
  refine n_aload_n (i := 0) C dX1_init_23 rfl 0 rfl ?_
  refine n_bipush (v := 16) C dX1_init_24 (by decide) ?_
  refine n_newa_int (N := 16) (L2 := fun q => ((q0, .inr (1, [.ref (a2 0), .ref q3, .null])) :: (blkX2 ((xG X).2.2.1) a2 ++ ((q3, .inl ((xG X).2.2.1 0, 16, .inl (fun _ => 0))) :: [(q, .inl ((xG X).2.2.1 0, 16, .inl (fun _ => 0)))])))) C (fun _ => by simp only [List.cons_append, List.append_assoc, List.nil_append]) ga_int (by decide) (by decide) (by decide) (zk hR rfl rfl) dX1_init_26 (fun q4 => ?_)
  refine n_putF (fs := [.ref (a2 0), .ref q3, .null]) (L2 := ((q0, .inr (1, [.ref (a2 0), .ref q3, .ref q4])) :: (blkX2 ((xG X).2.2.1) a2 ++ ((q3, .inl ((xG X).2.2.1 0, 16, .inl (fun _ => 0))) :: [(q4, .inl ((xG X).2.2.1 0, 16, .inl (fun _ => 0)))])))) C 0 2 rfl rfl rfl u_X1 tyX1 tyX1_ok nmX1 (by decide) gx_264 rfl hI rfl rfl rfl rfl (Nat.le_of_ble_eq_true rfl) dX1_init_28 ?_
  refine n_cs (c2 := 7) (s2 := 474) rfl rfl ?_
  exact n_ret C hI hF (vF [q0, (a2 0), (a2 1), (a2 2), (a2 3), (a2 4), q3, q4]) rfl rfl dX1_init_31
def blkX8 (cA : Nat → ClassId) (a : Nat → Nat) : va_W := ((a 0, .inr (8, [.ref (a 1)])) :: (blkX7 cA (fun j => a (1 + j))))
set_option maxHeartbeats 4000000 in
set_option maxRecDepth 100000 in
theorem kX8_init (G : Gx) : MK G yX8_init cX8_init 1 3 192 11 163 8 [.null] (blkX8 G.2.2.1) := by
  refine MK.of RX8 (by decide) rfl rfl (by decide) (fun ws q0 X C hI hG hR hF => ?_)
  subst hG
  refine n_aload_n (i := 0) C dX8_init_0 rfl 0 rfl ?_
  refine n_initN (L1 := []) (L2 := fun a => [(a 0, .inr (8, [.null]))]) C (kX10_init (xG X) 8 [.null]) rfl (fun _ => rfl) rfl ⟨gx_279, gx_164, ⟨by decide, by decide, by decide +kernel⟩, gx_277, gx_278⟩ (Nat.le_of_ble_eq_true rfl) (zq2 hR rfl rfl) (zk hR rfl rfl) dX8_init_1 (fun a0 ha0 => ?_)
  subst ha0
  refine n_aload_n (i := 0) C dX8_init_4 rfl 0 rfl ?_
  refine n_new (ci := 7) (fs := [.null, .null, .null, .null, .int 0, .int 0, .null, .null, .int 0, .int 0, .int 0, .int 0, .int 0, .int 0, .int 0, .int 0, .int 0]) (L2 := fun q => (((a0 0), .inr (8, [.null])) :: [(q, .inr (7, [.null, .null, .null, .null, .int 0, .int 0, .null, .null, .int 0, .int 0, .int 0, .int 0, .int 0, .int 0, .int 0, .int 0, .int 0]))])) C (fun _ => rfl) u_X7 tyX7 tyX7_ok gx_281 gx_282 gx_166 rfl dv_X7 (zk hR rfl rfl) dX8_init_5 (fun q1 => ?_)
  refine n_dup C dX8_init_8 rfl ?_
  refine n_initN (L1 := [((a0 0), .inr (8, [.null]))]) (L2 := fun a => (((a0 0), .inr (8, [.null])) :: (blkX7 ((xG X).2.2.1) a))) C (kX7_init (xG X)) (rfl) (fun _ => rfl) rfl ⟨gx_285, gx_166, ⟨by decide, by decide, by decide +kernel⟩, gx_283, gx_284⟩ (Nat.le_of_ble_eq_true rfl) (zq2 hR rfl rfl) (zk hR rfl rfl) dX8_init_9 (fun a2 ha2 => ?_)
  subst ha2
  refine n_putF (fs := [.null]) (L2 := (((a0 0), .inr (8, [.ref (a2 0)])) :: (blkX7 ((xG X).2.2.1) a2))) C 0 0 rfl rfl rfl u_X8 tyX8 tyX8_ok nmX8 (by decide) gx_418 rfl hI rfl rfl rfl rfl (Nat.le_of_ble_eq_true rfl) dX8_init_12 ?_
  refine n_cs (c2 := 11) (s2 := 163) rfl rfl ?_
  exact n_ret C hI hF (vF [(a0 0), (a2 0), (a2 1), (a2 2), (a2 3), (a2 4), (a2 5), (a2 6), (a2 7), (a2 8), (a2 9), (a2 10)]) rfl rfl dX8_init_15
def blkX3 (cA : Nat → ClassId) (a : Nat → Nat) : va_W := ((a 0, .inr (3, [.ref (a 1)])) :: (blkX2 cA (fun j => a (1 + j))))
set_option maxHeartbeats 4000000 in
set_option maxRecDepth 100000 in
theorem kX3_init (G : Gx) : MK G yX3_init cX3_init 1 3 192 5 442 3 [.null] (blkX3 G.2.2.1) := by
  refine MK.of RX3 (by decide) rfl rfl (by decide) (fun ws q0 X C hI hG hR hF => ?_)
  subst hG
  refine n_aload_n (i := 0) C dX3_init_0 rfl 0 rfl ?_
  refine n_initN (L1 := []) (L2 := fun a => [(a 0, .inr (3, [.null]))]) C (kX10_init (xG X) 3 [.null]) rfl (fun _ => rfl) rfl ⟨gx_279, gx_164, ⟨by decide, by decide, by decide +kernel⟩, gx_428, gx_278⟩ (Nat.le_of_ble_eq_true rfl) (zq2 hR rfl rfl) (zk hR rfl rfl) dX3_init_1 (fun a0 ha0 => ?_)
  subst ha0
  refine n_aload_n (i := 0) C dX3_init_4 rfl 0 rfl ?_
  refine n_new (ci := 2) (fs := [.int 0, .null, .null, .null, .null, .int 0]) (L2 := fun q => (((a0 0), .inr (3, [.null])) :: [(q, .inr (2, [.int 0, .null, .null, .null, .null, .int 0]))])) C (fun _ => rfl) u_X2 tyX2 tyX2_ok gx_429 gx_234 gx_163 rfl dv_X2 (zk hR rfl rfl) dX3_init_5 (fun q1 => ?_)
  refine n_dup C dX3_init_8 rfl ?_
  refine n_initN (L1 := [((a0 0), .inr (3, [.null]))]) (L2 := fun a => (((a0 0), .inr (3, [.null])) :: (blkX2 ((xG X).2.2.1) a))) C (kX2_init (xG X)) (rfl) (fun _ => rfl) rfl ⟨gx_237, gx_163, ⟨by decide, by decide, by decide +kernel⟩, gx_430, gx_236⟩ (Nat.le_of_ble_eq_true rfl) (zq2 hR rfl rfl) (zk hR rfl rfl) dX3_init_9 (fun a2 ha2 => ?_)
  subst ha2
  refine n_putF (fs := [.null]) (L2 := (((a0 0), .inr (3, [.ref (a2 0)])) :: (blkX2 ((xG X).2.2.1) a2))) C 0 0 rfl rfl rfl u_X3 tyX3 tyX3_ok nmX3 (by decide) gx_431 rfl hI rfl rfl rfl rfl (Nat.le_of_ble_eq_true rfl) dX3_init_12 ?_
  refine n_cs (c2 := 5) (s2 := 442) rfl rfl ?_
  exact n_ret C hI hF (vF [(a0 0), (a2 0), (a2 1), (a2 2), (a2 3), (a2 4)]) rfl rfl dX3_init_15
def blkX6 (cA : Nat → ClassId) (a : Nat → Nat) : va_W := ((a 0, .inr (6, [.ref (a 1), .ref (a 2), .ref (a 3), .int 0])) :: ((a 1, .inl (cA 0, 5, .inl (fun _ => 0))) :: ((a 2, .inl (cA 0, 5, .inl (fun _ => 0))) :: [(a 3, .inl (cA 0, 5, .inl (fun _ => 0)))])))
set_option maxHeartbeats 4000000 in
set_option maxRecDepth 100000 in
theorem kX6_init (G : Gx) : MK G yX6_init cX6_init 1 1 64 3 15 6 [.null, .null, .null, .int 0] (blkX6 G.2.2.1) := by
  refine MK.of RX6 (by decide) rfl rfl (by decide) (fun ws q0 X C hI hG hR hF => ?_)
  subst hG
  refine n_aload_n (i := 0) C dX6_init_0 rfl 0 rfl ?_
  refine n_obj C gx_461 (zkf hR rfl rfl) dX6_init_1 ?_
  refine n_aload_n (i := 0) C dX6_init_4 rfl 0 rfl ?_
  refine n_iconst (v := 5) C dX6_init_5 (by decide) ?_
  refine n_newa_int (N := 5) (L2 := fun q => ((q0, .inr (6, [.null, .null, .null, .int 0])) :: [(q, .inl ((xG X).2.2.1 0, 5, .inl (fun _ => 0)))])) C (fun _ => rfl) ga_int (by decide) (by decide) (by decide) (zk hR rfl rfl) dX6_init_6 (fun q1 => ?_)
  refine n_putF (fs := [.null, .null, .null, .int 0]) (L2 := ((q0, .inr (6, [.ref q1, .null, .null, .int 0])) :: [(q1, .inl ((xG X).2.2.1 0, 5, .inl (fun _ => 0)))])) C 0 0 rfl rfl rfl u_X6 tyX6 tyX6_ok nmX6 (by decide) gx_462 rfl hI rfl rfl rfl rfl (Nat.le_of_ble_eq_true rfl) dX6_init_8 ?_
  refine n_aload_n (i := 0) C dX6_init_11 rfl 0 rfl ?_
  refine n_iconst (v := 5) C dX6_init_12 (by decide) ?_
  refine n_newa_int (N := 5) (L2 := fun q => ((q0, .inr (6, [.ref q1, .null, .null, .int 0])) :: ((q1, .inl ((xG X).2.2.1 0, 5, .inl (fun _ => 0))) :: [(q, .inl ((xG X).2.2.1 0, 5, .inl (fun _ => 0)))]))) C (fun _ => rfl) ga_int (by decide) (by decide) (by decide) (zk hR rfl rfl) dX6_init_13 (fun q2 => ?_)
  refine n_putF (fs := [.ref q1, .null, .null, .int 0]) (L2 := ((q0, .inr (6, [.ref q1, .ref q2, .null, .int 0])) :: ((q1, .inl ((xG X).2.2.1 0, 5, .inl (fun _ => 0))) :: [(q2, .inl ((xG X).2.2.1 0, 5, .inl (fun _ => 0)))]))) C 0 1 rfl rfl rfl u_X6 tyX6 tyX6_ok nmX6 (by decide) gx_463 rfl hI rfl rfl rfl rfl (Nat.le_of_ble_eq_true rfl) dX6_init_15 ?_
  refine n_aload_n (i := 0) C dX6_init_18 rfl 0 rfl ?_
  refine n_iconst (v := 5) C dX6_init_19 (by decide) ?_
  refine n_newa_int (N := 5) (L2 := fun q => ((q0, .inr (6, [.ref q1, .ref q2, .null, .int 0])) :: ((q1, .inl ((xG X).2.2.1 0, 5, .inl (fun _ => 0))) :: ((q2, .inl ((xG X).2.2.1 0, 5, .inl (fun _ => 0))) :: [(q, .inl ((xG X).2.2.1 0, 5, .inl (fun _ => 0)))])))) C (fun _ => rfl) ga_int (by decide) (by decide) (by decide) (zk hR rfl rfl) dX6_init_20 (fun q3 => ?_)
  refine n_putF (fs := [.ref q1, .ref q2, .null, .int 0]) (L2 := ((q0, .inr (6, [.ref q1, .ref q2, .ref q3, .int 0])) :: ((q1, .inl ((xG X).2.2.1 0, 5, .inl (fun _ => 0))) :: ((q2, .inl ((xG X).2.2.1 0, 5, .inl (fun _ => 0))) :: [(q3, .inl ((xG X).2.2.1 0, 5, .inl (fun _ => 0)))])))) C 0 2 rfl rfl rfl u_X6 tyX6 tyX6_ok nmX6 (by decide) gx_464 rfl hI rfl rfl rfl rfl (Nat.le_of_ble_eq_true rfl) dX6_init_22 ?_
  refine n_cs (c2 := 3) (s2 := 15) rfl rfl ?_
  exact n_ret C hI hF (vF [q0, q1, q2, q3]) rfl rfl dX6_init_25

def SWL (xs : Nat → Int32) (Ls : Nat) (rec : Hp → Int32 → Option Int32) (h : Hp) (y x : Int32) : Option Int32 := if x = (0 : Int32) then KL_0 xs Ls rec h y else if x = (1 : Int32) then KL_1 xs Ls rec h y else if x = (2 : Int32) then KL_2 xs Ls rec h y else if x = (3 : Int32) then KL_3 xs Ls rec h y else if x = (4 : Int32) then KL_4 xs Ls rec h y else if x = (5 : Int32) then KL_5 xs Ls rec h y else if x = (6 : Int32) then KL_6 xs Ls rec h y else if x = (7 : Int32) then KL_7 xs Ls rec h y else if x = (8 : Int32) then KL_8 xs Ls rec h y else if x = (9 : Int32) then KL_9 xs Ls rec h y else if x = (10 : Int32) then KL_10 xs Ls rec h y else if x = (11 : Int32) then KL_11 xs Ls rec h y else if x = (12 : Int32) then KL_12 xs Ls rec h y else if x = (13 : Int32) then KL_13 xs Ls rec h y else if x = (14 : Int32) then KL_14 xs Ls rec h y else if x = (15 : Int32) then KL_15 xs Ls rec h y else if x = (16 : Int32) then KL_16 xs Ls rec h y else if x = (17 : Int32) then KL_17 xs Ls rec h y else if x = (18 : Int32) then KL_18 xs Ls rec h y else if x = (19 : Int32) then KL_19 xs Ls rec h y else if x = (20 : Int32) then KL_20 xs Ls rec h y else if x = (21 : Int32) then KL_21 xs Ls rec h y else if x = (22 : Int32) then KL_22 xs Ls rec h y else if x = (23 : Int32) then KL_23 xs Ls rec h y else if x = (24 : Int32) then KL_24 xs Ls rec h y else if x = (25 : Int32) then KL_25 xs Ls rec h y else if x = (26 : Int32) then KL_26 xs Ls rec h y else if x = (27 : Int32) then KL_27 xs Ls rec h y else if x = (28 : Int32) then KL_28 xs Ls rec h y else if x = (29 : Int32) then KL_29 xs Ls rec h y else if x = (30 : Int32) then KL_30 xs Ls rec h y else if x = (31 : Int32) then KL_31 xs Ls rec h y else if x = (32 : Int32) then KL_32 xs Ls rec h y else if x = (33 : Int32) then KL_33 xs Ls rec h y else if x = (34 : Int32) then KL_34 xs Ls rec h y else if x = (35 : Int32) then KL_35 xs Ls rec h y else if x = (36 : Int32) then KL_36 xs Ls rec h y else if x = (37 : Int32) then KL_37 xs Ls rec h y else if x = (38 : Int32) then KL_38 xs Ls rec h y else if x = (39 : Int32) then KL_39 xs Ls rec h y else if x = (40 : Int32) then KL_40 xs Ls rec h y else if x = (41 : Int32) then KL_41 xs Ls rec h y else if x = (42 : Int32) then KL_42 xs Ls rec h y else if x = (43 : Int32) then KL_43 xs Ls rec h y else if x = (44 : Int32) then KL_44 xs Ls rec h y else if x = (45 : Int32) then KL_45 xs Ls rec h y else if x = (46 : Int32) then KL_46 xs Ls rec h y else if x = (47 : Int32) then KL_47 xs Ls rec h y else rec h (y + (6 : Int32))
def BL_law (xs : Nat → Int32) (Ls : Nat) (rec : Hp → Int32 → Option Int32) (h : Hp) (y : Int32) : Option Int32 := if (Int32.ofNat Ls - (6 : Int32)) < y then some 1 else gd (inb y Ls) (lt9 (xs y.toNatClampNeg &&& (63 : Int32)) (fun x => SWL xs Ls rec h y x))
def LL_law (xs : Nat → Int32) (Ls : Nat) : Nat → Hp → Int32 → Option Int32
  | 0, _, _ => none
  | n + 1, h, y => BL_law xs Ls (LL_law xs Ls n) h y
set_option maxHeartbeats 8000000 in
set_option maxRecDepth 100000 in
theorem sL_law {X : Cx} {b Ls : Nat} {xs : Nat → Int32} (C : OK X cL_law_ 7 RL ret) (hR : xR X = { frames := 2048, cells := 601024, slots := 7293034, locals := 84000 }) (hX : SCR X b Ls xs) (hE : LAWQ X) (hLs : Ls ≤ 3072) {rec : Hp → Int32 → Option Int32} {i cs sl : Nat} (hi : i + 6 ≤ Ls) (h1 : cs ≤ 400 + i) (h2 : sl ≤ 60000 + 6 * i) (ih : (∀ (i : Nat) (h : Hp) (cs sl : Nat), i ≤ Ls + 6 → cs ≤ 400 + i → sl ≤ 60000 + 6 * i → rec h (nI i) = some 1 → VW X 7 h cs sl 23 [(0, .ref b), (1, .ref (gad (xG X) 0)), (2, .ref (gad (xG X) 208)), (3, .ref (gad (xG X) 221)), (4, .int (nI i))] [])) {h : Hp} {x : Int32} (hf : SWL xs Ls rec h (nI i) x = some 1) : VW X 7 h cs sl 40 [(0, .ref b), (1, .ref (gad (xG X) 0)), (2, .ref (gad (xG X) 208)), (3, .ref (gad (xG X) 221)), (4, .int (nI i))] [.int x] := by
  unfold SWL at hf
  by_cases c0 : x = (0 : Int32)
  · rw [if_pos c0] at hf
    refine r_tableIn C 248 dL_law__40 (by rw [c0] <;> decide) (by rw [c0] <;> decide) (by rw [c0] <;> rfl) (by decide) ?_
    exact tL_0 C hR hX hE hLs hi h1 h2 ih hf
  · rw [if_neg c0] at hf
    by_cases c1 : x = (1 : Int32)
    · rw [if_pos c1] at hf
      refine r_tableIn C 321 dL_law__40 (by rw [c1] <;> decide) (by rw [c1] <;> decide) (by rw [c1] <;> rfl) (by decide) ?_
      exact tL_1 C hR hX hE hLs hi h1 h2 ih hf
    · rw [if_neg c1] at hf
      by_cases c2 : x = (2 : Int32)
      · rw [if_pos c2] at hf
        refine r_tableIn C 346 dL_law__40 (by rw [c2] <;> decide) (by rw [c2] <;> decide) (by rw [c2] <;> rfl) (by decide) ?_
        exact tL_2 C hR hX hE hLs hi h1 h2 ih hf
      · rw [if_neg c2] at hf
        by_cases c3 : x = (3 : Int32)
        · rw [if_pos c3] at hf
          refine r_tableIn C 390 dL_law__40 (by rw [c3] <;> decide) (by rw [c3] <;> decide) (by rw [c3] <;> rfl) (by decide) ?_
          exact tL_3 C hR hX hE hLs hi h1 h2 ih hf
        · rw [if_neg c3] at hf
          by_cases c4 : x = (4 : Int32)
          · rw [if_pos c4] at hf
            refine r_tableIn C 434 dL_law__40 (by rw [c4] <;> decide) (by rw [c4] <;> decide) (by rw [c4] <;> rfl) (by decide) ?_
            exact tL_4 C hR hX hE hLs hi h1 h2 ih hf
          · rw [if_neg c4] at hf
            by_cases c5 : x = (5 : Int32)
            · rw [if_pos c5] at hf
              refine r_tableIn C 447 dL_law__40 (by rw [c5] <;> decide) (by rw [c5] <;> decide) (by rw [c5] <;> rfl) (by decide) ?_
              exact tL_5 C hR hX hE hLs hi h1 h2 ih hf
            · rw [if_neg c5] at hf
              by_cases c6 : x = (6 : Int32)
              · rw [if_pos c6] at hf
                refine r_tableIn C 515 dL_law__40 (by rw [c6] <;> decide) (by rw [c6] <;> decide) (by rw [c6] <;> rfl) (by decide) ?_
                exact tL_6 C hR hX hE hLs hi h1 h2 ih hf
              · rw [if_neg c6] at hf
                by_cases c7 : x = (7 : Int32)
                · rw [if_pos c7] at hf
                  refine r_tableIn C 583 dL_law__40 (by rw [c7] <;> decide) (by rw [c7] <;> decide) (by rw [c7] <;> rfl) (by decide) ?_
                  exact tL_7 C hR hX hE hLs hi h1 h2 ih hf
                · rw [if_neg c7] at hf
                  by_cases c8 : x = (8 : Int32)
                  · rw [if_pos c8] at hf
                    refine r_tableIn C 639 dL_law__40 (by rw [c8] <;> decide) (by rw [c8] <;> decide) (by rw [c8] <;> rfl) (by decide) ?_
                    exact tL_8 C hR hX hE hLs hi h1 h2 ih hf
                  · rw [if_neg c8] at hf
                    by_cases c9 : x = (9 : Int32)
                    · rw [if_pos c9] at hf
                      refine r_tableIn C 695 dL_law__40 (by rw [c9] <;> decide) (by rw [c9] <;> decide) (by rw [c9] <;> rfl) (by decide) ?_
                      exact tL_9 C hR hX hE hLs hi h1 h2 ih hf
                    · rw [if_neg c9] at hf
                      by_cases c10 : x = (10 : Int32)
                      · rw [if_pos c10] at hf
                        refine r_tableIn C 751 dL_law__40 (by rw [c10] <;> decide) (by rw [c10] <;> decide) (by rw [c10] <;> rfl) (by decide) ?_
                        exact tL_10 C hR hX hE hLs hi h1 h2 ih hf
                      · rw [if_neg c10] at hf
                        by_cases c11 : x = (11 : Int32)
                        · rw [if_pos c11] at hf
                          refine r_tableIn C 819 dL_law__40 (by rw [c11] <;> decide) (by rw [c11] <;> decide) (by rw [c11] <;> rfl) (by decide) ?_
                          exact tL_11 C hR hX hE hLs hi h1 h2 ih hf
                        · rw [if_neg c11] at hf
                          by_cases c12 : x = (12 : Int32)
                          · rw [if_pos c12] at hf
                            refine r_tableIn C 875 dL_law__40 (by rw [c12] <;> decide) (by rw [c12] <;> decide) (by rw [c12] <;> rfl) (by decide) ?_
                            exact tL_12 C hR hX hE hLs hi h1 h2 ih hf
                          · rw [if_neg c12] at hf
                            by_cases c13 : x = (13 : Int32)
                            · rw [if_pos c13] at hf
                              refine r_tableIn C 943 dL_law__40 (by rw [c13] <;> decide) (by rw [c13] <;> decide) (by rw [c13] <;> rfl) (by decide) ?_
                              exact tL_13 C hR hX hE hLs hi h1 h2 ih hf
                            · rw [if_neg c13] at hf
                              by_cases c14 : x = (14 : Int32)
                              · rw [if_pos c14] at hf
                                refine r_tableIn C 999 dL_law__40 (by rw [c14] <;> decide) (by rw [c14] <;> decide) (by rw [c14] <;> rfl) (by decide) ?_
                                exact tL_14 C hR hX hE hLs hi h1 h2 ih hf
                              · rw [if_neg c14] at hf
                                by_cases c15 : x = (15 : Int32)
                                · rw [if_pos c15] at hf
                                  refine r_tableIn C 1055 dL_law__40 (by rw [c15] <;> decide) (by rw [c15] <;> decide) (by rw [c15] <;> rfl) (by decide) ?_
                                  exact tL_15 C hR hX hE hLs hi h1 h2 ih hf
                                · rw [if_neg c15] at hf
                                  by_cases c16 : x = (16 : Int32)
                                  · rw [if_pos c16] at hf
                                    refine r_tableIn C 1111 dL_law__40 (by rw [c16] <;> decide) (by rw [c16] <;> decide) (by rw [c16] <;> rfl) (by decide) ?_
                                    exact tL_16 C hR hX hE hLs hi h1 h2 ih hf
                                  · rw [if_neg c16] at hf
                                    by_cases c17 : x = (17 : Int32)
                                    · rw [if_pos c17] at hf
                                      refine r_tableIn C 1124 dL_law__40 (by rw [c17] <;> decide) (by rw [c17] <;> decide) (by rw [c17] <;> rfl) (by decide) ?_
                                      exact tL_17 C hR hX hE hLs hi h1 h2 ih hf
                                    · rw [if_neg c17] at hf
                                      by_cases c18 : x = (18 : Int32)
                                      · rw [if_pos c18] at hf
                                        refine r_tableIn C 1137 dL_law__40 (by rw [c18] <;> decide) (by rw [c18] <;> decide) (by rw [c18] <;> rfl) (by decide) ?_
                                        exact tL_18 C hR hX hE hLs hi h1 h2 ih hf
                                      · rw [if_neg c18] at hf
                                        by_cases c19 : x = (19 : Int32)
                                        · rw [if_pos c19] at hf
                                          refine r_tableIn C 1178 dL_law__40 (by rw [c19] <;> decide) (by rw [c19] <;> decide) (by rw [c19] <;> rfl) (by decide) ?_
                                          exact tL_19 C hR hX hE hLs hi h1 h2 ih hf
                                        · rw [if_neg c19] at hf
                                          by_cases c20 : x = (20 : Int32)
                                          · rw [if_pos c20] at hf
                                            refine r_tableIn C 1191 dL_law__40 (by rw [c20] <;> decide) (by rw [c20] <;> decide) (by rw [c20] <;> rfl) (by decide) ?_
                                            exact tL_20 C hR hX hE hLs hi h1 h2 ih hf
                                          · rw [if_neg c20] at hf
                                            by_cases c21 : x = (21 : Int32)
                                            · rw [if_pos c21] at hf
                                              refine r_tableIn C 1204 dL_law__40 (by rw [c21] <;> decide) (by rw [c21] <;> decide) (by rw [c21] <;> rfl) (by decide) ?_
                                              exact tL_21 C hR hX hE hLs hi h1 h2 ih hf
                                            · rw [if_neg c21] at hf
                                              by_cases c22 : x = (22 : Int32)
                                              · rw [if_pos c22] at hf
                                                refine r_tableIn C 1229 dL_law__40 (by rw [c22] <;> decide) (by rw [c22] <;> decide) (by rw [c22] <;> rfl) (by decide) ?_
                                                exact tL_22 C hR hX hE hLs hi h1 h2 ih hf
                                              · rw [if_neg c22] at hf
                                                by_cases c23 : x = (23 : Int32)
                                                · rw [if_pos c23] at hf
                                                  refine r_tableIn C 1242 dL_law__40 (by rw [c23] <;> decide) (by rw [c23] <;> decide) (by rw [c23] <;> rfl) (by decide) ?_
                                                  exact tL_23 C hR hX hE hLs hi h1 h2 ih hf
                                                · rw [if_neg c23] at hf
                                                  by_cases c24 : x = (24 : Int32)
                                                  · rw [if_pos c24] at hf
                                                    refine r_tableIn C 1255 dL_law__40 (by rw [c24] <;> decide) (by rw [c24] <;> decide) (by rw [c24] <;> rfl) (by decide) ?_
                                                    exact tL_24 C hR hX hE hLs hi h1 h2 ih hf
                                                  · rw [if_neg c24] at hf
                                                    by_cases c25 : x = (25 : Int32)
                                                    · rw [if_pos c25] at hf
                                                      refine r_tableIn C 1351 dL_law__40 (by rw [c25] <;> decide) (by rw [c25] <;> decide) (by rw [c25] <;> rfl) (by decide) ?_
                                                      exact tL_25 C hR hX hE hLs hi h1 h2 ih hf
                                                    · rw [if_neg c25] at hf
                                                      by_cases c26 : x = (26 : Int32)
                                                      · rw [if_pos c26] at hf
                                                        refine r_tableIn C 1407 dL_law__40 (by rw [c26] <;> decide) (by rw [c26] <;> decide) (by rw [c26] <;> rfl) (by decide) ?_
                                                        exact tL_26 C hR hX hE hLs hi h1 h2 ih hf
                                                      · rw [if_neg c26] at hf
                                                        by_cases c27 : x = (27 : Int32)
                                                        · rw [if_pos c27] at hf
                                                          refine r_tableIn C 1463 dL_law__40 (by rw [c27] <;> decide) (by rw [c27] <;> decide) (by rw [c27] <;> rfl) (by decide) ?_
                                                          exact tL_27 C hR hX hE hLs hi h1 h2 ih hf
                                                        · rw [if_neg c27] at hf
                                                          by_cases c28 : x = (28 : Int32)
                                                          · rw [if_pos c28] at hf
                                                            refine r_tableIn C 1535 dL_law__40 (by rw [c28] <;> decide) (by rw [c28] <;> decide) (by rw [c28] <;> rfl) (by decide) ?_
                                                            exact tL_28 C hR hX hE hLs hi h1 h2 ih hf
                                                          · rw [if_neg c28] at hf
                                                            by_cases c29 : x = (29 : Int32)
                                                            · rw [if_pos c29] at hf
                                                              refine r_tableIn C 1579 dL_law__40 (by rw [c29] <;> decide) (by rw [c29] <;> decide) (by rw [c29] <;> rfl) (by decide) ?_
                                                              exact tL_29 C hR hX hE hLs hi h1 h2 ih hf
                                                            · rw [if_neg c29] at hf
                                                              by_cases c30 : x = (30 : Int32)
                                                              · rw [if_pos c30] at hf
                                                                refine r_tableIn C 1592 dL_law__40 (by rw [c30] <;> decide) (by rw [c30] <;> decide) (by rw [c30] <;> rfl) (by decide) ?_
                                                                exact tL_30 C hR hX hE hLs hi h1 h2 ih hf
                                                              · rw [if_neg c30] at hf
                                                                by_cases c31 : x = (31 : Int32)
                                                                · rw [if_pos c31] at hf
                                                                  refine r_tableIn C 1648 dL_law__40 (by rw [c31] <;> decide) (by rw [c31] <;> decide) (by rw [c31] <;> rfl) (by decide) ?_
                                                                  exact tL_31 C hR hX hE hLs hi h1 h2 ih hf
                                                                · rw [if_neg c31] at hf
                                                                  by_cases c32 : x = (32 : Int32)
                                                                  · rw [if_pos c32] at hf
                                                                    refine r_tableIn C 1661 dL_law__40 (by rw [c32] <;> decide) (by rw [c32] <;> decide) (by rw [c32] <;> rfl) (by decide) ?_
                                                                    exact tL_32 C hR hX hE hLs hi h1 h2 ih hf
                                                                  · rw [if_neg c32] at hf
                                                                    by_cases c33 : x = (33 : Int32)
                                                                    · rw [if_pos c33] at hf
                                                                      refine r_tableIn C 1674 dL_law__40 (by rw [c33] <;> decide) (by rw [c33] <;> decide) (by rw [c33] <;> rfl) (by decide) ?_
                                                                      exact tL_33 C hR hX hE hLs hi h1 h2 ih hf
                                                                    · rw [if_neg c33] at hf
                                                                      by_cases c34 : x = (34 : Int32)
                                                                      · rw [if_pos c34] at hf
                                                                        refine r_tableIn C 1687 dL_law__40 (by rw [c34] <;> decide) (by rw [c34] <;> decide) (by rw [c34] <;> rfl) (by decide) ?_
                                                                        exact tL_34 C hR hX hE hLs hi h1 h2 ih hf
                                                                      · rw [if_neg c34] at hf
                                                                        by_cases c35 : x = (35 : Int32)
                                                                        · rw [if_pos c35] at hf
                                                                          refine r_tableIn C 1755 dL_law__40 (by rw [c35] <;> decide) (by rw [c35] <;> decide) (by rw [c35] <;> rfl) (by decide) ?_
                                                                          exact tL_35 C hR hX hE hLs hi h1 h2 ih hf
                                                                        · rw [if_neg c35] at hf
                                                                          by_cases c36 : x = (36 : Int32)
                                                                          · rw [if_pos c36] at hf
                                                                            refine r_tableIn C 1768 dL_law__40 (by rw [c36] <;> decide) (by rw [c36] <;> decide) (by rw [c36] <;> rfl) (by decide) ?_
                                                                            exact tL_36 C hR hX hE hLs hi h1 h2 ih hf
                                                                          · rw [if_neg c36] at hf
                                                                            by_cases c37 : x = (37 : Int32)
                                                                            · rw [if_pos c37] at hf
                                                                              refine r_tableIn C 1864 dL_law__40 (by rw [c37] <;> decide) (by rw [c37] <;> decide) (by rw [c37] <;> rfl) (by decide) ?_
                                                                              exact tL_37 C hR hX hE hLs hi h1 h2 ih hf
                                                                            · rw [if_neg c37] at hf
                                                                              by_cases c38 : x = (38 : Int32)
                                                                              · rw [if_pos c38] at hf
                                                                                refine r_tableIn C 1932 dL_law__40 (by rw [c38] <;> decide) (by rw [c38] <;> decide) (by rw [c38] <;> rfl) (by decide) ?_
                                                                                exact tL_38 C hR hX hE hLs hi h1 h2 ih hf
                                                                              · rw [if_neg c38] at hf
                                                                                by_cases c39 : x = (39 : Int32)
                                                                                · rw [if_pos c39] at hf
                                                                                  refine r_tableIn C 1988 dL_law__40 (by rw [c39] <;> decide) (by rw [c39] <;> decide) (by rw [c39] <;> rfl) (by decide) ?_
                                                                                  exact tL_39 C hR hX hE hLs hi h1 h2 ih hf
                                                                                · rw [if_neg c39] at hf
                                                                                  by_cases c40 : x = (40 : Int32)
                                                                                  · rw [if_pos c40] at hf
                                                                                    refine r_tableIn C 2072 dL_law__40 (by rw [c40] <;> decide) (by rw [c40] <;> decide) (by rw [c40] <;> rfl) (by decide) ?_
                                                                                    exact tL_40 C hR hX hE hLs hi h1 h2 ih hf
                                                                                  · rw [if_neg c40] at hf
                                                                                    by_cases c41 : x = (41 : Int32)
                                                                                    · rw [if_pos c41] at hf
                                                                                      refine r_tableIn C 2156 dL_law__40 (by rw [c41] <;> decide) (by rw [c41] <;> decide) (by rw [c41] <;> rfl) (by decide) ?_
                                                                                      exact tL_41 C hR hX hE hLs hi h1 h2 ih hf
                                                                                    · rw [if_neg c41] at hf
                                                                                      by_cases c42 : x = (42 : Int32)
                                                                                      · rw [if_pos c42] at hf
                                                                                        refine r_tableIn C 2240 dL_law__40 (by rw [c42] <;> decide) (by rw [c42] <;> decide) (by rw [c42] <;> rfl) (by decide) ?_
                                                                                        exact tL_42 C hR hX hE hLs hi h1 h2 ih hf
                                                                                      · rw [if_neg c42] at hf
                                                                                        by_cases c43 : x = (43 : Int32)
                                                                                        · rw [if_pos c43] at hf
                                                                                          refine r_tableIn C 2308 dL_law__40 (by rw [c43] <;> decide) (by rw [c43] <;> decide) (by rw [c43] <;> rfl) (by decide) ?_
                                                                                          exact tL_43 C hR hX hE hLs hi h1 h2 ih hf
                                                                                        · rw [if_neg c43] at hf
                                                                                          by_cases c44 : x = (44 : Int32)
                                                                                          · rw [if_pos c44] at hf
                                                                                            refine r_tableIn C 2333 dL_law__40 (by rw [c44] <;> decide) (by rw [c44] <;> decide) (by rw [c44] <;> rfl) (by decide) ?_
                                                                                            exact tL_44 C hR hX hE hLs hi h1 h2 ih hf
                                                                                          · rw [if_neg c44] at hf
                                                                                            by_cases c45 : x = (45 : Int32)
                                                                                            · rw [if_pos c45] at hf
                                                                                              refine r_tableIn C 2346 dL_law__40 (by rw [c45] <;> decide) (by rw [c45] <;> decide) (by rw [c45] <;> rfl) (by decide) ?_
                                                                                              exact tL_45 C hR hX hE hLs hi h1 h2 ih hf
                                                                                            · rw [if_neg c45] at hf
                                                                                              by_cases c46 : x = (46 : Int32)
                                                                                              · rw [if_pos c46] at hf
                                                                                                refine r_tableIn C 2357 dL_law__40 (by rw [c46] <;> decide) (by rw [c46] <;> decide) (by rw [c46] <;> rfl) (by decide) ?_
                                                                                                exact tL_46 C hR hX hE hLs hi h1 h2 ih hf
                                                                                              · rw [if_neg c46] at hf
                                                                                                by_cases c47 : x = (47 : Int32)
                                                                                                · rw [if_pos c47] at hf
                                                                                                  refine r_tableIn C 2370 dL_law__40 (by rw [c47] <;> decide) (by rw [c47] <;> decide) (by rw [c47] <;> rfl) (by decide) ?_
                                                                                                  exact tL_47 C hR hX hE hLs hi h1 h2 ih hf
                                                                                                · rw [if_neg c47] at hf
                                                                                                  refine r_tableOut C 2395 dL_law__40 (sw_out2 (0) (47) 48 (by decide) ?_ (by decide) (by decide)) (by decide) ?_
                                                                                                  · intro k9 h9
                                                                                                    match k9, h9 with
                                                                                                    | 0, _ => exact fun e9 => c0 (e9.trans (by decide))
                                                                                                    | 1, _ => exact fun e9 => c1 (e9.trans (by decide))
                                                                                                    | 2, _ => exact fun e9 => c2 (e9.trans (by decide))
                                                                                                    | 3, _ => exact fun e9 => c3 (e9.trans (by decide))
                                                                                                    | 4, _ => exact fun e9 => c4 (e9.trans (by decide))
                                                                                                    | 5, _ => exact fun e9 => c5 (e9.trans (by decide))
                                                                                                    | 6, _ => exact fun e9 => c6 (e9.trans (by decide))
                                                                                                    | 7, _ => exact fun e9 => c7 (e9.trans (by decide))
                                                                                                    | 8, _ => exact fun e9 => c8 (e9.trans (by decide))
                                                                                                    | 9, _ => exact fun e9 => c9 (e9.trans (by decide))
                                                                                                    | 10, _ => exact fun e9 => c10 (e9.trans (by decide))
                                                                                                    | 11, _ => exact fun e9 => c11 (e9.trans (by decide))
                                                                                                    | 12, _ => exact fun e9 => c12 (e9.trans (by decide))
                                                                                                    | 13, _ => exact fun e9 => c13 (e9.trans (by decide))
                                                                                                    | 14, _ => exact fun e9 => c14 (e9.trans (by decide))
                                                                                                    | 15, _ => exact fun e9 => c15 (e9.trans (by decide))
                                                                                                    | 16, _ => exact fun e9 => c16 (e9.trans (by decide))
                                                                                                    | 17, _ => exact fun e9 => c17 (e9.trans (by decide))
                                                                                                    | 18, _ => exact fun e9 => c18 (e9.trans (by decide))
                                                                                                    | 19, _ => exact fun e9 => c19 (e9.trans (by decide))
                                                                                                    | 20, _ => exact fun e9 => c20 (e9.trans (by decide))
                                                                                                    | 21, _ => exact fun e9 => c21 (e9.trans (by decide))
                                                                                                    | 22, _ => exact fun e9 => c22 (e9.trans (by decide))
                                                                                                    | 23, _ => exact fun e9 => c23 (e9.trans (by decide))
                                                                                                    | 24, _ => exact fun e9 => c24 (e9.trans (by decide))
                                                                                                    | 25, _ => exact fun e9 => c25 (e9.trans (by decide))
                                                                                                    | 26, _ => exact fun e9 => c26 (e9.trans (by decide))
                                                                                                    | 27, _ => exact fun e9 => c27 (e9.trans (by decide))
                                                                                                    | 28, _ => exact fun e9 => c28 (e9.trans (by decide))
                                                                                                    | 29, _ => exact fun e9 => c29 (e9.trans (by decide))
                                                                                                    | 30, _ => exact fun e9 => c30 (e9.trans (by decide))
                                                                                                    | 31, _ => exact fun e9 => c31 (e9.trans (by decide))
                                                                                                    | 32, _ => exact fun e9 => c32 (e9.trans (by decide))
                                                                                                    | 33, _ => exact fun e9 => c33 (e9.trans (by decide))
                                                                                                    | 34, _ => exact fun e9 => c34 (e9.trans (by decide))
                                                                                                    | 35, _ => exact fun e9 => c35 (e9.trans (by decide))
                                                                                                    | 36, _ => exact fun e9 => c36 (e9.trans (by decide))
                                                                                                    | 37, _ => exact fun e9 => c37 (e9.trans (by decide))
                                                                                                    | 38, _ => exact fun e9 => c38 (e9.trans (by decide))
                                                                                                    | 39, _ => exact fun e9 => c39 (e9.trans (by decide))
                                                                                                    | 40, _ => exact fun e9 => c40 (e9.trans (by decide))
                                                                                                    | 41, _ => exact fun e9 => c41 (e9.trans (by decide))
                                                                                                    | 42, _ => exact fun e9 => c42 (e9.trans (by decide))
                                                                                                    | 43, _ => exact fun e9 => c43 (e9.trans (by decide))
                                                                                                    | 44, _ => exact fun e9 => c44 (e9.trans (by decide))
                                                                                                    | 45, _ => exact fun e9 => c45 (e9.trans (by decide))
                                                                                                    | 46, _ => exact fun e9 => c46 (e9.trans (by decide))
                                                                                                    | 47, _ => exact fun e9 => c47 (e9.trans (by decide))
                                                                                                    | k9 + 48, h9 => exact absurd h9 (by omega)
                                                                                                  obtain ⟨x901, ex901⟩ : ∃ z, z = nI i + (6 : Int32) := ⟨_, rfl⟩
                                                                                                  rw [← ex901] at hf
                                                                                                  refine r_iinc (j := 4) (v := x901) (lv' := [(0, .ref b), (1, .ref (gad (xG X) 0)), (2, .ref (gad (xG X) 208)), (3, .ref (gad (xG X) 221)), (4, .int x901)]) C dL_law__2395 rfl (by rw [ex901]; rfl) (by decide) [1, 2, 3, 4, 0] rfl ?_
                                                                                                  refine r_goto C 23 dL_law__2398 (by decide) ?_
                                                                                                  have e99 : x901 = nI (i + 6) := by rw [ex901]; exact nI_add i 6
                                                                                                  rw [e99] at hf ⊢
                                                                                                  exact r_widen (c2 := cs + 1) (s2 := sl + 6) (by omega) (by omega) (r_lv [0, 1, 2, 3, 4] rfl (ih (i + 6) _ (cs + 1) (sl + 6) (by omega) (by omega) (by omega) hf))
set_option maxHeartbeats 8000000 in
set_option maxRecDepth 100000 in
theorem wL_law {X : Cx} {b Ls : Nat} {xs : Nat → Int32} (C : OK X cL_law_ 7 RL ret) (hR : xR X = { frames := 2048, cells := 601024, slots := 7293034, locals := 84000 }) (hX : SCR X b Ls xs) (hE : LAWQ X) (hLs : Ls ≤ 3072) : ∀ (n i : Nat) (h : Hp) (cs sl : Nat), i ≤ Ls + 6 → cs ≤ 400 + i → sl ≤ 60000 + 6 * i → LL_law xs Ls n h (nI i) = some 1 → VW X 7 h cs sl 23 [(0, .ref b), (1, .ref (gad (xG X) 0)), (2, .ref (gad (xG X) 208)), (3, .ref (gad (xG X) 221)), (4, .int (nI i))] [] := by
  intro n
  induction n with
  | zero =>
    intro i h cs sl hi h1 h2 hf
    rw [LL_law] at hf
    cases hf
  | succ n ih =>
    intro i h cs sl hi h1 h2 hf
    rw [LL_law] at hf
    unfold BL_law at hf
    refine r_iload (i := 4) C dL_law__23 4 rfl ?_
    refine r_aload_n (i := 0) C dL_law__25 rfl 0 rfl ?_
    refine r_slen9 C hX dL_law__26 ?_
    refine r_bipush (v := 6) C dL_law__27 (by decide) ?_
    refine r_isub C dL_law__29 ?_
    refine r_icmp_gt C 2401 dL_law__30 (by decide) (fun c1 => ?_) (fun c1 => ?_)
    · refine r_iconst (v := 1) C dL_law__2401 (by decide) ?_
      exact r_lawret rfl C hE (by omega) (by omega) dL_law__2402
    · rw [if_neg c1] at hf
      have hi6 := law_i hLs hi c1
      refine r_aload_n (i := 0) C dL_law__33 rfl 0 rfl ?_
      refine r_iload (i := 4) C dL_law__34 4 rfl ?_
      obtain ⟨g2, hf⟩ := gd_of hf
      refine r_sld C hX g2 dL_law__36 ?_
      refine r_bipush (v := 63) C dL_law__37 (by decide) ?_
      refine r_iand C dL_law__39 ?_
      obtain ⟨x, ex, hf⟩ := lt_of hf
      refine r_top ex ?_
      exact sL_law C hR hX hE hLs hi6 h1 h2 ih hf

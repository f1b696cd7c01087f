/-! The run, and the claim. -/
theorem swl {xs : Nat → Int32} {Ls : Nat} {rec : Hp → Int32 → Option Int32} {h : Hp} {i : Nat} (R : REL h) (hi : i + 6 ≤ Ls) (hL : Ls ≤ 3072) (x : Int32) : ∃ h', REL h' ∧ SWL xs Ls rec h (nI i) x = rec h' (nI (i + 6)) := by
  unfold SWL
  by_cases c0 : x = (0 : Int32)
  · rw [if_pos c0]; exact kl_0 R hi hL
  rw [if_neg c0]
  by_cases c1 : x = (1 : Int32)
  · rw [if_pos c1]; exact kl_1 R hi hL
  rw [if_neg c1]
  by_cases c2 : x = (2 : Int32)
  · rw [if_pos c2]; exact kl_2 R hi hL
  rw [if_neg c2]
  by_cases c3 : x = (3 : Int32)
  · rw [if_pos c3]; exact kl_3 R hi hL
  rw [if_neg c3]
  by_cases c4 : x = (4 : Int32)
  · rw [if_pos c4]; exact kl_4 R hi hL
  rw [if_neg c4]
  by_cases c5 : x = (5 : Int32)
  · rw [if_pos c5]; exact kl_5 R hi hL
  rw [if_neg c5]
  by_cases c6 : x = (6 : Int32)
  · rw [if_pos c6]; exact kl_6 R hi hL
  rw [if_neg c6]
  by_cases c7 : x = (7 : Int32)
  · rw [if_pos c7]; exact kl_7 R hi hL
  rw [if_neg c7]
  by_cases c8 : x = (8 : Int32)
  · rw [if_pos c8]; exact kl_8 R hi hL
  rw [if_neg c8]
  by_cases c9 : x = (9 : Int32)
  · rw [if_pos c9]; exact kl_9 R hi hL
  rw [if_neg c9]
  by_cases c10 : x = (10 : Int32)
  · rw [if_pos c10]; exact kl_10 R hi hL
  rw [if_neg c10]
  by_cases c11 : x = (11 : Int32)
  · rw [if_pos c11]; exact kl_11 R hi hL
  rw [if_neg c11]
  by_cases c12 : x = (12 : Int32)
  · rw [if_pos c12]; exact kl_12 R hi hL
  rw [if_neg c12]
  by_cases c13 : x = (13 : Int32)
  · rw [if_pos c13]; exact kl_13 R hi hL
  rw [if_neg c13]
  by_cases c14 : x = (14 : Int32)
  · rw [if_pos c14]; exact kl_14 R hi hL
  rw [if_neg c14]
  by_cases c15 : x = (15 : Int32)
  · rw [if_pos c15]; exact kl_15 R hi hL
  rw [if_neg c15]
  by_cases c16 : x = (16 : Int32)
  · rw [if_pos c16]; exact kl_16 R hi hL
  rw [if_neg c16]
  by_cases c17 : x = (17 : Int32)
  · rw [if_pos c17]; exact kl_17 R hi hL
  rw [if_neg c17]
  by_cases c18 : x = (18 : Int32)
  · rw [if_pos c18]; exact kl_18 R hi hL
  rw [if_neg c18]
  by_cases c19 : x = (19 : Int32)
  · rw [if_pos c19]; exact kl_19 R hi hL
  rw [if_neg c19]
  by_cases c20 : x = (20 : Int32)
  · rw [if_pos c20]; exact kl_20 R hi hL
  rw [if_neg c20]
  by_cases c21 : x = (21 : Int32)
  · rw [if_pos c21]; exact kl_21 R hi hL
  rw [if_neg c21]
  by_cases c22 : x = (22 : Int32)
  · rw [if_pos c22]; exact kl_22 R hi hL
  rw [if_neg c22]
  by_cases c23 : x = (23 : Int32)
  · rw [if_pos c23]; exact kl_23 R hi hL
  rw [if_neg c23]
  by_cases c24 : x = (24 : Int32)
  · rw [if_pos c24]; exact kl_24 R hi hL
  rw [if_neg c24]
  by_cases c25 : x = (25 : Int32)
  · rw [if_pos c25]; exact kl_25 R hi hL
  rw [if_neg c25]
  by_cases c26 : x = (26 : Int32)
  · rw [if_pos c26]; exact kl_26 R hi hL
  rw [if_neg c26]
  by_cases c27 : x = (27 : Int32)
  · rw [if_pos c27]; exact kl_27 R hi hL
  rw [if_neg c27]
  by_cases c28 : x = (28 : Int32)
  · rw [if_pos c28]; exact kl_28 R hi hL
  rw [if_neg c28]
  by_cases c29 : x = (29 : Int32)
  · rw [if_pos c29]; exact kl_29 R hi hL
  rw [if_neg c29]
  by_cases c30 : x = (30 : Int32)
  · rw [if_pos c30]; exact kl_30 R hi hL
  rw [if_neg c30]
  by_cases c31 : x = (31 : Int32)
  · rw [if_pos c31]; exact kl_31 R hi hL
  rw [if_neg c31]
  by_cases c32 : x = (32 : Int32)
  · rw [if_pos c32]; exact kl_32 R hi hL
  rw [if_neg c32]
  by_cases c33 : x = (33 : Int32)
  · rw [if_pos c33]; exact kl_33 R hi hL
  rw [if_neg c33]
  by_cases c34 : x = (34 : Int32)
  · rw [if_pos c34]; exact kl_34 R hi hL
  rw [if_neg c34]
  by_cases c35 : x = (35 : Int32)
  · rw [if_pos c35]; exact kl_35 R hi hL
  rw [if_neg c35]
  by_cases c36 : x = (36 : Int32)
  · rw [if_pos c36]; exact kl_36 R hi hL
  rw [if_neg c36]
  by_cases c37 : x = (37 : Int32)
  · rw [if_pos c37]; exact kl_37 R hi hL
  rw [if_neg c37]
  by_cases c38 : x = (38 : Int32)
  · rw [if_pos c38]; exact kl_38 R hi hL
  rw [if_neg c38]
  by_cases c39 : x = (39 : Int32)
  · rw [if_pos c39]; exact kl_39 R hi hL
  rw [if_neg c39]
  by_cases c40 : x = (40 : Int32)
  · rw [if_pos c40]; exact kl_40 R hi hL
  rw [if_neg c40]
  by_cases c41 : x = (41 : Int32)
  · rw [if_pos c41]; exact kl_41 R hi hL
  rw [if_neg c41]
  by_cases c42 : x = (42 : Int32)
  · rw [if_pos c42]; exact kl_42 R hi hL
  rw [if_neg c42]
  by_cases c43 : x = (43 : Int32)
  · rw [if_pos c43]; exact kl_43 R hi hL
  rw [if_neg c43]
  by_cases c44 : x = (44 : Int32)
  · rw [if_pos c44]; exact kl_44 R hi hL
  rw [if_neg c44]
  by_cases c45 : x = (45 : Int32)
  · rw [if_pos c45]; exact kl_45 R hi hL
  rw [if_neg c45]
  by_cases c46 : x = (46 : Int32)
  · rw [if_pos c46]; exact kl_46 R hi hL
  rw [if_neg c46]
  by_cases c47 : x = (47 : Int32)
  · rw [if_pos c47]; exact kl_47 R hi hL
  rw [if_neg c47]
  exact ⟨h, R, by rw [n6]⟩
theorem run_all {xs : Nat → Int32} {Ls : Nat} (hL : Ls ≤ 3072) : ∀ n i h, REL h → i ≤ Ls + 6 → Ls + 7 - i ≤ n → LL_law xs Ls n h (nI i) = some 1 := by
  intro n
  induction n with
  | zero => intro i h R hi hn; omega
  | succ n ih =>
    intro i h R hi hn
    rw [LL_law, BL_law]
    have e : (Int32.ofNat Ls - (6 : Int32)).toInt = (Ls : Int) - 6 := pk_sub_toInt (a := Ls) (b := 6) (by omega) (by decide)
    by_cases c : i + 6 ≤ Ls
    · have c1 : ¬ (Int32.ofNat Ls - (6 : Int32)) < nI i := by
        rw [Int32.lt_iff_toInt_lt, e, nI_toInt (by omega)]
        omega
      rw [if_neg c1, gdi (show i < Ls by omega) (by omega), lt9_e]
      obtain ⟨h', R', e'⟩ := swl (xs := xs) (rec := LL_law xs Ls n) R c hL (xs (nI i).toNatClampNeg &&& (63 : Int32))
      rw [e']
      exact ih (i + 6) h' R' (by omega) (by omega)
    · have c1 : (Int32.ofNat Ls - (6 : Int32)) < nI i := by
        rw [Int32.lt_iff_toInt_lt, e, nI_toInt (by omega)]
        omega
      rw [if_pos c1]
theorem sks_0 : SKs (SV h0 32) (h0 209) := fun i hi h2 => (show ∀ i : Fin 93, i.val ≠ 2 → SV h0 32 (loc i.val).1 (loc i.val).2 = h0 209 i.val by decide +kernel) ⟨i, hi⟩ h2
theorem gwRow0 : GW (h0 209) := by
  refine ⟨fun i hi hs => ?_, ?_, ?_, fun p hp _ => ?_, fun k hk q => ?_, by decide⟩
  · exact ⟨(h0 209 i).toNatClampNeg, (show ∀ i : Fin 93, spc i.val = false → (h0 209 i.val).toNatClampNeg ≤ hiT i.val ∧ h0 209 i.val = nI (h0 209 i.val).toNatClampNeg by decide +kernel) ⟨i, hi⟩ hs⟩
  · exact S16_0
  · exact S16_0
  · exact (show ∀ p : Fin 16, h0 209 (62 + p.val) = 0 by decide +kernel) ⟨p, hp⟩
  · exact absurd q (nI_pos (by omega))
theorem REL_0 : REL h0 := by
  refine ⟨(h0 209, 0, fun _ _ => 0, false, fun _ => 0, 0, fun _ => 0, -1), ⟨⟨sks_0, gwRow0, ⟨0, 0, by decide, by decide, rfl, rfl, fun j hj => by omega⟩⟩, Or.inl rfl, Or.inl ⟨rfl, rfl⟩, ⟨by decide, rfl, 0, by decide, rfl, fun i hi => by omega⟩, ⟨rfl, fun q => by cases q⟩, ⟨by decide, rfl, fun j hj => by omega⟩, rfl⟩, ⟨rfl, ⟨rfl, fun i hi => by omega⟩, ⟨rfl, fun q => by cases q⟩, ⟨rfl, fun j hj => by omega⟩, rfl⟩⟩
theorem pure_all : PURE := fun xs Ls hL => run_all hL big 0 h0 REL_0 (by omega) (by unfold big; omega)
theorem i_vc : Claimed_1_1 ∧ Claimed_1_2 := i_vc0 pure_all

/-! the words of the functions that stand for methods -/
abbrev inb (i : Int32) (n : Nat) : Prop := ¬ (i < 0 ∨ n ≤ i.toNatClampNeg)
def gd {β : Type} (c : Prop) [Decidable c] (k : Option β) : Option β := if c then k else none
def lt9 {α β : Type} (v : α) (k : α → β) : β := k v
def cl9 {ρ β : Type} (x : Option ρ) (k : ρ → Option β) : Option β := match x with
  | none => none
  | some a => k a
def cl2 {ρ σ β : Type} (x : Option (ρ × σ)) (k : ρ → σ → Option β) : Option β := match x with
  | none => none
  | some (a, b) => k a b
def cl3 {ρ σ τ β : Type} (x : Option (ρ × σ × τ)) (k : ρ → σ → τ → Option β) : Option β := match x with
  | none => none
  | some (a, b, c) => k a b c
def cl4 {ρ σ τ υ β : Type} (x : Option (ρ × σ × τ × υ)) (k : ρ → σ → τ → υ → Option β) : Option β := match x with
  | none => none
  | some (a, b, c, d) => k a b c d
theorem gd_of {β : Type} {c : Prop} [Decidable c] {k : Option β} {r : β} (h : gd c k = some r) : c ∧ k = some r := by
  unfold gd at h
  by_cases hc : c
  · rw [if_pos hc] at h; exact ⟨hc, h⟩
  · rw [if_neg hc] at h; cases h
theorem lt_of {α β : Type} {v : α} {k : α → β} {r : β} (h : lt9 v k = r) : ∃ x, x = v ∧ k x = r := ⟨v, rfl, h⟩
theorem cl_of {ρ β : Type} {x : Option ρ} {k : ρ → Option β} {r : β} (h : cl9 x k = some r) : ∃ a, x = some a ∧ k a = some r := by
  unfold cl9 at h
  cases x with
  | none => cases h
  | some a => exact ⟨a, rfl, h⟩
theorem cl2_of {ρ σ β : Type} {x : Option (ρ × σ)} {k : ρ → σ → Option β} {r : β} (h : cl2 x k = some r) : ∃ a b, x = some (a, b) ∧ k a b = some r := by
  unfold cl2 at h
  cases x with
  | none => cases h
  | some a => exact ⟨a.1, a.2, rfl, h⟩
theorem cl3_of {ρ σ τ β : Type} {x : Option (ρ × σ × τ)} {k : ρ → σ → τ → Option β} {r : β} (h : cl3 x k = some r) : ∃ a b c, x = some (a, b, c) ∧ k a b c = some r := by
  unfold cl3 at h
  cases x with
  | none => cases h
  | some a => exact ⟨a.1, a.2.1, a.2.2, rfl, h⟩
theorem cl4_of {ρ σ τ υ β : Type} {x : Option (ρ × σ × τ × υ)} {k : ρ → σ → τ → υ → Option β} {r : β} (h : cl4 x k = some r) : ∃ a b c d, x = some (a, b, c, d) ∧ k a b c d = some r := by
  unfold cl4 at h
  cases x with
  | none => cases h
  | some a => exact ⟨a.1, a.2.1, a.2.2.1, a.2.2.2, rfl, h⟩
def big : Nat := 1000000
theorem b_ite {c : Prop} [Decidable c] {a b : Int32} (ha : a = 0 ∨ a = 1) (hb : b = 0 ∨ b = 1) : (if c then a else b) = 0 ∨ (if c then a else b) = 1 := by
  by_cases h : c
  · rw [if_pos h]; exact ha
  · rw [if_neg h]; exact hb
theorem b_eq {a b : Int32} (e : a = b) (h : b = 0 ∨ b = 1) : a = 0 ∨ a = 1 := by rw [e]; exact h
theorem zr1 {X : Cx} {F L : Nat} (hR : xR X = { frames := F, cells := 0, slots := 0, locals := L }) (h : Nat.ble 1 F = true) : 1 ≤ (xR X).frames := by rw [hR]; exact Nat.le_of_ble_eq_true h
theorem zr0 {X : Cx} {F L : Nat} {n : Nat} (hR : xR X = { frames := F, cells := 0, slots := 0, locals := L }) (h : n ≤ L) : n ≤ (xR X).locals := by rw [hR]; exact h
theorem zr2 {X : Cx} {F L fr lo maxL2 : Nat} (hR : xR X = { frames := F, cells := 0, slots := 0, locals := L }) (h1 : Nat.ble (fr + 1) F = true) (h2 : Nat.ble (8 + (maxL2 + 11) + lo) L = true) : fr + 1 ≤ (xR X).frames ∧ 8 + (maxL2 + 11) + lo ≤ (xR X).locals := by rw [hR]; exact ⟨Nat.le_of_ble_eq_true h1, Nat.le_of_ble_eq_true h2⟩
theorem zrcs {a b : Nat} (_ : True) : 0 ≤ a ∧ 0 ≤ b := ⟨Nat.zero_le a, Nat.zero_le b⟩
theorem zrac {X : Cx} {F L : Nat} {st : List Value} (hR : xR X = { frames := F, cells := 0, slots := 0, locals := L }) (h : Nat.ble ((st.map fun v => v.category).sum + (nativeFrameWords "java/lang/System" "arraycopy" 5 + 11)) L = true) : (st.map fun v => v.category).sum + (nativeFrameWords "java/lang/System" "arraycopy" 5 + 11) ≤ (xR X).locals := by rw [hR]; exact Nat.le_of_ble_eq_true h
theorem sk32 : isSky 32 := ⟨0, by decide, rfl⟩
theorem sk43 : isSky 43 := ⟨1, by decide, rfl⟩
theorem sk54 : isSky 54 := ⟨2, by decide, rfl⟩
theorem sk65 : isSky 65 := ⟨3, by decide, rfl⟩
theorem lk6 : isLaw 6 := Or.inl rfl
theorem lk13 : isLaw 13 := Or.inr (Or.inl rfl)
theorem lk24 : isLaw 24 := Or.inr (Or.inr rfl)
theorem sky_d0 {b : Nat} (h : isSky b) : dsc b = skyD b 0 := sky_dsc h 0 (by decide)
theorem sky_l0 {b : Nat} (h : isSky b) : b < NC := sky_lt h 0 (by decide)
theorem law_d0 {b : Nat} (h : isLaw b) : dsc b = lawD b 0 := law_dsc h 0 (by decide)
theorem law_l0 {b : Nat} (h : isLaw b) : b < NC := law_lt h 0 (by decide)
theorem sk_past {i : Int32} (h : inb i 12) : isSky (76 + 11 * i.toNatClampNeg) := ⟨4 + i.toNatClampNeg, by have h2 : i.toNatClampNeg < 12 := Nat.lt_of_not_le (fun q => h (Or.inr q)); omega, by omega⟩
theorem sk_at {i : Int32} (h : inb i 12) : [76, 87, 98, 109, 120, 131, 142, 153, 164, 175, 186, 197][i.toNatClampNeg]? = some (76 + 11 * i.toNatClampNeg) := by
  have h2 : i.toNatClampNeg < 12 := Nat.lt_of_not_le (fun q => h (Or.inr q))
  generalize i.toNatClampNeg = n at h2 ⊢
  have h3 : ∀ n : Nat, n < 12 → [76, 87, 98, 109, 120, 131, 142, 153, 164, 175, 186, 197][n]? = some (76 + 11 * n) := by decide
  exact h3 n h2
theorem sw_out {x : Int32} (lo n : Nat) (h : ∀ k : Nat, k < n → ¬ x = Int32.ofNat (lo + k)) (hn : lo + n < 2 ^ 31) : x.toInt < (lo : Int) ∨ ((lo + n : Nat) : Int) - 1 < x.toInt := by
  rcases Int.lt_or_le x.toInt (lo : Int) with q | q
  · exact Or.inl q
  · right
    rcases Int.lt_or_le (((lo + n : Nat) : Int) - 1) x.toInt with r | r
    · exact r
    · exfalso
      obtain ⟨k, hk⟩ : ∃ k : Nat, x.toInt = ((lo + k : Nat) : Int) := ⟨(x.toInt - lo).toNat, by omega⟩
      refine h k (by omega) ?_
      have e : (Int32.ofNat (lo + k)).toInt = ((lo + k : Nat) : Int) := nI_toInt (by omega)
      exact Int32.toInt.inj (by rw [e]; exact hk)
def jmax (x y : Int32) : Int32 := if x < y then y else x
def jmin (x y : Int32) : Int32 := if y < x then y else x
def jabs (x : Int32) : Int32 := if 0 ≤ x then x else 0 - x
section RULES2
variable {X : Cx} {cc : ByteArray} {nL : Nat} {own : String} {ret : Option FieldType} {h : Hp} {cells slots pc : Nat} {lv : List (Nat × Value)} {st : List Value}
theorem r_ialdc (C : OK X cc nL own ret) (k : Nat) {n m : Nat} {q : List Nat} {i : Int32} (hdc : dsc k = .inr (0, n, q)) (hk : k < NC) (hm : i.toNatClampNeg = m) (hin : vp_in i n) (hd : decode cc pc = .ok (.iaload, 1)) (kk : VW X nL h cells slots (pc + 1) lv (.int (h k m) :: st)) : VW X nL h cells slots pc lv (.int i :: .ref (gad (xG X) k) :: st) := by
  subst hm
  exact r_iald C k hdc hk hin hd kk
theorem r_baldc (C : OK X cc nL own ret) (k : Nat) {n m : Nat} {q : List Nat} {i : Int32} (hdc : dsc k = .inr (1, n, q)) (hk : k < NC) (hm : i.toNatClampNeg = m) (hin : vp_in i n) (hd : decode cc pc = .ok (.baload, 1)) (kk : VW X nL h cells slots (pc + 1) lv (.int (h k m) :: st)) : VW X nL h cells slots pc lv (.int i :: .ref (gad (xG X) k) :: st) := by
  subst hm
  exact r_bald C k hdc hk hin hd kk
theorem r_mmax9 (C : OK X cc nL own ret) {index : Nat} {x y : Int32} (hw : Cond.methodLink own index Lib.Math.max.name ∈ GT) (hs : Cond.static Lib.Math.max.name ∈ GT) (hi : Cond.initialized "java/lang/Math" ∈ GT) (hc : Cond.code Lib.Math.max.name Lib.Math.max.code 2 (some .int) ∈ GT) (hRf : 1 ≤ (xR X).frames) (hRl : (st.map fun v => v.category).sum + 13 ≤ (xR X).locals) (hcs : cells ≤ (xR X).cells ∧ slots ≤ (xR X).slots) (hd : decode cc pc = .ok (.invokestatic index, 3)) (kk : VW X nL h cells slots (pc + 3) lv (.int (jmax x y) :: st)) : VW X nL h cells slots pc lv (.int y :: .int x :: st) := r_mmax C hw hs hi hc hRf hRl hcs hd kk
theorem r_mmin9 (C : OK X cc nL own ret) {index : Nat} {x y : Int32} (hw : Cond.methodLink own index Lib.Math.min.name ∈ GT) (hs : Cond.static Lib.Math.min.name ∈ GT) (hi : Cond.initialized "java/lang/Math" ∈ GT) (hc : Cond.code Lib.Math.min.name Lib.Math.min.code 2 (some .int) ∈ GT) (hRf : 1 ≤ (xR X).frames) (hRl : (st.map fun v => v.category).sum + 13 ≤ (xR X).locals) (hcs : cells ≤ (xR X).cells ∧ slots ≤ (xR X).slots) (hd : decode cc pc = .ok (.invokestatic index, 3)) (kk : VW X nL h cells slots (pc + 3) lv (.int (jmin x y) :: st)) : VW X nL h cells slots pc lv (.int y :: .int x :: st) := r_mmin C hw hs hi hc hRf hRl hcs hd kk
theorem r_mabs9 (C : OK X cc nL own ret) {index : Nat} {x : Int32} (hw : Cond.methodLink own index Lib.Math.abs.name ∈ GT) (hs : Cond.static Lib.Math.abs.name ∈ GT) (hi : Cond.initialized "java/lang/Math" ∈ GT) (hc : Cond.code Lib.Math.abs.name Lib.Math.abs.code 1 (some .int) ∈ GT) (hRf : 1 ≤ (xR X).frames) (hRl : (st.map fun v => v.category).sum + 13 ≤ (xR X).locals) (hcs : cells ≤ (xR X).cells ∧ slots ≤ (xR X).slots) (hd : decode cc pc = .ok (.invokestatic index, 3)) (kk : VW X nL h cells slots (pc + 3) lv (.int (jabs x) :: st)) : VW X nL h cells slots pc lv (.int x :: st) := r_mabs C hw hs hi hc hRf hRl hcs hd kk
theorem r_lookup (C : OK X cc nL own ret) {dflt : Int} {ps : Array (Int × Int)} {len : Nat} {x : Int32} {off : Int} (tgt : Nat) (hd : decode cc pc = .ok (.lookupswitch dflt ps, len)) (hp : (ps.toList.zip (ps.toList.drop 1)).all (fun (a, next) => a.1 < next.1) = true) (ho : Op.lookupswitch.offset ps.toList dflt x.toInt = off) (ht : (pc : Int) + off = (tgt : Int)) (k : VW X nL h cells slots tgt lv st) : VW X nL h cells slots pc lv (.int x :: st) := by
  obtain ⟨p, e, R, s, m, args, below, meth, c, Q, l, D, cA, ad, L0, sK, sV⟩ := X
  obtain ⟨hx, hb, hml, hown, hts, hT, hr, hlk⟩ := C
  intro H locs ls hP hS hl
  exact lv_lookup hx hb hd hp ho ht (k H locs ls hP hS hl)
end RULES2
theorem gt_all {ws : List Cond} (h1 : ∀ w ∈ ws, w ∈ lw_tbl) (h2 : ws.all goodWord = true) : ∀ w ∈ ws, w ∈ GT := fun w hw => List.mem_filter.mpr ⟨h1 w hw, List.all_eq_true.mp h2 w hw⟩
theorem u_X0 : ∀ w ∈ u_ws RX0 TX0 4, w ∈ GT := gt_all (by decide +kernel) (by decide +kernel)
theorem u_X1 : ∀ w ∈ u_ws RX1 TX1 3, w ∈ GT := gt_all (by decide +kernel) (by decide +kernel)
theorem u_X2 : ∀ w ∈ u_ws RX2 TX2 6, w ∈ GT := gt_all (by decide +kernel) (by decide +kernel)
theorem u_X3 : ∀ w ∈ u_ws RX3 TX3 1, w ∈ GT := gt_all (by decide +kernel) (by decide +kernel)
theorem u_X4 : ∀ w ∈ u_ws RX4 TX4 3, w ∈ GT := gt_all (by decide +kernel) (by decide +kernel)
theorem u_X5 : ∀ w ∈ u_ws RX5 TX5 3, w ∈ GT := gt_all (by decide +kernel) (by decide +kernel)
theorem u_X6 : ∀ w ∈ u_ws RX6 TX6 4, w ∈ GT := gt_all (by decide +kernel) (by decide +kernel)
theorem u_X7 : ∀ w ∈ u_ws RX7 TX7 17, w ∈ GT := gt_all (by decide +kernel) (by decide +kernel)
theorem u_X8 : ∀ w ∈ u_ws RX8 TX8 1, w ∈ GT := gt_all (by decide +kernel) (by decide +kernel)
theorem u_X9 : ∀ w ∈ u_ws RX9 TX9 6, w ∈ GT := gt_all (by decide +kernel) (by decide +kernel)
theorem u_X11 : ∀ w ∈ u_ws RX11 TX11 15, w ∈ GT := gt_all (by decide +kernel) (by decide +kernel)
theorem u_X12 : ∀ w ∈ u_ws RX12 TX12 24, w ∈ GT := gt_all (by decide +kernel) (by decide +kernel)
theorem gm_max_s : Cond.static Lib.Math.max.name ∈ GT := gt_in 616 (by decide +kernel) rfl
theorem gm_max_c : Cond.code Lib.Math.max.name Lib.Math.max.code 2 (some .int) ∈ GT := gt_in 617 (by decide +kernel) rfl
theorem gm_min_s : Cond.static Lib.Math.min.name ∈ GT := gt_in 662 (by decide +kernel) rfl
theorem gm_min_c : Cond.code Lib.Math.min.name Lib.Math.min.code 2 (some .int) ∈ GT := gt_in 663 (by decide +kernel) rfl
theorem gm_abs_s : Cond.static Lib.Math.abs.name ∈ GT := gt_in 1263 (by decide +kernel) rfl
theorem gm_abs_c : Cond.code Lib.Math.abs.name Lib.Math.abs.code 1 (some .int) ∈ GT := gt_in 1264 (by decide +kernel) rfl
theorem gm_i : Cond.initialized "java/lang/Math" ∈ GT := gt_in 185 (by decide +kernel) rfl
theorem gm_ac_n : Cond.native arraycopyName ∈ GT := gt_in 633 (by decide +kernel) rfl
theorem gm_ac_s : Cond.static arraycopyName ∈ GT := gt_in 632 (by decide +kernel) rfl
theorem gm_ac_i : Cond.initialized "java/lang/System" ∈ GT := gt_in 173 (by decide +kernel) rfl
abbrev yJ_fill : MethodName := ⟨"java/util/Arrays", "fill", "([II)V"⟩
theorem dJ_fill_0 : decode prog_33_method_103_code 0 = .ok (.iconst 0, 1) := by decide +kernel
theorem dJ_fill_1 : decode prog_33_method_103_code 1 = .ok (.istore_n 2, 1) := by decide +kernel
theorem dJ_fill_2 : decode prog_33_method_103_code 2 = .ok (.aload_n 0, 1) := by decide +kernel
theorem dJ_fill_3 : decode prog_33_method_103_code 3 = .ok (.arraylength, 1) := by decide +kernel
theorem dJ_fill_4 : decode prog_33_method_103_code 4 = .ok (.istore_n 3, 1) := by decide +kernel
theorem dJ_fill_5 : decode prog_33_method_103_code 5 = .ok (.iload_n 2, 1) := by decide +kernel
theorem dJ_fill_6 : decode prog_33_method_103_code 6 = .ok (.iload_n 3, 1) := by decide +kernel
theorem dJ_fill_7 : decode prog_33_method_103_code 7 = .ok (.if_icmp .ge 13, 3) := by decide +kernel
theorem dJ_fill_10 : decode prog_33_method_103_code 10 = .ok (.aload_n 0, 1) := by decide +kernel
theorem dJ_fill_11 : decode prog_33_method_103_code 11 = .ok (.iload_n 2, 1) := by decide +kernel
theorem dJ_fill_12 : decode prog_33_method_103_code 12 = .ok (.iload_n 1, 1) := by decide +kernel
theorem dJ_fill_13 : decode prog_33_method_103_code 13 = .ok (.iastore, 1) := by decide +kernel
theorem dJ_fill_14 : decode prog_33_method_103_code 14 = .ok (.iinc 2 1, 3) := by decide +kernel
theorem dJ_fill_17 : decode prog_33_method_103_code 17 = .ok (.goto (-12), 3) := by decide +kernel
theorem dJ_fill_20 : decode prog_33_method_103_code 20 = .ok (.return_, 1) := by decide +kernel
abbrev yJ_bitCount : MethodName := ⟨"java/lang/Integer", "bitCount", "(I)I"⟩
theorem dJ_bitCount_0 : decode prog_22_method_49_code 0 = .ok (.iload_n 0, 1) := by decide +kernel
theorem dJ_bitCount_1 : decode prog_22_method_49_code 1 = .ok (.iload_n 0, 1) := by decide +kernel
theorem dJ_bitCount_2 : decode prog_22_method_49_code 2 = .ok (.iconst 1, 1) := by decide +kernel
theorem dJ_bitCount_3 : decode prog_22_method_49_code 3 = .ok (.iushr, 1) := by decide +kernel
theorem dJ_bitCount_4 : decode prog_22_method_49_code 4 = .ok (.ldc_w 265, 3) := by decide +kernel
theorem dJ_bitCount_7 : decode prog_22_method_49_code 7 = .ok (.iand, 1) := by decide +kernel
theorem dJ_bitCount_8 : decode prog_22_method_49_code 8 = .ok (.isub, 1) := by decide +kernel
theorem dJ_bitCount_9 : decode prog_22_method_49_code 9 = .ok (.istore_n 0, 1) := by decide +kernel
theorem dJ_bitCount_10 : decode prog_22_method_49_code 10 = .ok (.iload_n 0, 1) := by decide +kernel
theorem dJ_bitCount_11 : decode prog_22_method_49_code 11 = .ok (.ldc_w 266, 3) := by decide +kernel
theorem dJ_bitCount_14 : decode prog_22_method_49_code 14 = .ok (.iand, 1) := by decide +kernel
theorem dJ_bitCount_15 : decode prog_22_method_49_code 15 = .ok (.iload_n 0, 1) := by decide +kernel
theorem dJ_bitCount_16 : decode prog_22_method_49_code 16 = .ok (.iconst 2, 1) := by decide +kernel
theorem dJ_bitCount_17 : decode prog_22_method_49_code 17 = .ok (.iushr, 1) := by decide +kernel
theorem dJ_bitCount_18 : decode prog_22_method_49_code 18 = .ok (.ldc_w 266, 3) := by decide +kernel
theorem dJ_bitCount_21 : decode prog_22_method_49_code 21 = .ok (.iand, 1) := by decide +kernel
theorem dJ_bitCount_22 : decode prog_22_method_49_code 22 = .ok (.iadd, 1) := by decide +kernel
theorem dJ_bitCount_23 : decode prog_22_method_49_code 23 = .ok (.istore_n 0, 1) := by decide +kernel
theorem dJ_bitCount_24 : decode prog_22_method_49_code 24 = .ok (.iload_n 0, 1) := by decide +kernel
theorem dJ_bitCount_25 : decode prog_22_method_49_code 25 = .ok (.iload_n 0, 1) := by decide +kernel
theorem dJ_bitCount_26 : decode prog_22_method_49_code 26 = .ok (.iconst 4, 1) := by decide +kernel
theorem dJ_bitCount_27 : decode prog_22_method_49_code 27 = .ok (.iushr, 1) := by decide +kernel
theorem dJ_bitCount_28 : decode prog_22_method_49_code 28 = .ok (.iadd, 1) := by decide +kernel
theorem dJ_bitCount_29 : decode prog_22_method_49_code 29 = .ok (.ldc_w 267, 3) := by decide +kernel
theorem dJ_bitCount_32 : decode prog_22_method_49_code 32 = .ok (.iand, 1) := by decide +kernel
theorem dJ_bitCount_33 : decode prog_22_method_49_code 33 = .ok (.istore_n 0, 1) := by decide +kernel
theorem dJ_bitCount_34 : decode prog_22_method_49_code 34 = .ok (.iload_n 0, 1) := by decide +kernel
theorem dJ_bitCount_35 : decode prog_22_method_49_code 35 = .ok (.iload_n 0, 1) := by decide +kernel
theorem dJ_bitCount_36 : decode prog_22_method_49_code 36 = .ok (.bipush 8, 2) := by decide +kernel
theorem dJ_bitCount_38 : decode prog_22_method_49_code 38 = .ok (.iushr, 1) := by decide +kernel
theorem dJ_bitCount_39 : decode prog_22_method_49_code 39 = .ok (.iadd, 1) := by decide +kernel
theorem dJ_bitCount_40 : decode prog_22_method_49_code 40 = .ok (.istore_n 0, 1) := by decide +kernel
theorem dJ_bitCount_41 : decode prog_22_method_49_code 41 = .ok (.iload_n 0, 1) := by decide +kernel
theorem dJ_bitCount_42 : decode prog_22_method_49_code 42 = .ok (.iload_n 0, 1) := by decide +kernel
theorem dJ_bitCount_43 : decode prog_22_method_49_code 43 = .ok (.bipush 16, 2) := by decide +kernel
theorem dJ_bitCount_45 : decode prog_22_method_49_code 45 = .ok (.iushr, 1) := by decide +kernel
theorem dJ_bitCount_46 : decode prog_22_method_49_code 46 = .ok (.iadd, 1) := by decide +kernel
theorem dJ_bitCount_47 : decode prog_22_method_49_code 47 = .ok (.istore_n 0, 1) := by decide +kernel
theorem dJ_bitCount_48 : decode prog_22_method_49_code 48 = .ok (.iload_n 0, 1) := by decide +kernel
theorem dJ_bitCount_49 : decode prog_22_method_49_code 49 = .ok (.bipush 63, 2) := by decide +kernel
theorem dJ_bitCount_51 : decode prog_22_method_49_code 51 = .ok (.iand, 1) := by decide +kernel
theorem dJ_bitCount_52 : decode prog_22_method_49_code 52 = .ok (.ireturn, 1) := by decide +kernel
abbrev yJ_numberOfTrailingZeros : MethodName := ⟨"java/lang/Integer", "numberOfTrailingZeros", "(I)I"⟩
theorem dJ_numberOfTrailingZeros_0 : decode prog_22_method_48_code 0 = .ok (.iload_n 0, 1) := by decide +kernel
theorem dJ_numberOfTrailingZeros_1 : decode prog_22_method_48_code 1 = .ok (.iconst (-1), 1) := by decide +kernel
theorem dJ_numberOfTrailingZeros_2 : decode prog_22_method_48_code 2 = .ok (.ixor, 1) := by decide +kernel
theorem dJ_numberOfTrailingZeros_3 : decode prog_22_method_48_code 3 = .ok (.iload_n 0, 1) := by decide +kernel
theorem dJ_numberOfTrailingZeros_4 : decode prog_22_method_48_code 4 = .ok (.iconst 1, 1) := by decide +kernel
theorem dJ_numberOfTrailingZeros_5 : decode prog_22_method_48_code 5 = .ok (.isub, 1) := by decide +kernel
theorem dJ_numberOfTrailingZeros_6 : decode prog_22_method_48_code 6 = .ok (.iand, 1) := by decide +kernel
theorem dJ_numberOfTrailingZeros_7 : decode prog_22_method_48_code 7 = .ok (.istore_n 0, 1) := by decide +kernel
theorem dJ_numberOfTrailingZeros_8 : decode prog_22_method_48_code 8 = .ok (.iload_n 0, 1) := by decide +kernel
theorem dJ_numberOfTrailingZeros_9 : decode prog_22_method_48_code 9 = .ok (.ifCond .gt 8, 3) := by decide +kernel
theorem dJ_numberOfTrailingZeros_12 : decode prog_22_method_48_code 12 = .ok (.iload_n 0, 1) := by decide +kernel
theorem dJ_numberOfTrailingZeros_13 : decode prog_22_method_48_code 13 = .ok (.bipush 32, 2) := by decide +kernel
theorem dJ_numberOfTrailingZeros_15 : decode prog_22_method_48_code 15 = .ok (.iand, 1) := by decide +kernel
theorem dJ_numberOfTrailingZeros_16 : decode prog_22_method_48_code 16 = .ok (.ireturn, 1) := by decide +kernel
theorem dJ_numberOfTrailingZeros_17 : decode prog_22_method_48_code 17 = .ok (.iconst 1, 1) := by decide +kernel
theorem dJ_numberOfTrailingZeros_18 : decode prog_22_method_48_code 18 = .ok (.istore_n 1, 1) := by decide +kernel
theorem dJ_numberOfTrailingZeros_19 : decode prog_22_method_48_code 19 = .ok (.iload_n 0, 1) := by decide +kernel
theorem dJ_numberOfTrailingZeros_20 : decode prog_22_method_48_code 20 = .ok (.ldc_w 264, 3) := by decide +kernel
theorem dJ_numberOfTrailingZeros_23 : decode prog_22_method_48_code 23 = .ok (.if_icmp .le 11, 3) := by decide +kernel
theorem dJ_numberOfTrailingZeros_26 : decode prog_22_method_48_code 26 = .ok (.iinc 1 16, 3) := by decide +kernel
theorem dJ_numberOfTrailingZeros_29 : decode prog_22_method_48_code 29 = .ok (.iload_n 0, 1) := by decide +kernel
theorem dJ_numberOfTrailingZeros_30 : decode prog_22_method_48_code 30 = .ok (.bipush 16, 2) := by decide +kernel
theorem dJ_numberOfTrailingZeros_32 : decode prog_22_method_48_code 32 = .ok (.iushr, 1) := by decide +kernel
theorem dJ_numberOfTrailingZeros_33 : decode prog_22_method_48_code 33 = .ok (.istore_n 0, 1) := by decide +kernel
theorem dJ_numberOfTrailingZeros_34 : decode prog_22_method_48_code 34 = .ok (.iload_n 0, 1) := by decide +kernel
theorem dJ_numberOfTrailingZeros_35 : decode prog_22_method_48_code 35 = .ok (.sipush 256, 3) := by decide +kernel
theorem dJ_numberOfTrailingZeros_38 : decode prog_22_method_48_code 38 = .ok (.if_icmp .le 11, 3) := by decide +kernel
theorem dJ_numberOfTrailingZeros_41 : decode prog_22_method_48_code 41 = .ok (.iinc 1 8, 3) := by decide +kernel
theorem dJ_numberOfTrailingZeros_44 : decode prog_22_method_48_code 44 = .ok (.iload_n 0, 1) := by decide +kernel
theorem dJ_numberOfTrailingZeros_45 : decode prog_22_method_48_code 45 = .ok (.bipush 8, 2) := by decide +kernel
theorem dJ_numberOfTrailingZeros_47 : decode prog_22_method_48_code 47 = .ok (.iushr, 1) := by decide +kernel
theorem dJ_numberOfTrailingZeros_48 : decode prog_22_method_48_code 48 = .ok (.istore_n 0, 1) := by decide +kernel
theorem dJ_numberOfTrailingZeros_49 : decode prog_22_method_48_code 49 = .ok (.iload_n 0, 1) := by decide +kernel
theorem dJ_numberOfTrailingZeros_50 : decode prog_22_method_48_code 50 = .ok (.bipush 16, 2) := by decide +kernel
theorem dJ_numberOfTrailingZeros_52 : decode prog_22_method_48_code 52 = .ok (.if_icmp .le 10, 3) := by decide +kernel
theorem dJ_numberOfTrailingZeros_55 : decode prog_22_method_48_code 55 = .ok (.iinc 1 4, 3) := by decide +kernel
theorem dJ_numberOfTrailingZeros_58 : decode prog_22_method_48_code 58 = .ok (.iload_n 0, 1) := by decide +kernel
theorem dJ_numberOfTrailingZeros_59 : decode prog_22_method_48_code 59 = .ok (.iconst 4, 1) := by decide +kernel
theorem dJ_numberOfTrailingZeros_60 : decode prog_22_method_48_code 60 = .ok (.iushr, 1) := by decide +kernel
theorem dJ_numberOfTrailingZeros_61 : decode prog_22_method_48_code 61 = .ok (.istore_n 0, 1) := by decide +kernel
theorem dJ_numberOfTrailingZeros_62 : decode prog_22_method_48_code 62 = .ok (.iload_n 0, 1) := by decide +kernel
theorem dJ_numberOfTrailingZeros_63 : decode prog_22_method_48_code 63 = .ok (.iconst 4, 1) := by decide +kernel
theorem dJ_numberOfTrailingZeros_64 : decode prog_22_method_48_code 64 = .ok (.if_icmp .le 10, 3) := by decide +kernel
theorem dJ_numberOfTrailingZeros_67 : decode prog_22_method_48_code 67 = .ok (.iinc 1 2, 3) := by decide +kernel
theorem dJ_numberOfTrailingZeros_70 : decode prog_22_method_48_code 70 = .ok (.iload_n 0, 1) := by decide +kernel
theorem dJ_numberOfTrailingZeros_71 : decode prog_22_method_48_code 71 = .ok (.iconst 2, 1) := by decide +kernel
theorem dJ_numberOfTrailingZeros_72 : decode prog_22_method_48_code 72 = .ok (.iushr, 1) := by decide +kernel
theorem dJ_numberOfTrailingZeros_73 : decode prog_22_method_48_code 73 = .ok (.istore_n 0, 1) := by decide +kernel
theorem dJ_numberOfTrailingZeros_74 : decode prog_22_method_48_code 74 = .ok (.iload_n 1, 1) := by decide +kernel
theorem dJ_numberOfTrailingZeros_75 : decode prog_22_method_48_code 75 = .ok (.iload_n 0, 1) := by decide +kernel
theorem dJ_numberOfTrailingZeros_76 : decode prog_22_method_48_code 76 = .ok (.iconst 1, 1) := by decide +kernel
theorem dJ_numberOfTrailingZeros_77 : decode prog_22_method_48_code 77 = .ok (.iushr, 1) := by decide +kernel
theorem dJ_numberOfTrailingZeros_78 : decode prog_22_method_48_code 78 = .ok (.iadd, 1) := by decide +kernel
theorem dJ_numberOfTrailingZeros_79 : decode prog_22_method_48_code 79 = .ok (.ireturn, 1) := by decide +kernel
abbrev yJ_numberOfLeadingZeros : MethodName := ⟨"java/lang/Integer", "numberOfLeadingZeros", "(I)I"⟩
theorem dJ_numberOfLeadingZeros_0 : decode prog_22_method_47_code 0 = .ok (.iload_n 0, 1) := by decide +kernel
theorem dJ_numberOfLeadingZeros_1 : decode prog_22_method_47_code 1 = .ok (.ifCond .gt 14, 3) := by decide +kernel
theorem dJ_numberOfLeadingZeros_4 : decode prog_22_method_47_code 4 = .ok (.iload_n 0, 1) := by decide +kernel
theorem dJ_numberOfLeadingZeros_5 : decode prog_22_method_47_code 5 = .ok (.ifCond .ne 8, 3) := by decide +kernel
theorem dJ_numberOfLeadingZeros_8 : decode prog_22_method_47_code 8 = .ok (.bipush 32, 2) := by decide +kernel
theorem dJ_numberOfLeadingZeros_10 : decode prog_22_method_47_code 10 = .ok (.goto 4, 3) := by decide +kernel
theorem dJ_numberOfLeadingZeros_13 : decode prog_22_method_47_code 13 = .ok (.iconst 0, 1) := by decide +kernel
theorem dJ_numberOfLeadingZeros_14 : decode prog_22_method_47_code 14 = .ok (.ireturn, 1) := by decide +kernel
theorem dJ_numberOfLeadingZeros_15 : decode prog_22_method_47_code 15 = .ok (.bipush 31, 2) := by decide +kernel
theorem dJ_numberOfLeadingZeros_17 : decode prog_22_method_47_code 17 = .ok (.istore_n 1, 1) := by decide +kernel
theorem dJ_numberOfLeadingZeros_18 : decode prog_22_method_47_code 18 = .ok (.iload_n 0, 1) := by decide +kernel
theorem dJ_numberOfLeadingZeros_19 : decode prog_22_method_47_code 19 = .ok (.ldc_w 264, 3) := by decide +kernel
theorem dJ_numberOfLeadingZeros_22 : decode prog_22_method_47_code 22 = .ok (.if_icmp .lt 11, 3) := by decide +kernel
theorem dJ_numberOfLeadingZeros_25 : decode prog_22_method_47_code 25 = .ok (.iinc 1 (-16), 3) := by decide +kernel
theorem dJ_numberOfLeadingZeros_28 : decode prog_22_method_47_code 28 = .ok (.iload_n 0, 1) := by decide +kernel
theorem dJ_numberOfLeadingZeros_29 : decode prog_22_method_47_code 29 = .ok (.bipush 16, 2) := by decide +kernel
theorem dJ_numberOfLeadingZeros_31 : decode prog_22_method_47_code 31 = .ok (.iushr, 1) := by decide +kernel
theorem dJ_numberOfLeadingZeros_32 : decode prog_22_method_47_code 32 = .ok (.istore_n 0, 1) := by decide +kernel
theorem dJ_numberOfLeadingZeros_33 : decode prog_22_method_47_code 33 = .ok (.iload_n 0, 1) := by decide +kernel
theorem dJ_numberOfLeadingZeros_34 : decode prog_22_method_47_code 34 = .ok (.sipush 256, 3) := by decide +kernel
theorem dJ_numberOfLeadingZeros_37 : decode prog_22_method_47_code 37 = .ok (.if_icmp .lt 11, 3) := by decide +kernel
theorem dJ_numberOfLeadingZeros_40 : decode prog_22_method_47_code 40 = .ok (.iinc 1 (-8), 3) := by decide +kernel
theorem dJ_numberOfLeadingZeros_43 : decode prog_22_method_47_code 43 = .ok (.iload_n 0, 1) := by decide +kernel
theorem dJ_numberOfLeadingZeros_44 : decode prog_22_method_47_code 44 = .ok (.bipush 8, 2) := by decide +kernel
theorem dJ_numberOfLeadingZeros_46 : decode prog_22_method_47_code 46 = .ok (.iushr, 1) := by decide +kernel
theorem dJ_numberOfLeadingZeros_47 : decode prog_22_method_47_code 47 = .ok (.istore_n 0, 1) := by decide +kernel
theorem dJ_numberOfLeadingZeros_48 : decode prog_22_method_47_code 48 = .ok (.iload_n 0, 1) := by decide +kernel
theorem dJ_numberOfLeadingZeros_49 : decode prog_22_method_47_code 49 = .ok (.bipush 16, 2) := by decide +kernel
theorem dJ_numberOfLeadingZeros_51 : decode prog_22_method_47_code 51 = .ok (.if_icmp .lt 10, 3) := by decide +kernel
theorem dJ_numberOfLeadingZeros_54 : decode prog_22_method_47_code 54 = .ok (.iinc 1 (-4), 3) := by decide +kernel
theorem dJ_numberOfLeadingZeros_57 : decode prog_22_method_47_code 57 = .ok (.iload_n 0, 1) := by decide +kernel
theorem dJ_numberOfLeadingZeros_58 : decode prog_22_method_47_code 58 = .ok (.iconst 4, 1) := by decide +kernel
theorem dJ_numberOfLeadingZeros_59 : decode prog_22_method_47_code 59 = .ok (.iushr, 1) := by decide +kernel
theorem dJ_numberOfLeadingZeros_60 : decode prog_22_method_47_code 60 = .ok (.istore_n 0, 1) := by decide +kernel
theorem dJ_numberOfLeadingZeros_61 : decode prog_22_method_47_code 61 = .ok (.iload_n 0, 1) := by decide +kernel
theorem dJ_numberOfLeadingZeros_62 : decode prog_22_method_47_code 62 = .ok (.iconst 4, 1) := by decide +kernel
theorem dJ_numberOfLeadingZeros_63 : decode prog_22_method_47_code 63 = .ok (.if_icmp .lt 10, 3) := by decide +kernel
theorem dJ_numberOfLeadingZeros_66 : decode prog_22_method_47_code 66 = .ok (.iinc 1 (-2), 3) := by decide +kernel
theorem dJ_numberOfLeadingZeros_69 : decode prog_22_method_47_code 69 = .ok (.iload_n 0, 1) := by decide +kernel
theorem dJ_numberOfLeadingZeros_70 : decode prog_22_method_47_code 70 = .ok (.iconst 2, 1) := by decide +kernel
theorem dJ_numberOfLeadingZeros_71 : decode prog_22_method_47_code 71 = .ok (.iushr, 1) := by decide +kernel
theorem dJ_numberOfLeadingZeros_72 : decode prog_22_method_47_code 72 = .ok (.istore_n 0, 1) := by decide +kernel
theorem dJ_numberOfLeadingZeros_73 : decode prog_22_method_47_code 73 = .ok (.iload_n 1, 1) := by decide +kernel
theorem dJ_numberOfLeadingZeros_74 : decode prog_22_method_47_code 74 = .ok (.iload_n 0, 1) := by decide +kernel
theorem dJ_numberOfLeadingZeros_75 : decode prog_22_method_47_code 75 = .ok (.iconst 1, 1) := by decide +kernel
theorem dJ_numberOfLeadingZeros_76 : decode prog_22_method_47_code 76 = .ok (.iushr, 1) := by decide +kernel
theorem dJ_numberOfLeadingZeros_77 : decode prog_22_method_47_code 77 = .ok (.isub, 1) := by decide +kernel
theorem dJ_numberOfLeadingZeros_78 : decode prog_22_method_47_code 78 = .ok (.ireturn, 1) := by decide +kernel

/-! The law's helpers: methods with a table of handlers. -/
def MCW (G : Gx) (y : MethodName) (cc : ByteArray) (maxL : Nat) (ret : Option FieldType) (hh : List (Nat × Nat × Nat × Nat)) (fr lo : Nat) (h : Hp) (avs : List Value) (res : Option Value) (h2 : Hp) : Prop :=
  Met G.1 y (.codeWith y cc maxL ret hh :: GT) { frames := fr, cells := 1, slots := 6, locals := lo } (gPc G h avs) (gQ G res h2) 1 6 (gA G)
def FinW (X : Cx) (res : Option Value) (h2 : Hp) : Prop := match X with
  | (_, _, _, s, _, args, below, _, _, Q, G) => ∀ t : State, MQ below (gQ G res h2) args s 1 6 (gA G) t → Q t
def TBL (X : Cx) (hh : List (Nat × Nat × Nat × Nat)) : Prop := match X with
  | (_, _, _, _, _, _, _, _, c, _, _) => c.exceptionTable.toList = tableOf hh
theorem MCW.of {G : Gx} {y : MethodName} {cc : ByteArray} {maxL : Nat} {ret : Option FieldType} {hh : List (Nat × Nat × Nat × Nat)} {fr lo : Nat} {h h2 : Hp} {avs : List Value} {res : Option Value} (own : String) (hy : plainName y.cls = true) (hown : y.cls = own) (hle : (lg_sl avs).length ≤ maxL) {lv0 : List (Nat × Value)} (hlv : lv_args 0 avs = lv0)
    (body : ∀ X : Cx, OK X cc maxL own ret → TBL X hh → xG X = G → xR X = { frames := fr, cells := 1, slots := 6, locals := lo } → FinW X res h2 → VW X maxL h 0 0 0 lv0 []) : MCW G y cc maxL ret hh fr lo h avs res h2 := by
  refine va_MetW (cc := cc) (maxL := maxL) (ret := ret) (hh := hh) hy rfl ?_
  intro p e s m args below meth c s₁ B hml hv
  obtain ⟨rfl, hP, hT⟩ := hv
  have hts := atoms_spec (ws := .codeWith y cc maxL ret hh :: GT) B.pre
  have hfc : s.vm.findClass own = some m.cls := by rw [← hown]; exact findClass_of_methodNamed B.named
  have hl := lv_entry avs (n := maxL) hle
  rw [hlv] at hl
  rw [lg_entry_eq]
  exact body (p, e, _, s, m, avs.toArray, below, meth, c, MQ below (gQ G res h2) avs.toArray s 1 6 (gA G), G) ⟨B.exec, B.bytes, hml, hfc, fun w hw => hts w (List.mem_cons_of_mem _ hw), hT, B.returns, B.notSynchronized⟩ (vx_table (x := y) B (hts _ List.mem_cons_self)) rfl rfl (fun t ht => ht) s.heap [] _ hP va_S.rf hl
section LAWR
variable {X : Cx} {cc : ByteArray} {nL : Nat} {own : String} {ret : Option FieldType} {h : Hp} {cells slots pc : Nat} {lv : List (Nat × Value)} {st : List Value}
theorem r_iretW (C : OK X cc nL own (some .int)) {v : Int32} (hc : cells ≤ 1) (hs : slots ≤ 6) (hf : FinW X (some (.int v)) h) (hd : decode cc pc = .ok (.ireturn, 1)) : VW X nL h cells slots pc lv [.int v] := by
  obtain ⟨p, e9, R, s, m, args, below, meth, c, Q, l, D, cA, ad, L0, sK, sV⟩ := X
  obtain ⟨hx, hb, hml, hown, hts, hT, hr, hlk⟩ := C
  intro H locs ls hP hS hl
  refine W.widen hc hs ?_
  exact W.mono (W.iret (Qc := gQ (l, D, cA, ad, L0, sK, sV) (some (.int v)) h) (free := fun q => L0 ≤ q) hx hb hr (fun t ht hW => ⟨rfl, by rw [ht]; exact hP, hS.F ht⟩) hS.2.2 hd hlk) hf
theorem lg_upd (f : Nat → Int32) (j : Nat) (v : Int32) : vp_updL (fun i => (f i).toInt64) j v.toInt64 = fun i => (upd f j v i).toInt64 := by
  funext i
  unfold vp_updL upd
  by_cases e : i = j
  · rw [if_pos e, if_pos e]
  · rw [if_neg e, if_neg e]
theorem r_last (C : OK X cc nL own ret) {v : Int32} {h2 : Hp} (eh : h2 = up2 h 221 0 v) (hd : decode cc pc = .ok (.lastore, 1)) (kk : VW X nL h2 cells slots (pc + 1) lv st) : VW X nL h cells slots pc lv (.long v.toInt64 :: .int 0 :: .ref (gad (xG X) 221) :: st) := by
  obtain ⟨p, e9, R, s, m, args, below, meth, c, Q, l, D, cA, ad, L0, sK, sV⟩ := X
  obtain ⟨hx, hb, hml, hown, hts, hT, hr, hlk⟩ := C
  intro H locs ls hP hS hl
  have hdc : dsc 221 = .inr (2, 1, []) := rfl
  have e1 : (wd cA ad h)[221]? = some (ad 221, .inl (cA 2, 1, .inr (.inl (fun j => (h 221 j).toInt64)))) := by rw [wd_get (by decide), cellE_arr hdc]; rfl
  have e3 : (wd cA ad h).set 221 (ad 221, .inl (cA 2, 1, .inr (.inl (vp_updL (fun j => (h 221 j).toInt64) 0 v.toInt64)))) = wd cA ad h2 := by
    have e4 : (.inl (cA 2, 1, .inr (.inl (vp_updL (fun j => (h 221 j).toInt64) 0 v.toInt64))) : va_E) = cellE cA ad (upd (h 221) 0 v) (dsc 221) := by rw [cellE_arr hdc, lg_upd]; rfl
    rw [e4, wd_set (by decide), eh]; rfl
  refine va_last hx hb hT.1 hP (wd_D hT.2.2.1) hS 221 2 e1 rfl (show inb 0 1 by decide) hd (fun H1 locs1 hP1 hD1 hS1 => ?_)
  have e5 : (wd cA ad h).set 221 (ad 221, .inl (cA 2, 1, .inr (.inl (vp_updL (fun j => (h 221 j).toInt64) (0 : Int32).toNatClampNeg v.toInt64)))) = wd cA ad h2 := e3
  rw [e5] at hP1
  exact kk H1 locs1 ls hP1 hS1 hl
theorem r_lald (C : OK X cc nL own ret) (hd : decode cc pc = .ok (.laload, 1)) (kk : VW X nL h cells slots (pc + 1) lv (.long (h 221 0).toInt64 :: st)) : VW X nL h cells slots pc lv (.int 0 :: .ref (gad (xG X) 221) :: st) := by
  obtain ⟨p, e9, R, s, m, args, below, meth, c, Q, l, D, cA, ad, L0, sK, sV⟩ := X
  obtain ⟨hx, hb, hml, hown, hts, hT, hr, hlk⟩ := C
  intro H locs ls hP hS hl
  have hdc : dsc 221 = .inr (2, 1, []) := rfl
  have e1 : (wd cA ad h)[221]? = some (ad 221, .inl (cA 2, 1, .inr (.inl (fun j => (h 221 j).toInt64)))) := by rw [wd_get (by decide), cellE_arr hdc]; rfl
  exact va_lald hx hb hT.1 hP 221 2 e1 rfl (show inb 0 1 by decide) hd (kk H locs ls hP hS hl)
theorem r_callC0 (C : OK X cc nL own ret) {y : MethodName} {cc2 : ByteArray} {maxL2 : Nat} {ret2 : Option FieldType} {fr lo index n k : Nat} {As : List Value} {st0 : List Value} {h2 : Hp} {rv : Int32} {N : Nat} {T : u_T} {fs : List (Option Nat)} {ci : Nat} (hdc : dsc 0 = .inl (ci, fs)) (hc : vwCl[ci]? = some (y.cls, T, N)) (hM : MX (xG X) y cc2 maxL2 ret2 fr lo h (.ref (gad (xG X) 0) :: As) (some (.int rv)) k h2) (hw : CWV own index y cc2 maxL2 ret2 n) (hn : As.length = n) (hst : st0 = As.reverse ++ .ref (gad (xG X) 0) :: st) (hcat : (st.map fun v => v.category).sum ≤ 8) (hR : fr + 1 ≤ (xR X).frames ∧ 8 + (maxL2 + 11) + lo ≤ (xR X).locals) (hcs : 1 ≤ (xR X).cells ∧ 6 ≤ (xR X).slots) (hd : decode cc pc = .ok (.invokevirtual index, 3)) (hk : k = 0) (kk : VW X nL h2 0 0 (pc + 3) lv (.int rv :: st)) : VW X nL h 0 0 pc lv st0 := by
  obtain ⟨p, e9, R, s, m, args, below, meth, c, Q, l, D, cA, ad, L0, sK, sV⟩ := X
  obtain ⟨hx, hb, hml, hown, hts, hT, hr, hlk⟩ := C
  intro H locs ls hP hS hl
  subst hst
  have e1 : (wd cA ad h)[0]? = some (ad 0, .inr (ci, valsF ad (h 0) fs 0)) := by rw [wd_get (by decide), cellE_obj hdc]
  have hc1 : xc k ≤ 1 := by unfold xc; split <;> omega
  have hc2 : xs k ≤ 6 := by unfold xs; split <;> omega
  have hrun := vx_runV (H := H) (locs := locs) (cells := 0) (slots := 0) (below := below) (e := e9) (meth := meth) (g := F0 m pc ls (As.reverse ++ .ref (ad 0) :: st)) (As := As) (rest := st) ⟨hx, hb, hml, hown, hts⟩ hM ⟨callB_of n hts (gt_wsy hw.1) rfl rfl rfl (hts _ hw.2.1) (hts _ hw.2.2.2.1) hw.2.2.1 hR, hts _ hw.2.2.2.2.1, hts _ hw.2.2.2.2.2⟩ ⟨gPc.blind, va_recv hT.1 hP hc e1, fun U hU hW => ⟨rfl, by rw [hU]; exact hP, hT.call hW hU hS⟩⟩ rfl hn hl.1 rfl (lv_room hcat) hd ⟨by rw [Nat.zero_add]; exact Nat.le_trans hc1 hcs.1, by rw [Nat.zero_add]; exact Nat.le_trans hc2 hcs.2⟩
  subst hk
  intro T9 hT9 X9
  rcases hrun T9 hT9 X9 with ⟨v, st₀, t, T', L, h0, X', hL, e2, e3, ⟨-, hv, hp, hz, hk⟩, hst⟩ | ⟨q, st₀, t, T', L, E, ce, h0, X', hL, e2, e3, ⟨⟨hk0, hE1⟩, hp, hz, hk⟩, hce, hcv, hcl, hst⟩
  · cases hv
    rw [h0] at hz hk
    obtain ⟨t2, a1, b1⟩ := kk T'.heap (locs ++ L) ls (by rw [e2]; exact hp)
      ⟨Nat.le_trans hS.1 (by rw [e2]; exact hz), fun q h1 h2 => by rw [e2, hk q (Nat.lt_of_lt_of_le h1 hS.1) h2]; exact hS.2.1 q h1 h2, fun q hq => by
        rcases List.mem_append.mp hq with h | h
        · exact hS.2.2 q h
        · exact hL q h⟩ hl T' rfl X'
    exact ⟨t2, hst t2 a1, b1⟩
  · exact absurd rfl hk0
theorem r_callCx (C : OK X cc nL own ret) {hh : List (Nat × Nat × Nat × Nat)} (hTb : TBL X hh) {y : MethodName} {cc2 : ByteArray} {maxL2 : Nat} {ret2 : Option FieldType} {fr lo index n k : Nat} {As : List Value} {st0 : List Value} {h2 : Hp} {rv : Int32} {N : Nat} {T : u_T} {fs : List (Option Nat)} {ci : Nat} (hdc : dsc 0 = .inl (ci, fs)) (hc : vwCl[ci]? = some (y.cls, T, N)) (hM : MX (xG X) y cc2 maxL2 ret2 fr lo h (.ref (gad (xG X) 0) :: As) (some (.int rv)) k h2) (hw : CWV own index y cc2 maxL2 ret2 n) (hn : As.length = n) (hst : st0 = As.reverse ++ .ref (gad (xG X) 0) :: st) (hcat : (st.map fun v => v.category).sum ≤ 8) (hR : fr + 1 ≤ (xR X).frames ∧ 8 + (maxL2 + 11) + lo ≤ (xR X).locals) (hcs : 1 ≤ (xR X).cells ∧ 6 ≤ (xR X).slots) (hd : decode cc pc = .ok (.invokevirtual index, 3)) (hk : k ≠ 0) (pre suf : List ExceptionTableEntry) (x0 : ExceptionTableEntry) (hsp : tableOf hh = pre ++ x0 :: suf)
    (hpass : ∀ z ∈ pre, ∃ k', z.catchType ≠ 0 ∧ Cond.classLink own z.catchType (exn k') ∈ GT ∧ exn k' ∈ EXL ∧ exn k ≠ exn k') (hcov : covers x0 pc = true) (hc0 : x0.catchType ≠ 0) (hlk0 : Cond.classLink own x0.catchType (exn k) ∈ GT) (hcast : Cond.castable (exn k) (exn k) ∈ NW) (hex : exn k ∈ EXL)
    (kx : ∀ q : Nat, VW X nL h2 1 6 x0.handlerPc lv [.ref q]) : VW X nL h 0 0 pc lv st0 := by
  obtain ⟨p, e9, R, s, m, args, below, meth, c, Q, l, D, cA, ad, L0, sK, sV⟩ := X
  obtain ⟨hx, hb, hml, hown, hts, hT, hr, hlk⟩ := C
  intro H locs ls hP hS hl
  subst hst
  have e1 : (wd cA ad h)[0]? = some (ad 0, .inr (ci, valsF ad (h 0) fs 0)) := by rw [wd_get (by decide), cellE_obj hdc]
  have hc1 : xc k ≤ 1 := by unfold xc; split <;> omega
  have hc2 : xs k ≤ 6 := by unfold xs; split <;> omega
  have hrun := vx_runV (H := H) (locs := locs) (cells := 0) (slots := 0) (below := below) (e := e9) (meth := meth) (g := F0 m pc ls (As.reverse ++ .ref (ad 0) :: st)) (As := As) (rest := st) ⟨hx, hb, hml, hown, hts⟩ hM ⟨callB_of n hts (gt_wsy hw.1) rfl rfl rfl (hts _ hw.2.1) (hts _ hw.2.2.2.1) hw.2.2.1 hR, hts _ hw.2.2.2.2.1, hts _ hw.2.2.2.2.2⟩ ⟨gPc.blind, va_recv hT.1 hP hc e1, fun U hU hW => ⟨rfl, by rw [hU]; exact hP, hT.call hW hU hS⟩⟩ rfl hn hl.1 rfl (lv_room hcat) hd ⟨by rw [Nat.zero_add]; exact Nat.le_trans hc1 hcs.1, by rw [Nat.zero_add]; exact Nat.le_trans hc2 hcs.2⟩
  have e5 : xc k = 1 := if_neg hk
  have e6 : xs k = 6 := if_neg hk
  rw [e5, e6] at hrun
  intro T9 hT9 X9
  rcases hrun T9 hT9 X9 with ⟨v, st₀, t, T', L, h0, X', hL, e2, e3, ⟨hk0, hv, hp, hz, hk9⟩, hst⟩ | ⟨q, st₀, t, T', L, E, ce, h0, X', hL, e2, e3, ⟨⟨hk0, hE1⟩, hp, hz, hk9⟩, hce, hcv, hcl, hst⟩
  · exact absurd hk0 hk
  · subst hE1
    rw [h0] at hz hk9
    have eS : va_S (fun q => L0 ≤ q) s.heap T'.heap (locs ++ L) := ⟨Nat.le_trans hS.1 (by rw [e2]; exact hz), fun q h1 h2 => by rw [e2, hk9 q (Nat.lt_of_lt_of_le h1 hS.1) h2]; exact hS.2.1 q h1 h2, fun q hq => by
        rcases List.mem_append.mp hq with h | h
        · exact hS.2.2 q h
        · exact hL q h⟩
    have hTb : c.exceptionTable.toList = tableOf hh := hTb
    obtain ⟨t2, a1, b1⟩ := vx_catch (pc := pc) (ls := ls) (rest := st) (Q := Q) (H := T'.heap) (locs := locs ++ L) (E := exn k) (name := exn k) (own := own) hown pre x0 suf (by rw [hTb]; exact hsp) (fun z hz => Or.inr (by
        obtain ⟨k', g1, g2, g3, g4⟩ := hpass z hz
        exact ⟨g1, exn k', hts _ g2, hT.2.2.2.2.2.1.2 _ hex _ g3 g4⟩)) hcov hc0 (hts _ hlk0) (va_Nw.use (nw_onT hcast) (hT.2.1 _ hcast)) (by rw [e2]; exact hce) hcv hcl (kx q T'.heap (locs ++ L) ls (by rw [e2]; exact hp) eS hl) T' rfl X'
    exact ⟨t2, hst.trans a1, b1⟩
theorem zw2 {F L c1 s1 fr lo maxL2 : Nat} (hR : xR X = { frames := F, cells := c1, slots := s1, locals := L }) (h1 : Nat.ble (fr + 1) F = true) (h2 : Nat.ble (8 + (maxL2 + 11) + lo) L = true) : fr + 1 ≤ (xR X).frames ∧ 8 + (maxL2 + 11) + lo ≤ (xR X).locals := by rw [hR]; exact ⟨Nat.le_of_ble_eq_true h1, Nat.le_of_ble_eq_true h2⟩
theorem zwc {F L : Nat} (hR : xR X = { frames := F, cells := 1, slots := 6, locals := L }) : 1 ≤ (xR X).cells ∧ 6 ≤ (xR X).slots := by rw [hR]; exact ⟨Nat.le_refl _, Nat.le_refl _⟩
end LAWR
theorem xl_1 : Cond.classLink RL 24 (exn 1) ∈ GT := gt_in 1155 (by decide +kernel) rfl
theorem xk_1 : Cond.castable (exn 1) (exn 1) ∈ NW := nw_in 1166 (by decide +kernel) rfl
theorem xe_1 : exn 1 ∈ EXL := by decide
theorem xl_2 : Cond.classLink RL 26 (exn 2) ∈ GT := gt_in 1156 (by decide +kernel) rfl
theorem xk_2 : Cond.castable (exn 2) (exn 2) ∈ NW := nw_in 1186 (by decide +kernel) rfl
theorem xe_2 : exn 2 ∈ EXL := by decide
theorem xl_3 : Cond.classLink RL 13 (exn 3) ∈ GT := gt_in 833 (by decide +kernel) rfl
theorem xk_3 : Cond.castable (exn 3) (exn 3) ∈ NW := nw_in 1060 (by decide +kernel) rfl
theorem xe_3 : exn 3 ∈ EXL := by decide
theorem xl_4 : Cond.classLink RL 38 (exn 4) ∈ GT := gt_in 1221 (by decide +kernel) rfl
theorem xk_4 : Cond.castable (exn 4) (exn 4) ∈ NW := nw_in 1228 (by decide +kernel) rfl
theorem xe_4 : exn 4 ∈ EXL := by decide
theorem xl_5 : Cond.classLink RL 15 (exn 5) ∈ GT := gt_in 834 (by decide +kernel) rfl
theorem xk_5 : Cond.castable (exn 5) (exn 5) ∈ NW := nw_in 1125 (by decide +kernel) rfl
theorem xe_5 : exn 5 ∈ EXL := by decide

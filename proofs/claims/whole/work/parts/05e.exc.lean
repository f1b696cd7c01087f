/-! Methods that may throw: k = 0: it returned; else the exception's number. -/
def exn (k : Nat) : String := match k with
  | 1 => "java/lang/IndexOutOfBoundsException"
  | 2 => "java/util/NoSuchElementException"
  | 3 => "java/lang/IllegalArgumentException"
  | 4 => "java/lang/IllegalStateException"
  | _ => "java/lang/UnsupportedOperationException"
def xc (k : Nat) : Nat := if k = 0 then 0 else 1
def xs (k : Nat) : Nat := if k = 0 then 0 else 6
def gXC (G : Gx) (k : Nat) (h2 : Hp) : String → State → State → Prop := fun E st t => (k ≠ 0 ∧ E = exn k) ∧ gP G h2 t.heap ∧ va_F (gA G) st t
def gQ0 (G : Gx) (res : Option Value) (k : Nat) (h2 : Hp) : Array Value → State → Outcome → State → Prop := fun a st oc t => k = 0 ∧ gQ G res h2 a st oc t
def MX (G : Gx) (y : MethodName) (cc : ByteArray) (maxL : Nat) (ret : Option FieldType) (fr lo : Nat) (h : Hp) (avs : List Value) (res : Option Value) (k : Nat) (h2 : Hp) : Prop :=
  vx_Met G.1 y (wsy y cc maxL ret) { frames := fr, cells := xc k, slots := xs k, locals := lo } (gPc G h avs) (gQ0 G res k h2) (gXC G k h2) (xc k) (xs k) (gA G)
def FinX (X : Cx) (k : Nat) (h2 : Hp) : Prop := match X with
  | (_, _, _, s, _, args, below, _, c, Q, G) => (∀ x ∈ c.exceptionTable.toList, False) ∧ ∃ Qc, Q = vx_MQ below Qc (gXC G k h2) args s 1 6 (gA G)
def FinE (X : Cx) (res : Option Value) (k : Nat) (h2 : Hp) : Prop := (k = 0 → FinR X res h2) ∧ (k ≠ 0 → FinX X k h2)
theorem MX.of {G : Gx} {y : MethodName} {cc : ByteArray} {maxL : Nat} {ret : Option FieldType} {fr lo k : Nat} {h h2 : Hp} {avs : List Value} {res : Option Value} (own : String) (hy : plainName y.cls = true) (hown : y.cls = own) (hle : (lg_sl avs).length ≤ maxL) {lv0 : List (Nat × Value)} (hlv : lv_args 0 avs = lv0)
    (body : ∀ X : Cx, OK X cc maxL own ret → xG X = G → xR X = { frames := fr, cells := xc k, slots := xs k, locals := lo } → FinE X res k h2 → VW X maxL h 0 0 0 lv0 []) : MX G y cc maxL ret fr lo h avs res k h2 := by
  refine vx_ofW (cc := cc) (maxL := maxL) (ret := ret) hy rfl ?_
  intro p e s m args below meth c s₁ B hml htab hv
  obtain ⟨rfl, hP, hT⟩ := hv
  have hts := atoms_spec (ws := wsy y cc maxL ret) B.pre
  have hfc : s.vm.findClass own = some m.cls := by rw [← hown]; exact findClass_of_methodNamed B.named
  have hl := lv_entry avs (n := maxL) hle
  rw [hlv] at hl
  rw [lg_entry_eq]
  refine body (p, e, _, s, m, avs.toArray, below, meth, c, vx_MQ below (gQ0 G res k h2) (gXC G k h2) avs.toArray s (xc k) (xs k) (gA G), G) ⟨B.exec, B.bytes, hml, hfc, fun w hw => hts w (List.mem_cons_of_mem _ hw), hT, B.returns, B.notSynchronized⟩ rfl rfl ⟨fun hk => ?_, fun hk => ?_⟩ s.heap [] _ hP va_S.rf hl
  · subst hk
    intro t ht
    obtain ⟨o, b1, b2, b3, b4⟩ := ht
    exact ⟨o, b1, b2, Or.inl ⟨⟨rfl, b3⟩, b4⟩⟩
  · refine ⟨htab, gQ0 G res k h2, ?_⟩
    have e1 : xc k = 1 := if_neg hk
    have e2 : xs k = 6 := if_neg hk
    rw [e1, e2]
def names9 : List String := ["java/lang/RuntimeException", "java/lang/Exception"]
/-- what the tables say of a throw of the exception k by the links ik, ic -/
def TW (own : String) (k ik ic : Nat) : Prop := Cond.classLink own ik (exn k) ∈ GT ∧ Cond.initialized (exn k) ∈ GT ∧ (∀ w ∈ vx_at0 own ic (exn k) names9, w ∈ GT ∨ w ∈ NW) ∧ (∀ w ∈ Cond.classLink own ik (exn k) :: Cond.initialized (exn k) :: vx_at0 own ic (exn k) names9, vx_ot w = true) ∧ Bundle.fit (exn k) = true
theorem tw_all {ws : List Cond} (h1 : ∀ w ∈ ws, w ∈ lw_tbl) (h2 : ws.all (fun w => goodWord w || isNest w) = true) : ∀ w ∈ ws, w ∈ GT ∨ w ∈ NW := by
  intro w hw
  have h3 := List.all_eq_true.mp h2 w hw
  simp only [Bool.or_eq_true] at h3
  rcases h3 with h3 | h3
  · exact Or.inl (List.mem_filter.mpr ⟨h1 w hw, h3⟩)
  · exact Or.inr (List.mem_filter.mpr ⟨h1 w hw, h3⟩)
theorem nw_onT {w : Cond} (h : w ∈ NW) : w.onTables = true := by
  have h2 : isNest w = true := (List.mem_filter.mp h).2
  cases w <;> first | rfl | (simp [isNest] at h2)
section EXC
variable {X : Cx} {cc : ByteArray} {nL : Nat} {own : String} {ret : Option FieldType} {h : Hp} {cells slots pc : Nat} {lv : List (Nat × Value)} {st : List Value}
theorem r_throw (C : OK X cc nL own ret) {k ik ic : Nat} (hk0 : k ≠ 0) (hE : FinX X k h) (hR : 6 ≤ (xR X).frames ∧ 384 ≤ (xR X).locals ∧ 1 ≤ (xR X).cells ∧ 6 ≤ (xR X).slots) (hw : TW own k ik ic) (hcat : (st.map fun v => v.category).sum ≤ 8)
    (d0 : decode cc pc = .ok (.new ik, 3)) (d3 : decode cc (pc + 3) = .ok (.dup, 1)) (d4 : decode cc (pc + 4) = .ok (.invokespecial ic, 3)) (d7 : decode cc (pc + 7) = .ok (.athrow, 1)) : VW X nL h 0 0 pc lv st := by
  obtain ⟨p, e9, R, s, m, args, below, meth, c, Q, l, D, cA, ad, L0, sK, sV⟩ := X
  obtain ⟨hx, hb, hml, hown, hts, hT, hr, hlk⟩ := C
  intro H locs ls hP hS hl
  obtain ⟨htab, Qc, rfl⟩ := hE
  obtain ⟨hw1, hw2, hw3, hw4, hw5⟩ := hw
  refine vx_throw0 (A := fun q => L0 ≤ q) (names := names9) (cls := exn k) hx hb hT.2.2.2.2.1 hown hw5 (by decide) (hts _ hw1) (hts _ hw2) (fun w hw => ?_) hw4 hT.2.2.2.2.2.2.1.1 hT.2.2.2.2.2.2.1.2 hS (by rw [hml]; exact hl.1) d0 d3 d4 d7 (fun x hx => (htab x hx).elim) ?_ ?_ hR.2.2.1 hR.2.2.2 hlk ?_ hS.2.2 (Nat.le_refl _) (Nat.le_refl _)
  · rcases hw3 w hw with h9 | h9
    · exact hts _ h9
    · exact va_Nw.use (nw_onT h9) (hT.2.1 _ h9)
  · exact hR.1
  · have := hR.2.1
    show (st.map fun v => v.category).sum + (13 * (2 + 1) + 42) ≤ R.locals
    have h8 : (384 : Nat) ≤ R.locals := hR.2.1
    omega
  · intro t ha hz hk
    refine ⟨⟨hk0, rfl⟩, hP.kept (fun k q hq => hk q.1 (hP k q hq).lt), Nat.le_trans hS.1 hz, fun q h1 h2 => ?_⟩
    rw [hk q (Nat.lt_of_lt_of_le h1 hS.1)]
    exact hS.2.1 q h1 h2
/-- behind a call of a method that may throw -/
theorem r_afterX {p : Program} {l : Launch} {e : Env} {R : Room} {s : State} {m : MethodId} {args : Array Value} {below : List Frame} {meth : Method} {c : Code} {H : Heap} {locs : List Loc} {Q : State → Prop} {D : va_G} {cA : Nat → ClassId} {ad : Nat → Nat} {L0 : Nat} {sK sV : Nat → Nat} {res : Option Value} {h2 : Hp} {ls : Array Slot} {st0 rest : List Value} {a : Array Value} {pc k : Nat}
    (hr : vx_Run p l e R s m args below meth c H locs 0 0 (xc k) (xs k) (F0 m pc ls st0) rest (gQ0 (l, D, cA, ad, L0, sK, sV) res k h2 a) (gXC (l, D, cA, ad, L0, sK, sV) k h2) (fun q => L0 ≤ q)) (hS : va_S (fun q => L0 ≤ q) s.heap H locs) (hlk : meth.locks = false)
    (hE : k ≠ 0 → (∀ x ∈ c.exceptionTable.toList, False) ∧ ∃ Qc, Q = vx_MQ below Qc (gXC (l, D, cA, ad, L0, sK, sV) k h2) args s 1 6 (fun q => L0 ≤ q))
    (kk : k = 0 → ∀ (H1 : Heap) (locs1 : List Loc), gP (l, D, cA, ad, L0, sK, sV) h2 H1 → va_S (fun q => L0 ≤ q) s.heap H1 locs1 → W p l e R s m args below meth c H1 locs1 0 0 Q (F0 m (pc + 3) ls (res.toList ++ rest))) : W p l e R s m args below meth c H locs 0 0 Q (F0 m pc ls st0) := by
  intro T hT X
  rcases hr T hT X with ⟨v, st₀, t, T', L, h0, X', hL, e1, e2, ⟨rfl, hv, hp, hz, hk⟩, st⟩ | ⟨q, st₀, t, T', L, E, ce, h0, X', hL, e1, e2, ⟨⟨hk0, hE1⟩, hp, hz, hk⟩, hce, hcv, hcl, st⟩
  · cases hv
    rw [h0] at hz hk
    obtain ⟨t2, a1, b1⟩ := kk rfl T'.heap (locs ++ L) (by rw [e1]; exact hp)
      ⟨Nat.le_trans hS.1 (by rw [e1]; exact hz), fun q h1 h2 => by rw [e1, hk q (Nat.lt_of_lt_of_le h1 hS.1) h2]; exact hS.2.1 q h1 h2, fun q hq => by
        rcases List.mem_append.mp hq with h | h
        · exact hS.2.2 q h
        · exact hL q h⟩ T' rfl X'
    exact ⟨t2, st t2 a1, b1⟩
  · obtain ⟨htab, Qc, rfl⟩ := hE hk0
    rw [h0] at hz hk
    have eS : va_S (fun q => L0 ≤ q) s.heap T'.heap (locs ++ L) := ⟨Nat.le_trans hS.1 (by rw [e1]; exact hz), fun q h1 h2 => by rw [e1, hk q (Nat.lt_of_lt_of_le h1 hS.1) h2]; exact hS.2.1 q h1 h2, fun q hq => by
        rcases List.mem_append.mp hq with h | h
        · exact hS.2.2 q h
        · exact hL q h⟩
    have e3 : xc k = 1 := if_neg hk0
    have e4 : xs k = 6 := if_neg hk0
    obtain ⟨t2, a1, b1⟩ := vx_out (Qc := Qc) (XC := gXC (l, D, cA, ad, L0, sK, sV) k h2) (free := fun q => L0 ≤ q) (mc := 1) (ms := 6) (fun x hx => (htab x hx).elim) hlk (by rw [e1]; exact hce) hcv hcl (fun t9 ht9 _ => ⟨⟨hk0, hE1⟩, by rw [ht9, e1]; exact hp, eS.F ht9⟩) eS.2.2 (by rw [e3]; exact Nat.le_refl _) (by rw [e4]; exact Nat.le_refl _) T' rfl X'
    exact ⟨t2, st.trans a1, b1⟩

theorem r_callXVi (C : OK X cc nL own ret) {y : MethodName} {cc2 : ByteArray} {maxL2 : Nat} {ret2 : Option FieldType} {fr lo index n k : Nat} {As : List Value} {st0 : List Value} {h2 : Hp} {rv : Int32} (k0 : Nat) {ci N : Nat} {fs : List (Option Nat)} {T : u_T} (hdc : dsc k0 = .inl (ci, fs)) (hk : k0 < NC) (hc : vwCl[ci]? = some (y.cls, T, N)) (hM : MX (xG X) y cc2 maxL2 ret2 fr lo h (.ref (gad (xG X) k0) :: As) (some (.int rv)) k h2) (hw : CWV own index y cc2 maxL2 ret2 n) (hn : As.length = n) (hst : st0 = As.reverse ++ .ref (gad (xG X) k0) :: st) (hcat : (st.map fun v => v.category).sum ≤ 8) (hR : fr + 1 ≤ (xR X).frames ∧ 8 + (maxL2 + 11) + lo ≤ (xR X).locals) (hcs : xc k ≤ (xR X).cells ∧ xs k ≤ (xR X).slots) (hd : decode cc pc = .ok (.invokevirtual index, 3)) (hE : k ≠ 0 → FinX X k h2) (kk : k = 0 → VW X nL h2 0 0 (pc + 3) lv (.int rv :: st)) : VW X nL h 0 0 pc lv st0 := by
  obtain ⟨p, e9, R, s, m, args, below, meth, c, Q, l, D, cA, ad, L0, sK, sV⟩ := X
  obtain ⟨hx, hb, hml, hown, hts, hT, hr, hlk⟩ := C
  intro H locs ls hP hS hl
  subst hst
  have e1 : (wd cA ad h)[k0]? = some (ad k0, .inr (ci, valsF ad (h k0) fs 0)) := by rw [wd_get hk, cellE_obj hdc]
  refine r_afterX (vx_runV (As := As) (rest := st) ⟨hx, hb, hml, hown, hts⟩ hM ⟨callB_of n hts (gt_wsy hw.1) rfl rfl rfl (hts _ hw.2.1) (hts _ hw.2.2.2.1) hw.2.2.1 hR, hts _ hw.2.2.2.2.1, hts _ hw.2.2.2.2.2⟩ ⟨gPc.blind, va_recv hT.1 hP hc e1, fun U hU hW => ⟨rfl, by rw [hU]; exact hP, hT.call hW hU hS⟩⟩ rfl hn hl.1 rfl (lv_room hcat) hd ⟨by rw [Nat.zero_add]; exact hcs.1, by rw [Nat.zero_add]; exact hcs.2⟩) hS hlk hE (fun h0 H1 locs1 hP1 hS1 => ?_)
  exact kk h0 H1 locs1 ls hP1 hS1 hl
theorem r_callXVv (C : OK X cc nL own ret) {y : MethodName} {cc2 : ByteArray} {maxL2 : Nat} {ret2 : Option FieldType} {fr lo index n k : Nat} {As : List Value} {st0 : List Value} {h2 : Hp} (k0 : Nat) {ci N : Nat} {fs : List (Option Nat)} {T : u_T} (hdc : dsc k0 = .inl (ci, fs)) (hk : k0 < NC) (hc : vwCl[ci]? = some (y.cls, T, N)) (hM : MX (xG X) y cc2 maxL2 ret2 fr lo h (.ref (gad (xG X) k0) :: As) none k h2) (hw : CWV own index y cc2 maxL2 ret2 n) (hn : As.length = n) (hst : st0 = As.reverse ++ .ref (gad (xG X) k0) :: st) (hcat : (st.map fun v => v.category).sum ≤ 8) (hR : fr + 1 ≤ (xR X).frames ∧ 8 + (maxL2 + 11) + lo ≤ (xR X).locals) (hcs : xc k ≤ (xR X).cells ∧ xs k ≤ (xR X).slots) (hd : decode cc pc = .ok (.invokevirtual index, 3)) (hE : k ≠ 0 → FinX X k h2) (kk : k = 0 → VW X nL h2 0 0 (pc + 3) lv st) : VW X nL h 0 0 pc lv st0 := by
  obtain ⟨p, e9, R, s, m, args, below, meth, c, Q, l, D, cA, ad, L0, sK, sV⟩ := X
  obtain ⟨hx, hb, hml, hown, hts, hT, hr, hlk⟩ := C
  intro H locs ls hP hS hl
  subst hst
  have e1 : (wd cA ad h)[k0]? = some (ad k0, .inr (ci, valsF ad (h k0) fs 0)) := by rw [wd_get hk, cellE_obj hdc]
  refine r_afterX (vx_runV (As := As) (rest := st) ⟨hx, hb, hml, hown, hts⟩ hM ⟨callB_of n hts (gt_wsy hw.1) rfl rfl rfl (hts _ hw.2.1) (hts _ hw.2.2.2.1) hw.2.2.1 hR, hts _ hw.2.2.2.2.1, hts _ hw.2.2.2.2.2⟩ ⟨gPc.blind, va_recv hT.1 hP hc e1, fun U hU hW => ⟨rfl, by rw [hU]; exact hP, hT.call hW hU hS⟩⟩ rfl hn hl.1 rfl (lv_room hcat) hd ⟨by rw [Nat.zero_add]; exact hcs.1, by rw [Nat.zero_add]; exact hcs.2⟩) hS hlk hE (fun h0 H1 locs1 hP1 hS1 => ?_)
  exact kk h0 H1 locs1 ls hP1 hS1 hl
theorem r_callXSi (C : OK X cc nL own ret) {y : MethodName} {cc2 : ByteArray} {maxL2 : Nat} {ret2 : Option FieldType} {fr lo index n k : Nat} {As : List Value} {st0 : List Value} {h2 : Hp} {rv : Int32} (hM : MX (xG X) y cc2 maxL2 ret2 fr lo h As (some (.int rv)) k h2) (hw : CWS own index y cc2 maxL2 ret2 n) (hn : As.length = n) (hst : st0 = As.reverse ++ st) (hcat : (st.map fun v => v.category).sum ≤ 8) (hR : fr + 1 ≤ (xR X).frames ∧ 8 + (maxL2 + 11) + lo ≤ (xR X).locals) (hcs : xc k ≤ (xR X).cells ∧ xs k ≤ (xR X).slots) (hd : decode cc pc = .ok (.invokestatic index, 3)) (hE : k ≠ 0 → FinX X k h2) (kk : k = 0 → VW X nL h2 0 0 (pc + 3) lv (.int rv :: st)) : VW X nL h 0 0 pc lv st0 := by
  obtain ⟨p, e9, R, s, m, args, below, meth, c, Q, l, D, cA, ad, L0, sK, sV⟩ := X
  obtain ⟨hx, hb, hml, hown, hts, hT, hr, hlk⟩ := C
  intro H locs ls hP hS hl
  subst hst
  refine r_afterX (vx_runS (As := As) (rest := st) ⟨hx, hb, hml, hown, hts⟩ hM ⟨callB_of n hts (gt_wsy hw.1) rfl rfl rfl (hts _ hw.2.1) (hts _ hw.2.2.2.1) hw.2.2.1 hR, hts _ hw.2.2.2.2⟩ ⟨gPc.blind, fun U hU hW => ⟨rfl, by rw [hU]; exact hP, hT.call hW hU hS⟩⟩ rfl hn hl.1 rfl (lv_room hcat) hd ⟨by rw [Nat.zero_add]; exact hcs.1, by rw [Nat.zero_add]; exact hcs.2⟩) hS hlk hE (fun h0 H1 locs1 hP1 hS1 => ?_)
  exact kk h0 H1 locs1 ls hP1 hS1 hl
theorem r_callXSv (C : OK X cc nL own ret) {y : MethodName} {cc2 : ByteArray} {maxL2 : Nat} {ret2 : Option FieldType} {fr lo index n k : Nat} {As : List Value} {st0 : List Value} {h2 : Hp} (hM : MX (xG X) y cc2 maxL2 ret2 fr lo h As none k h2) (hw : CWS own index y cc2 maxL2 ret2 n) (hn : As.length = n) (hst : st0 = As.reverse ++ st) (hcat : (st.map fun v => v.category).sum ≤ 8) (hR : fr + 1 ≤ (xR X).frames ∧ 8 + (maxL2 + 11) + lo ≤ (xR X).locals) (hcs : xc k ≤ (xR X).cells ∧ xs k ≤ (xR X).slots) (hd : decode cc pc = .ok (.invokestatic index, 3)) (hE : k ≠ 0 → FinX X k h2) (kk : k = 0 → VW X nL h2 0 0 (pc + 3) lv st) : VW X nL h 0 0 pc lv st0 := by
  obtain ⟨p, e9, R, s, m, args, below, meth, c, Q, l, D, cA, ad, L0, sK, sV⟩ := X
  obtain ⟨hx, hb, hml, hown, hts, hT, hr, hlk⟩ := C
  intro H locs ls hP hS hl
  subst hst
  refine r_afterX (vx_runS (As := As) (rest := st) ⟨hx, hb, hml, hown, hts⟩ hM ⟨callB_of n hts (gt_wsy hw.1) rfl rfl rfl (hts _ hw.2.1) (hts _ hw.2.2.2.1) hw.2.2.1 hR, hts _ hw.2.2.2.2⟩ ⟨gPc.blind, fun U hU hW => ⟨rfl, by rw [hU]; exact hP, hT.call hW hU hS⟩⟩ rfl hn hl.1 rfl (lv_room hcat) hd ⟨by rw [Nat.zero_add]; exact hcs.1, by rw [Nat.zero_add]; exact hcs.2⟩) hS hlk hE (fun h0 H1 locs1 hP1 hS1 => ?_)
  exact kk h0 H1 locs1 ls hP1 hS1 hl
end EXC
theorem zq0 {X : Cx} {F L c1 s1 : Nat} {n : Nat} (hR : xR X = { frames := F, cells := c1, slots := s1, locals := L }) (h : n ≤ L) : n ≤ (xR X).locals := by rw [hR]; exact h
theorem zq1 {X : Cx} {F L c1 s1 : Nat} (hR : xR X = { frames := F, cells := c1, slots := s1, locals := L }) (h : Nat.ble 1 F = true) : 1 ≤ (xR X).frames := by rw [hR]; exact Nat.le_of_ble_eq_true h
theorem zq2 {X : Cx} {F L c1 s1 fr lo maxL2 : Nat} (hR : xR X = { frames := F, cells := c1, slots := s1, locals := L }) (h1 : Nat.ble (fr + 1) F = true) (h2 : Nat.ble (8 + (maxL2 + 11) + lo) L = true) : fr + 1 ≤ (xR X).frames ∧ 8 + (maxL2 + 11) + lo ≤ (xR X).locals := by rw [hR]; exact ⟨Nat.le_of_ble_eq_true h1, Nat.le_of_ble_eq_true h2⟩
theorem zqac {X : Cx} {F L c1 s1 : Nat} {st : List Value} (hR : xR X = { frames := F, cells := c1, slots := s1, locals := L }) (h : Nat.ble ((st.map fun v => v.category).sum + (nativeFrameWords "java/lang/System" "arraycopy" 5 + 11)) L = true) : (st.map fun v => v.category).sum + (nativeFrameWords "java/lang/System" "arraycopy" 5 + 11) ≤ (xR X).locals := by rw [hR]; exact Nat.le_of_ble_eq_true h
theorem zqt {X : Cx} {F L k : Nat} (hk : k ≠ 0) (hR : xR X = { frames := F, cells := xc k, slots := xs k, locals := L }) (h1 : Nat.ble 6 F = true) (h2 : Nat.ble 384 L = true) : 6 ≤ (xR X).frames ∧ 384 ≤ (xR X).locals ∧ 1 ≤ (xR X).cells ∧ 6 ≤ (xR X).slots := by
  have e1 : xc k = 1 := if_neg hk
  have e2 : xs k = 6 := if_neg hk
  rw [hR, e1, e2]
  exact ⟨Nat.le_of_ble_eq_true h1, Nat.le_of_ble_eq_true h2, Nat.le_refl _, Nat.le_refl _⟩
theorem zqc {X : Cx} {F L k e : Nat} (hR : xR X = { frames := F, cells := xc k, slots := xs k, locals := L }) (h : e = 0 ∨ e = k) : xc e ≤ (xR X).cells ∧ xs e ≤ (xR X).slots := by
  rw [hR]
  rcases h with rfl | rfl
  · exact ⟨Nat.zero_le _, Nat.zero_le _⟩
  · exact ⟨Nat.le_refl _, Nat.le_refl _⟩
theorem tw_1 : TW RX11 1 376 378 := ⟨gt_in 1164 (by decide +kernel) rfl, gt_in 183 (by decide +kernel) rfl, tw_all (by decide +kernel) (by decide +kernel), by decide +kernel, by decide +kernel⟩
theorem tw_2 : TW RX11 2 182 184 := ⟨gt_in 1184 (by decide +kernel) rfl, gt_in 186 (by decide +kernel) rfl, tw_all (by decide +kernel) (by decide +kernel), by decide +kernel, by decide +kernel⟩
theorem tw_3 : TW RX11 3 109 111 := ⟨gt_in 1058 (by decide +kernel) rfl, gt_in 181 (by decide +kernel) rfl, tw_all (by decide +kernel) (by decide +kernel), by decide +kernel, by decide +kernel⟩
theorem tw_4 : TW RX11 4 206 208 := ⟨gt_in 1226 (by decide +kernel) rfl, gt_in 187 (by decide +kernel) rfl, tw_all (by decide +kernel) (by decide +kernel), by decide +kernel, by decide +kernel⟩
theorem tw_5 : TW RX11 5 115 117 := ⟨gt_in 1123 (by decide +kernel) rfl, gt_in 182 (by decide +kernel) rfl, tw_all (by decide +kernel) (by decide +kernel), by decide +kernel, by decide +kernel⟩

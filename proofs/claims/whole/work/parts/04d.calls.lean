/-! Contracts over the numbers, and calls. -/
def gQ (G : Gx) (res : Option Value) (h2 : Hp) : Array Value → State → Outcome → State → Prop := fun _ st oc t => oc = .returned res ∧ gP G h2 t.heap ∧ va_F (gA G) st t
def gPc (G : Gx) (h : Hp) (avs : List Value) : Array Value → State → Prop := va_Pc avs (fun U => gP G h U.heap ∧ TB G U)
def MC (G : Gx) (y : MethodName) (cc : ByteArray) (maxL : Nat) (ret : Option FieldType) (fr lo : Nat) (h : Hp) (avs : List Value) (res : Option Value) (h2 : Hp) : Prop :=
  Met G.1 y (wsy y cc maxL ret) { frames := fr, cells := 0, slots := 0, locals := lo } (gPc G h avs) (gQ G res h2) 0 0 (gA G)
theorem gPc.blind {G : Gx} {h : Hp} {avs : List Value} : FrameBlind (gPc G h avs) := fun a U g mk q => ⟨q.1, q.2.1, q.2.2.blind g mk a⟩
def FinR (X : Cx) (res : Option Value) (h2 : Hp) : Prop := match X with
  | (_, _, _, s, _, args, below, _, _, Q, G) => ∀ t : State, MQ below (gQ G res h2) args s 0 0 (gA G) t → Q t
theorem W.mono {p : Program} {l : Launch} {e : Env} {R : Room} {s : State} {m : MethodId} {args : Array Value} {below : List Frame} {meth : Method} {c : Code} {H : Heap} {locs : List Loc} {cells slots : Nat} {Q Q2 : State → Prop} {g : JFrame} (k : W p l e R s m args below meth c H locs cells slots Q g) (h : ∀ t, Q t → Q2 t) : W p l e R s m args below meth c H locs cells slots Q2 g := fun T hT X => by
  obtain ⟨t, a, b⟩ := k T hT X
  exact ⟨t, a, h t b⟩
theorem MC.of {G : Gx} {y : MethodName} {cc : ByteArray} {maxL : Nat} {ret : Option FieldType} {fr lo : Nat} {h h2 : Hp} {avs : List Value} {res : Option Value} (own : String) (hy : plainName y.cls = true) (hown : y.cls = own) (hle : (lg_sl avs).length ≤ maxL) {lv0 : List (Nat × Value)} (hlv : lv_args 0 avs = lv0)
    (body : ∀ X : Cx, OK X cc maxL own ret → xG X = G → xR X = { frames := fr, cells := 0, slots := 0, locals := lo } → FinR X res h2 → VW X maxL h 0 0 0 lv0 []) : MC G y cc maxL ret fr lo h avs res h2 := by
  refine Met.ofW (cc := cc) (maxL := maxL) (ret := ret) hy rfl ?_
  intro p e s m args below meth c s₁ B hml hv
  obtain ⟨rfl, hP, hT⟩ := hv
  have hts := atoms_spec (ws := wsy y cc maxL ret) B.pre
  have hfc : s.vm.findClass own = some m.cls := by rw [← hown]; exact findClass_of_methodNamed B.named
  have hl := lv_entry avs (n := maxL) hle
  rw [hlv] at hl
  rw [lg_entry_eq]
  exact body (p, e, _, s, m, avs.toArray, below, meth, c, MQ below (gQ G res h2) avs.toArray s 0 0 (gA G), G) ⟨B.exec, B.bytes, hml, hfc, fun w hw => hts w (List.mem_cons_of_mem _ hw), hT, B.returns, B.notSynchronized⟩ rfl rfl (fun t ht => ht) s.heap [] _ hP va_S.rf hl
section CALLS
variable {X : Cx} {cc : ByteArray} {nL : Nat} {own : String} {ret : Option FieldType} {h : Hp} {cells slots pc : Nat} {lv : List (Nat × Value)} {st : List Value}

theorem r_iret (C : OK X cc nL own (some .int)) {v : Int32} (hf : FinR X (some (.int v)) h) (hd : decode cc pc = .ok (.ireturn, 1)) : VW X nL h 0 0 pc lv [.int v] := by
  obtain ⟨p, e, R, s, m, args, below, meth, c, Q, l, D, cA, ad, L0, sK, sV⟩ := X
  obtain ⟨hx, hb, hml, hown, hts, hT, hr, hlk⟩ := C
  intro H locs ls hP hS hl
  exact W.mono (W.iret (Qc := gQ (l, D, cA, ad, L0, sK, sV) (some (.int v)) h) (free := fun q => L0 ≤ q) hx hb hr (fun t ht hW => ⟨rfl, by rw [ht]; exact hP, hS.F ht⟩) hS.2.2 hd hlk) hf
theorem r_zret (C : OK X cc nL own (some .boolean)) {v : Int32} (hz : v = 0 ∨ v = 1) (hf : FinR X (some (.int v)) h) (hd : decode cc pc = .ok (.ireturn, 1)) : VW X nL h 0 0 pc lv [.int v] := by
  obtain ⟨p, e, R, s, m, args, below, meth, c, Q, l, D, cA, ad, L0, sK, sV⟩ := X
  obtain ⟨hx, hb, hml, hown, hts, hT, hr, hlk⟩ := C
  intro H locs ls hP hS hl
  exact W.mono (W.zret (Qc := gQ (l, D, cA, ad, L0, sK, sV) (some (.int v)) h) (free := fun q => L0 ≤ q) hx hb hr (by rcases hz with rfl | rfl <;> rfl) (fun t ht hW => ⟨rfl, by rw [ht]; exact hP, hS.F ht⟩) hS.2.2 hd hlk) hf
theorem r_vret (C : OK X cc nL own none) (hf : FinR X none h) (hd : decode cc pc = .ok (.return_, 1)) : VW X nL h 0 0 pc lv [] := by
  obtain ⟨p, e, R, s, m, args, below, meth, c, Q, l, D, cA, ad, L0, sK, sV⟩ := X
  obtain ⟨hx, hb, hml, hown, hts, hT, hr, hlk⟩ := C
  intro H locs ls hP hS hl
  exact W.mono (W.vret (Qc := gQ (l, D, cA, ad, L0, sK, sV) none h) (free := fun q => L0 ≤ q) hx hb hr (fun t ht hW => ⟨rfl, by rw [ht]; exact hP, hS.F ht⟩) hS.2.2 hd hlk) hf
theorem r_lret (C : OK X cc nL own (some .long)) {v : Int64} (hf : FinR X (some (.long v)) h) (hd : decode cc pc = .ok (.lreturn, 1)) : VW X nL h 0 0 pc lv [.long v] := by
  obtain ⟨p, e, R, s, m, args, below, meth, c, Q, l, D, cA, ad, L0, sK, sV⟩ := X
  obtain ⟨hx, hb, hml, hown, hts, hT, hr, hlk⟩ := C
  intro H locs ls hP hS hl
  exact W.mono (W.lret (Qc := gQ (l, D, cA, ad, L0, sK, sV) (some (.long v)) h) (free := fun q => L0 ≤ q) hx hb hr (fun t ht hW => ⟨rfl, by rw [ht]; exact hP, hS.F ht⟩) hS.2.2 hd hlk) hf
/-- what the tables say of a call's target -/
def CWV (own : String) (index : Nat) (y : MethodName) (cc2 : ByteArray) (maxL2 : Nat) (ret2 : Option FieldType) (n : Nat) : Prop :=
  Cond.code y cc2 maxL2 ret2 ∈ GT ∧ Cond.initialized y.cls ∈ GT ∧ (y.cls ≠ "java/lang/invoke/MethodHandle" ∧ y.cls ≠ "java/lang/invoke/VarHandle" ∧ (parseMethodDescriptor y.desc).map (fun d => d.parameters.length) = some n) ∧ Cond.methodLink own index y ∈ GT ∧ Cond.instanceMethod y ∈ GT ∧ Cond.selects y.cls y y ∈ GT
def CWS (own : String) (index : Nat) (y : MethodName) (cc2 : ByteArray) (maxL2 : Nat) (ret2 : Option FieldType) (n : Nat) : Prop :=
  Cond.code y cc2 maxL2 ret2 ∈ GT ∧ Cond.initialized y.cls ∈ GT ∧ (y.cls ≠ "java/lang/invoke/MethodHandle" ∧ y.cls ≠ "java/lang/invoke/VarHandle" ∧ (parseMethodDescriptor y.desc).map (fun d => d.parameters.length) = some n) ∧ Cond.methodLink own index y ∈ GT ∧ Cond.static y ∈ GT
def CNV (own : String) (index : Nat) (y : MethodName) (cc2 : ByteArray) (maxL2 : Nat) (ret2 : Option FieldType) (n : Nat) (host : String) : Prop :=
  Cond.code y cc2 maxL2 ret2 ∈ GT ∧ Cond.initialized y.cls ∈ GT ∧ (y.cls ≠ "java/lang/invoke/MethodHandle" ∧ y.cls ≠ "java/lang/invoke/VarHandle" ∧ (parseMethodDescriptor y.desc).map (fun d => d.parameters.length) = some n) ∧ Cond.methodLinkNest own index y host ∈ NW ∧ Cond.instanceMethod y ∈ GT ∧ Cond.selects y.cls y y ∈ GT
def CNS (own : String) (index : Nat) (y : MethodName) (cc2 : ByteArray) (maxL2 : Nat) (ret2 : Option FieldType) (n : Nat) (host : String) : Prop :=
  Cond.code y cc2 maxL2 ret2 ∈ GT ∧ Cond.initialized y.cls ∈ GT ∧ (y.cls ≠ "java/lang/invoke/MethodHandle" ∧ y.cls ≠ "java/lang/invoke/VarHandle" ∧ (parseMethodDescriptor y.desc).map (fun d => d.parameters.length) = some n) ∧ Cond.methodLinkNest own index y host ∈ NW ∧ Cond.static y ∈ GT
theorem gt_wsy {y : MethodName} {cc2 : ByteArray} {maxL2 : Nat} {ret2 : Option FieldType} (h : Cond.code y cc2 maxL2 ret2 ∈ GT) : GoodIn GT (wsy y cc2 maxL2 ret2) := by
  intro w hw
  rcases List.mem_cons.mp hw with e | hw
  · subst e; exact ⟨h, gt_good h⟩
  · exact ⟨hw, gt_good hw⟩
/-- a run that ends behind the call, over the numbers -/
theorem r_after {p : Program} {l : Launch} {e : Env} {R : Room} {s : State} {m : MethodId} {args : Array Value} {below : List Frame} {meth : Method} {c : Code} {H : Heap} {locs : List Loc} {cells slots : Nat} {Q : State → Prop} {D : va_G} {cA : Nat → ClassId} {ad : Nat → Nat} {L0 : Nat} {sK sV : Nat → Nat} {res : Option Value} {h2 : Hp} {ls : Array Slot} {st0 rest : List Value} {a : Array Value} {pc : Nat}
    (hr : va_Run p l e R s m args below meth c H locs cells slots 0 0 (F0 m pc ls st0) rest (gQ (l, D, cA, ad, L0, sK, sV) res h2 a) (fun q => L0 ≤ q)) (hS : va_S (fun q => L0 ≤ q) s.heap H locs)
    (kk : ∀ (H1 : Heap) (locs1 : List Loc), gP (l, D, cA, ad, L0, sK, sV) h2 H1 → va_S (fun q => L0 ≤ q) s.heap H1 locs1 → W p l e R s m args below meth c H1 locs1 cells slots Q (F0 m (pc + 3) ls (res.toList ++ rest))) : W p l e R s m args below meth c H locs cells slots Q (F0 m pc ls st0) := by
  intro T hT X
  obtain ⟨v, st₀, t, T', L, h0, X', hL, e1, e2, ⟨hv, hp, hz, hk⟩, st⟩ := hr T hT X
  cases hv
  rw [h0] at hz hk
  obtain ⟨t2, a1, b1⟩ := kk T'.heap (locs ++ L) (by rw [e1]; exact hp)
    ⟨Nat.le_trans hS.1 (by rw [e1]; exact hz), fun q h1 h2 => by rw [e1, hk q (Nat.lt_of_lt_of_le h1 hS.1) h2]; exact hS.2.1 q h1 h2, fun q hq => by
      rcases List.mem_append.mp hq with h | h
      · exact hS.2.2 q h
      · exact hL q h⟩ T' rfl X'
  exact ⟨t2, st t2 a1, b1⟩

theorem r_callVi (C : OK X cc nL own ret) {y : MethodName} {cc2 : ByteArray} {maxL2 : Nat} {ret2 : Option FieldType} {fr lo index n : Nat} {As : List Value} {st0 : List Value} {h2 : Hp} {rv : Int32} (k : Nat) {ci N : Nat} {fs : List (Option Nat)} {T : u_T} (hdc : dsc k = .inl (ci, fs)) (hk : k < NC) (hc : vwCl[ci]? = some (y.cls, T, N)) (hM : MC (xG X) y cc2 maxL2 ret2 fr lo h (.ref (gad (xG X) k) :: As) (some (.int rv)) h2) (hw : CWV own index y cc2 maxL2 ret2 n) (hn : As.length = n) (hst : st0 = As.reverse ++ .ref (gad (xG X) k) :: st) (hcat : (st.map fun v => v.category).sum ≤ 8) (hR : fr + 1 ≤ (xR X).frames ∧ 8 + (maxL2 + 11) + lo ≤ (xR X).locals) (hcs : cells ≤ (xR X).cells ∧ slots ≤ (xR X).slots) (hd : decode cc pc = .ok (.invokevirtual index, 3)) (kk : VW X nL h2 cells slots (pc + 3) lv (.int rv :: st)) : VW X nL h cells slots pc lv st0 := by
  obtain ⟨p, e, R, s, m, args, below, meth, c, Q, l, D, cA, ad, L0, sK, sV⟩ := X
  obtain ⟨hx, hb, hml, hown, hts, hT, hr, hlk⟩ := C
  intro H locs ls hP hS hl
  subst hst
  have e1 : (wd cA ad h)[k]? = some (ad k, .inr (ci, valsF ad (h k) fs 0)) := by rw [wd_get hk, cellE_obj hdc]
  refine r_after (va_runV (As := As) (rest := st) ⟨hx, hb, hml, hown, hts⟩ hM ⟨callB_of n hts (gt_wsy hw.1) rfl rfl rfl (hts _ hw.2.1) (hts _ hw.2.2.2.1) hw.2.2.1 hR, hts _ hw.2.2.2.2.1, hts _ hw.2.2.2.2.2⟩ ⟨gPc.blind, va_recv hT.1 hP hc e1, fun U hU hW => ⟨rfl, by rw [hU]; exact hP, hT.call hW hU hS⟩⟩ rfl hn hl.1 rfl (lv_room hcat) hd hcs) hS (fun H1 locs1 hP1 hS1 => ?_)
  exact kk H1 locs1 ls hP1 hS1 hl
theorem r_callVl (C : OK X cc nL own ret) {y : MethodName} {cc2 : ByteArray} {maxL2 : Nat} {ret2 : Option FieldType} {fr lo index n : Nat} {As : List Value} {st0 : List Value} {h2 : Hp} {rv : Int64} (k : Nat) {ci N : Nat} {fs : List (Option Nat)} {T : u_T} (hdc : dsc k = .inl (ci, fs)) (hk : k < NC) (hc : vwCl[ci]? = some (y.cls, T, N)) (hM : MC (xG X) y cc2 maxL2 ret2 fr lo h (.ref (gad (xG X) k) :: As) (some (.long rv)) h2) (hw : CWV own index y cc2 maxL2 ret2 n) (hn : As.length = n) (hst : st0 = As.reverse ++ .ref (gad (xG X) k) :: st) (hcat : (st.map fun v => v.category).sum ≤ 8) (hR : fr + 1 ≤ (xR X).frames ∧ 8 + (maxL2 + 11) + lo ≤ (xR X).locals) (hcs : cells ≤ (xR X).cells ∧ slots ≤ (xR X).slots) (hd : decode cc pc = .ok (.invokevirtual index, 3)) (kk : VW X nL h2 cells slots (pc + 3) lv (.long rv :: st)) : VW X nL h cells slots pc lv st0 := by
  obtain ⟨p, e, R, s, m, args, below, meth, c, Q, l, D, cA, ad, L0, sK, sV⟩ := X
  obtain ⟨hx, hb, hml, hown, hts, hT, hr, hlk⟩ := C
  intro H locs ls hP hS hl
  subst hst
  have e1 : (wd cA ad h)[k]? = some (ad k, .inr (ci, valsF ad (h k) fs 0)) := by rw [wd_get hk, cellE_obj hdc]
  refine r_after (va_runV (As := As) (rest := st) ⟨hx, hb, hml, hown, hts⟩ hM ⟨callB_of n hts (gt_wsy hw.1) rfl rfl rfl (hts _ hw.2.1) (hts _ hw.2.2.2.1) hw.2.2.1 hR, hts _ hw.2.2.2.2.1, hts _ hw.2.2.2.2.2⟩ ⟨gPc.blind, va_recv hT.1 hP hc e1, fun U hU hW => ⟨rfl, by rw [hU]; exact hP, hT.call hW hU hS⟩⟩ rfl hn hl.1 rfl (lv_room hcat) hd hcs) hS (fun H1 locs1 hP1 hS1 => ?_)
  exact kk H1 locs1 ls hP1 hS1 hl
theorem r_callVv (C : OK X cc nL own ret) {y : MethodName} {cc2 : ByteArray} {maxL2 : Nat} {ret2 : Option FieldType} {fr lo index n : Nat} {As : List Value} {st0 : List Value} {h2 : Hp} (k : Nat) {ci N : Nat} {fs : List (Option Nat)} {T : u_T} (hdc : dsc k = .inl (ci, fs)) (hk : k < NC) (hc : vwCl[ci]? = some (y.cls, T, N)) (hM : MC (xG X) y cc2 maxL2 ret2 fr lo h (.ref (gad (xG X) k) :: As) none h2) (hw : CWV own index y cc2 maxL2 ret2 n) (hn : As.length = n) (hst : st0 = As.reverse ++ .ref (gad (xG X) k) :: st) (hcat : (st.map fun v => v.category).sum ≤ 8) (hR : fr + 1 ≤ (xR X).frames ∧ 8 + (maxL2 + 11) + lo ≤ (xR X).locals) (hcs : cells ≤ (xR X).cells ∧ slots ≤ (xR X).slots) (hd : decode cc pc = .ok (.invokevirtual index, 3)) (kk : VW X nL h2 cells slots (pc + 3) lv st) : VW X nL h cells slots pc lv st0 := by
  obtain ⟨p, e, R, s, m, args, below, meth, c, Q, l, D, cA, ad, L0, sK, sV⟩ := X
  obtain ⟨hx, hb, hml, hown, hts, hT, hr, hlk⟩ := C
  intro H locs ls hP hS hl
  subst hst
  have e1 : (wd cA ad h)[k]? = some (ad k, .inr (ci, valsF ad (h k) fs 0)) := by rw [wd_get hk, cellE_obj hdc]
  refine r_after (va_runV (As := As) (rest := st) ⟨hx, hb, hml, hown, hts⟩ hM ⟨callB_of n hts (gt_wsy hw.1) rfl rfl rfl (hts _ hw.2.1) (hts _ hw.2.2.2.1) hw.2.2.1 hR, hts _ hw.2.2.2.2.1, hts _ hw.2.2.2.2.2⟩ ⟨gPc.blind, va_recv hT.1 hP hc e1, fun U hU hW => ⟨rfl, by rw [hU]; exact hP, hT.call hW hU hS⟩⟩ rfl hn hl.1 rfl (lv_room hcat) hd hcs) hS (fun H1 locs1 hP1 hS1 => ?_)
  exact kk H1 locs1 ls hP1 hS1 hl
theorem r_callSi (C : OK X cc nL own ret) {y : MethodName} {cc2 : ByteArray} {maxL2 : Nat} {ret2 : Option FieldType} {fr lo index n : Nat} {As : List Value} {st0 : List Value} {h2 : Hp} {rv : Int32} (hM : MC (xG X) y cc2 maxL2 ret2 fr lo h As (some (.int rv)) h2) (hw : CWS own index y cc2 maxL2 ret2 n) (hn : As.length = n) (hst : st0 = As.reverse ++ st) (hcat : (st.map fun v => v.category).sum ≤ 8) (hR : fr + 1 ≤ (xR X).frames ∧ 8 + (maxL2 + 11) + lo ≤ (xR X).locals) (hcs : cells ≤ (xR X).cells ∧ slots ≤ (xR X).slots) (hd : decode cc pc = .ok (.invokestatic index, 3)) (kk : VW X nL h2 cells slots (pc + 3) lv (.int rv :: st)) : VW X nL h cells slots pc lv st0 := by
  obtain ⟨p, e, R, s, m, args, below, meth, c, Q, l, D, cA, ad, L0, sK, sV⟩ := X
  obtain ⟨hx, hb, hml, hown, hts, hT, hr, hlk⟩ := C
  intro H locs ls hP hS hl
  subst hst
  refine r_after (va_runS (As := As) (rest := st) ⟨hx, hb, hml, hown, hts⟩ hM ⟨callB_of n hts (gt_wsy hw.1) rfl rfl rfl (hts _ hw.2.1) (hts _ hw.2.2.2.1) hw.2.2.1 hR, hts _ hw.2.2.2.2⟩ ⟨gPc.blind, fun U hU hW => ⟨rfl, by rw [hU]; exact hP, hT.call hW hU hS⟩⟩ rfl hn hl.1 rfl (lv_room hcat) hd hcs) hS (fun H1 locs1 hP1 hS1 => ?_)
  exact kk H1 locs1 ls hP1 hS1 hl
theorem r_callSl (C : OK X cc nL own ret) {y : MethodName} {cc2 : ByteArray} {maxL2 : Nat} {ret2 : Option FieldType} {fr lo index n : Nat} {As : List Value} {st0 : List Value} {h2 : Hp} {rv : Int64} (hM : MC (xG X) y cc2 maxL2 ret2 fr lo h As (some (.long rv)) h2) (hw : CWS own index y cc2 maxL2 ret2 n) (hn : As.length = n) (hst : st0 = As.reverse ++ st) (hcat : (st.map fun v => v.category).sum ≤ 8) (hR : fr + 1 ≤ (xR X).frames ∧ 8 + (maxL2 + 11) + lo ≤ (xR X).locals) (hcs : cells ≤ (xR X).cells ∧ slots ≤ (xR X).slots) (hd : decode cc pc = .ok (.invokestatic index, 3)) (kk : VW X nL h2 cells slots (pc + 3) lv (.long rv :: st)) : VW X nL h cells slots pc lv st0 := by
  obtain ⟨p, e, R, s, m, args, below, meth, c, Q, l, D, cA, ad, L0, sK, sV⟩ := X
  obtain ⟨hx, hb, hml, hown, hts, hT, hr, hlk⟩ := C
  intro H locs ls hP hS hl
  subst hst
  refine r_after (va_runS (As := As) (rest := st) ⟨hx, hb, hml, hown, hts⟩ hM ⟨callB_of n hts (gt_wsy hw.1) rfl rfl rfl (hts _ hw.2.1) (hts _ hw.2.2.2.1) hw.2.2.1 hR, hts _ hw.2.2.2.2⟩ ⟨gPc.blind, fun U hU hW => ⟨rfl, by rw [hU]; exact hP, hT.call hW hU hS⟩⟩ rfl hn hl.1 rfl (lv_room hcat) hd hcs) hS (fun H1 locs1 hP1 hS1 => ?_)
  exact kk H1 locs1 ls hP1 hS1 hl
theorem r_callSv (C : OK X cc nL own ret) {y : MethodName} {cc2 : ByteArray} {maxL2 : Nat} {ret2 : Option FieldType} {fr lo index n : Nat} {As : List Value} {st0 : List Value} {h2 : Hp} (hM : MC (xG X) y cc2 maxL2 ret2 fr lo h As none h2) (hw : CWS own index y cc2 maxL2 ret2 n) (hn : As.length = n) (hst : st0 = As.reverse ++ st) (hcat : (st.map fun v => v.category).sum ≤ 8) (hR : fr + 1 ≤ (xR X).frames ∧ 8 + (maxL2 + 11) + lo ≤ (xR X).locals) (hcs : cells ≤ (xR X).cells ∧ slots ≤ (xR X).slots) (hd : decode cc pc = .ok (.invokestatic index, 3)) (kk : VW X nL h2 cells slots (pc + 3) lv st) : VW X nL h cells slots pc lv st0 := by
  obtain ⟨p, e, R, s, m, args, below, meth, c, Q, l, D, cA, ad, L0, sK, sV⟩ := X
  obtain ⟨hx, hb, hml, hown, hts, hT, hr, hlk⟩ := C
  intro H locs ls hP hS hl
  subst hst
  refine r_after (va_runS (As := As) (rest := st) ⟨hx, hb, hml, hown, hts⟩ hM ⟨callB_of n hts (gt_wsy hw.1) rfl rfl rfl (hts _ hw.2.1) (hts _ hw.2.2.2.1) hw.2.2.1 hR, hts _ hw.2.2.2.2⟩ ⟨gPc.blind, fun U hU hW => ⟨rfl, by rw [hU]; exact hP, hT.call hW hU hS⟩⟩ rfl hn hl.1 rfl (lv_room hcat) hd hcs) hS (fun H1 locs1 hP1 hS1 => ?_)
  exact kk H1 locs1 ls hP1 hS1 hl
theorem r_callNVi (C : OK X cc nL own ret) {y : MethodName} {cc2 : ByteArray} {maxL2 : Nat} {ret2 : Option FieldType} {fr lo index n : Nat} {host : String} {As : List Value} {st0 : List Value} {h2 : Hp} {rv : Int32} (k : Nat) {ci N : Nat} {fs : List (Option Nat)} {T : u_T} (hdc : dsc k = .inl (ci, fs)) (hk : k < NC) (hc : vwCl[ci]? = some (y.cls, T, N)) (hM : MC (xG X) y cc2 maxL2 ret2 fr lo h (.ref (gad (xG X) k) :: As) (some (.int rv)) h2) (hw : CNV own index y cc2 maxL2 ret2 n host) (hn : As.length = n) (hst : st0 = As.reverse ++ .ref (gad (xG X) k) :: st) (hcat : (st.map fun v => v.category).sum ≤ 8) (hR : fr + 1 ≤ (xR X).frames ∧ 8 + (maxL2 + 11) + lo ≤ (xR X).locals) (hcs : cells ≤ (xR X).cells ∧ slots ≤ (xR X).slots) (hd : decode cc pc = .ok (.invokevirtual index, 3)) (kk : VW X nL h2 cells slots (pc + 3) lv (.int rv :: st)) : VW X nL h cells slots pc lv st0 := by
  obtain ⟨p, e, R, s, m, args, below, meth, c, Q, l, D, cA, ad, L0, sK, sV⟩ := X
  obtain ⟨hx, hb, hml, hown, hts, hT, hr, hlk⟩ := C
  intro H locs ls hP hS hl
  subst hst
  have e1 : (wd cA ad h)[k]? = some (ad k, .inr (ci, valsF ad (h k) fs 0)) := by rw [wd_get hk, cellE_obj hdc]
  refine r_after (va_runVN (As := As) (rest := st) ⟨hx, hb, hml, hown, hts⟩ hM ⟨va_cnB n hts (gt_wsy hw.1) rfl rfl rfl (hT.2.1 _ hw.2.2.2.1) (hts _ hw.2.1) hw.2.2.1 hR, hts _ hw.2.2.2.2.1, hts _ hw.2.2.2.2.2⟩ ⟨gPc.blind, va_recv hT.1 hP hc e1, fun U hU hW => ⟨rfl, by rw [hU]; exact hP, hT.call hW hU hS⟩⟩ rfl hn hl.1 rfl (lv_room hcat) hd hcs) hS (fun H1 locs1 hP1 hS1 => ?_)
  exact kk H1 locs1 ls hP1 hS1 hl
theorem r_callNVl (C : OK X cc nL own ret) {y : MethodName} {cc2 : ByteArray} {maxL2 : Nat} {ret2 : Option FieldType} {fr lo index n : Nat} {host : String} {As : List Value} {st0 : List Value} {h2 : Hp} {rv : Int64} (k : Nat) {ci N : Nat} {fs : List (Option Nat)} {T : u_T} (hdc : dsc k = .inl (ci, fs)) (hk : k < NC) (hc : vwCl[ci]? = some (y.cls, T, N)) (hM : MC (xG X) y cc2 maxL2 ret2 fr lo h (.ref (gad (xG X) k) :: As) (some (.long rv)) h2) (hw : CNV own index y cc2 maxL2 ret2 n host) (hn : As.length = n) (hst : st0 = As.reverse ++ .ref (gad (xG X) k) :: st) (hcat : (st.map fun v => v.category).sum ≤ 8) (hR : fr + 1 ≤ (xR X).frames ∧ 8 + (maxL2 + 11) + lo ≤ (xR X).locals) (hcs : cells ≤ (xR X).cells ∧ slots ≤ (xR X).slots) (hd : decode cc pc = .ok (.invokevirtual index, 3)) (kk : VW X nL h2 cells slots (pc + 3) lv (.long rv :: st)) : VW X nL h cells slots pc lv st0 := by
  obtain ⟨p, e, R, s, m, args, below, meth, c, Q, l, D, cA, ad, L0, sK, sV⟩ := X
  obtain ⟨hx, hb, hml, hown, hts, hT, hr, hlk⟩ := C
  intro H locs ls hP hS hl
  subst hst
  have e1 : (wd cA ad h)[k]? = some (ad k, .inr (ci, valsF ad (h k) fs 0)) := by rw [wd_get hk, cellE_obj hdc]
  refine r_after (va_runVN (As := As) (rest := st) ⟨hx, hb, hml, hown, hts⟩ hM ⟨va_cnB n hts (gt_wsy hw.1) rfl rfl rfl (hT.2.1 _ hw.2.2.2.1) (hts _ hw.2.1) hw.2.2.1 hR, hts _ hw.2.2.2.2.1, hts _ hw.2.2.2.2.2⟩ ⟨gPc.blind, va_recv hT.1 hP hc e1, fun U hU hW => ⟨rfl, by rw [hU]; exact hP, hT.call hW hU hS⟩⟩ rfl hn hl.1 rfl (lv_room hcat) hd hcs) hS (fun H1 locs1 hP1 hS1 => ?_)
  exact kk H1 locs1 ls hP1 hS1 hl
theorem r_callNVv (C : OK X cc nL own ret) {y : MethodName} {cc2 : ByteArray} {maxL2 : Nat} {ret2 : Option FieldType} {fr lo index n : Nat} {host : String} {As : List Value} {st0 : List Value} {h2 : Hp} (k : Nat) {ci N : Nat} {fs : List (Option Nat)} {T : u_T} (hdc : dsc k = .inl (ci, fs)) (hk : k < NC) (hc : vwCl[ci]? = some (y.cls, T, N)) (hM : MC (xG X) y cc2 maxL2 ret2 fr lo h (.ref (gad (xG X) k) :: As) none h2) (hw : CNV own index y cc2 maxL2 ret2 n host) (hn : As.length = n) (hst : st0 = As.reverse ++ .ref (gad (xG X) k) :: st) (hcat : (st.map fun v => v.category).sum ≤ 8) (hR : fr + 1 ≤ (xR X).frames ∧ 8 + (maxL2 + 11) + lo ≤ (xR X).locals) (hcs : cells ≤ (xR X).cells ∧ slots ≤ (xR X).slots) (hd : decode cc pc = .ok (.invokevirtual index, 3)) (kk : VW X nL h2 cells slots (pc + 3) lv st) : VW X nL h cells slots pc lv st0 := by
  obtain ⟨p, e, R, s, m, args, below, meth, c, Q, l, D, cA, ad, L0, sK, sV⟩ := X
  obtain ⟨hx, hb, hml, hown, hts, hT, hr, hlk⟩ := C
  intro H locs ls hP hS hl
  subst hst
  have e1 : (wd cA ad h)[k]? = some (ad k, .inr (ci, valsF ad (h k) fs 0)) := by rw [wd_get hk, cellE_obj hdc]
  refine r_after (va_runVN (As := As) (rest := st) ⟨hx, hb, hml, hown, hts⟩ hM ⟨va_cnB n hts (gt_wsy hw.1) rfl rfl rfl (hT.2.1 _ hw.2.2.2.1) (hts _ hw.2.1) hw.2.2.1 hR, hts _ hw.2.2.2.2.1, hts _ hw.2.2.2.2.2⟩ ⟨gPc.blind, va_recv hT.1 hP hc e1, fun U hU hW => ⟨rfl, by rw [hU]; exact hP, hT.call hW hU hS⟩⟩ rfl hn hl.1 rfl (lv_room hcat) hd hcs) hS (fun H1 locs1 hP1 hS1 => ?_)
  exact kk H1 locs1 ls hP1 hS1 hl
theorem r_callNSi (C : OK X cc nL own ret) {y : MethodName} {cc2 : ByteArray} {maxL2 : Nat} {ret2 : Option FieldType} {fr lo index n : Nat} {host : String} {As : List Value} {st0 : List Value} {h2 : Hp} {rv : Int32} (hM : MC (xG X) y cc2 maxL2 ret2 fr lo h As (some (.int rv)) h2) (hw : CNS own index y cc2 maxL2 ret2 n host) (hn : As.length = n) (hst : st0 = As.reverse ++ st) (hcat : (st.map fun v => v.category).sum ≤ 8) (hR : fr + 1 ≤ (xR X).frames ∧ 8 + (maxL2 + 11) + lo ≤ (xR X).locals) (hcs : cells ≤ (xR X).cells ∧ slots ≤ (xR X).slots) (hd : decode cc pc = .ok (.invokestatic index, 3)) (kk : VW X nL h2 cells slots (pc + 3) lv (.int rv :: st)) : VW X nL h cells slots pc lv st0 := by
  obtain ⟨p, e, R, s, m, args, below, meth, c, Q, l, D, cA, ad, L0, sK, sV⟩ := X
  obtain ⟨hx, hb, hml, hown, hts, hT, hr, hlk⟩ := C
  intro H locs ls hP hS hl
  subst hst
  refine r_after (va_runSN (As := As) (rest := st) ⟨hx, hb, hml, hown, hts⟩ hM ⟨va_cnB n hts (gt_wsy hw.1) rfl rfl rfl (hT.2.1 _ hw.2.2.2.1) (hts _ hw.2.1) hw.2.2.1 hR, hts _ hw.2.2.2.2, trivial⟩ ⟨gPc.blind, fun U hU hW => ⟨rfl, by rw [hU]; exact hP, hT.call hW hU hS⟩⟩ rfl hn hl.1 rfl (lv_room hcat) hd hcs) hS (fun H1 locs1 hP1 hS1 => ?_)
  exact kk H1 locs1 ls hP1 hS1 hl
theorem r_callNSl (C : OK X cc nL own ret) {y : MethodName} {cc2 : ByteArray} {maxL2 : Nat} {ret2 : Option FieldType} {fr lo index n : Nat} {host : String} {As : List Value} {st0 : List Value} {h2 : Hp} {rv : Int64} (hM : MC (xG X) y cc2 maxL2 ret2 fr lo h As (some (.long rv)) h2) (hw : CNS own index y cc2 maxL2 ret2 n host) (hn : As.length = n) (hst : st0 = As.reverse ++ st) (hcat : (st.map fun v => v.category).sum ≤ 8) (hR : fr + 1 ≤ (xR X).frames ∧ 8 + (maxL2 + 11) + lo ≤ (xR X).locals) (hcs : cells ≤ (xR X).cells ∧ slots ≤ (xR X).slots) (hd : decode cc pc = .ok (.invokestatic index, 3)) (kk : VW X nL h2 cells slots (pc + 3) lv (.long rv :: st)) : VW X nL h cells slots pc lv st0 := by
  obtain ⟨p, e, R, s, m, args, below, meth, c, Q, l, D, cA, ad, L0, sK, sV⟩ := X
  obtain ⟨hx, hb, hml, hown, hts, hT, hr, hlk⟩ := C
  intro H locs ls hP hS hl
  subst hst
  refine r_after (va_runSN (As := As) (rest := st) ⟨hx, hb, hml, hown, hts⟩ hM ⟨va_cnB n hts (gt_wsy hw.1) rfl rfl rfl (hT.2.1 _ hw.2.2.2.1) (hts _ hw.2.1) hw.2.2.1 hR, hts _ hw.2.2.2.2, trivial⟩ ⟨gPc.blind, fun U hU hW => ⟨rfl, by rw [hU]; exact hP, hT.call hW hU hS⟩⟩ rfl hn hl.1 rfl (lv_room hcat) hd hcs) hS (fun H1 locs1 hP1 hS1 => ?_)
  exact kk H1 locs1 ls hP1 hS1 hl
theorem r_callNSv (C : OK X cc nL own ret) {y : MethodName} {cc2 : ByteArray} {maxL2 : Nat} {ret2 : Option FieldType} {fr lo index n : Nat} {host : String} {As : List Value} {st0 : List Value} {h2 : Hp} (hM : MC (xG X) y cc2 maxL2 ret2 fr lo h As none h2) (hw : CNS own index y cc2 maxL2 ret2 n host) (hn : As.length = n) (hst : st0 = As.reverse ++ st) (hcat : (st.map fun v => v.category).sum ≤ 8) (hR : fr + 1 ≤ (xR X).frames ∧ 8 + (maxL2 + 11) + lo ≤ (xR X).locals) (hcs : cells ≤ (xR X).cells ∧ slots ≤ (xR X).slots) (hd : decode cc pc = .ok (.invokestatic index, 3)) (kk : VW X nL h2 cells slots (pc + 3) lv st) : VW X nL h cells slots pc lv st0 := by
  obtain ⟨p, e, R, s, m, args, below, meth, c, Q, l, D, cA, ad, L0, sK, sV⟩ := X
  obtain ⟨hx, hb, hml, hown, hts, hT, hr, hlk⟩ := C
  intro H locs ls hP hS hl
  subst hst
  refine r_after (va_runSN (As := As) (rest := st) ⟨hx, hb, hml, hown, hts⟩ hM ⟨va_cnB n hts (gt_wsy hw.1) rfl rfl rfl (hT.2.1 _ hw.2.2.2.1) (hts _ hw.2.1) hw.2.2.1 hR, hts _ hw.2.2.2.2, trivial⟩ ⟨gPc.blind, fun U hU hW => ⟨rfl, by rw [hU]; exact hP, hT.call hW hU hS⟩⟩ rfl hn hl.1 rfl (lv_room hcat) hd hcs) hS (fun H1 locs1 hP1 hS1 => ?_)
  exact kk H1 locs1 ls hP1 hS1 hl
theorem r_mmax (C : OK X cc nL own ret) {index : Nat} {x y : Int32} (hw : Cond.methodLink own index Lib.Math.max.name ∈ GT) (hs : Cond.static Lib.Math.max.name ∈ GT) (hi : Cond.initialized "java/lang/Math" ∈ GT) (hc : Cond.code Lib.Math.max.name Lib.Math.max.code 2 (some .int) ∈ GT) (hRf : 1 ≤ (xR X).frames) (hRl : (st.map fun v => v.category).sum + 13 ≤ (xR X).locals) (hcs : cells ≤ (xR X).cells ∧ slots ≤ (xR X).slots) (hd : decode cc pc = .ok (.invokestatic index, 3)) (kk : VW X nL h cells slots (pc + 3) lv (.int (if x < y then y else x) :: st)) : VW X nL h cells slots pc lv (.int y :: .int x :: st) := by
  obtain ⟨p, e, R, s, m, args, below, meth, c, Q, l, D, cA, ad, L0, sK, sV⟩ := X
  obtain ⟨hx, hb, hml, hown, hts, hT, hr, hlk⟩ := C
  intro H locs ls hP hS hl
  exact va_mmax hx hb (by rw [hml]; exact hl.1.symm) hown (hts _ hw) (hts _ hs) (hts _ hi) (hts _ hc) hRf hRl hcs.1 hcs.2 hd (kk H locs ls hP hS hl)
theorem r_mmin (C : OK X cc nL own ret) {index : Nat} {x y : Int32} (hw : Cond.methodLink own index Lib.Math.min.name ∈ GT) (hs : Cond.static Lib.Math.min.name ∈ GT) (hi : Cond.initialized "java/lang/Math" ∈ GT) (hc : Cond.code Lib.Math.min.name Lib.Math.min.code 2 (some .int) ∈ GT) (hRf : 1 ≤ (xR X).frames) (hRl : (st.map fun v => v.category).sum + 13 ≤ (xR X).locals) (hcs : cells ≤ (xR X).cells ∧ slots ≤ (xR X).slots) (hd : decode cc pc = .ok (.invokestatic index, 3)) (kk : VW X nL h cells slots (pc + 3) lv (.int (if y < x then y else x) :: st)) : VW X nL h cells slots pc lv (.int y :: .int x :: st) := by
  obtain ⟨p, e, R, s, m, args, below, meth, c, Q, l, D, cA, ad, L0, sK, sV⟩ := X
  obtain ⟨hx, hb, hml, hown, hts, hT, hr, hlk⟩ := C
  intro H locs ls hP hS hl
  exact va_mmin hx hb (by rw [hml]; exact hl.1.symm) hown (hts _ hw) (hts _ hs) (hts _ hi) (hts _ hc) hRf hRl hcs.1 hcs.2 hd (kk H locs ls hP hS hl)
theorem r_mabs (C : OK X cc nL own ret) {index : Nat} {x : Int32} (hw : Cond.methodLink own index Lib.Math.abs.name ∈ GT) (hs : Cond.static Lib.Math.abs.name ∈ GT) (hi : Cond.initialized "java/lang/Math" ∈ GT) (hc : Cond.code Lib.Math.abs.name Lib.Math.abs.code 1 (some .int) ∈ GT) (hRf : 1 ≤ (xR X).frames) (hRl : (st.map fun v => v.category).sum + 13 ≤ (xR X).locals) (hcs : cells ≤ (xR X).cells ∧ slots ≤ (xR X).slots) (hd : decode cc pc = .ok (.invokestatic index, 3)) (kk : VW X nL h cells slots (pc + 3) lv (.int (if 0 ≤ x then x else 0 - x) :: st)) : VW X nL h cells slots pc lv (.int x :: st) := by
  obtain ⟨p, e, R, s, m, args, below, meth, c, Q, l, D, cA, ad, L0, sK, sV⟩ := X
  obtain ⟨hx, hb, hml, hown, hts, hT, hr, hlk⟩ := C
  intro H locs ls hP hS hl
  exact va_mabs hx hb (by rw [hml]; exact hl.1.symm) hown (hts _ hw) (hts _ hs) (hts _ hi) (hts _ hc) hRf hRl hcs.1 hcs.2 hd (kk H locs ls hP hS hl)
theorem r_lcmp (C : OK X cc nL own ret) {x y : Int64} (hd : decode cc pc = .ok (.lcmp, 1)) (k : VW X nL h cells slots (pc + 1) lv (.int (lg_cmp x y) :: st)) : VW X nL h cells slots pc lv (.long y :: .long x :: st) := by
  obtain ⟨p, e, R, s, m, args, below, meth, c, Q, l, D, cA, ad, L0, sK, sV⟩ := X
  obtain ⟨hx, hb, hml, hown, hts, hT, hr, hlk⟩ := C
  intro H locs ls hP hS hl
  exact W.lcmp hx hb hd (k H locs ls hP hS hl)
end CALLS

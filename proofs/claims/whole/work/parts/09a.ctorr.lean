/-! Constructors: a world that grows. ws: cells of others; L: ours. -/
def TB0 (G : Gx) (U : State) : Prop := va_K G.2.1 vwCl (tysOf G.2.2.1) U ∧ (∀ w ∈ NW, va_Nw w U) ∧ G.2.2.2.2.1 ≤ U.heap.size ∧ va_AO RX7 U
theorem TB0.call {G : Gx} {s U : State} {H : Heap} {locs : List Loc} (h : TB0 G s) (hW : s.WarmedH U.vm) (hU : U.heap = H) (hS : va_S (gA G) s.heap H locs) : TB0 G U := by
  subst hU
  exact ⟨va_K.moved hW.alike h.1, nw_warm hW h.2.1, Nat.le_trans h.2.2.1 hS.1, va_AO.moved hW.alike h.2.2.2⟩
theorem TB0.blind {G : Gx} {U : State} (h : TB0 G U) (g : JFrame) (mk : MethodId) (a : Array Value) : TB0 G (U.calling g mk a) :=
  ⟨va_K.moved (u := U) (U := U.calling g mk a) (Vm.Alike.refl U.vm) h.1, nw_same (s := U) (U := U.calling g mk a) rfl h.2.1, h.2.2.1, va_AO.moved (u := U) (U := U.calling g mk a) (Vm.Alike.refl U.vm) h.2.2.2⟩
def OK0 (X : Cx) (cc : ByteArray) (nL : Nat) (own : String) : Prop := match X with
  | (p, _, _, s, m, args, _, meth, c, _, G) => p.tables.exec = Jvm.exec ∧ c.code = cc ∧ c.maxLocals = nL ∧ s.vm.findClass own = some m.cls ∧ (∀ w ∈ GT, w.before args s = true) ∧ TB0 G s ∧ meth.locks = false
def INI (X : Cx) : Prop := match X with
  | (_, _, _, _, _, _, _, meth, _, _, _) => meth.name = "<init>" ∧ meth.sig.returnType = none
def VN (X : Cx) (nL : Nat) (ws L : va_W) (cells slots pc : Nat) (lv : List (Nat × Value)) (st : List Value) : Prop := match X with
  | (p, e, R, s, m, args, below, meth, c, Q, G) => ∀ (H : Heap) (locs : List Loc) (ls : Array Slot), va_P G.2.1 vwCl (ws ++ L) H → va_D (gA G) (ws ++ L) → va_S (gA G) s.heap H locs → lv_has ls nL lv → W p G.1 e R s m args below meth c H locs cells slots Q (F0 m pc ls st)
theorem nx_at {ws L : va_W} {j : Nat} {x : Nat × va_E} (h : L[j]? = some x) : (ws ++ L)[ws.length + j]? = some x := by
  rw [List.getElem?_append_right (Nat.le_add_right _ _), Nat.add_sub_cancel_left]; exact h
theorem nx_set {ws L : va_W} {j : Nat} {x : Nat × va_E} : (ws ++ L).set (ws.length + j) x = ws ++ L.set j x := by
  rw [List.set_append_right _ _ (Nat.le_add_right _ _), Nat.add_sub_cancel_left]
def gKq (G : Gx) (ws : va_W) (blk : (Nat → Nat) → va_W) (q0 : Nat) : Array Value → State → Outcome → State → Prop := fun _ st oc t => oc = .returned none ∧ ∃ a : Nat → Nat, a 0 = q0 ∧ va_P G.2.1 vwCl (ws ++ blk a) t.heap ∧ va_D (gA G) (ws ++ blk a) ∧ va_F (gA G) st t
def MK (G : Gx) (y : MethodName) (cc : ByteArray) (maxL fr lo nc ns ci : Nat) (fs0 : List Value) (blk : (Nat → Nat) → va_W) : Prop :=
  ∀ (ws : va_W) (q0 : Nat), Met G.1 y (wsy y cc maxL none) { frames := fr, cells := nc, slots := ns, locals := lo } (va_Pc [.ref q0] (fun U => va_P G.2.1 vwCl (ws ++ [(q0, .inr (ci, fs0))]) U.heap ∧ va_D (gA G) (ws ++ [(q0, .inr (ci, fs0))]) ∧ TB0 G U)) (gKq G ws blk q0) nc ns (gA G)
def FinK (X : Cx) (ws : va_W) (blk : (Nat → Nat) → va_W) (q0 nc ns : Nat) : Prop := match X with
  | (_, _, _, s, _, args, below, _, _, Q, G) => ∀ t : State, MQ below (gKq G ws blk q0) args s nc ns (gA G) t → Q t
theorem MK.of {G : Gx} {y : MethodName} {cc : ByteArray} {maxL fr lo nc ns ci : Nat} {fs0 : List Value} {blk : (Nat → Nat) → va_W} (own : String) (hy : plainName y.cls = true) (hown : y.cls = own) (hn : y.name = "<init>") (hle : 1 ≤ maxL)
    (body : ∀ (ws : va_W) (q0 : Nat) (X : Cx), OK0 X cc maxL own → INI X → xG X = G → xR X = { frames := fr, cells := nc, slots := ns, locals := lo } → FinK X ws blk q0 nc ns → VN X maxL ws [(q0, .inr (ci, fs0))] 0 0 0 [(0, .ref q0)] []) : MK G y cc maxL fr lo nc ns ci fs0 blk := by
  intro ws q0
  refine Met.ofW (cc := cc) (maxL := maxL) (ret := none) hy rfl ?_
  intro p e s m args below meth c s₁ B hml hv
  obtain ⟨rfl, hP, hD, hT⟩ := hv
  have hts := atoms_spec (ws := wsy y cc maxL none) B.pre
  have hfc : s.vm.findClass own = some m.cls := by rw [← hown]; exact findClass_of_methodNamed B.named
  have hl := lv_entry [.ref q0] (n := maxL) hle
  rw [lg_entry_eq]
  exact body ws q0 (p, e, _, s, m, [Value.ref q0].toArray, below, meth, c, MQ below (gKq G ws blk q0) [Value.ref q0].toArray s nc ns (gA G), G) ⟨B.exec, B.bytes, hml, hfc, fun w hw => hts w (List.mem_cons_of_mem _ hw), hT, B.notSynchronized⟩ ⟨by rw [← hn]; exact (name_of_methodNamed B.named B.method).1, B.returns⟩ rfl rfl (fun t ht => ht) s.heap [] _ hP hD va_S.rf hl
theorem gO_i : Cond.instanceMethod objectInit ∈ GT := gt_in 195 (by decide +kernel) rfl
theorem gO_c : Cond.code objectInit ⟨#[0xb1]⟩ 1 none ∈ GT := gt_in 196 (by decide +kernel) rfl
section CTOR
variable {X : Cx} {cc : ByteArray} {nL : Nat} {own : String} {ws L : va_W} {cells slots pc : Nat} {lv : List (Nat × Value)} {st : List Value}
theorem n_aload_n (C : OK0 X cc nL own) {k : Fin 4} {i : Nat} {x : Nat} (hd : decode cc pc = .ok (.aload_n k, 1)) (hi : (k : Nat) = i) (j : Nat) (hj : lv[j]? = some (i, .ref x)) (k : VN X nL ws L cells slots (pc + 1) lv (.ref x :: st)) : VN X nL ws L cells slots pc lv st := by
  obtain ⟨p, e9, R, s, m, args, below, meth, c, Q, l, D, cA, ad, L0, sK, sV⟩ := X
  obtain ⟨hx, hb, hml, hown, hts, hT, hlk⟩ := C
  intro H locs ls hP hD hS hl
  exact lv_aload_n hx hb hd hi (lv_at hl j hj) (k H locs ls hP hD hS hl)
theorem n_iload_n (C : OK0 X cc nL own) {k : Fin 4} {i : Nat} {x : Int32} (hd : decode cc pc = .ok (.iload_n k, 1)) (hi : (k : Nat) = i) (j : Nat) (hj : lv[j]? = some (i, .int x)) (k : VN X nL ws L cells slots (pc + 1) lv (.int x :: st)) : VN X nL ws L cells slots pc lv st := by
  obtain ⟨p, e9, R, s, m, args, below, meth, c, Q, l, D, cA, ad, L0, sK, sV⟩ := X
  obtain ⟨hx, hb, hml, hown, hts, hT, hlk⟩ := C
  intro H locs ls hP hD hS hl
  exact lv_iload_n hx hb hd hi (lv_at hl j hj) (k H locs ls hP hD hS hl)
theorem n_iconst (C : OK0 X cc nL own) {n : Int} {v : Int32} (hd : decode cc pc = .ok (.iconst n, 1)) (hv : Int32.ofInt n = v) (k : VN X nL ws L cells slots (pc + 1) lv (.int v :: st)) : VN X nL ws L cells slots pc lv st := by
  obtain ⟨p, e9, R, s, m, args, below, meth, c, Q, l, D, cA, ad, L0, sK, sV⟩ := X
  obtain ⟨hx, hb, hml, hown, hts, hT, hlk⟩ := C
  intro H locs ls hP hD hS hl
  exact lv_iconst hx hb hd hv (k H locs ls hP hD hS hl)
theorem n_bipush (C : OK0 X cc nL own) {n : Int} {v : Int32} (hd : decode cc pc = .ok (.bipush n, 2)) (hv : (Int8.ofInt n).toInt32 = v) (k : VN X nL ws L cells slots (pc + 2) lv (.int v :: st)) : VN X nL ws L cells slots pc lv st := by
  obtain ⟨p, e9, R, s, m, args, below, meth, c, Q, l, D, cA, ad, L0, sK, sV⟩ := X
  obtain ⟨hx, hb, hml, hown, hts, hT, hlk⟩ := C
  intro H locs ls hP hD hS hl
  exact lv_bipush hx hb hd hv (k H locs ls hP hD hS hl)
theorem n_sipush (C : OK0 X cc nL own) {n : Int} {v : Int32} (hd : decode cc pc = .ok (.sipush n, 3)) (hv : (Int16.ofInt n).toInt32 = v) (k : VN X nL ws L cells slots (pc + 3) lv (.int v :: st)) : VN X nL ws L cells slots pc lv st := by
  obtain ⟨p, e9, R, s, m, args, below, meth, c, Q, l, D, cA, ad, L0, sK, sV⟩ := X
  obtain ⟨hx, hb, hml, hown, hts, hT, hlk⟩ := C
  intro H locs ls hP hD hS hl
  exact lv_sipush hx hb hd hv (k H locs ls hP hD hS hl)
theorem n_dup (C : OK0 X cc nL own) {v : Value} (hd : decode cc pc = .ok (.dup, 1)) (hv : v.category = 1) (k : VN X nL ws L cells slots (pc + 1) lv (v :: v :: st)) : VN X nL ws L cells slots pc lv (v :: st) := by
  obtain ⟨p, e9, R, s, m, args, below, meth, c, Q, l, D, cA, ad, L0, sK, sV⟩ := X
  obtain ⟨hx, hb, hml, hown, hts, hT, hlk⟩ := C
  intro H locs ls hP hD hS hl
  exact lv_dup hx hb hd hv (k H locs ls hP hD hS hl)
theorem n_goto (C : OK0 X cc nL own) {off : Int} (tgt : Nat) (hd : decode cc pc = .ok (.goto off, 3)) (ht : (pc : Int) + off = (tgt : Int)) (k : VN X nL ws L cells slots tgt lv st) : VN X nL ws L cells slots pc lv st := by
  obtain ⟨p, e9, R, s, m, args, below, meth, c, Q, l, D, cA, ad, L0, sK, sV⟩ := X
  obtain ⟨hx, hb, hml, hown, hts, hT, hlk⟩ := C
  intro H locs ls hP hD hS hl
  exact lv_goto hx hb hd ht (k H locs ls hP hD hS hl)
theorem n_icmp_ge (C : OK0 X cc nL own) {x y : Int32} {off : Int} (tgt : Nat) (hd : decode cc pc = .ok (.if_icmp .ge off, 3)) (ht : (pc : Int) + off = (tgt : Int)) (kt : y ≤ x → VN X nL ws L cells slots tgt lv st) (kf : ¬ y ≤ x → VN X nL ws L cells slots (pc + 3) lv st) : VN X nL ws L cells slots pc lv (.int y :: .int x :: st) := by
  obtain ⟨p, e9, R, s, m, args, below, meth, c, Q, l, D, cA, ad, L0, sK, sV⟩ := X
  obtain ⟨hx, hb, hml, hown, hts, hT, hlk⟩ := C
  intro H locs ls hP hD hS hl
  exact lv_icmp_ge hx hb hd ht (fun q => kt q H locs ls hP hD hS hl) (fun q => kf q H locs ls hP hD hS hl)
theorem n_istore_n (C : OK0 X cc nL own) {k : Fin 4} {i : Nat} {x : Int32} {lv' : List (Nat × Value)} (hd : decode cc pc = .ok (.istore_n k, 1)) (hi : (k : Nat) = i) (hn : i < nL) (is : List Nat) (hl9 : is.filterMap (fun j => ((i, Value.int x) :: lv.filter (fun q => !(q.1 == i) && !(q.1 + 1 == i && q.2.category == 2)))[j]?) = lv') (k : VN X nL ws L cells slots (pc + 1) lv' st) : VN X nL ws L cells slots pc lv (.int x :: st) := by
  obtain ⟨p, e9, R, s, m, args, below, meth, c, Q, l, D, cA, ad, L0, sK, sV⟩ := X
  obtain ⟨hx, hb, hml, hown, hts, hT, hlk⟩ := C
  intro H locs ls hP hD hS hl
  exact lv_istore_n hx hb hd hi hl hn rfl (fun ls2 hl2 => k H locs ls2 hP hD hS (lv_sub hl2 is hl9))
theorem n_iinc (C : OK0 X cc nL own) {i j : Nat} {n : Int} {x v : Int32} {lv' : List (Nat × Value)} (hd : decode cc pc = .ok (.iinc i n, 3)) (hj : lv[j]? = some (i, .int x)) (hv : v = x + Int32.ofInt n) (hn : i < nL) (is : List Nat) (hl9 : is.filterMap (fun j => ((i, Value.int v) :: lv.filter (fun q => !(q.1 == i) && !(q.1 + 1 == i && q.2.category == 2)))[j]?) = lv') (k : VN X nL ws L cells slots (pc + 3) lv' st) : VN X nL ws L cells slots pc lv st := by
  obtain ⟨p, e9, R, s, m, args, below, meth, c, Q, l, D, cA, ad, L0, sK, sV⟩ := X
  obtain ⟨hx, hb, hml, hown, hts, hT, hlk⟩ := C
  intro H locs ls hP hD hS hl
  exact lv_iinc hx hb hd hl hj hv.symm hn rfl (fun ls2 hl2 => k H locs ls2 hP hD hS (lv_sub hl2 is hl9))
theorem n_obj (C : OK0 X cc nL own) {index : Nat} {q : Nat} (hw : Cond.methodLink own index objectInit ∈ GT) (hR : 1 ≤ (xR X).frames ∧ (st.map fun v => v.category).sum + 12 ≤ (xR X).locals) (hd : decode cc pc = .ok (.invokespecial index, 3)) (k : VN X nL ws L cells slots (pc + 3) lv st) : VN X nL ws L cells slots pc lv (.ref q :: st) := by
  obtain ⟨p, e9, R, s, m, args, below, meth, c, Q, l, D, cA, ad, L0, sK, sV⟩ := X
  obtain ⟨hx, hb, hml, hown, hts, hT, hlk⟩ := C
  intro H locs ls hP hD hS hl
  refine W.objInit hx hb hown (hts _ hw) (hts _ gO_i) (hts _ gO_c) rfl (by rw [hml]; exact hl.1) rfl hd hR.1 (by have h9 := hR.2; show 2 * 0 + _ + 12 ≤ _; rw [Nat.mul_zero, Nat.zero_add]; exact h9) ?_
  exact k H locs ls hP hD hS hl
theorem n_put (C : OK0 X cc nL own) {ref C0 : String} {T : u_T} {N ci index : Nat} (j kf : Nat) {a : Nat} {v : Value} {fs : List Value} {L2 : va_W} (hj : L[j]? = some (a, .inr (ci, fs))) (hL : L.set j (a, .inr (ci, fs.set kf v)) = L2) (hc : vwCl[ci]? = some (C0, T, N)) (hin : ∀ w ∈ u_ws C0 T N, w ∈ GT) (ty0 : Nat → FieldType) (hty : ∀ k, k < N → parseFieldDescriptor (T k).2.2.1 = some (ty0 k)) (hnm : ∀ a, a < N → ∀ b, b < N → a ≠ b → (T a).2.1 ≠ (T b).2.1) (hkf : kf < N) (hw : Cond.fieldLink own index ref (T kf).2.1 (T kf).2.2.1 ∈ GT) (href : ref = (T kf).1) (hfin : (T kf).2.2.2 = false) (hn : narrow (ty0 kf) v = v) (hfit : fits (ty0 kf) v = true) (hl9 : kf < fs.length) (hd : decode cc pc = .ok (.putfield index, 3)) (k : VN X nL ws L2 cells slots (pc + 3) lv st) : VN X nL ws L cells slots pc lv (v :: .ref a :: st) := by
  obtain ⟨p, e9, R, s, m, args, below, meth, c, Q, l, D, cA, ad, L0, sK, sV⟩ := X
  obtain ⟨hx, hb, hml, hown, hts, hT, hlk⟩ := C
  intro H locs ls hP hD hS hl
  refine va_put hx hb hts hin ty0 hty hnm hown hT.1 hP hD hS (ws.length + j) (nx_at hj) hc kf hkf (hts _ hw) (fun _ q => by rw [href]; exact q) hfin (hty kf hkf) hn hfit hl9 hd (fun H1 locs1 hP1 hD1 hS1 => ?_)
  rw [nx_set, hL] at hP1 hD1
  exact k H1 locs1 ls hP1 hD1 hS1 hl
theorem n_putF (C : OK0 X cc nL own) {ref C0 : String} {T : u_T} {N ci index : Nat} (j kf : Nat) {a : Nat} {v : Value} {fs : List Value} {L2 : va_W} (hj : L[j]? = some (a, .inr (ci, fs))) (hL : L.set j (a, .inr (ci, fs.set kf v)) = L2) (hc : vwCl[ci]? = some (C0, T, N)) (hin : ∀ w ∈ u_ws C0 T N, w ∈ GT) (ty0 : Nat → FieldType) (hty : ∀ k, k < N → parseFieldDescriptor (T k).2.2.1 = some (ty0 k)) (hnm : ∀ a, a < N → ∀ b, b < N → a ≠ b → (T a).2.1 ≠ (T b).2.1) (hkf : kf < N) (hw : Cond.fieldLink own index ref (T kf).2.1 (T kf).2.2.1 ∈ GT) (href : ref = (T kf).1) (hI : INI X) (hfin : (T kf).2.2.2 = true) (hdecl : (T kf).1 = own) (hn : narrow (ty0 kf) v = v) (hfit : fits (ty0 kf) v = true) (hl9 : kf < fs.length) (hd : decode cc pc = .ok (.putfield index, 3)) (k : VN X nL ws L2 cells slots (pc + 3) lv st) : VN X nL ws L cells slots pc lv (v :: .ref a :: st) := by
  obtain ⟨p, e9, R, s, m, args, below, meth, c, Q, l, D, cA, ad, L0, sK, sV⟩ := X
  obtain ⟨hx, hb, hml, hown, hts, hT, hlk⟩ := C
  intro H locs ls hP hD hS hl
  refine va_putF hx hb hts hin ty0 hty hnm hown hT.1 hP hD hS (ws.length + j) (nx_at hj) hc kf hkf (hts _ hw) (fun _ q => by rw [href]; exact q) hfin hI.1 hdecl (hty kf hkf) hn hfit hl9 hd (fun H1 locs1 hP1 hD1 hS1 => ?_)
  rw [nx_set, hL] at hP1 hD1
  exact k H1 locs1 ls hP1 hD1 hS1 hl
theorem n_getR (C : OK0 X cc nL own) {ref C0 : String} {T : u_T} {N ci index : Nat} (j kf : Nat) {a v : Nat} {fs : List Value} (hj : L[j]? = some (a, .inr (ci, fs))) (hv : fs[kf]? = some (.ref v)) (hc : vwCl[ci]? = some (C0, T, N)) (hin : ∀ w ∈ u_ws C0 T N, w ∈ GT) (hkf : kf < N) (hw : Cond.fieldLink own index ref (T kf).2.1 (T kf).2.2.1 ∈ GT) (href : ref = (T kf).1) (hd : decode cc pc = .ok (.getfield index, 3)) (k : VN X nL ws L cells slots (pc + 3) lv (.ref v :: st)) : VN X nL ws L cells slots pc lv (.ref a :: st) := by
  obtain ⟨p, e9, R, s, m, args, below, meth, c, Q, l, D, cA, ad, L0, sK, sV⟩ := X
  obtain ⟨hx, hb, hml, hown, hts, hT, hlk⟩ := C
  intro H locs ls hP hD hS hl
  exact va_get hx hb hts hin hown hT.1 hP (ws.length + j) (nx_at hj) hc kf hkf (hts _ hw) (fun _ q => by rw [href]; exact q) hv hd (k H locs ls hP hD hS hl)
theorem n_new (C : OK0 X cc nL own) {C0 : String} {T : u_T} {N ci index : Nat} {fs : List Value} {L2 : Nat → va_W} (hL : ∀ q, L ++ [(q, .inr (ci, fs))] = L2 q) (hin : ∀ w ∈ u_ws C0 T N, w ∈ GT) (ty : Nat → FieldType) (hty : ∀ k, k < N → parseFieldDescriptor (T k).2.2.1 = some (ty k)) (hcl : Cond.classLink own index C0 ∈ GT) (hinst : Cond.instantiable C0 N ∈ GT) (hini : Cond.initialized C0 ∈ GT) (hc : vwCl[ci]? = some (C0, T, N)) (hfs : ∀ j, j < N → defaultValue (ty j) = vp_V fs j) (hcs : cells + 1 ≤ (xR X).cells ∧ slots + N ≤ (xR X).slots) (hd : decode cc pc = .ok (.new index, 3)) (k : ∀ q : Nat, VN X nL ws (L2 q) (cells + 1) (slots + N) (pc + 3) lv (.ref q :: st)) : VN X nL ws L cells slots pc lv st := by
  obtain ⟨p, e9, R, s, m, args, below, meth, c, Q, l, D, cA, ad, L0, sK, sV⟩ := X
  obtain ⟨hx, hb, hml, hown, hts, hT, hlk⟩ := C
  intro H locs ls hP hD hS hl
  refine va_new hx hb hts hin ty hty hown (hts _ hcl) (hts _ hinst) (hts _ hini) hT.1 hP hD hS (fun q h9 => Nat.le_trans hT.2.2.1 h9) hc hfs hcs.1 hcs.2 hd (fun q H1 hP1 hD1 hS1 => ?_)
  rw [List.append_assoc, hL] at hP1 hD1
  exact k q H1 locs ls hP1 hD1 hS1 hl
theorem n_newa_int (C : OK0 X cc nL own) {n : Int32} {N : Nat} {L2 : Nat → va_W} (hL : ∀ q, L ++ [(q, .inl ((xG X).2.2.1 0, N, .inl (fun _ => 0)))] = L2 q) (harr : Cond.arrayClass .int ∈ GT) (hn : ¬ n < 0) (hN : n.toNatClampNeg = N) (hby : N ≤ 60000) (hcs : cells + 1 ≤ (xR X).cells ∧ slots + N ≤ (xR X).slots) (hd : decode cc pc = .ok (.newarray .int, 2)) (k : ∀ q : Nat, VN X nL ws (L2 q) (cells + 1) (slots + N) (pc + 2) lv (.ref q :: st)) : VN X nL ws L cells slots pc lv (.int n :: st) := by
  obtain ⟨p, e9, R, s, m, args, below, meth, c, Q, l, D, cA, ad, L0, sK, sV⟩ := X
  obtain ⟨hx, hb, hml, hown, hts, hT, hlk⟩ := C
  intro H locs ls hP hD hS hl
  refine va_newa (atype := .int) (a0 := (N, .inl (fun _ => 0))) hx hb (hts _ harr) rfl hT.1 hP hD hS (fun q h9 => Nat.le_trans hT.2.2.1 h9) (fun _ => rfl) hn hN (Nat.le_trans (Nat.mul_le_mul hby (show componentBytes .int ≤ 8 by decide)) (by decide)) hcs.1 hcs.2 hd (fun q cB H1 hK1 hP1 hD1 hS1 => ?_)
  have e1 : s.vm.findClass ("[" ++ (FieldType.toString .int)) = some (cA 0) := (hT.1.2 0 (cA 0, .int) rfl).2
  have e2 : s.vm.findClass ("[" ++ (FieldType.toString .int)) = some cB := (hK1.2 4 (cB, .int) rfl).2
  have e3 : cB = cA 0 := Option.some.inj (e2.symm.trans e1)
  subst e3
  rw [List.append_assoc] at hP1 hD1
  have hL1 : L ++ [(q, .inl (cA 0, N, .inl (fun _ => 0)))] = L2 q := hL q
  rw [hL1] at hP1 hD1
  exact k q H1 locs ls hP1 hD1 hS1 hl
theorem n_newa_byte (C : OK0 X cc nL own) {n : Int32} {N : Nat} {L2 : Nat → va_W} (hL : ∀ q, L ++ [(q, .inl ((xG X).2.2.1 1, N, .inl (fun _ => 0)))] = L2 q) (harr : Cond.arrayClass .byte ∈ GT) (hn : ¬ n < 0) (hN : n.toNatClampNeg = N) (hby : N ≤ 60000) (hcs : cells + 1 ≤ (xR X).cells ∧ slots + N ≤ (xR X).slots) (hd : decode cc pc = .ok (.newarray .byte, 2)) (k : ∀ q : Nat, VN X nL ws (L2 q) (cells + 1) (slots + N) (pc + 2) lv (.ref q :: st)) : VN X nL ws L cells slots pc lv (.int n :: st) := by
  obtain ⟨p, e9, R, s, m, args, below, meth, c, Q, l, D, cA, ad, L0, sK, sV⟩ := X
  obtain ⟨hx, hb, hml, hown, hts, hT, hlk⟩ := C
  intro H locs ls hP hD hS hl
  refine va_newa (atype := .byte) (a0 := (N, .inl (fun _ => 0))) hx hb (hts _ harr) rfl hT.1 hP hD hS (fun q h9 => Nat.le_trans hT.2.2.1 h9) (fun _ => rfl) hn hN (Nat.le_trans (Nat.mul_le_mul hby (show componentBytes .byte ≤ 8 by decide)) (by decide)) hcs.1 hcs.2 hd (fun q cB H1 hK1 hP1 hD1 hS1 => ?_)
  have e1 : s.vm.findClass ("[" ++ (FieldType.toString .byte)) = some (cA 1) := (hT.1.2 1 (cA 1, .byte) rfl).2
  have e2 : s.vm.findClass ("[" ++ (FieldType.toString .byte)) = some cB := (hK1.2 4 (cB, .byte) rfl).2
  have e3 : cB = cA 1 := Option.some.inj (e2.symm.trans e1)
  subst e3
  rw [List.append_assoc] at hP1 hD1
  have hL1 : L ++ [(q, .inl (cA 1, N, .inl (fun _ => 0)))] = L2 q := hL q
  rw [hL1] at hP1 hD1
  exact k q H1 locs ls hP1 hD1 hS1 hl
theorem n_newa_long (C : OK0 X cc nL own) {n : Int32} {N : Nat} {L2 : Nat → va_W} (hL : ∀ q, L ++ [(q, .inl ((xG X).2.2.1 2, N, .inr (.inl (fun _ => 0))))] = L2 q) (harr : Cond.arrayClass .long ∈ GT) (hn : ¬ n < 0) (hN : n.toNatClampNeg = N) (hby : N ≤ 60000) (hcs : cells + 1 ≤ (xR X).cells ∧ slots + N ≤ (xR X).slots) (hd : decode cc pc = .ok (.newarray .long, 2)) (k : ∀ q : Nat, VN X nL ws (L2 q) (cells + 1) (slots + N) (pc + 2) lv (.ref q :: st)) : VN X nL ws L cells slots pc lv (.int n :: st) := by
  obtain ⟨p, e9, R, s, m, args, below, meth, c, Q, l, D, cA, ad, L0, sK, sV⟩ := X
  obtain ⟨hx, hb, hml, hown, hts, hT, hlk⟩ := C
  intro H locs ls hP hD hS hl
  refine va_newa (atype := .long) (a0 := (N, .inr (.inl (fun _ => 0)))) hx hb (hts _ harr) rfl hT.1 hP hD hS (fun q h9 => Nat.le_trans hT.2.2.1 h9) (fun _ => rfl) hn hN (Nat.le_trans (Nat.mul_le_mul hby (show componentBytes .long ≤ 8 by decide)) (by decide)) hcs.1 hcs.2 hd (fun q cB H1 hK1 hP1 hD1 hS1 => ?_)
  have e1 : s.vm.findClass ("[" ++ (FieldType.toString .long)) = some (cA 2) := (hT.1.2 2 (cA 2, .long) rfl).2
  have e2 : s.vm.findClass ("[" ++ (FieldType.toString .long)) = some cB := (hK1.2 4 (cB, .long) rfl).2
  have e3 : cB = cA 2 := Option.some.inj (e2.symm.trans e1)
  subst e3
  rw [List.append_assoc] at hP1 hD1
  have hL1 : L ++ [(q, .inl (cA 2, N, .inr (.inl (fun _ => 0))))] = L2 q := hL q
  rw [hL1] at hP1 hD1
  exact k q H1 locs ls hP1 hD1 hS1 hl
theorem n_init (C : OK0 X cc nL own) {y : MethodName} {cc2 : ByteArray} {maxL2 fr lo nc ns ci index : Nat} {host : String} {fs0 : List Value} {blk : (Nat → Nat) → va_W} {q : Nat} {L1 : va_W} {L2 : (Nat → Nat) → va_W} (hM : MK (xG X) y cc2 maxL2 fr lo nc ns ci fs0 blk) (hL : L = L1 ++ [(q, .inr (ci, fs0))]) (hL2 : ∀ a, L1 ++ blk a = L2 a) (hn : y.name = "<init>") (hw : Cond.code y cc2 maxL2 none ∈ GT ∧ Cond.initialized y.cls ∈ GT ∧ (y.cls ≠ "java/lang/invoke/MethodHandle" ∧ y.cls ≠ "java/lang/invoke/VarHandle" ∧ (parseMethodDescriptor y.desc).map (fun d => d.parameters.length) = some 0) ∧ Cond.methodLink own index y ∈ GT ∧ Cond.instanceMethod y ∈ GT) (hcat : (st.map fun v => v.category).sum ≤ 8) (hR : fr + 1 ≤ (xR X).frames ∧ 8 + (maxL2 + 11) + lo ≤ (xR X).locals) (hcs : cells + nc ≤ (xR X).cells ∧ slots + ns ≤ (xR X).slots) (hd : decode cc pc = .ok (.invokespecial index, 3)) (k : ∀ a : Nat → Nat, a 0 = q → VN X nL ws (L2 a) (cells + nc) (slots + ns) (pc + 3) lv st) : VN X nL ws L cells slots pc lv (.ref q :: st) := by
  obtain ⟨p, e9, R, s, m, args, below, meth, c, Q, l, D, cA, ad, L0, sK, sV⟩ := X
  obtain ⟨hx, hb, hml, hown, hts, hT, hlk⟩ := C
  intro H locs ls hP hD hS hl
  subst hL
  have hP0 : va_P D vwCl ((ws ++ L1) ++ [(q, .inr (ci, fs0))]) H := by rw [List.append_assoc]; exact hP
  have hD0 : va_D (fun q => L0 ≤ q) ((ws ++ L1) ++ [(q, .inr (ci, fs0))]) := by rw [List.append_assoc]; exact hD
  have hrun := va_runI (H := H) (locs := locs) (cells := cells) (slots := slots) (below := below) (e := e9) (meth := meth) (g := F0 m pc ls (.ref q :: st)) (As := []) (rest := st) ⟨hx, hb, hml, hown, hts⟩ (hM (ws ++ L1) q) ⟨callB_of 0 hts (gt_wsy hw.1) rfl rfl rfl (hts _ hw.2.1) (hts _ hw.2.2.2.1) hw.2.2.1 hR, hn, hts _ hw.2.2.2.2⟩ ⟨fun a U g mk z => ⟨z.1, z.2.1, z.2.2.1, z.2.2.2.blind g mk a⟩, fun U hU hW => ⟨rfl, by rw [hU]; exact hP0, hD0, hT.call hW hU hS⟩⟩ rfl rfl hl.1 rfl (lv_room hcat) hd hcs
  intro T9 hT9 X9
  obtain ⟨v, st₀, t, T', L9, h0, X', hL9, e1, e2, ⟨hv, a, ha, hp, hd2, hz, hk⟩, hst⟩ := hrun T9 hT9 X9
  cases hv
  rw [h0] at hz hk
  rw [List.append_assoc, hL2] at hp hd2
  obtain ⟨t2, a1, b1⟩ := k a ha T'.heap (locs ++ L9) ls (by rw [e1]; exact hp) hd2
    ⟨Nat.le_trans hS.1 (by rw [e1]; exact hz), fun q h1 h2 => by rw [e1, hk q (Nat.lt_of_lt_of_le h1 hS.1) h2]; exact hS.2.1 q h1 h2, fun q hq => by
      rcases List.mem_append.mp hq with h | h
      · exact hS.2.2 q h
      · exact hL9 q h⟩ hl T' rfl X'
  exact ⟨t2, hst t2 a1, b1⟩
theorem n_initN (C : OK0 X cc nL own) {y : MethodName} {cc2 : ByteArray} {maxL2 fr lo nc ns ci index : Nat} {host : String} {fs0 : List Value} {blk : (Nat → Nat) → va_W} {q : Nat} {L1 : va_W} {L2 : (Nat → Nat) → va_W} (hM : MK (xG X) y cc2 maxL2 fr lo nc ns ci fs0 blk) (hL : L = L1 ++ [(q, .inr (ci, fs0))]) (hL2 : ∀ a, L1 ++ blk a = L2 a) (hn : y.name = "<init>") (hw : Cond.code y cc2 maxL2 none ∈ GT ∧ Cond.initialized y.cls ∈ GT ∧ (y.cls ≠ "java/lang/invoke/MethodHandle" ∧ y.cls ≠ "java/lang/invoke/VarHandle" ∧ (parseMethodDescriptor y.desc).map (fun d => d.parameters.length) = some 0) ∧ Cond.methodLinkNest own index y host ∈ NW ∧ Cond.instanceMethod y ∈ GT) (hcat : (st.map fun v => v.category).sum ≤ 8) (hR : fr + 1 ≤ (xR X).frames ∧ 8 + (maxL2 + 11) + lo ≤ (xR X).locals) (hcs : cells + nc ≤ (xR X).cells ∧ slots + ns ≤ (xR X).slots) (hd : decode cc pc = .ok (.invokespecial index, 3)) (k : ∀ a : Nat → Nat, a 0 = q → VN X nL ws (L2 a) (cells + nc) (slots + ns) (pc + 3) lv st) : VN X nL ws L cells slots pc lv (.ref q :: st) := by
  obtain ⟨p, e9, R, s, m, args, below, meth, c, Q, l, D, cA, ad, L0, sK, sV⟩ := X
  obtain ⟨hx, hb, hml, hown, hts, hT, hlk⟩ := C
  intro H locs ls hP hD hS hl
  subst hL
  have hP0 : va_P D vwCl ((ws ++ L1) ++ [(q, .inr (ci, fs0))]) H := by rw [List.append_assoc]; exact hP
  have hD0 : va_D (fun q => L0 ≤ q) ((ws ++ L1) ++ [(q, .inr (ci, fs0))]) := by rw [List.append_assoc]; exact hD
  have hrun := va_runIN (H := H) (locs := locs) (cells := cells) (slots := slots) (below := below) (e := e9) (meth := meth) (g := F0 m pc ls (.ref q :: st)) (As := []) (rest := st) ⟨hx, hb, hml, hown, hts⟩ (hM (ws ++ L1) q) ⟨va_cnB 0 hts (gt_wsy hw.1) rfl rfl rfl (hT.2.1 _ hw.2.2.2.1) (hts _ hw.2.1) hw.2.2.1 hR, hn, hts _ hw.2.2.2.2⟩ ⟨fun a U g mk z => ⟨z.1, z.2.1, z.2.2.1, z.2.2.2.blind g mk a⟩, fun U hU hW => ⟨rfl, by rw [hU]; exact hP0, hD0, hT.call hW hU hS⟩⟩ rfl rfl hl.1 rfl (lv_room hcat) hd hcs
  intro T9 hT9 X9
  obtain ⟨v, st₀, t, T', L9, h0, X', hL9, e1, e2, ⟨hv, a, ha, hp, hd2, hz, hk⟩, hst⟩ := hrun T9 hT9 X9
  cases hv
  rw [h0] at hz hk
  rw [List.append_assoc, hL2] at hp hd2
  obtain ⟨t2, a1, b1⟩ := k a ha T'.heap (locs ++ L9) ls (by rw [e1]; exact hp) hd2
    ⟨Nat.le_trans hS.1 (by rw [e1]; exact hz), fun q h1 h2 => by rw [e1, hk q (Nat.lt_of_lt_of_le h1 hS.1) h2]; exact hS.2.1 q h1 h2, fun q hq => by
      rcases List.mem_append.mp hq with h | h
      · exact hS.2.2 q h
      · exact hL9 q h⟩ hl T' rfl X'
  exact ⟨t2, hst t2 a1, b1⟩
theorem n_ret (C : OK0 X cc nL own) (hI : INI X) {blk : (Nat → Nat) → va_W} {q0 : Nat} (hF : FinK X ws blk q0 cells slots) (a : Nat → Nat) (ha : a 0 = q0) (hL : blk a = L) (hd : decode cc pc = .ok (.return_, 1)) : VN X nL ws L cells slots pc lv [] := by
  obtain ⟨p, e9, R, s, m, args, below, meth, c, Q, l, D, cA, ad, L0, sK, sV⟩ := X
  obtain ⟨hx, hb, hml, hown, hts, hT, hlk⟩ := C
  intro H locs ls hP hD hS hl
  subst hL
  exact W.mono (W.vret (Qc := gKq (l, D, cA, ad, L0, sK, sV) ws blk q0) (free := fun q => L0 ≤ q) hx hb hI.2 (fun t ht hW => ⟨rfl, a, ha, by rw [ht]; exact hP, hD, hS.F ht⟩) hS.2.2 hd hlk) hF
theorem n_cs {c2 s2 : Nat} (h1 : cells = c2) (h2 : slots = s2) (k : VN X nL ws L c2 s2 pc lv st) : VN X nL ws L cells slots pc lv st := by subst h1; subst h2; exact k
end CTOR
def vF (l : List Nat) : Nat → Nat := fun j => l.getD j 0
theorem zk {X : Cx} {F Lc c1 s1 a b : Nat} (hR : xR X = { frames := F, cells := c1, slots := s1, locals := Lc }) (h1 : Nat.ble a c1 = true) (h2 : Nat.ble b s1 = true) : a ≤ (xR X).cells ∧ b ≤ (xR X).slots := by rw [hR]; exact ⟨Nat.le_of_ble_eq_true h1, Nat.le_of_ble_eq_true h2⟩
theorem zkf {X : Cx} {F Lc c1 s1 b : Nat} (hR : xR X = { frames := F, cells := c1, slots := s1, locals := Lc }) (h1 : Nat.ble 1 F = true) (h2 : Nat.ble b Lc = true) : 1 ≤ (xR X).frames ∧ b ≤ (xR X).locals := by rw [hR]; exact ⟨Nat.le_of_ble_eq_true h1, Nat.le_of_ble_eq_true h2⟩
theorem ga_int : Cond.arrayClass .int ∈ GT := gt_in 260 (by decide +kernel) rfl
theorem ga_byte : Cond.arrayClass .byte ∈ GT := gt_in 226 (by decide +kernel) rfl
theorem ga_long : Cond.arrayClass .long ∈ GT := gt_in 2111 (by decide +kernel) rfl

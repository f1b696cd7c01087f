/-! calls of an inherited method, and of one that a subtype has; rooms with variables -/
def CWU (own : String) (index : Nat) (C0 owner : String) (x y : MethodName) (cc2 : ByteArray) (maxL2 : Nat) (ret2 : Option FieldType) (n : Nat) : Prop :=
  Cond.code y cc2 maxL2 ret2 ∈ GT ∧ Cond.methodLink own index x ∈ GT ∧ Cond.sameMethod x.cls owner x.name x.desc ∈ GT ∧ Cond.selects C0 x y ∈ GT ∧ Cond.instanceMethod y ∈ GT ∧ Cond.initialized y.cls ∈ GT ∧ Cond.declares ⟨owner, x.name, x.desc⟩ ∈ NW ∧ (owner ≠ "java/lang/invoke/MethodHandle" ∧ owner ≠ "java/lang/invoke/VarHandle" ∧ (parseMethodDescriptor x.desc).map (fun d => d.parameters.length) = some n)
theorem zs1 {X : Cx} {F L : Nat} (hR : xR X = { frames := F, cells := 0, slots := 0, locals := L }) (h : 1 ≤ F) : 1 ≤ (xR X).frames := by rw [hR]; exact h
theorem zs2 {X : Cx} {F L fr lo maxL2 : Nat} (hR : xR X = { frames := F, cells := 0, slots := 0, locals := L }) (h1 : fr + 1 ≤ F) (h2 : 8 + (maxL2 + 11) + lo ≤ L) : fr + 1 ≤ (xR X).frames ∧ 8 + (maxL2 + 11) + lo ≤ (xR X).locals := by rw [hR]; exact ⟨h1, h2⟩
section CALLU
variable {X : Cx} {cc : ByteArray} {nL : Nat} {own : String} {ret : Option FieldType} {h : Hp} {cells slots pc : Nat} {lv : List (Nat × Value)} {st : List Value}
theorem r_callUi (C : OK X cc nL own ret) {C0 owner : String} {x y : MethodName} {cc2 : ByteArray} {maxL2 : Nat} {ret2 : Option FieldType} {fr lo index n : Nat} {As : List Value} {st0 : List Value} {h2 : Hp} {rv : Int32} (k : Nat) {ci N : Nat} {fs : List (Option Nat)} {T : u_T} (hdc : dsc k = .inl (ci, fs)) (hk : k < NC) (hc : vwCl[ci]? = some (C0, T, N)) (hM : MC (xG X) y cc2 maxL2 ret2 fr lo h (.ref (gad (xG X) k) :: As) (some (.int rv)) h2) (hw : CWU own index C0 owner x y cc2 maxL2 ret2 n) (hn : As.length = n) (hst : st0 = As.reverse ++ .ref (gad (xG X) k) :: st) (hcat : (st.map fun v => v.category).sum ≤ 8) (hR : fr + 1 ≤ (xR X).frames ∧ 8 + (maxL2 + 11) + lo ≤ (xR X).locals) (hcs : cells ≤ (xR X).cells ∧ slots ≤ (xR X).slots) (hd : decode cc pc = .ok (.invokevirtual index, 3)) (kk : VW X nL h2 cells slots (pc + 3) lv (.int rv :: st)) : VW X nL h cells slots pc lv st0 := by
  obtain ⟨p, e9, R, s, m, args, below, meth, c, Q, l, D, cA, ad, L0, sK, sV⟩ := X
  obtain ⟨hx, hb, hml, hown, hts, hT, hr, hlk⟩ := C
  intro H locs ls hP hS hl
  subst hst
  obtain ⟨w1, w2, w3, w4, w5, w6, w7, w8⟩ := hw
  have hG : GoodIn GT (va_wsU own index C0 owner x y (wsy y cc2 maxL2 ret2)) := by
    intro w hw
    rcases List.mem_append.mp hw with hw | hw
    · simp only [List.mem_cons, List.not_mem_nil, or_false] at hw
      rcases hw with rfl | rfl | rfl | rfl | rfl
      · exact ⟨w2, gt_good w2⟩
      · exact ⟨w3, gt_good w3⟩
      · exact ⟨w4, gt_good w4⟩
      · exact ⟨w5, gt_good w5⟩
      · exact ⟨w6, gt_good w6⟩
    · exact gt_wsy w1 w hw
  have e1 : (wd cA ad h)[k]? = some (ad k, .inr (ci, valsF ad (h k) fs 0)) := by rw [wd_get hk, cellE_obj hdc]
  refine r_after (va_runU (As := As) (rest := st) ⟨hx, hb, hml, hown, hts⟩ hM (va_cwA n hts hG rfl rfl rfl (hT.2.1 _ w7) w8 hR) ⟨gPc.blind, va_recv hT.1 hP hc e1, fun U hU hW => ⟨rfl, by rw [hU]; exact hP, hT.call hW hU hS⟩⟩ rfl hn hl.1 rfl (lv_room hcat) hd hcs) hS (fun H1 locs1 hP1 hS1 => ?_)
  exact kk H1 locs1 ls hP1 hS1 hl
theorem r_callUv (C : OK X cc nL own ret) {C0 owner : String} {x y : MethodName} {cc2 : ByteArray} {maxL2 : Nat} {ret2 : Option FieldType} {fr lo index n : Nat} {As : List Value} {st0 : List Value} {h2 : Hp} (k : Nat) {ci N : Nat} {fs : List (Option Nat)} {T : u_T} (hdc : dsc k = .inl (ci, fs)) (hk : k < NC) (hc : vwCl[ci]? = some (C0, T, N)) (hM : MC (xG X) y cc2 maxL2 ret2 fr lo h (.ref (gad (xG X) k) :: As) none h2) (hw : CWU own index C0 owner x y cc2 maxL2 ret2 n) (hn : As.length = n) (hst : st0 = As.reverse ++ .ref (gad (xG X) k) :: st) (hcat : (st.map fun v => v.category).sum ≤ 8) (hR : fr + 1 ≤ (xR X).frames ∧ 8 + (maxL2 + 11) + lo ≤ (xR X).locals) (hcs : cells ≤ (xR X).cells ∧ slots ≤ (xR X).slots) (hd : decode cc pc = .ok (.invokevirtual index, 3)) (kk : VW X nL h2 cells slots (pc + 3) lv st) : VW X nL h cells slots pc lv st0 := by
  obtain ⟨p, e9, R, s, m, args, below, meth, c, Q, l, D, cA, ad, L0, sK, sV⟩ := X
  obtain ⟨hx, hb, hml, hown, hts, hT, hr, hlk⟩ := C
  intro H locs ls hP hS hl
  subst hst
  obtain ⟨w1, w2, w3, w4, w5, w6, w7, w8⟩ := hw
  have hG : GoodIn GT (va_wsU own index C0 owner x y (wsy y cc2 maxL2 ret2)) := by
    intro w hw
    rcases List.mem_append.mp hw with hw | hw
    · simp only [List.mem_cons, List.not_mem_nil, or_false] at hw
      rcases hw with rfl | rfl | rfl | rfl | rfl
      · exact ⟨w2, gt_good w2⟩
      · exact ⟨w3, gt_good w3⟩
      · exact ⟨w4, gt_good w4⟩
      · exact ⟨w5, gt_good w5⟩
      · exact ⟨w6, gt_good w6⟩
    · exact gt_wsy w1 w hw
  have e1 : (wd cA ad h)[k]? = some (ad k, .inr (ci, valsF ad (h k) fs 0)) := by rw [wd_get hk, cellE_obj hdc]
  refine r_after (va_runU (As := As) (rest := st) ⟨hx, hb, hml, hown, hts⟩ hM (va_cwA n hts hG rfl rfl rfl (hT.2.1 _ w7) w8 hR) ⟨gPc.blind, va_recv hT.1 hP hc e1, fun U hU hW => ⟨rfl, by rw [hU]; exact hP, hT.call hW hU hS⟩⟩ rfl hn hl.1 rfl (lv_room hcat) hd hcs) hS (fun H1 locs1 hP1 hS1 => ?_)
  exact kk H1 locs1 ls hP1 hS1 hl
end CALLU

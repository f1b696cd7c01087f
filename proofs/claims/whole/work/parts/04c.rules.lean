section RULES
variable {X : Cx} {cc : ByteArray} {nL : Nat} {own : String} {ret : Option FieldType} {h : Hp} {cells slots pc : Nat} {lv : List (Nat × Value)} {st : List Value}

theorem r_iconst (C : OK X cc nL own ret) {n : Int} {v : Int32} (hd : decode cc pc = .ok (.iconst n, 1)) (hv : Int32.ofInt n = v) (k : VW X nL h cells slots (pc + 1) lv (.int v :: st)) : VW X nL h cells slots pc lv st := by
  obtain ⟨p, e, R, s, m, args, below, meth, c, Q, l, D, cA, ad, L0, sK, sV⟩ := X
  obtain ⟨hx, hb, hml, hown, hts, hT, hr, hlk⟩ := C
  intro H locs ls hP hS hl
  exact lv_iconst hx hb hd hv (k H locs ls hP hS hl)
theorem r_bipush (C : OK X cc nL own ret) {n : Int} {v : Int32} (hd : decode cc pc = .ok (.bipush n, 2)) (hv : (Int8.ofInt n).toInt32 = v) (k : VW X nL h cells slots (pc + 2) lv (.int v :: st)) : VW X nL h cells slots pc lv st := by
  obtain ⟨p, e, R, s, m, args, below, meth, c, Q, l, D, cA, ad, L0, sK, sV⟩ := X
  obtain ⟨hx, hb, hml, hown, hts, hT, hr, hlk⟩ := C
  intro H locs ls hP hS hl
  exact lv_bipush hx hb hd hv (k H locs ls hP hS hl)
theorem r_sipush (C : OK X cc nL own ret) {n : Int} {v : Int32} (hd : decode cc pc = .ok (.sipush n, 3)) (hv : (Int16.ofInt n).toInt32 = v) (k : VW X nL h cells slots (pc + 3) lv (.int v :: st)) : VW X nL h cells slots pc lv st := by
  obtain ⟨p, e, R, s, m, args, below, meth, c, Q, l, D, cA, ad, L0, sK, sV⟩ := X
  obtain ⟨hx, hb, hml, hown, hts, hT, hr, hlk⟩ := C
  intro H locs ls hP hS hl
  exact lv_sipush hx hb hd hv (k H locs ls hP hS hl)
theorem r_lconst (C : OK X cc nL own ret) {n : Fin 2} {v : Int64} (hd : decode cc pc = .ok (.lconst n, 1)) (hv : Int64.ofNat (n : Nat) = v) (k : VW X nL h cells slots (pc + 1) lv (.long v :: st)) : VW X nL h cells slots pc lv st := by
  obtain ⟨p, e, R, s, m, args, below, meth, c, Q, l, D, cA, ad, L0, sK, sV⟩ := X
  obtain ⟨hx, hb, hml, hown, hts, hT, hr, hlk⟩ := C
  intro H locs ls hP hS hl
  exact lv_lconst hx hb hd hv (k H locs ls hP hS hl)
theorem r_ldc (C : OK X cc nL own ret) {v : Int32} {index : Nat} (hd : decode cc pc = .ok (.ldc index, 2)) (hw : Cond.constant own index v ∈ GT) (k : VW X nL h cells slots (pc + 2) lv (.int v :: st)) : VW X nL h cells slots pc lv st := by
  obtain ⟨p, e, R, s, m, args, below, meth, c, Q, l, D, cA, ad, L0, sK, sV⟩ := X
  obtain ⟨hx, hb, hml, hown, hts, hT, hr, hlk⟩ := C
  intro H locs ls hP hS hl
  exact lv_ldc hx hb hown (hts _ hw) hd (k H locs ls hP hS hl)
theorem r_ldcw (C : OK X cc nL own ret) {v : Int32} {index : Nat} (hd : decode cc pc = .ok (.ldc_w index, 3)) (hw : Cond.constant own index v ∈ GT) (k : VW X nL h cells slots (pc + 3) lv (.int v :: st)) : VW X nL h cells slots pc lv st := by
  obtain ⟨p, e, R, s, m, args, below, meth, c, Q, l, D, cA, ad, L0, sK, sV⟩ := X
  obtain ⟨hx, hb, hml, hown, hts, hT, hr, hlk⟩ := C
  intro H locs ls hP hS hl
  exact lv_ldcw hx hb hown (hts _ hw) hd (k H locs ls hP hS hl)
theorem r_ldc2 (C : OK X cc nL own ret) {v : Int64} {index : Nat} (hd : decode cc pc = .ok (.ldc2_w index, 3)) (hw : Cond.constantLong own index v ∈ GT) (k : VW X nL h cells slots (pc + 3) lv (.long v :: st)) : VW X nL h cells slots pc lv st := by
  obtain ⟨p, e, R, s, m, args, below, meth, c, Q, l, D, cA, ad, L0, sK, sV⟩ := X
  obtain ⟨hx, hb, hml, hown, hts, hT, hr, hlk⟩ := C
  intro H locs ls hP hS hl
  exact lv_ldc2 hx hb hown (hts _ hw) hd (k H locs ls hP hS hl)
theorem r_iload_n (C : OK X cc nL own ret) {k : Fin 4} {i : Nat} {x : Int32} (hd : decode cc pc = .ok (.iload_n k, 1)) (hi : (k : Nat) = i) (j : Nat) (hj : lv[j]? = some (i, .int x)) (kk : VW X nL h cells slots (pc + 1) lv (.int x :: st)) : VW X nL h cells slots pc lv st := by
  obtain ⟨p, e, R, s, m, args, below, meth, c, Q, l, D, cA, ad, L0, sK, sV⟩ := X
  obtain ⟨hx, hb, hml, hown, hts, hT, hr, hlk⟩ := C
  intro H locs ls hP hS hl
  exact lv_iload_n hx hb hd hi (lv_at hl j hj) (kk H locs ls hP hS hl)
theorem r_iload (C : OK X cc nL own ret) {i : Nat} {x : Int32} (hd : decode cc pc = .ok (.iload i, 2)) (j : Nat) (hj : lv[j]? = some (i, .int x)) (kk : VW X nL h cells slots (pc + 2) lv (.int x :: st)) : VW X nL h cells slots pc lv st := by
  obtain ⟨p, e, R, s, m, args, below, meth, c, Q, l, D, cA, ad, L0, sK, sV⟩ := X
  obtain ⟨hx, hb, hml, hown, hts, hT, hr, hlk⟩ := C
  intro H locs ls hP hS hl
  exact lv_iload hx hb hd (lv_at hl j hj) (kk H locs ls hP hS hl)
theorem r_aload_n (C : OK X cc nL own ret) {k : Fin 4} {i : Nat} {x : Nat} (hd : decode cc pc = .ok (.aload_n k, 1)) (hi : (k : Nat) = i) (j : Nat) (hj : lv[j]? = some (i, .ref x)) (kk : VW X nL h cells slots (pc + 1) lv (.ref x :: st)) : VW X nL h cells slots pc lv st := by
  obtain ⟨p, e, R, s, m, args, below, meth, c, Q, l, D, cA, ad, L0, sK, sV⟩ := X
  obtain ⟨hx, hb, hml, hown, hts, hT, hr, hlk⟩ := C
  intro H locs ls hP hS hl
  exact lv_aload_n hx hb hd hi (lv_at hl j hj) (kk H locs ls hP hS hl)
theorem r_aload (C : OK X cc nL own ret) {i : Nat} {x : Nat} (hd : decode cc pc = .ok (.aload i, 2)) (j : Nat) (hj : lv[j]? = some (i, .ref x)) (kk : VW X nL h cells slots (pc + 2) lv (.ref x :: st)) : VW X nL h cells slots pc lv st := by
  obtain ⟨p, e, R, s, m, args, below, meth, c, Q, l, D, cA, ad, L0, sK, sV⟩ := X
  obtain ⟨hx, hb, hml, hown, hts, hT, hr, hlk⟩ := C
  intro H locs ls hP hS hl
  exact lv_aload hx hb hd (lv_at hl j hj) (kk H locs ls hP hS hl)
theorem r_lload_n (C : OK X cc nL own ret) {k : Fin 4} {i : Nat} {x : Int64} (hd : decode cc pc = .ok (.lload_n k, 1)) (hi : (k : Nat) = i) (j : Nat) (hj : lv[j]? = some (i, .long x)) (kk : VW X nL h cells slots (pc + 1) lv (.long x :: st)) : VW X nL h cells slots pc lv st := by
  obtain ⟨p, e, R, s, m, args, below, meth, c, Q, l, D, cA, ad, L0, sK, sV⟩ := X
  obtain ⟨hx, hb, hml, hown, hts, hT, hr, hlk⟩ := C
  intro H locs ls hP hS hl
  exact lv_lload_n hx hb hd hi (lv_at hl j hj) (kk H locs ls hP hS hl)
theorem r_lload (C : OK X cc nL own ret) {i : Nat} {x : Int64} (hd : decode cc pc = .ok (.lload i, 2)) (j : Nat) (hj : lv[j]? = some (i, .long x)) (kk : VW X nL h cells slots (pc + 2) lv (.long x :: st)) : VW X nL h cells slots pc lv st := by
  obtain ⟨p, e, R, s, m, args, below, meth, c, Q, l, D, cA, ad, L0, sK, sV⟩ := X
  obtain ⟨hx, hb, hml, hown, hts, hT, hr, hlk⟩ := C
  intro H locs ls hP hS hl
  exact lv_lload hx hb hd (lv_at hl j hj) (kk H locs ls hP hS hl)
theorem r_istore_n (C : OK X cc nL own ret) {k : Fin 4} {i : Nat} {x : Int32} {lv' : List (Nat × Value)} (hd : decode cc pc = .ok (.istore_n k, 1)) (hi : (k : Nat) = i) (hn : i < nL) (is : List Nat) (hl9 : is.filterMap (fun j => ((i, Value.int x) :: lv.filter (fun q => !(q.1 == i) && !(q.1 + 1 == i && q.2.category == 2)))[j]?) = lv') (kk : VW X nL h cells slots (pc + 1) lv' st) : VW X nL h cells slots pc lv (.int x :: st) := by
  obtain ⟨p, e, R, s, m, args, below, meth, c, Q, l, D, cA, ad, L0, sK, sV⟩ := X
  obtain ⟨hx, hb, hml, hown, hts, hT, hr, hlk⟩ := C
  intro H locs ls hP hS hl
  exact lv_istore_n hx hb hd hi hl hn rfl (fun ls2 hl2 => kk H locs ls2 hP hS (lv_sub hl2 is hl9))
theorem r_istore (C : OK X cc nL own ret) {i : Nat} {x : Int32} {lv' : List (Nat × Value)} (hd : decode cc pc = .ok (.istore i, 2)) (hn : i < nL) (is : List Nat) (hl9 : is.filterMap (fun j => ((i, Value.int x) :: lv.filter (fun q => !(q.1 == i) && !(q.1 + 1 == i && q.2.category == 2)))[j]?) = lv') (kk : VW X nL h cells slots (pc + 2) lv' st) : VW X nL h cells slots pc lv (.int x :: st) := by
  obtain ⟨p, e, R, s, m, args, below, meth, c, Q, l, D, cA, ad, L0, sK, sV⟩ := X
  obtain ⟨hx, hb, hml, hown, hts, hT, hr, hlk⟩ := C
  intro H locs ls hP hS hl
  exact lv_istore hx hb hd hl hn rfl (fun ls2 hl2 => kk H locs ls2 hP hS (lv_sub hl2 is hl9))
theorem r_astore_n (C : OK X cc nL own ret) {k : Fin 4} {i : Nat} {x : Nat} {lv' : List (Nat × Value)} (hd : decode cc pc = .ok (.astore_n k, 1)) (hi : (k : Nat) = i) (hn : i < nL) (is : List Nat) (hl9 : is.filterMap (fun j => ((i, Value.ref x) :: lv.filter (fun q => !(q.1 == i) && !(q.1 + 1 == i && q.2.category == 2)))[j]?) = lv') (kk : VW X nL h cells slots (pc + 1) lv' st) : VW X nL h cells slots pc lv (.ref x :: st) := by
  obtain ⟨p, e, R, s, m, args, below, meth, c, Q, l, D, cA, ad, L0, sK, sV⟩ := X
  obtain ⟨hx, hb, hml, hown, hts, hT, hr, hlk⟩ := C
  intro H locs ls hP hS hl
  exact lv_astore_n hx hb hd hi hl hn rfl (fun ls2 hl2 => kk H locs ls2 hP hS (lv_sub hl2 is hl9))
theorem r_astore (C : OK X cc nL own ret) {i : Nat} {x : Nat} {lv' : List (Nat × Value)} (hd : decode cc pc = .ok (.astore i, 2)) (hn : i < nL) (is : List Nat) (hl9 : is.filterMap (fun j => ((i, Value.ref x) :: lv.filter (fun q => !(q.1 == i) && !(q.1 + 1 == i && q.2.category == 2)))[j]?) = lv') (kk : VW X nL h cells slots (pc + 2) lv' st) : VW X nL h cells slots pc lv (.ref x :: st) := by
  obtain ⟨p, e, R, s, m, args, below, meth, c, Q, l, D, cA, ad, L0, sK, sV⟩ := X
  obtain ⟨hx, hb, hml, hown, hts, hT, hr, hlk⟩ := C
  intro H locs ls hP hS hl
  exact lv_astore hx hb hd hl hn rfl (fun ls2 hl2 => kk H locs ls2 hP hS (lv_sub hl2 is hl9))
theorem r_lstore_n (C : OK X cc nL own ret) {k : Fin 4} {i : Nat} {x : Int64} {lv' : List (Nat × Value)} (hd : decode cc pc = .ok (.lstore_n k, 1)) (hi : (k : Nat) = i) (hn : i + 1 < nL) (is : List Nat) (hl9 : is.filterMap (fun j => ((i, Value.long x) :: lv.filter (fun q => !(q.1 == i) && (!(q.1 == i + 1) && !(q.1 + 1 == i && q.2.category == 2))))[j]?) = lv') (kk : VW X nL h cells slots (pc + 1) lv' st) : VW X nL h cells slots pc lv (.long x :: st) := by
  obtain ⟨p, e, R, s, m, args, below, meth, c, Q, l, D, cA, ad, L0, sK, sV⟩ := X
  obtain ⟨hx, hb, hml, hown, hts, hT, hr, hlk⟩ := C
  intro H locs ls hP hS hl
  exact lv_lstore_n hx hb hd hi hl hn rfl (fun ls2 hl2 => kk H locs ls2 hP hS (lv_sub hl2 is hl9))
theorem r_lstore (C : OK X cc nL own ret) {i : Nat} {x : Int64} {lv' : List (Nat × Value)} (hd : decode cc pc = .ok (.lstore i, 2)) (hn : i + 1 < nL) (is : List Nat) (hl9 : is.filterMap (fun j => ((i, Value.long x) :: lv.filter (fun q => !(q.1 == i) && (!(q.1 == i + 1) && !(q.1 + 1 == i && q.2.category == 2))))[j]?) = lv') (kk : VW X nL h cells slots (pc + 2) lv' st) : VW X nL h cells slots pc lv (.long x :: st) := by
  obtain ⟨p, e, R, s, m, args, below, meth, c, Q, l, D, cA, ad, L0, sK, sV⟩ := X
  obtain ⟨hx, hb, hml, hown, hts, hT, hr, hlk⟩ := C
  intro H locs ls hP hS hl
  exact lv_lstore hx hb hd hl hn rfl (fun ls2 hl2 => kk H locs ls2 hP hS (lv_sub hl2 is hl9))
theorem r_iinc (C : OK X cc nL own ret) {i j : Nat} {n : Int} {x v : Int32} {lv' : List (Nat × Value)} (hd : decode cc pc = .ok (.iinc i n, 3)) (hj : lv[j]? = some (i, .int x)) (hv : v = x + Int32.ofInt n) (hn : i < nL) (is : List Nat) (hl9 : is.filterMap (fun j => ((i, Value.int v) :: lv.filter (fun q => !(q.1 == i) && !(q.1 + 1 == i && q.2.category == 2)))[j]?) = lv') (kk : VW X nL h cells slots (pc + 3) lv' st) : VW X nL h cells slots pc lv st := by
  obtain ⟨p, e, R, s, m, args, below, meth, c, Q, l, D, cA, ad, L0, sK, sV⟩ := X
  obtain ⟨hx, hb, hml, hown, hts, hT, hr, hlk⟩ := C
  intro H locs ls hP hS hl
  exact lv_iinc hx hb hd hl hj hv.symm hn rfl (fun ls2 hl2 => kk H locs ls2 hP hS (lv_sub hl2 is hl9))
theorem r_iadd (C : OK X cc nL own ret) {x y : Int32} (hd : decode cc pc = .ok (.iadd, 1)) (k : VW X nL h cells slots (pc + 1) lv (.int (x + y) :: st)) : VW X nL h cells slots pc lv (.int y :: .int x :: st) := by
  obtain ⟨p, e, R, s, m, args, below, meth, c, Q, l, D, cA, ad, L0, sK, sV⟩ := X
  obtain ⟨hx, hb, hml, hown, hts, hT, hr, hlk⟩ := C
  intro H locs ls hP hS hl
  exact lv_iadd hx hb hd (k H locs ls hP hS hl)
theorem r_isub (C : OK X cc nL own ret) {x y : Int32} (hd : decode cc pc = .ok (.isub, 1)) (k : VW X nL h cells slots (pc + 1) lv (.int (x - y) :: st)) : VW X nL h cells slots pc lv (.int y :: .int x :: st) := by
  obtain ⟨p, e, R, s, m, args, below, meth, c, Q, l, D, cA, ad, L0, sK, sV⟩ := X
  obtain ⟨hx, hb, hml, hown, hts, hT, hr, hlk⟩ := C
  intro H locs ls hP hS hl
  exact lv_isub hx hb hd (k H locs ls hP hS hl)
theorem r_imul (C : OK X cc nL own ret) {x y : Int32} (hd : decode cc pc = .ok (.imul, 1)) (k : VW X nL h cells slots (pc + 1) lv (.int (x * y) :: st)) : VW X nL h cells slots pc lv (.int y :: .int x :: st) := by
  obtain ⟨p, e, R, s, m, args, below, meth, c, Q, l, D, cA, ad, L0, sK, sV⟩ := X
  obtain ⟨hx, hb, hml, hown, hts, hT, hr, hlk⟩ := C
  intro H locs ls hP hS hl
  exact lv_imul hx hb hd (k H locs ls hP hS hl)
theorem r_iand (C : OK X cc nL own ret) {x y : Int32} (hd : decode cc pc = .ok (.iand, 1)) (k : VW X nL h cells slots (pc + 1) lv (.int (x &&& y) :: st)) : VW X nL h cells slots pc lv (.int y :: .int x :: st) := by
  obtain ⟨p, e, R, s, m, args, below, meth, c, Q, l, D, cA, ad, L0, sK, sV⟩ := X
  obtain ⟨hx, hb, hml, hown, hts, hT, hr, hlk⟩ := C
  intro H locs ls hP hS hl
  exact lv_iand hx hb hd (k H locs ls hP hS hl)
theorem r_ior (C : OK X cc nL own ret) {x y : Int32} (hd : decode cc pc = .ok (.ior, 1)) (k : VW X nL h cells slots (pc + 1) lv (.int (x ||| y) :: st)) : VW X nL h cells slots pc lv (.int y :: .int x :: st) := by
  obtain ⟨p, e, R, s, m, args, below, meth, c, Q, l, D, cA, ad, L0, sK, sV⟩ := X
  obtain ⟨hx, hb, hml, hown, hts, hT, hr, hlk⟩ := C
  intro H locs ls hP hS hl
  exact lv_ior hx hb hd (k H locs ls hP hS hl)
theorem r_ixor (C : OK X cc nL own ret) {x y : Int32} (hd : decode cc pc = .ok (.ixor, 1)) (k : VW X nL h cells slots (pc + 1) lv (.int (x ^^^ y) :: st)) : VW X nL h cells slots pc lv (.int y :: .int x :: st) := by
  obtain ⟨p, e, R, s, m, args, below, meth, c, Q, l, D, cA, ad, L0, sK, sV⟩ := X
  obtain ⟨hx, hb, hml, hown, hts, hT, hr, hlk⟩ := C
  intro H locs ls hP hS hl
  exact lv_ixor hx hb hd (k H locs ls hP hS hl)
theorem r_ishl (C : OK X cc nL own ret) {x y : Int32} (hd : decode cc pc = .ok (.ishl, 1)) (k : VW X nL h cells slots (pc + 1) lv (.int (x <<< (y &&& 31)) :: st)) : VW X nL h cells slots pc lv (.int y :: .int x :: st) := by
  obtain ⟨p, e, R, s, m, args, below, meth, c, Q, l, D, cA, ad, L0, sK, sV⟩ := X
  obtain ⟨hx, hb, hml, hown, hts, hT, hr, hlk⟩ := C
  intro H locs ls hP hS hl
  exact lv_ishl hx hb hd (k H locs ls hP hS hl)
theorem r_ishr (C : OK X cc nL own ret) {x y : Int32} (hd : decode cc pc = .ok (.ishr, 1)) (k : VW X nL h cells slots (pc + 1) lv (.int (x >>> (y &&& 31)) :: st)) : VW X nL h cells slots pc lv (.int y :: .int x :: st) := by
  obtain ⟨p, e, R, s, m, args, below, meth, c, Q, l, D, cA, ad, L0, sK, sV⟩ := X
  obtain ⟨hx, hb, hml, hown, hts, hT, hr, hlk⟩ := C
  intro H locs ls hP hS hl
  exact lv_ishr hx hb hd (k H locs ls hP hS hl)
def ushr (x y : Int32) : Int32 := (x.toUInt32 >>> (y.toUInt32 &&& Int32.toUInt32 31)).toInt32
theorem r_iushr (C : OK X cc nL own ret) {x y : Int32} (hd : decode cc pc = .ok (.iushr, 1)) (k : VW X nL h cells slots (pc + 1) lv (.int (ushr x y) :: st)) : VW X nL h cells slots pc lv (.int y :: .int x :: st) := by
  obtain ⟨p, e, R, s, m, args, below, meth, c, Q, l, D, cA, ad, L0, sK, sV⟩ := X
  obtain ⟨hx, hb, hml, hown, hts, hT, hr, hlk⟩ := C
  intro H locs ls hP hS hl
  exact lv_iushr hx hb hd rfl (k H locs ls hP hS hl)
theorem r_idiv (C : OK X cc nL own ret) {x y : Int32} (hd : decode cc pc = .ok (.idiv, 1)) (hn : ¬ y = 0) (k : VW X nL h cells slots (pc + 1) lv (.int (x / y) :: st)) : VW X nL h cells slots pc lv (.int y :: .int x :: st) := by
  obtain ⟨p, e, R, s, m, args, below, meth, c, Q, l, D, cA, ad, L0, sK, sV⟩ := X
  obtain ⟨hx, hb, hml, hown, hts, hT, hr, hlk⟩ := C
  intro H locs ls hP hS hl
  exact lv_idiv hx hb hd hn (k H locs ls hP hS hl)
def irem (x y : Int32) : Int32 := x - x / y * y
theorem r_irem (C : OK X cc nL own ret) {x y : Int32} (hd : decode cc pc = .ok (.irem, 1)) (hn : ¬ y = 0) (k : VW X nL h cells slots (pc + 1) lv (.int (irem x y) :: st)) : VW X nL h cells slots pc lv (.int y :: .int x :: st) := by
  obtain ⟨p, e, R, s, m, args, below, meth, c, Q, l, D, cA, ad, L0, sK, sV⟩ := X
  obtain ⟨hx, hb, hml, hown, hts, hT, hr, hlk⟩ := C
  intro H locs ls hP hS hl
  exact lv_irem hx hb hd hn (k H locs ls hP hS hl)
theorem r_ineg (C : OK X cc nL own ret) {x : Int32} (hd : decode cc pc = .ok (.ineg, 1)) (k : VW X nL h cells slots (pc + 1) lv (.int (-x) :: st)) : VW X nL h cells slots pc lv (.int x :: st) := by
  obtain ⟨p, e, R, s, m, args, below, meth, c, Q, l, D, cA, ad, L0, sK, sV⟩ := X
  obtain ⟨hx, hb, hml, hown, hts, hT, hr, hlk⟩ := C
  intro H locs ls hP hS hl
  exact lv_ineg hx hb hd (k H locs ls hP hS hl)
theorem r_ladd (C : OK X cc nL own ret) {x y : Int64} (hd : decode cc pc = .ok (.ladd, 1)) (k : VW X nL h cells slots (pc + 1) lv (.long (x + y) :: st)) : VW X nL h cells slots pc lv (.long y :: .long x :: st) := by
  obtain ⟨p, e, R, s, m, args, below, meth, c, Q, l, D, cA, ad, L0, sK, sV⟩ := X
  obtain ⟨hx, hb, hml, hown, hts, hT, hr, hlk⟩ := C
  intro H locs ls hP hS hl
  exact lv_ladd hx hb hd (k H locs ls hP hS hl)
theorem r_lsub (C : OK X cc nL own ret) {x y : Int64} (hd : decode cc pc = .ok (.lsub, 1)) (k : VW X nL h cells slots (pc + 1) lv (.long (x - y) :: st)) : VW X nL h cells slots pc lv (.long y :: .long x :: st) := by
  obtain ⟨p, e, R, s, m, args, below, meth, c, Q, l, D, cA, ad, L0, sK, sV⟩ := X
  obtain ⟨hx, hb, hml, hown, hts, hT, hr, hlk⟩ := C
  intro H locs ls hP hS hl
  exact lv_lsub hx hb hd (k H locs ls hP hS hl)
theorem r_lmul (C : OK X cc nL own ret) {x y : Int64} (hd : decode cc pc = .ok (.lmul, 1)) (k : VW X nL h cells slots (pc + 1) lv (.long (x * y) :: st)) : VW X nL h cells slots pc lv (.long y :: .long x :: st) := by
  obtain ⟨p, e, R, s, m, args, below, meth, c, Q, l, D, cA, ad, L0, sK, sV⟩ := X
  obtain ⟨hx, hb, hml, hown, hts, hT, hr, hlk⟩ := C
  intro H locs ls hP hS hl
  exact lv_lmul hx hb hd (k H locs ls hP hS hl)
theorem r_ldiv (C : OK X cc nL own ret) {x y : Int64} (hd : decode cc pc = .ok (.ldiv, 1)) (hn : ¬ y = 0) (k : VW X nL h cells slots (pc + 1) lv (.long (x / y) :: st)) : VW X nL h cells slots pc lv (.long y :: .long x :: st) := by
  obtain ⟨p, e, R, s, m, args, below, meth, c, Q, l, D, cA, ad, L0, sK, sV⟩ := X
  obtain ⟨hx, hb, hml, hown, hts, hT, hr, hlk⟩ := C
  intro H locs ls hP hS hl
  exact lv_ldiv hx hb hd hn (k H locs ls hP hS hl)
theorem r_i2l (C : OK X cc nL own ret) {x : Int32} (hd : decode cc pc = .ok (.i2l, 1)) (k : VW X nL h cells slots (pc + 1) lv (.long x.toInt64 :: st)) : VW X nL h cells slots pc lv (.int x :: st) := by
  obtain ⟨p, e, R, s, m, args, below, meth, c, Q, l, D, cA, ad, L0, sK, sV⟩ := X
  obtain ⟨hx, hb, hml, hown, hts, hT, hr, hlk⟩ := C
  intro H locs ls hP hS hl
  exact lv_i2l hx hb hd rfl (k H locs ls hP hS hl)
theorem r_l2i (C : OK X cc nL own ret) {x : Int64} (hd : decode cc pc = .ok (.l2i, 1)) (k : VW X nL h cells slots (pc + 1) lv (.int x.toInt32 :: st)) : VW X nL h cells slots pc lv (.long x :: st) := by
  obtain ⟨p, e, R, s, m, args, below, meth, c, Q, l, D, cA, ad, L0, sK, sV⟩ := X
  obtain ⟨hx, hb, hml, hown, hts, hT, hr, hlk⟩ := C
  intro H locs ls hP hS hl
  exact lv_l2i hx hb hd rfl (k H locs ls hP hS hl)
theorem r_i2b (C : OK X cc nL own ret) {x : Int32} (hd : decode cc pc = .ok (.i2b, 1)) (k : VW X nL h cells slots (pc + 1) lv (.int x.toInt8.toInt32 :: st)) : VW X nL h cells slots pc lv (.int x :: st) := by
  obtain ⟨p, e, R, s, m, args, below, meth, c, Q, l, D, cA, ad, L0, sK, sV⟩ := X
  obtain ⟨hx, hb, hml, hown, hts, hT, hr, hlk⟩ := C
  intro H locs ls hP hS hl
  exact lv_i2b hx hb hd rfl (k H locs ls hP hS hl)
theorem r_i2c (C : OK X cc nL own ret) {x : Int32} (hd : decode cc pc = .ok (.i2c, 1)) (k : VW X nL h cells slots (pc + 1) lv (.int (x.toUInt32 % 65536).toInt32 :: st)) : VW X nL h cells slots pc lv (.int x :: st) := by
  obtain ⟨p, e, R, s, m, args, below, meth, c, Q, l, D, cA, ad, L0, sK, sV⟩ := X
  obtain ⟨hx, hb, hml, hown, hts, hT, hr, hlk⟩ := C
  intro H locs ls hP hS hl
  exact lv_i2c hx hb hd rfl (k H locs ls hP hS hl)
theorem r_dup (C : OK X cc nL own ret) {v : Value} (hd : decode cc pc = .ok (.dup, 1)) (hv : v.category = 1) (k : VW X nL h cells slots (pc + 1) lv (v :: v :: st)) : VW X nL h cells slots pc lv (v :: st) := by
  obtain ⟨p, e, R, s, m, args, below, meth, c, Q, l, D, cA, ad, L0, sK, sV⟩ := X
  obtain ⟨hx, hb, hml, hown, hts, hT, hr, hlk⟩ := C
  intro H locs ls hP hS hl
  exact lv_dup hx hb hd hv (k H locs ls hP hS hl)
theorem r_pop (C : OK X cc nL own ret) {v : Value} (hd : decode cc pc = .ok (.pop, 1)) (hv : v.category = 1) (k : VW X nL h cells slots (pc + 1) lv st) : VW X nL h cells slots pc lv (v :: st) := by
  obtain ⟨p, e, R, s, m, args, below, meth, c, Q, l, D, cA, ad, L0, sK, sV⟩ := X
  obtain ⟨hx, hb, hml, hown, hts, hT, hr, hlk⟩ := C
  intro H locs ls hP hS hl
  exact lv_pop hx hb hd hv (k H locs ls hP hS hl)
theorem r_dup_x1 (C : OK X cc nL own ret) {v w : Value} (hd : decode cc pc = .ok (.dup_x1, 1)) (hv : v.category = 1) (hw : w.category = 1) (k : VW X nL h cells slots (pc + 1) lv (v :: w :: v :: st)) : VW X nL h cells slots pc lv (v :: w :: st) := by
  obtain ⟨p, e, R, s, m, args, below, meth, c, Q, l, D, cA, ad, L0, sK, sV⟩ := X
  obtain ⟨hx, hb, hml, hown, hts, hT, hr, hlk⟩ := C
  intro H locs ls hP hS hl
  exact lv_dup_x1 hx hb hd hv hw (k H locs ls hP hS hl)
theorem r_dup2 (C : OK X cc nL own ret) {v w : Value} (hd : decode cc pc = .ok (.dup2, 1)) (hv : v.category = 1) (hw : w.category = 1) (k : VW X nL h cells slots (pc + 1) lv (v :: w :: v :: w :: st)) : VW X nL h cells slots pc lv (v :: w :: st) := by
  obtain ⟨p, e, R, s, m, args, below, meth, c, Q, l, D, cA, ad, L0, sK, sV⟩ := X
  obtain ⟨hx, hb, hml, hown, hts, hT, hr, hlk⟩ := C
  intro H locs ls hP hS hl
  exact lv_dup2_11 hx hb hd hv hw (k H locs ls hP hS hl)
theorem r_dup_x2 (C : OK X cc nL own ret) {v w u : Value} (hd : decode cc pc = .ok (.dup_x2, 1)) (hv : v.category = 1) (hw : w.category = 1) (hu : u.category = 1) (k : VW X nL h cells slots (pc + 1) lv (v :: w :: u :: v :: st)) : VW X nL h cells slots pc lv (v :: w :: u :: st) := by
  obtain ⟨p, e, R, s, m, args, below, meth, c, Q, l, D, cA, ad, L0, sK, sV⟩ := X
  obtain ⟨hx, hb, hml, hown, hts, hT, hr, hlk⟩ := C
  intro H locs ls hP hS hl
  exact lv_dup_x2 hx hb hd hv hw hu (k H locs ls hP hS hl)
theorem r_if_eq (C : OK X cc nL own ret) {x : Int32} {off : Int} (tgt : Nat) (hd : decode cc pc = .ok (.ifCond .eq off, 3)) (ht : (pc : Int) + off = (tgt : Int)) (kt : x = 0 → VW X nL h cells slots tgt lv st) (kf : ¬ x = 0 → VW X nL h cells slots (pc + 3) lv st) : VW X nL h cells slots pc lv (.int x :: st) := by
  obtain ⟨p, e, R, s, m, args, below, meth, c, Q, l, D, cA, ad, L0, sK, sV⟩ := X
  obtain ⟨hx, hb, hml, hown, hts, hT, hr, hlk⟩ := C
  intro H locs ls hP hS hl
  exact lv_if_eq hx hb hd ht (fun q => kt q H locs ls hP hS hl) (fun q => kf q H locs ls hP hS hl)
theorem r_icmp_eq (C : OK X cc nL own ret) {x y : Int32} {off : Int} (tgt : Nat) (hd : decode cc pc = .ok (.if_icmp .eq off, 3)) (ht : (pc : Int) + off = (tgt : Int)) (kt : x = y → VW X nL h cells slots tgt lv st) (kf : ¬ x = y → VW X nL h cells slots (pc + 3) lv st) : VW X nL h cells slots pc lv (.int y :: .int x :: st) := by
  obtain ⟨p, e, R, s, m, args, below, meth, c, Q, l, D, cA, ad, L0, sK, sV⟩ := X
  obtain ⟨hx, hb, hml, hown, hts, hT, hr, hlk⟩ := C
  intro H locs ls hP hS hl
  exact lv_icmp_eq hx hb hd ht (fun q => kt q H locs ls hP hS hl) (fun q => kf q H locs ls hP hS hl)
theorem r_if_ne (C : OK X cc nL own ret) {x : Int32} {off : Int} (tgt : Nat) (hd : decode cc pc = .ok (.ifCond .ne off, 3)) (ht : (pc : Int) + off = (tgt : Int)) (kt : ¬ x = 0 → VW X nL h cells slots tgt lv st) (kf : x = 0 → VW X nL h cells slots (pc + 3) lv st) : VW X nL h cells slots pc lv (.int x :: st) := by
  obtain ⟨p, e, R, s, m, args, below, meth, c, Q, l, D, cA, ad, L0, sK, sV⟩ := X
  obtain ⟨hx, hb, hml, hown, hts, hT, hr, hlk⟩ := C
  intro H locs ls hP hS hl
  exact lv_if_ne hx hb hd ht (fun q => kt q H locs ls hP hS hl) (fun q => kf q H locs ls hP hS hl)
theorem r_icmp_ne (C : OK X cc nL own ret) {x y : Int32} {off : Int} (tgt : Nat) (hd : decode cc pc = .ok (.if_icmp .ne off, 3)) (ht : (pc : Int) + off = (tgt : Int)) (kt : ¬ x = y → VW X nL h cells slots tgt lv st) (kf : x = y → VW X nL h cells slots (pc + 3) lv st) : VW X nL h cells slots pc lv (.int y :: .int x :: st) := by
  obtain ⟨p, e, R, s, m, args, below, meth, c, Q, l, D, cA, ad, L0, sK, sV⟩ := X
  obtain ⟨hx, hb, hml, hown, hts, hT, hr, hlk⟩ := C
  intro H locs ls hP hS hl
  exact lv_icmp_ne hx hb hd ht (fun q => kt q H locs ls hP hS hl) (fun q => kf q H locs ls hP hS hl)
theorem r_if_lt (C : OK X cc nL own ret) {x : Int32} {off : Int} (tgt : Nat) (hd : decode cc pc = .ok (.ifCond .lt off, 3)) (ht : (pc : Int) + off = (tgt : Int)) (kt : x < 0 → VW X nL h cells slots tgt lv st) (kf : ¬ x < 0 → VW X nL h cells slots (pc + 3) lv st) : VW X nL h cells slots pc lv (.int x :: st) := by
  obtain ⟨p, e, R, s, m, args, below, meth, c, Q, l, D, cA, ad, L0, sK, sV⟩ := X
  obtain ⟨hx, hb, hml, hown, hts, hT, hr, hlk⟩ := C
  intro H locs ls hP hS hl
  exact lv_if_lt hx hb hd ht (fun q => kt q H locs ls hP hS hl) (fun q => kf q H locs ls hP hS hl)
theorem r_icmp_lt (C : OK X cc nL own ret) {x y : Int32} {off : Int} (tgt : Nat) (hd : decode cc pc = .ok (.if_icmp .lt off, 3)) (ht : (pc : Int) + off = (tgt : Int)) (kt : x < y → VW X nL h cells slots tgt lv st) (kf : ¬ x < y → VW X nL h cells slots (pc + 3) lv st) : VW X nL h cells slots pc lv (.int y :: .int x :: st) := by
  obtain ⟨p, e, R, s, m, args, below, meth, c, Q, l, D, cA, ad, L0, sK, sV⟩ := X
  obtain ⟨hx, hb, hml, hown, hts, hT, hr, hlk⟩ := C
  intro H locs ls hP hS hl
  exact lv_icmp_lt hx hb hd ht (fun q => kt q H locs ls hP hS hl) (fun q => kf q H locs ls hP hS hl)
theorem r_if_ge (C : OK X cc nL own ret) {x : Int32} {off : Int} (tgt : Nat) (hd : decode cc pc = .ok (.ifCond .ge off, 3)) (ht : (pc : Int) + off = (tgt : Int)) (kt : 0 ≤ x → VW X nL h cells slots tgt lv st) (kf : ¬ 0 ≤ x → VW X nL h cells slots (pc + 3) lv st) : VW X nL h cells slots pc lv (.int x :: st) := by
  obtain ⟨p, e, R, s, m, args, below, meth, c, Q, l, D, cA, ad, L0, sK, sV⟩ := X
  obtain ⟨hx, hb, hml, hown, hts, hT, hr, hlk⟩ := C
  intro H locs ls hP hS hl
  exact lv_if_ge hx hb hd ht (fun q => kt q H locs ls hP hS hl) (fun q => kf q H locs ls hP hS hl)
theorem r_icmp_ge (C : OK X cc nL own ret) {x y : Int32} {off : Int} (tgt : Nat) (hd : decode cc pc = .ok (.if_icmp .ge off, 3)) (ht : (pc : Int) + off = (tgt : Int)) (kt : y ≤ x → VW X nL h cells slots tgt lv st) (kf : ¬ y ≤ x → VW X nL h cells slots (pc + 3) lv st) : VW X nL h cells slots pc lv (.int y :: .int x :: st) := by
  obtain ⟨p, e, R, s, m, args, below, meth, c, Q, l, D, cA, ad, L0, sK, sV⟩ := X
  obtain ⟨hx, hb, hml, hown, hts, hT, hr, hlk⟩ := C
  intro H locs ls hP hS hl
  exact lv_icmp_ge hx hb hd ht (fun q => kt q H locs ls hP hS hl) (fun q => kf q H locs ls hP hS hl)
theorem r_if_gt (C : OK X cc nL own ret) {x : Int32} {off : Int} (tgt : Nat) (hd : decode cc pc = .ok (.ifCond .gt off, 3)) (ht : (pc : Int) + off = (tgt : Int)) (kt : 0 < x → VW X nL h cells slots tgt lv st) (kf : ¬ 0 < x → VW X nL h cells slots (pc + 3) lv st) : VW X nL h cells slots pc lv (.int x :: st) := by
  obtain ⟨p, e, R, s, m, args, below, meth, c, Q, l, D, cA, ad, L0, sK, sV⟩ := X
  obtain ⟨hx, hb, hml, hown, hts, hT, hr, hlk⟩ := C
  intro H locs ls hP hS hl
  exact lv_if_gt hx hb hd ht (fun q => kt q H locs ls hP hS hl) (fun q => kf q H locs ls hP hS hl)
theorem r_icmp_gt (C : OK X cc nL own ret) {x y : Int32} {off : Int} (tgt : Nat) (hd : decode cc pc = .ok (.if_icmp .gt off, 3)) (ht : (pc : Int) + off = (tgt : Int)) (kt : y < x → VW X nL h cells slots tgt lv st) (kf : ¬ y < x → VW X nL h cells slots (pc + 3) lv st) : VW X nL h cells slots pc lv (.int y :: .int x :: st) := by
  obtain ⟨p, e, R, s, m, args, below, meth, c, Q, l, D, cA, ad, L0, sK, sV⟩ := X
  obtain ⟨hx, hb, hml, hown, hts, hT, hr, hlk⟩ := C
  intro H locs ls hP hS hl
  exact lv_icmp_gt hx hb hd ht (fun q => kt q H locs ls hP hS hl) (fun q => kf q H locs ls hP hS hl)
theorem r_if_le (C : OK X cc nL own ret) {x : Int32} {off : Int} (tgt : Nat) (hd : decode cc pc = .ok (.ifCond .le off, 3)) (ht : (pc : Int) + off = (tgt : Int)) (kt : x ≤ 0 → VW X nL h cells slots tgt lv st) (kf : ¬ x ≤ 0 → VW X nL h cells slots (pc + 3) lv st) : VW X nL h cells slots pc lv (.int x :: st) := by
  obtain ⟨p, e, R, s, m, args, below, meth, c, Q, l, D, cA, ad, L0, sK, sV⟩ := X
  obtain ⟨hx, hb, hml, hown, hts, hT, hr, hlk⟩ := C
  intro H locs ls hP hS hl
  exact lv_if_le hx hb hd ht (fun q => kt q H locs ls hP hS hl) (fun q => kf q H locs ls hP hS hl)
theorem r_icmp_le (C : OK X cc nL own ret) {x y : Int32} {off : Int} (tgt : Nat) (hd : decode cc pc = .ok (.if_icmp .le off, 3)) (ht : (pc : Int) + off = (tgt : Int)) (kt : x ≤ y → VW X nL h cells slots tgt lv st) (kf : ¬ x ≤ y → VW X nL h cells slots (pc + 3) lv st) : VW X nL h cells slots pc lv (.int y :: .int x :: st) := by
  obtain ⟨p, e, R, s, m, args, below, meth, c, Q, l, D, cA, ad, L0, sK, sV⟩ := X
  obtain ⟨hx, hb, hml, hown, hts, hT, hr, hlk⟩ := C
  intro H locs ls hP hS hl
  exact lv_icmp_le hx hb hd ht (fun q => kt q H locs ls hP hS hl) (fun q => kf q H locs ls hP hS hl)
theorem r_goto (C : OK X cc nL own ret) {off : Int} (tgt : Nat) (hd : decode cc pc = .ok (.goto off, 3)) (ht : (pc : Int) + off = (tgt : Int)) (k : VW X nL h cells slots tgt lv st) : VW X nL h cells slots pc lv st := by
  obtain ⟨p, e, R, s, m, args, below, meth, c, Q, l, D, cA, ad, L0, sK, sV⟩ := X
  obtain ⟨hx, hb, hml, hown, hts, hT, hr, hlk⟩ := C
  intro H locs ls hP hS hl
  exact lv_goto hx hb hd ht (k H locs ls hP hS hl)
theorem r_tableIn (C : OK X cc nL own ret) {dflt lo hi : Int} {offs : Array Int} {len : Nat} {x : Int32} {off : Int} (tgt : Nat) (hd : decode cc pc = .ok (.tableswitch dflt lo hi offs, len)) (h1 : ¬ x.toInt < lo) (h2 : ¬ hi < x.toInt) (ho : offs[(x.toInt - lo).toNat]? = some off) (ht : (pc : Int) + off = (tgt : Int)) (k : VW X nL h cells slots tgt lv st) : VW X nL h cells slots pc lv (.int x :: st) := by
  obtain ⟨p, e, R, s, m, args, below, meth, c, Q, l, D, cA, ad, L0, sK, sV⟩ := X
  obtain ⟨hx, hb, hml, hown, hts, hT, hr, hlk⟩ := C
  intro H locs ls hP hS hl
  exact lv_tableIn hx hb hd h1 h2 ho ht (k H locs ls hP hS hl)
theorem r_tableOut (C : OK X cc nL own ret) {dflt lo hi : Int} {offs : Array Int} {len : Nat} {x : Int32} (tgt : Nat) (hd : decode cc pc = .ok (.tableswitch dflt lo hi offs, len)) (h1 : x.toInt < lo ∨ hi < x.toInt) (ht : (pc : Int) + dflt = (tgt : Int)) (k : VW X nL h cells slots tgt lv st) : VW X nL h cells slots pc lv (.int x :: st) := by
  obtain ⟨p, e, R, s, m, args, below, meth, c, Q, l, D, cA, ad, L0, sK, sV⟩ := X
  obtain ⟨hx, hb, hml, hown, hts, hT, hr, hlk⟩ := C
  intro H locs ls hP hS hl
  exact lv_tableOut hx hb hd h1 ht (k H locs ls hP hS hl)
theorem r_top {x e : Int32} (hx : x = e) (k : VW X nL h cells slots pc lv (.int x :: st)) : VW X nL h cells slots pc lv (.int e :: st) := by subst hx; exact k
theorem r_topl {x e : Int64} (hx : x = e) (k : VW X nL h cells slots pc lv (.long x :: st)) : VW X nL h cells slots pc lv (.long e :: st) := by subst hx; exact k
theorem r_getI (C : OK X cc nL own ret) {ref C0 : String} {T : u_T} {N ci index : Nat} (k j : Nat) {fs : List (Option Nat)} (hdc : dsc k = .inl (ci, fs)) (hk : k < NC) (hf : fs[j]? = some none) (hc : vwCl[ci]? = some (C0, T, N)) (hin : ∀ w ∈ u_ws C0 T N, w ∈ GT) (hj : j < N) (hw : Cond.fieldLink own index ref (T j).2.1 (T j).2.2.1 ∈ GT) (href : ref = (T j).1) (hd : decode cc pc = .ok (.getfield index, 3)) (kk : VW X nL h cells slots (pc + 3) lv (.int (h k j) :: st)) : VW X nL h cells slots pc lv (.ref (gad (xG X) k) :: st) := by
  obtain ⟨p, e, R, s, m, args, below, meth, c, Q, l, D, cA, ad, L0, sK, sV⟩ := X
  obtain ⟨hx, hb, hml, hown, hts, hT, hr, hlk⟩ := C
  intro H locs ls hP hS hl
  have e1 : (wd cA ad h)[k]? = some (ad k, .inr (ci, valsF ad (h k) fs 0)) := by rw [wd_get hk, cellE_obj hdc]
  have e2 := valsF_int (ad := ad) (f := h k) (j := 0) hf
  rw [Nat.zero_add] at e2
  exact va_get hx hb hts hin hown hT.1 hP k e1 hc j hj (hts _ hw) (fun _ q => by rw [href]; exact q) e2 hd (kk H locs ls hP hS hl)
theorem r_getR (C : OK X cc nL own ret) {ref C0 : String} {T : u_T} {N ci index : Nat} (k j : Nat) {k2 : Nat} {fs : List (Option Nat)} (hdc : dsc k = .inl (ci, fs)) (hk : k < NC) (hf : fs[j]? = some (some k2)) (hc : vwCl[ci]? = some (C0, T, N)) (hin : ∀ w ∈ u_ws C0 T N, w ∈ GT) (hj : j < N) (hw : Cond.fieldLink own index ref (T j).2.1 (T j).2.2.1 ∈ GT) (href : ref = (T j).1) (hd : decode cc pc = .ok (.getfield index, 3)) (kk : VW X nL h cells slots (pc + 3) lv (.ref (gad (xG X) k2) :: st)) : VW X nL h cells slots pc lv (.ref (gad (xG X) k) :: st) := by
  obtain ⟨p, e, R, s, m, args, below, meth, c, Q, l, D, cA, ad, L0, sK, sV⟩ := X
  obtain ⟨hx, hb, hml, hown, hts, hT, hr, hlk⟩ := C
  intro H locs ls hP hS hl
  have e1 : (wd cA ad h)[k]? = some (ad k, .inr (ci, valsF ad (h k) fs 0)) := by rw [wd_get hk, cellE_obj hdc]
  exact va_get hx hb hts hin hown hT.1 hP k e1 hc j hj (hts _ hw) (fun _ q => by rw [href]; exact q) (valsF_ref hf) hd (kk H locs ls hP hS hl)
theorem r_putI (C : OK X cc nL own ret) {ref C0 : String} {T : u_T} {N ci index : Nat} (k j : Nat) {v : Int32} {h2 : Hp} (eh : h2 = up2 h k j v) {fs : List (Option Nat)} (hdc : dsc k = .inl (ci, fs)) (hk : k < NC) (hf : fs[j]? = some none) (hc : vwCl[ci]? = some (C0, T, N)) (hin : ∀ w ∈ u_ws C0 T N, w ∈ GT) (ty0 : Nat → FieldType) (hty : ∀ k, k < N → parseFieldDescriptor (T k).2.2.1 = some (ty0 k)) (hnm : ∀ a, a < N → ∀ b, b < N → a ≠ b → (T a).2.1 ≠ (T b).2.1) (hj : j < N) (hw : Cond.fieldLink own index ref (T j).2.1 (T j).2.2.1 ∈ GT) (href : ref = (T j).1) (hfin : (T j).2.2.2 = false) (hn : narrow (ty0 j) (.int v) = .int v) (hfit : fits (ty0 j) (.int v) = true) (hd : decode cc pc = .ok (.putfield index, 3)) (kk : VW X nL h2 cells slots (pc + 3) lv st) : VW X nL h cells slots pc lv (.int v :: .ref (gad (xG X) k) :: st) := by
  obtain ⟨p, e, R, s, m, args, below, meth, c, Q, l, D, cA, ad, L0, sK, sV⟩ := X
  obtain ⟨hx, hb, hml, hown, hts, hT, hr, hlk⟩ := C
  intro H locs ls hP hS hl
  have e1 : (wd cA ad h)[k]? = some (ad k, .inr (ci, valsF ad (h k) fs 0)) := by rw [wd_get hk, cellE_obj hdc]
  have e3 : (wd cA ad h).set k (ad k, .inr (ci, (valsF ad (h k) fs 0).set j (.int v))) = wd cA ad h2 := by
    rw [valsF_set hf, Nat.zero_add, ← cellE_obj (cA := cA) hdc, wd_set hk, eh]; rfl
  have hl9 : j < (valsF ad (h k) fs 0).length := by rw [valsF_len]; exact (List.getElem?_eq_some_iff.mp hf).1
  refine va_put hx hb hts hin ty0 hty hnm hown hT.1 hP (wd_D hT.2.2.1) hS k e1 hc j hj (hts _ hw) (fun _ q => by rw [href]; exact q) hfin (hty j hj) hn hfit hl9 hd (fun H1 locs1 hP1 hD1 hS1 => ?_)
  rw [e3] at hP1
  exact kk H1 locs1 ls hP1 hS1 hl
theorem r_getIN (C : OK X cc nL own ret) {ref C0 : String} {host : String} {T : u_T} {N ci index : Nat} (k j : Nat) {fs : List (Option Nat)} (hdc : dsc k = .inl (ci, fs)) (hk : k < NC) (hf : fs[j]? = some none) (hc : vwCl[ci]? = some (C0, T, N)) (hin : ∀ w ∈ u_ws C0 T N, w ∈ GT) (hj : j < N) (hw : Cond.fieldLinkNest own index ref (T j).2.1 (T j).2.2.1 host ∈ NW) (href : ref = (T j).1) (hd : decode cc pc = .ok (.getfield index, 3)) (kk : VW X nL h cells slots (pc + 3) lv (.int (h k j) :: st)) : VW X nL h cells slots pc lv (.ref (gad (xG X) k) :: st) := by
  obtain ⟨p, e, R, s, m, args, below, meth, c, Q, l, D, cA, ad, L0, sK, sV⟩ := X
  obtain ⟨hx, hb, hml, hown, hts, hT, hr, hlk⟩ := C
  intro H locs ls hP hS hl
  have e1 : (wd cA ad h)[k]? = some (ad k, .inr (ci, valsF ad (h k) fs 0)) := by rw [wd_get hk, cellE_obj hdc]
  have e2 := valsF_int (ad := ad) (f := h k) (j := 0) hf
  rw [Nat.zero_add] at e2
  exact va_getN hx hb hts hin hown hT.1 hP k e1 hc j hj (va_Nw.use rfl (hT.2.1 _ hw)) (fun _ q => by rw [href]; exact q) e2 hd (kk H locs ls hP hS hl)
theorem r_getRN (C : OK X cc nL own ret) {ref C0 : String} {host : String} {T : u_T} {N ci index : Nat} (k j : Nat) {k2 : Nat} {fs : List (Option Nat)} (hdc : dsc k = .inl (ci, fs)) (hk : k < NC) (hf : fs[j]? = some (some k2)) (hc : vwCl[ci]? = some (C0, T, N)) (hin : ∀ w ∈ u_ws C0 T N, w ∈ GT) (hj : j < N) (hw : Cond.fieldLinkNest own index ref (T j).2.1 (T j).2.2.1 host ∈ NW) (href : ref = (T j).1) (hd : decode cc pc = .ok (.getfield index, 3)) (kk : VW X nL h cells slots (pc + 3) lv (.ref (gad (xG X) k2) :: st)) : VW X nL h cells slots pc lv (.ref (gad (xG X) k) :: st) := by
  obtain ⟨p, e, R, s, m, args, below, meth, c, Q, l, D, cA, ad, L0, sK, sV⟩ := X
  obtain ⟨hx, hb, hml, hown, hts, hT, hr, hlk⟩ := C
  intro H locs ls hP hS hl
  have e1 : (wd cA ad h)[k]? = some (ad k, .inr (ci, valsF ad (h k) fs 0)) := by rw [wd_get hk, cellE_obj hdc]
  exact va_getN hx hb hts hin hown hT.1 hP k e1 hc j hj (va_Nw.use rfl (hT.2.1 _ hw)) (fun _ q => by rw [href]; exact q) (valsF_ref hf) hd (kk H locs ls hP hS hl)
theorem r_putIN (C : OK X cc nL own ret) {ref C0 : String} {host : String} {T : u_T} {N ci index : Nat} (k j : Nat) {v : Int32} {h2 : Hp} (eh : h2 = up2 h k j v) {fs : List (Option Nat)} (hdc : dsc k = .inl (ci, fs)) (hk : k < NC) (hf : fs[j]? = some none) (hc : vwCl[ci]? = some (C0, T, N)) (hin : ∀ w ∈ u_ws C0 T N, w ∈ GT) (ty0 : Nat → FieldType) (hty : ∀ k, k < N → parseFieldDescriptor (T k).2.2.1 = some (ty0 k)) (hnm : ∀ a, a < N → ∀ b, b < N → a ≠ b → (T a).2.1 ≠ (T b).2.1) (hj : j < N) (hw : Cond.fieldLinkNest own index ref (T j).2.1 (T j).2.2.1 host ∈ NW) (href : ref = (T j).1) (hfin : (T j).2.2.2 = false) (hn : narrow (ty0 j) (.int v) = .int v) (hfit : fits (ty0 j) (.int v) = true) (hd : decode cc pc = .ok (.putfield index, 3)) (kk : VW X nL h2 cells slots (pc + 3) lv st) : VW X nL h cells slots pc lv (.int v :: .ref (gad (xG X) k) :: st) := by
  obtain ⟨p, e, R, s, m, args, below, meth, c, Q, l, D, cA, ad, L0, sK, sV⟩ := X
  obtain ⟨hx, hb, hml, hown, hts, hT, hr, hlk⟩ := C
  intro H locs ls hP hS hl
  have e1 : (wd cA ad h)[k]? = some (ad k, .inr (ci, valsF ad (h k) fs 0)) := by rw [wd_get hk, cellE_obj hdc]
  have e3 : (wd cA ad h).set k (ad k, .inr (ci, (valsF ad (h k) fs 0).set j (.int v))) = wd cA ad h2 := by
    rw [valsF_set hf, Nat.zero_add, ← cellE_obj (cA := cA) hdc, wd_set hk, eh]; rfl
  have hl9 : j < (valsF ad (h k) fs 0).length := by rw [valsF_len]; exact (List.getElem?_eq_some_iff.mp hf).1
  refine va_putN hx hb hts hin ty0 hty hnm hown hT.1 hP (wd_D hT.2.2.1) hS k e1 hc j hj (va_Nw.use rfl (hT.2.1 _ hw)) (fun _ q => by rw [href]; exact q) hfin (hty j hj) hn hfit hl9 hd (fun H1 locs1 hP1 hD1 hS1 => ?_)
  rw [e3] at hP1
  exact kk H1 locs1 ls hP1 hS1 hl
theorem r_iald (C : OK X cc nL own ret) (k : Nat) {n : Nat} {q : List Nat} {i : Int32} (hdc : dsc k = .inr (0, n, q)) (hk : k < NC) (hin : vp_in i n) (hd : decode cc pc = .ok (.iaload, 1)) (kk : VW X nL h cells slots (pc + 1) lv (.int (h k i.toNatClampNeg) :: st)) : VW X nL h cells slots pc lv (.int i :: .ref (gad (xG X) k) :: st) := by
  obtain ⟨p, e, R, s, m, args, below, meth, c, Q, l, D, cA, ad, L0, sK, sV⟩ := X
  obtain ⟨hx, hb, hml, hown, hts, hT, hr, hlk⟩ := C
  intro H locs ls hP hS hl
  have e1 : (wd cA ad h)[k]? = some (ad k, .inl (cA 0, n, .inl (h k))) := by rw [wd_get hk, cellE_arr hdc]; rfl
  exact va_iald hx hb hT.1 hP k 0 e1 rfl hin hd (kk H locs ls hP hS hl)
theorem r_iast (C : OK X cc nL own ret) (k : Nat) {n : Nat} {q : List Nat} {i x : Int32} {h2 : Hp} (eh : h2 = up2 h k i.toNatClampNeg x) (hdc : dsc k = .inr (0, n, q)) (hk : k < NC) (hin : vp_in i n) (hd : decode cc pc = .ok (.iastore, 1)) (kk : VW X nL h2 cells slots (pc + 1) lv st) : VW X nL h cells slots pc lv (.int x :: .int i :: .ref (gad (xG X) k) :: st) := by
  obtain ⟨p, e, R, s, m, args, below, meth, c, Q, l, D, cA, ad, L0, sK, sV⟩ := X
  obtain ⟨hx, hb, hml, hown, hts, hT, hr, hlk⟩ := C
  intro H locs ls hP hS hl
  have e1 : (wd cA ad h)[k]? = some (ad k, .inl (cA 0, n, .inl (h k))) := by rw [wd_get hk, cellE_arr hdc]; rfl
  have e3 : (wd cA ad h).set k (ad k, .inl (cA 0, n, .inl (upd (h k) i.toNatClampNeg x))) = wd cA ad h2 := by
    have e4 : (.inl (cA 0, n, .inl (upd (h k) i.toNatClampNeg x)) : va_E) = cellE cA ad (upd (h k) i.toNatClampNeg x) (dsc k) := by rw [cellE_arr hdc]; rfl
    rw [e4, wd_set hk, eh]; rfl
  refine va_iast hx hb hT.1 hP (wd_D hT.2.2.1) hS k 0 e1 rfl hin hd (fun H1 locs1 hP1 hD1 hS1 => ?_)
  rw [e3] at hP1
  exact kk H1 locs1 ls hP1 hS1 hl
theorem r_bald (C : OK X cc nL own ret) (k : Nat) {n : Nat} {q : List Nat} {i : Int32} (hdc : dsc k = .inr (1, n, q)) (hk : k < NC) (hin : vp_in i n) (hd : decode cc pc = .ok (.baload, 1)) (kk : VW X nL h cells slots (pc + 1) lv (.int (h k i.toNatClampNeg) :: st)) : VW X nL h cells slots pc lv (.int i :: .ref (gad (xG X) k) :: st) := by
  obtain ⟨p, e, R, s, m, args, below, meth, c, Q, l, D, cA, ad, L0, sK, sV⟩ := X
  obtain ⟨hx, hb, hml, hown, hts, hT, hr, hlk⟩ := C
  intro H locs ls hP hS hl
  have e1 : (wd cA ad h)[k]? = some (ad k, .inl (cA 1, n, .inl (h k))) := by rw [wd_get hk, cellE_arr hdc]; rfl
  exact va_bald hx hb hT.1 hP k 1 e1 rfl hin hd (kk H locs ls hP hS hl)
theorem r_bast (C : OK X cc nL own ret) (k : Nat) {n : Nat} {q : List Nat} {i x : Int32} {h2 : Hp} (eh : h2 = up2 h k i.toNatClampNeg (vp_nar .byte x)) (hdc : dsc k = .inr (1, n, q)) (hk : k < NC) (hin : vp_in i n) (hd : decode cc pc = .ok (.bastore, 1)) (kk : VW X nL h2 cells slots (pc + 1) lv st) : VW X nL h cells slots pc lv (.int x :: .int i :: .ref (gad (xG X) k) :: st) := by
  obtain ⟨p, e, R, s, m, args, below, meth, c, Q, l, D, cA, ad, L0, sK, sV⟩ := X
  obtain ⟨hx, hb, hml, hown, hts, hT, hr, hlk⟩ := C
  intro H locs ls hP hS hl
  have e1 : (wd cA ad h)[k]? = some (ad k, .inl (cA 1, n, .inl (h k))) := by rw [wd_get hk, cellE_arr hdc]; rfl
  have e3 : (wd cA ad h).set k (ad k, .inl (cA 1, n, .inl (upd (h k) i.toNatClampNeg (vp_nar .byte x)))) = wd cA ad h2 := by
    have e4 : (.inl (cA 1, n, .inl (upd (h k) i.toNatClampNeg (vp_nar .byte x))) : va_E) = cellE cA ad (upd (h k) i.toNatClampNeg (vp_nar .byte x)) (dsc k) := by rw [cellE_arr hdc]; rfl
    rw [e4, wd_set hk, eh]; rfl
  refine va_bast hx hb hT.1 hP (wd_D hT.2.2.1) hS k 1 e1 rfl hin hd (fun H1 locs1 hP1 hD1 hS1 => ?_)
  rw [e3] at hP1
  exact kk H1 locs1 ls hP1 hS1 hl
theorem r_alen (C : OK X cc nL own ret) (k : Nat) {t n : Nat} {q : List Nat} {v : Int32} (hdc : dsc k = .inr (t, n, q)) (hk : k < NC) (ht : t < 4) (hv : Int32.ofNat n = v) (hd : decode cc pc = .ok (.arraylength, 1)) (kk : VW X nL h cells slots (pc + 1) lv (.int v :: st)) : VW X nL h cells slots pc lv (.ref (gad (xG X) k) :: st) := by
  obtain ⟨p, e, R, s, m, args, below, meth, c, Q, l, D, cA, ad, L0, sK, sV⟩ := X
  obtain ⟨hx, hb, hml, hown, hts, hT, hr, hlk⟩ := C
  intro H locs ls hP hS hl
  have e1 : (wd cA ad h)[k]? = some (ad k, .inl (cA t, n, arrC t q ad (h k))) := by rw [wd_get hk, cellE_arr hdc]
  have e2 : ∃ ty, (tysOf cA)[t]? = some (cA t, ty) := by
    rcases (show t = 0 ∨ t = 1 ∨ t = 2 ∨ t = 3 by omega) with rfl | rfl | rfl | rfl <;> exact ⟨_, rfl⟩
  obtain ⟨ty, e2⟩ := e2
  exact va_alen hx hb hT.1 hP k t e1 e2 hv hd (kk H locs ls hP hS hl)
theorem r_aald (C : OK X cc nL own ret) (k : Nat) {n k2 : Nat} {q : List Nat} {i : Int32} (hdc : dsc k = .inr (3, n, q)) (hk : k < NC) (hin : vp_in i n) (hq : q[i.toNatClampNeg]? = some k2) (hd : decode cc pc = .ok (.aaload, 1)) (kk : VW X nL h cells slots (pc + 1) lv (.ref (gad (xG X) k2) :: st)) : VW X nL h cells slots pc lv (.int i :: .ref (gad (xG X) k) :: st) := by
  obtain ⟨p, e, R, s, m, args, below, meth, c, Q, l, D, cA, ad, L0, sK, sV⟩ := X
  obtain ⟨hx, hb, hml, hown, hts, hT, hr, hlk⟩ := C
  intro H locs ls hP hS hl
  have e1 : (wd cA ad h)[k]? = some (ad k, .inl (cA 3, n, .inr (.inr (.inr (.inr (fun j => (q[j]?).map ad)))))) := by rw [wd_get hk, cellE_arr hdc]; rfl
  refine va_aldq hx hb hT.1 hP k 3 e1 rfl hin hd ?_
  rw [hq]
  exact kk H locs ls hP hS hl
theorem r_copyi (C : OK X cc nL own ret) {index : Nat} (k1 k2 : Nat) {n1 n2 : Nat} {q1 q2 : List Nat} {sp dp n : Int32} {h2 : Hp} (eh : h2 = upA h k2 (va_cpy (h k1) (h k2) sp.toNatClampNeg dp.toNatClampNeg n.toNatClampNeg)) (hd1 : dsc k1 = .inr (0, n1, q1)) (hd2 : dsc k2 = .inr (0, n2, q2)) (hk1 : k1 < NC) (hk2 : k2 < NC) (h1 : ¬ sp < 0) (h3 : ¬ dp < 0) (h4 : ¬ n < 0) (h5 : sp.toNatClampNeg + n.toNatClampNeg ≤ n1) (h6 : dp.toNatClampNeg + n.toNatClampNeg ≤ n2) (hw : Cond.methodLink own index arraycopyName ∈ GT) (hnat : Cond.native arraycopyName ∈ GT) (hstat : Cond.static arraycopyName ∈ GT) (hini : Cond.initialized "java/lang/System" ∈ GT) (hRf : 1 ≤ (xR X).frames) (hRl : (st.map fun v => v.category).sum + (nativeFrameWords "java/lang/System" "arraycopy" 5 + 11) ≤ (xR X).locals) (hd : decode cc pc = .ok (.invokestatic index, 3)) (kk : VW X nL h2 cells slots (pc + 3) lv st) : VW X nL h cells slots pc lv (.int n :: .int dp :: .ref (gad (xG X) k2) :: .int sp :: .ref (gad (xG X) k1) :: st) := by
  obtain ⟨p, e, R, s, m, args, below, meth, c, Q, l, D, cA, ad, L0, sK, sV⟩ := X
  obtain ⟨hx, hb, hml, hown, hts, hT, hr, hlk⟩ := C
  intro H locs ls hP hS hl
  have e1 : (wd cA ad h)[k1]? = some (ad k1, .inl (cA 0, n1, .inl (h k1))) := by rw [wd_get hk1, cellE_arr hd1]; rfl
  have e2 : (wd cA ad h)[k2]? = some (ad k2, .inl (cA 0, n2, .inl (h k2))) := by rw [wd_get hk2, cellE_arr hd2]; rfl
  have e3 : (wd cA ad h).set k2 (ad k2, .inl (cA 0, n2, .inl (va_cpy (h k1) (h k2) sp.toNatClampNeg dp.toNatClampNeg n.toNatClampNeg))) = wd cA ad h2 := by
    have e4 : (.inl (cA 0, n2, .inl (va_cpy (h k1) (h k2) sp.toNatClampNeg dp.toNatClampNeg n.toNatClampNeg)) : va_E) = cellE cA ad (va_cpy (h k1) (h k2) sp.toNatClampNeg dp.toNatClampNeg n.toNatClampNeg) (dsc k2) := by rw [cellE_arr hd2]; rfl
    rw [e4, wd_set hk2, eh]
  refine va_copyi hx hb (by rw [hml]; exact hl.1.symm) hown (hts _ hw) (hts _ hnat) (hts _ hstat) (hts _ hini) hT.1 hP (wd_D hT.2.2.1) hS k1 k2 0 0 e1 e2 rfl rfl rfl h1 h3 h4 h5 h6 (fun _ _ => rfl) hRf hRl hd (fun H1 locs1 hP1 hD1 hS1 => ?_)
  rw [e3] at hP1
  exact kk H1 locs1 ls hP1 hS1 hl
theorem r_widen {c2 s2 : Nat} (h1 : cells ≤ c2) (h2 : slots ≤ s2) (k : VW X nL h c2 s2 pc lv st) : VW X nL h cells slots pc lv st := by
  obtain ⟨p, e, R, s, m, args, below, meth, c, Q, l, D, cA, ad, L0, sK, sV⟩ := X
  intro H locs ls hP hS hl
  exact W.widen h1 h2 (k H locs ls hP hS hl)
theorem r_lv {lv2 : List (Nat × Value)} (is : List Nat) (hl9 : is.filterMap (fun j => lv[j]?) = lv2) (k : VW X nL h cells slots pc lv2 st) : VW X nL h cells slots pc lv st := by
  obtain ⟨p, e, R, s, m, args, below, meth, c, Q, l, D, cA, ad, L0, sK, sV⟩ := X
  intro H locs ls hP hS hl
  exact k H locs ls hP hS (lv_sub hl is hl9)
end RULES

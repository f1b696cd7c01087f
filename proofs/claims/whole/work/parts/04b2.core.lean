/-! String constants (their owner, place in its pool, text, bytes); the global context G: launch, world numbers, addresses. -/
def STR : List (String × Nat × String × List Int32) := [("PinnedSky$LawText", 42, "strain", [115, 116, 114, 97, 105, 110]),
  ("PinnedSky$LawText", 44, "rust", [114, 117, 115, 116]),
  ("PinnedSky$LawText", 46, "hold", [104, 111, 108, 100]),
  ("PinnedSky$LawText", 28, "if", [105, 102]),
  ("PinnedSky$LawText", 62, "pinned", [112, 105, 110, 110, 101, 100]),
  ("PinnedSky$LawText", 64, "laddered", [108, 97, 100, 100, 101, 114, 101, 100]),
  ("PinnedSky$LawText", 66, "not", [110, 111, 116]),
  ("PinnedSky$LawText", 90, "place", [112, 108, 97, 99, 101]),
  ("PinnedSky$LawText", 92, "tree", [116, 114, 101, 101]),
  ("PinnedSky$LawText", 94, "ground", [103, 114, 111, 117, 110, 100]),
  ("PinnedSky$LawText", 96, "gap", [103, 97, 112]),
  ("PinnedSky$LawText", 98, "day", [100, 97, 121]),
  ("PinnedSky$LawText", 54, "and", [97, 110, 100]),
  ("PinnedSky$LawText", 60, "or", [111, 114]),
  ("PinnedSky$SkyText", 18, "pin", [112, 105, 110]),
  ("PinnedSky$SkyText", 95, "rust", [114, 117, 115, 116]),
  ("PinnedSky$SkyText", 30, "ground", [103, 114, 111, 117, 110, 100]),
  ("PinnedSky$SkyText", 39, "need", [110, 101, 101, 100]),
  ("PinnedSky$SkyText", 43, "tree", [116, 114, 101, 101]),
  ("PinnedSky$SkyText", 47, "bare", [98, 97, 114, 101]),
  ("PinnedSky$SkyText", 52, "pinner", [112, 105, 110, 110, 101, 114]),
  ("PinnedSky$SkyText", 112, "pace", [112, 97, 99, 101]),
  ("PinnedSky$SkyText", 118, "brass", [98, 114, 97, 115, 115]),
  ("PinnedSky$SkyText", 60, "height", [104, 101, 105, 103, 104, 116]),
  ("PinnedSky$SkyText", 69, "tight", [116, 105, 103, 104, 116]),
  ("PinnedSky$SkyText", 73, "gale", [103, 97, 108, 101]),
  ("PinnedSky$SkyText", 77, "moths", [109, 111, 116, 104, 115]),
  ("PinnedSky$SkyText", 81, "stock", [115, 116, 111, 99, 107]),
  ("PinnedSkyModel", 142, "pin", [112, 105, 110]),
  ("PinnedSkyModel", 126, "rust", [114, 117, 115, 116]),
  ("PinnedSkyModel", 148, "ground", [103, 114, 111, 117, 110, 100]),
  ("PinnedSkyModel", 153, "need", [110, 101, 101, 100]),
  ("PinnedSkyModel", 155, "tree", [116, 114, 101, 101]),
  ("PinnedSkyModel", 157, "bare", [98, 97, 114, 101]),
  ("PinnedSkyModel", 162, "pinner", [112, 105, 110, 110, 101, 114]),
  ("PinnedSkyModel", 134, "pace", [112, 97, 99, 101]),
  ("PinnedSkyModel", 140, "brass", [98, 114, 97, 115, 115]),
  ("PinnedSkyModel", 167, "height", [104, 101, 105, 103, 104, 116]),
  ("PinnedSkyModel", 169, "tight", [116, 105, 103, 104, 116]),
  ("PinnedSkyModel", 171, "gale", [103, 97, 108, 101]),
  ("PinnedSkyModel", 173, "moths", [109, 111, 116, 104, 115]),
  ("PinnedSkyModel", 175, "stock", [115, 116, 111, 99, 107]),
  ("PinnedSkyModel", 224, "strain", [115, 116, 114, 97, 105, 110]),
  ("PinnedSkyModel", 226, "hold", [104, 111, 108, 100]),
  ("PinnedSkyModel", 228, "if", [105, 102]),
  ("PinnedSkyModel", 206, "not", [110, 111, 116]),
  ("PinnedSkyModel", 196, "pinned", [112, 105, 110, 110, 101, 100]),
  ("PinnedSkyModel", 198, "laddered", [108, 97, 100, 100, 101, 114, 101, 100]),
  ("PinnedSkyModel", 184, "place", [112, 108, 97, 99, 101]),
  ("PinnedSkyModel", 186, "gap", [103, 97, 112]),
  ("PinnedSkyModel", 188, "day", [100, 97, 121]),
  ("PinnedSkyModel", 217, "and", [97, 110, 100]),
  ("PinnedSkyModel", 222, "or", [111, 114])]
abbrev Gx : Type := Launch × va_G × (Nat → ClassId) × (Nat → Nat) × Nat × (Nat → Nat) × (Nat → Nat)
def gad (G : Gx) : Nat → Nat := G.2.2.2.1
def gsK (G : Gx) : Nat → Nat := G.2.2.2.2.2.1
abbrev gA (G : Gx) : Nat → Prop := fun q => G.2.2.2.2.1 ≤ q
abbrev gwd (G : Gx) (h : Hp) : va_W := wd G.2.2.1 G.2.2.2.1 h
abbrev gP (G : Gx) (h : Hp) (H : Heap) : Prop := va_P G.2.1 vwCl (gwd G h) H
def tysOf (cA : Nat → ClassId) : List (ClassId × FieldType) := [(cA 0, .int), (cA 1, .byte), (cA 2, .long), (cA 3, .object RX7)]
def EXL : List String := ["java/lang/IndexOutOfBoundsException", "java/util/NoSuchElementException", "java/lang/IllegalArgumentException", "java/lang/IllegalStateException", "java/lang/UnsupportedOperationException"]
def TX (G : Gx) (U : State) (H : Heap) : Prop :=
  (va_Zq "jdk/internal/util/Preconditions" "SIOOBE_FORMATTER" "Ljava/util/function/BiFunction;" (gA G) U H ∧ ∀ a ∈ EXL, ∀ b ∈ EXL, a ≠ b → va_Nc a b U) ∧ (vx_Zq Bundle.tN "UNASSIGNED_STACK" Bundle.steD (gA G) U H ∧ vx_Zq Bundle.tN "SUPPRESSED_SENTINEL" Bundle.listD (gA G) U H) ∧ va_Z "java/lang/String" "COMPACT_STRINGS" "Z" (.int 1) (gA G) U H ∧
  ∀ (e : Nat) (q : String × Nat × String × List Int32), STR[e]? = some q → vk_S 1 [q.2.2.2.length] [q.2.2.2] (fun _ => G.2.2.2.2.2.1 e) (fun _ => G.2.2.2.2.2.2 e) (gA G) U H ∧ vk_R q.1 q.2.1 q.2.2.1 (G.2.2.2.2.2.1 e) U
/-- what the tables and the cells that are nobody's say at a state -/
def TB (G : Gx) (U : State) : Prop :=
  va_K G.2.1 vwCl (tysOf G.2.2.1) U ∧ (∀ w ∈ NW, va_Nw w U) ∧ va_D (gA G) (gwd G (fun _ _ => 0)) ∧ G.2.2.2.2.1 ≤ U.heap.size ∧ G.1.stackTraces = false ∧ TX G U U.heap
theorem TX.moved {G : Gx} {s U : State} {H : Heap} (h : TX G s H) (hW : s.WarmedH U.vm) : TX G U H :=
  ⟨⟨va_Zq.moved hW.alike h.1.1, fun a ha b hb n => (h.1.2 a ha b hb n).moved hW.alike⟩, ⟨vx_Zq.moved hW.alike h.2.1.1, vx_Zq.moved hW.alike h.2.1.2⟩, va_Z.moved hW.alike h.2.2.1, fun e q hq => ⟨vk_S.moved hW.alike (h.2.2.2 e q hq).1, vk_R.warm hW (h.2.2.2 e q hq).2⟩⟩
theorem TX.kept {G : Gx} {U : State} {H H1 : Heap} (h : TX G U H) (hq : ∀ a : Nat, a < H.size → ¬ gA G a → H1[a]? = H[a]?) : TX G U H1 :=
  ⟨⟨va_Zq.kept h.1.1 hq, h.1.2⟩, ⟨vx_Zq.kept h.2.1.1 hq, vx_Zq.kept h.2.1.2 hq⟩, va_Z.kept h.2.2.1 hq, fun e q h9 => ⟨vk_S.kept (h.2.2.2 e q h9).1 hq, (h.2.2.2 e q h9).2⟩⟩
theorem TX.same {G : Gx} {s U : State} {H : Heap} (h : TX G s H) (e : U.vm = s.vm) : TX G U H :=
  ⟨⟨va_Zq.moved (by rw [e]; exact Vm.Alike.refl _) h.1.1, fun a ha b hb n => (h.1.2 a ha b hb n).moved (by rw [e]; exact Vm.Alike.refl _)⟩, ⟨vx_Zq.moved (by rw [e]; exact Vm.Alike.refl _) h.2.1.1, vx_Zq.moved (by rw [e]; exact Vm.Alike.refl _) h.2.1.2⟩, va_Z.moved (by rw [e]; exact Vm.Alike.refl _) h.2.2.1, fun k q hq => ⟨vk_S.moved (by rw [e]; exact Vm.Alike.refl _) (h.2.2.2 k q hq).1, vk_R.same e (h.2.2.2 k q hq).2⟩⟩
theorem TB.call {G : Gx} {s U : State} {H : Heap} {locs : List Loc} (h : TB G s) (hW : s.WarmedH U.vm) (hU : U.heap = H) (hS : va_S (gA G) s.heap H locs) : TB G U := by
  subst hU
  exact ⟨va_K.moved hW.alike h.1, nw_warm hW h.2.1, h.2.2.1, Nat.le_trans h.2.2.2.1 hS.1, h.2.2.2.2.1, (h.2.2.2.2.2.moved hW).kept hS.2.1⟩
theorem TB.blind {G : Gx} {U : State} (h : TB G U) (g : JFrame) (mk : MethodId) (a : Array Value) : TB G (U.calling g mk a) :=
  ⟨va_K.moved (u := U) (U := U.calling g mk a) (Vm.Alike.refl U.vm) h.1, nw_same (s := U) (U := U.calling g mk a) rfl h.2.1, h.2.2.1, h.2.2.2.1, h.2.2.2.2.1, TX.same (U := U.calling g mk a) h.2.2.2.2.2 rfl⟩
/-- a context: the machine's parameters and the global ones -/
abbrev Cx : Type := Program × Env × Room × State × MethodId × Array Value × List Frame × Method × Code × (State → Prop) × Gx
def xG (X : Cx) : Gx := X.2.2.2.2.2.2.2.2.2.2
def xR (X : Cx) : Room := X.2.2.1
def OK (X : Cx) (cc : ByteArray) (nL : Nat) (own : String) (ret : Option FieldType) : Prop := match X with
  | (p, _, _, s, m, args, _, meth, c, _, G) => p.tables.exec = Jvm.exec ∧ c.code = cc ∧ c.maxLocals = nL ∧ s.vm.findClass own = some m.cls ∧ (∀ w ∈ GT, w.before args s = true) ∧ TB G s ∧ meth.sig.returnType = ret ∧ meth.locks = false
def VW (X : Cx) (nL : Nat) (h : Hp) (cells slots pc : Nat) (lv : List (Nat × Value)) (st : List Value) : Prop := match X with
  | (p, e, R, s, m, args, below, meth, c, Q, G) => ∀ (H : Heap) (locs : List Loc) (ls : Array Slot), gP G h H → va_S (gA G) s.heap H locs → lv_has ls nL lv → W p G.1 e R s m args below meth c H locs cells slots Q (F0 m pc ls st)


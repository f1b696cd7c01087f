/-! Past(): twelve skies. -/
theorem gp_442 : Cond.classLink RX5 9 RX7 ∈ GT := gt_in 442 (by decide +kernel) rfl
theorem gp_282 : Cond.instantiable RX7 17 ∈ GT := gt_in 282 (by decide +kernel) rfl
theorem gp_166 : Cond.initialized RX7 ∈ GT := gt_in 166 (by decide +kernel) rfl
theorem gp_441 : Cond.methodLink RX5 1 objectInit ∈ GT := gt_in 441 (by decide +kernel) rfl
theorem gp_445 : Cond.fieldLink RX5 11 "PinnedSky$Past" "skies" "[LPinnedSky$Sky;" ∈ GT := gt_in 445 (by decide +kernel) rfl
theorem gp_444 : Cond.methodLinkNest RX5 15 yX7_init "PinnedSky" ∈ NW := nw_in 444 (by decide +kernel) rfl
theorem gp_284 : Cond.instanceMethod yX7_init ∈ GT := gt_in 284 (by decide +kernel) rfl
theorem gp_285 : Cond.code yX7_init cX7_init 1 none ∈ GT := gt_in 285 (by decide +kernel) rfl
section PASTR
variable {X : Cx} {cc : ByteArray} {nL : Nat} {own : String} {ws L : va_W} {cells slots pc : Nat} {lv : List (Nat × Value)} {st : List Value}
theorem n_newq (C : OK0 X cc nL own) {n : Int32} {N index : Nat} {L2 : Nat → va_W} (hL : ∀ q, L ++ [(q, .inl ((xG X).2.2.1 3, N, .inr (.inr (.inr (.inr (fun _ => none))))))] = L2 q) (hcl : Cond.classLink own index RX7 ∈ GT) (hn : ¬ n < 0) (hN : n.toNatClampNeg = N) (hby : N * 4 ≤ 536870912) (hcs : cells + 1 ≤ (xR X).cells ∧ slots + N ≤ (xR X).slots) (hd : decode cc pc = .ok (.anewarray index, 3)) (k : ∀ q : Nat, VN X nL ws (L2 q) (cells + 1) (slots + N) (pc + 3) lv (.ref q :: st)) : VN X nL ws L cells slots pc lv (.int n :: st) := by
  obtain ⟨p, e9, R, s, m, args, below, meth, c, Q, l, D, cA, ad, L0, sK, sV⟩ := X
  obtain ⟨hx, hb, hml, hown, hts, hT, hlk⟩ := C
  intro H locs ls hP hD hS hl
  refine va_newq hx hb hown (hts _ hcl) hT.2.2.2 hT.1 hP hD hS (fun q h9 => Nat.le_trans hT.2.2.1 h9) hn hN hby hcs.1 hcs.2 hd (fun q cB H1 hK1 hP1 hD1 hS1 => ?_)
  obtain ⟨kA, comp, -, -, -, e1⟩ := (hT.1.2 3 (cA 3, .object RX7) rfl).2
  obtain ⟨kB, comp2, -, -, -, e2⟩ := (hK1.2 4 (cB, .object RX7) rfl).2
  have e3 : cB = cA 3 := Option.some.inj (e2.symm.trans e1)
  subst e3
  rw [List.append_assoc] at hP1 hD1
  have hL1 : L ++ [(q, .inl (cA 3, N, .inr (.inr (.inr (.inr (fun _ => none))))))] = L2 q := hL q
  rw [hL1] at hP1 hD1
  exact k q H1 locs ls hP1 hD1 hS1 hl
theorem n_aast (C : OK0 X cc nL own) (j : Nat) {n a v : Nat} {vs : List Value} {f : Nat → Option Nat} {L2 : va_W} {i : Int32} (ha : L[j]? = some (a, .inl ((xG X).2.2.1 3, n, .inr (.inr (.inr (.inr f)))))) (hv : (v, (.inr (7, vs) : va_E)) ∈ L) (hin : inb i n) (hL : L.set j (a, .inl ((xG X).2.2.1 3, n, .inr (.inr (.inr (.inr (va_up f i.toNatClampNeg (some v))))))) = L2) (hd : decode cc pc = .ok (.aastore, 1)) (k : VN X nL ws L2 cells slots (pc + 1) lv st) : VN X nL ws L cells slots pc lv (.ref v :: .int i :: .ref a :: st) := by
  obtain ⟨p, e9, R, s, m, args, below, meth, c, Q, l, D, cA, ad, L0, sK, sV⟩ := X
  obtain ⟨hx, hb, hml, hown, hts, hT, hlk⟩ := C
  intro H locs ls hP hD hS hl
  obtain ⟨k2, hk2⟩ := List.getElem?_of_mem hv
  refine va_astq (r := (RX7, TX7, 17)) hx hb hT.1 hP hD hS (ws.length + j) 3 (ws.length + k2) 7 (nx_at ha) rfl (nx_at hk2) rfl hin hd (fun H1 locs1 hP1 hD1 hS1 => ?_)
  rw [nx_set] at hP1 hD1
  rw [hL] at hP1 hD1
  exact k H1 locs1 ls hP1 hD1 hS1 hl
end PASTR
def SB (cA : Nat → ClassId) (A : Nat → Nat → Nat) : Nat → va_W
  | 0 => []
  | n + 1 => SB cA A n ++ blkX7 cA (A n)
def pastF (A : Nat → Nat → Nat) (n : Nat) : Nat → Option Nat := fun j => if j < n then some (A j 0) else none
def pastL (cA : Nat → ClassId) (q0 q1 : Nat) (A : Nat → Nat → Nat) (n : Nat) : va_W := (q0, .inr (5, [.ref q1, .int 0, .int 0])) :: (q1, .inl (cA 3, 12, .inr (.inr (.inr (.inr (pastF A n)))))) :: SB cA A n
def pastA (a : Nat → Nat) : Nat → Nat → Nat := fun n j => a (2 + 11 * n + j)
def blkX5 (cA : Nat → ClassId) (a : Nat → Nat) : va_W := pastL cA (a 0) (a 1) (pastA a) 12
theorem blk7_congr {cA : Nat → ClassId} {f g : Nat → Nat} (h : ∀ j, j < 11 → f j = g j) : blkX7 cA f = blkX7 cA g := by
  simp only [blkX7, blkX0, blkX4]
  simp only [h 0 (by decide), h 1 (by decide), h 2 (by decide), h 3 (by decide), h 4 (by decide), h 5 (by decide), h 6 (by decide), h 7 (by decide), h 8 (by decide), h 9 (by decide), h 10 (by decide)]
theorem SB_congr {cA : Nat → ClassId} {A B : Nat → Nat → Nat} : ∀ {n : Nat}, (∀ i, i < n → ∀ j, j < 11 → A i j = B i j) → SB cA A n = SB cA B n
  | 0, _ => rfl
  | n + 1, h => by
    rw [SB, SB, SB_congr (fun i hi => h i (by omega)), blk7_congr (h n (by omega))]
theorem pastF_congr {A B : Nat → Nat → Nat} {n : Nat} (h : ∀ i, i < n → A i 0 = B i 0) : pastF A n = pastF B n := by
  funext j
  unfold pastF
  by_cases e : j < n
  · rw [if_pos e, if_pos e, h j e]
  · rw [if_neg e, if_neg e]
theorem pastL_congr {cA : Nat → ClassId} {q0 q1 : Nat} {A B : Nat → Nat → Nat} {n : Nat} (h : ∀ i, i < n → ∀ j, j < 11 → A i j = B i j) : pastL cA q0 q1 A n = pastL cA q0 q1 B n := by
  unfold pastL
  rw [SB_congr h, pastF_congr (fun i hi => h i hi 0 (by decide))]
theorem pastF_up {A : Nat → Nat → Nat} {n : Nat} (v : Nat) (h : A n 0 = v) : va_up (pastF A n) n (some v) = pastF A (n + 1) := by
  funext j
  unfold va_up pastF
  by_cases e : j = n
  · subst e; rw [if_pos rfl, if_pos (Nat.lt_succ_self _), h]
  · rw [if_neg e]
    by_cases e2 : j < n
    · rw [if_pos e2, if_pos (by omega)]
    · rw [if_neg e2, if_neg (by omega)]
def upA2 (A : Nat → Nat → Nat) (n : Nat) (a : Nat → Nat) : Nat → Nat → Nat := fun i => if i = n then a else A i
set_option maxHeartbeats 4000000 in
set_option maxRecDepth 100000 in
theorem wX5_init {X : Cx} {ws : va_W} {q0 q1 : Nat} (C : OK0 X cX5_init 2 RX5) (hI : INI X) (hR : xR X = { frames := 4, cells := 133, slots := 1968, locals := 256 }) (hF : FinK X ws (blkX5 (xG X).2.2.1) q0 133 1968) :
    ∀ (n i : Nat) (A : Nat → Nat → Nat), i + n = 12 → VN X 2 ws (pastL (xG X).2.2.1 q0 q1 A i) (1 + 11 * i) (12 + 163 * i) 15 [(0, .ref q0), (1, .int (nI i))] [] := by
  intro n
  induction n with
  | zero =>
    intro i A hi
    have e : i = 12 := by omega
    subst e
    refine n_iload_n (i := 1) C dX5_init_15 rfl 1 rfl ?_
    refine n_bipush (v := 12) C dX5_init_16 (by decide) ?_
    refine n_icmp_ge C 40 dX5_init_18 (by decide) (fun c1 => ?_) (fun c1 => absurd (by decide) c1)
    refine n_cs (c2 := 133) (s2 := 1968) rfl rfl ?_
    refine n_ret C hI hF (fun k => if k = 0 then q0 else if k = 1 then q1 else A ((k - 2) / 11) ((k - 2) % 11)) rfl ?_ dX5_init_40
    unfold blkX5
    refine (pastL_congr (fun i hi j hj => ?_))
    show (if 2 + 11 * i + j = 0 then q0 else if 2 + 11 * i + j = 1 then q1 else A ((2 + 11 * i + j - 2) / 11) ((2 + 11 * i + j - 2) % 11)) = A i j
    rw [if_neg (by omega), if_neg (by omega), show (2 + 11 * i + j - 2) / 11 = i by omega, show (2 + 11 * i + j - 2) % 11 = j by omega]
  | succ n ih =>
    intro i A hi
    have hi12 : i < 12 := by omega
    refine n_iload_n (i := 1) C dX5_init_15 rfl 1 rfl ?_
    refine n_bipush (v := 12) C dX5_init_16 (by decide) ?_
    refine n_icmp_ge C 40 dX5_init_18 (by decide) (fun c1 => absurd c1 (nI_ge (a := i) (b := 12) hi12 (by decide))) (fun c1 => ?_)
    refine n_aload_n (i := 0) C dX5_init_21 rfl 0 rfl ?_
    refine n_getR C 0 0 (fs := [.ref q1, .int 0, .int 0]) (ci := 5) rfl rfl rfl u_X5 (by decide) gp_445 rfl dX5_init_22 ?_
    refine n_iload_n (i := 1) C dX5_init_25 rfl 1 rfl ?_
    refine n_new (ci := 7) (fs := [.null, .null, .null, .null, .int 0, .int 0, .null, .null, .int 0, .int 0, .int 0, .int 0, .int 0, .int 0, .int 0, .int 0, .int 0]) (L2 := fun q => pastL (xG X).2.2.1 q0 q1 A i ++ [(q, .inr (7, [.null, .null, .null, .null, .int 0, .int 0, .null, .null, .int 0, .int 0, .int 0, .int 0, .int 0, .int 0, .int 0, .int 0, .int 0]))]) C (fun _ => rfl) u_X7 tyX7 tyX7_ok gp_442 gp_282 gp_166 rfl dv_X7 (by rw [hR]; exact ⟨by show _ ≤ 133; omega, by show _ ≤ 1968; omega⟩) dX5_init_26 (fun q2 => ?_)
    refine n_dup C dX5_init_29 rfl ?_
    refine n_initN (L1 := pastL (xG X).2.2.1 q0 q1 A i) (L2 := fun a => pastL (xG X).2.2.1 q0 q1 A i ++ blkX7 (xG X).2.2.1 a) C (kX7_init (xG X)) rfl (fun _ => rfl) rfl ⟨gp_285, gp_166, ⟨by decide, by decide, by decide +kernel⟩, gp_444, gp_284⟩ (Nat.le_of_ble_eq_true rfl) (zq2 hR rfl rfl) (by rw [hR]; exact ⟨by show _ ≤ 133; omega, by show _ ≤ 1968; omega⟩) dX5_init_30 (fun a3 ha3 => ?_)
    subst ha3
    have hin : inb (nI i) 12 := vp_in_nI hi12 (by decide)
    have hcl : (nI i).toNatClampNeg = i := nI_clamp (by omega)
    refine n_aast C 1 (n := 12) (f := pastF A i) (vs := [.ref (a3 1), .ref (a3 2), .ref (a3 3), .ref (a3 4), .int 0, .int 0, .ref (a3 5), .ref (a3 9), .int 20, .int 3, .int 0, .int 0, .int 0, .int 0, .int 1, .int 0, .int 0]) (L2 := pastL (xG X).2.2.1 q0 q1 (upA2 A i a3) (i + 1)) rfl ?_ hin ?_ dX5_init_33 ?_
    · exact List.mem_append_right _ List.mem_cons_self
    · have e1 : pastF (upA2 A i a3) i = pastF A i := pastF_congr (fun k hk => by unfold upA2; rw [if_neg (by omega)])
      have e2 : SB (xG X).2.2.1 (upA2 A i a3) i = SB (xG X).2.2.1 A i := SB_congr (fun k hk j hj => by unfold upA2; rw [if_neg (by omega)])
      have e3 : upA2 A i a3 i = a3 := by unfold upA2; rw [if_pos rfl]
      rw [hcl]
      unfold pastL
      rw [SB, e2, e3, ← pastF_up (A := upA2 A i a3) (n := i) (a3 0) (by rw [e3]), e1]
      rfl
    · obtain ⟨x9, ex9⟩ : ∃ z, z = nI (i + 1) := ⟨_, rfl⟩
      refine n_iinc (j := 1) (v := x9) (lv' := [(0, .ref q0), (1, .int x9)]) C dX5_init_34 rfl (by rw [ex9]; exact nI_succ i) (by decide) [1, 0] rfl ?_
      refine n_goto C 15 dX5_init_37 (by decide) ?_
      rw [ex9]
      exact n_cs (by omega) (by omega) (ih (i + 1) (upA2 A i a3) (by omega))
set_option maxHeartbeats 4000000 in
set_option maxRecDepth 100000 in
theorem kX5_init (G : Gx) : MK G yX5_init cX5_init 2 4 256 133 1968 5 [.null, .int 0, .int 0] (blkX5 G.2.2.1) := by
  refine MK.of RX5 (by decide) rfl rfl (by decide) (fun ws q0 X C hI hG hR hF => ?_)
  subst hG
  refine n_aload_n (i := 0) C dX5_init_0 rfl 0 rfl ?_
  refine n_obj C gp_441 (zkf hR rfl rfl) dX5_init_1 ?_
  refine n_aload_n (i := 0) C dX5_init_4 rfl 0 rfl ?_
  refine n_bipush (v := 12) C dX5_init_5 (by decide) ?_
  refine n_newq (N := 12) (L2 := fun q => [(q0, .inr (5, [.null, .int 0, .int 0])), (q, .inl ((xG X).2.2.1 3, 12, .inr (.inr (.inr (.inr (fun _ => none))))))]) C (fun _ => rfl) gp_442 (by decide) (by decide) (by decide) (zk hR rfl rfl) dX5_init_7 (fun q1 => ?_)
  refine n_putF (fs := [.null, .int 0, .int 0]) (L2 := [(q0, .inr (5, [.ref q1, .int 0, .int 0])), (q1, .inl ((xG X).2.2.1 3, 12, .inr (.inr (.inr (.inr (fun _ => none))))))]) C 0 0 rfl rfl rfl u_X5 tyX5 tyX5_ok nmX5 (by decide) gp_445 rfl hI rfl rfl rfl rfl (Nat.le_of_ble_eq_true rfl) dX5_init_10 ?_
  refine n_iconst (v := 0) C dX5_init_13 (by decide) ?_
  refine n_istore_n (i := 1) (lv' := [(0, .ref q0), (1, .int 0)]) C dX5_init_14 rfl (by decide) [1, 0] rfl ?_
  exact wX5_init C hI hR hF 12 0 (fun _ _ => 0) rfl

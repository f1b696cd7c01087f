/-! The law's text: a part of a sum. -/
theorem cl92 {α β γ : Type} (o : Option (α × Hp)) (f : α → Hp → Option β) (g : β → Option γ) : cl9 (cl2 o f) g = cl2 o (fun x h => cl9 (f x h) g) := by
  cases o with
  | none => rfl
  | some q => rfl
theorem cl99 {α β γ : Type} (o : Option α) (f : α → Option β) (g : β → Option γ) : cl9 (cl9 o f) g = cl9 o (fun x => cl9 (f x) g) := by
  cases o <;> rfl
def pCf (h : Hp) : Option Hp := cl2 (fX9_atDigit h) (fun x4 h2 => if x4 = (0 : Int32) then cl2 (fX9_takeWord h2 sw7) (fun x11 h9 => (if x11 = (0 : Int32) then cl2 (fX9_takeWord h9 sw8) (fun x15 h13 => (if x15 = (0 : Int32) then cl2 (fX9_takeWord h13 sw1) (fun x19 h17 => (if x19 = (0 : Int32) then cl2 (fX9_takeWord h17 sw9) (fun x23 h21 => (if x23 = (0 : Int32) then cl2 (fX9_takeWord h21 sw10) (fun x27 h25 => (if x27 = (0 : Int32) then cl2 (fX9_takeWord h25 sw11) (fun x31 h29 => (if x31 = (0 : Int32) then cl9 (fX9_failNext h29) (fun h33 => some h33) else cl9 (fX2_put h29 13 (-7 : Int32)) (fun h35 => some h35))) else cl9 (fX2_put h25 13 (-6 : Int32)) (fun h37 => some h37))) else cl9 (fX2_put h21 13 (-5 : Int32)) (fun h39 => some h39))) else cl9 (fX2_put h17 13 (-4 : Int32)) (fun h41 => some h41))) else cl9 (fX2_put h13 13 (-3 : Int32)) (fun h43 => some h43))) else cl9 (fX2_put h9 13 (-2 : Int32)) (fun h45 => some h45))) else cl2 (fX9_takeNumber h2 (0 : Int32) (999 : Int32)) (fun x49 h47 => cl9 (fX2_put h47 13 x49) (fun h50 => some h50)))
theorem sumC_s (n : Nat) (h : Hp) (y : Int32) : LX3_takeSum (n + 1) h y = if (400 : Int32) ≤ y then some h else cl9 (pCf h) (fun h5 => cl2 (fX9_takeSign h5 (43 : Int32)) (fun x54 h52 => if x54 = (0 : Int32) then some h52 else LX3_takeSum n h52 (y + 1))) := by
  rw [LX3_takeSum, BX3_takeSum_0]
  by_cases c : (400 : Int32) ≤ y
  · rw [if_pos c, if_pos c]
  · rw [if_neg c, if_neg c]
    unfold pCf
    rw [cl92]
    rfl
theorem FF.part {T : Nat → Int32} {t : Nat} : FF T t (fun h => pCf h) := by
  unfold pCf
  exact FF.dig (FF.num (K := fun x h => cl9 (fX2_put h 13 x) (fun h1 => some h1)) (FF.seq (FF.put _) FF.id)) (FF.word (FF.word (FF.word (FF.word (FF.word (FF.word (FF.seq FF.next FF.id)))))))
theorem FF.sum {T : Nat → Int32} {t : Nat} (n : Nat) (y : Int32) : FF T t (fun h => LX3_takeSum (n + 1) h y) := by
  rw [show (fun h => LX3_takeSum (n + 1) h y) = _ from funext (fun h => sumC_s n h y)]
  exact FF.ite FF.id (FF.seq FF.part (FF.sign FF.id))
theorem isW_lt {T : Nat → Int32} {t s : Nat} {w : List Int32} (h : isW T t w s = true) (hl : 0 < w.length) : s < wnd T t s := by
  unfold isW at h
  rw [Bool.and_eq_true, decide_eq_true_eq] at h
  omega
def PB (T : Nat → Int32) (t s : Nat) (fc : Hp → Option Hp) (g : Hp → Option Int32) : Prop := (∃ (c : Int32) (k : Nat), SEMS [c] [(nI k, 0)] ∧ k ≤ 5 ∧ s < wnd T t s ∧ CF T t s 2 (.inr (wnd T t s, [c], [(nI k, 0)])) fc ∧ ∀ h, PMS T t h → h 208 10 = nI (wnd T t s) → h 208 12 = nI s → g h = some (nI k)) ∨ (CF T t s 2 (.inl s) fc ∧ ∀ h, PMS T t h → h 208 10 = nI (wnd T t s) → h 208 12 = nI s → g h = some (-1))
theorem PB.step {T : Nat → Int32} {t s : Nat} (hs : s ≤ t) (hss : skp T t s = s) {w : List Int32} (hw : okW w = true) (hl : 0 < w.length) {c : Int32} {k : Nat} {k' : Int32} (ek : k' = nI k) (sem : SEMS [c] [(nI k, 0)]) (hk : k ≤ 5) {f2 : Hp → Option Hp} {g2 : Hp → Option Int32} (B : PB T t s f2 g2) : PB T t s (fun h => cl2 (fX9_takeWord h w) (fun r h1 => if r = (0 : Int32) then f2 h1 else cl9 (fX2_put h1 13 c) (fun h2 => some h2))) (fun h => cl9 (fX12_isWord h w) (fun r => if r = (0 : Int32) then g2 h else some k')) := by
  cases hW : isW T t w s with
  | true =>
    have := isW_lt hW hl
    refine Or.inl ⟨c, k, sem, hk, this, CF.word_y hs hss hw hW (CF.tail (CF.put (wnd_le hs) (a := 2) (by decide) c _)) (by omega), fun h P e10 e12 => ?_⟩
    dsimp only
    rw [isWord_m P hs e10 e12 hw, hW, cl9_some, if_neg (show ¬ bI true = 0 by decide), ek]
  | false =>
    rcases B with ⟨c2, k2, q1, q2, q3, q4, q5⟩ | ⟨q1, q2⟩
    · refine Or.inl ⟨c2, k2, q1, q2, q3, CF.word_n hs hss hw hW q4, fun h P e10 e12 => ?_⟩
      dsimp only
      rw [isWord_m P hs e10 e12 hw, hW, cl9_some, if_pos (show bI false = 0 from rfl)]
      exact q5 h P e10 e12
    · refine Or.inr ⟨CF.word_n hs hss hw hW q1, fun h P e10 e12 => ?_⟩
      dsimp only
      rw [isWord_m P hs e10 e12 hw, hW, cl9_some, if_pos (show bI false = 0 from rfl)]
      exact q2 h P e10 e12
def wCf (h2 : Hp) : Option Hp := cl2 (fX9_takeWord h2 sw7) (fun x11 h9 => (if x11 = (0 : Int32) then cl2 (fX9_takeWord h9 sw8) (fun x15 h13 => (if x15 = (0 : Int32) then cl2 (fX9_takeWord h13 sw1) (fun x19 h17 => (if x19 = (0 : Int32) then cl2 (fX9_takeWord h17 sw9) (fun x23 h21 => (if x23 = (0 : Int32) then cl2 (fX9_takeWord h21 sw10) (fun x27 h25 => (if x27 = (0 : Int32) then cl2 (fX9_takeWord h25 sw11) (fun x31 h29 => (if x31 = (0 : Int32) then cl9 (fX9_failNext h29) (fun h33 => some h33) else cl9 (fX2_put h29 13 (-7 : Int32)) (fun h35 => some h35))) else cl9 (fX2_put h25 13 (-6 : Int32)) (fun h37 => some h37))) else cl9 (fX2_put h21 13 (-5 : Int32)) (fun h39 => some h39))) else cl9 (fX2_put h17 13 (-4 : Int32)) (fun h41 => some h41))) else cl9 (fX2_put h13 13 (-3 : Int32)) (fun h43 => some h43))) else cl9 (fX2_put h9 13 (-2 : Int32)) (fun h45 => some h45)))
def gMf (h1 : Hp) : Option Int32 := cl9 (fX12_isWord h1 sw48) (fun x8 => if x8 = (0 : Int32) then cl9 (fX12_isWord h1 sw32) (fun x14 => (if x14 = (0 : Int32) then cl9 (fX12_isWord h1 sw29) (fun x17 => (if x17 = (0 : Int32) then cl9 (fX12_isWord h1 sw30) (fun x20 => (if x20 = (0 : Int32) then cl9 (fX12_isWord h1 sw49) (fun x23 => (if x23 = (0 : Int32) then cl9 (fX12_isWord h1 sw50) (fun x26 => (if x26 = (0 : Int32) then some (-1 : Int32) else some (5 : Int32))) else some (4 : Int32))) else some (3 : Int32))) else some (2 : Int32))) else some (1 : Int32))) else some (0 : Int32))
theorem pwords {T : Nat → Int32} {t s : Nat} (hs : s ≤ t) (hss : skp T t s = s) : PB T t s wCf gMf := by
  have b0 : PB T t s (fun h => cl9 (fX9_failNext h) (fun h1 => some h1)) (fun _ => some (-1)) := Or.inr ⟨CF.tail (CF.next hs hss), fun h _ _ _ => rfl⟩
  have b1 := PB.step hs hss (w := sw50) (by decide) (by decide) (k := 5) (k' := 5) rfl (sem_fac 5 (-7) (by decide)) (by decide) b0
  have b2 := PB.step hs hss (w := sw49) (by decide) (by decide) (k := 4) (k' := 4) rfl (sem_fac 4 (-6) (by decide)) (by decide) b1
  have b3 := PB.step hs hss (w := sw30) (by decide) (by decide) (k := 3) (k' := 3) rfl (sem_fac 3 (-5) (by decide)) (by decide) b2
  have b4 := PB.step hs hss (w := sw29) (by decide) (by decide) (k := 2) (k' := 2) rfl (sem_fac 2 (-4) (by decide)) (by decide) b3
  have b5 := PB.step hs hss (w := sw32) (by decide) (by decide) (k := 1) (k' := 1) rfl (sem_fac 1 (-3) (by decide)) (by decide) b4
  exact PB.step hs hss (w := sw48) (by decide) (by decide) (k := 0) (k' := 0) rfl (sem_fac 0 (-2) (by decide)) (by decide) b5
theorem readPart_w {h h1 : Hp} (e : fX12_letters h = some h1) (ne : ¬ h1 208 10 = h1 208 12) {v : Int32} (eg : gMf h1 = some v) : fX12_readPart h = cl9 (fX12_emits h1 v 0) (fun h29 => if v < 0 then some ((0 : Int32), h29) else some ((1 : Int32), h29)) := by
  unfold fX12_readPart
  rw [e, cl9_some, if_neg ne, ← cl99, show cl9 (fX12_isWord h1 sw48) _ = some v from eg, cl9_some]
  cases fX12_emits h1 v 0 <;> rfl
theorem readPart_n {h h1 h2 : Hp} (e : fX12_letters h = some h1) (eq : h1 208 10 = h1 208 12) {v : Int32} (en : fX12_number h1 0 999 = some (v, h2)) : fX12_readPart h = cl9 (fX12_emits h2 8 v) (fun h29 => if v < 0 then some ((0 : Int32), h29) else some ((1 : Int32), h29)) := by
  unfold fX12_readPart
  rw [e, cl9_some, if_pos eq, en, cl2_some]
  cases fX12_emits h2 8 v <;> rfl
theorem CF.dig_n {T : Nat → Int32} {t x s a : Nat} {o : LOut} {f1 f2 : Hp → Option Hp} (hx : x ≤ t) (hs : skp T t x = s) (hW : (decide (s < t) && dgT T s) = false) (k : CF T t s a o f2) : CF T t x a o (fun h => cl2 (fX9_atDigit h) (fun r h1 => if r = (0 : Int32) then f2 h1 else f1 h1)) := fun L h hl S => by
  have := skp_ge (T := T) hx
  obtain ⟨h1, e1, F1, y3⟩ := atDigit_x S.1 hx S.2.1
  rw [hs] at e1 y3
  rw [hW] at e1
  have F1' : FI c1345 h h1 := F1.mono (fun k j q => by unfold c1345; omega)
  obtain ⟨h2, e2, F2, k2⟩ := k L h1 (by omega) (S.tp F1' y3 (by rw [F1 1 5 (by omega)]; exact S.2.2.1))
  exact ⟨h2, by dsimp only; rw [e1, cl2_some, if_pos (show bI false = 0 from rfl)]; exact e2, F1'.c1345L.trans F2, k2⟩
theorem CF.dig_y {T : Nat → Int32} {t x s a : Nat} {o : LOut} {f1 f2 : Hp → Option Hp} (hx : x ≤ t) (hs : skp T t x = s) (hW : (decide (s < t) && dgT T s) = true) (k : CF T t s a o f1) : CF T t x a o (fun h => cl2 (fX9_atDigit h) (fun r h1 => if r = (0 : Int32) then f2 h1 else f1 h1)) := fun L h hl S => by
  have := skp_ge (T := T) hx
  obtain ⟨h1, e1, F1, y3⟩ := atDigit_x S.1 hx S.2.1
  rw [hs] at e1 y3
  rw [hW] at e1
  have F1' : FI c1345 h h1 := F1.mono (fun k j q => by unfold c1345; omega)
  obtain ⟨h2, e2, F2, k2⟩ := k L h1 (by omega) (S.tp F1' y3 (by rw [F1 1 5 (by omega)]; exact S.2.2.1))
  exact ⟨h2, by dsimp only; rw [e1, cl2_some, if_neg (show ¬ bI true = 0 by decide)]; exact e2, F1'.c1345L.trans F2, k2⟩
theorem CF.num_y {T : Nat → Int32} {t x s a a1 lo hi : Nat} {o : LOut} {K : Int32 → Hp → Option Hp} {lo' hi' : Int32} (hx : x ≤ t) (hs : skp T t x = s) (hlo : lo ≤ 999) (hhi : hi ≤ 999) (el : lo' = nI lo) (eh : hi' = nI hi) (k : nmK T t lo hi s = true) (c : CF T t (dnd T t s) a1 o (K (nI (nmV T t s)))) (ha : x + a1 ≤ dnd T t s + a) : CF T t x a o (fun h => cl2 (fX9_takeNumber h lo' hi') (fun r h1 => K r h1)) := fun L h hl S => by
  subst el eh
  obtain ⟨h1, e1, F1, y3, y4, y5⟩ := takeNumber_x S.1 hx S.2.1 S.2.2.1 lo hi hhi hlo
  rw [hs] at e1 y3 y4 y5
  rw [nmR_t k] at e1
  rw [k] at y5
  obtain ⟨h2, e2, F2, k2⟩ := c L h1 (by omega) (S.tp F1 y3 y5)
  exact ⟨h2, by dsimp only; rw [e1, cl2_some]; exact e2, F1.c1345L.trans F2, k2⟩
theorem CF.num_f {T : Nat → Int32} {t x s a lo hi : Nat} {K : Int32 → Hp → Option Hp} {lo' hi' : Int32} (hx : x ≤ t) (hs : skp T t x = s) (hlo : lo ≤ 999) (hhi : hi ≤ 999) (el : lo' = nI lo) (eh : hi' = nI hi) (k : nmK T t lo hi s = false) (ff : FF T t (K (-1))) : CF T t x a (.inl s) (fun h => cl2 (fX9_takeNumber h lo' hi') (fun r h1 => K r h1)) := fun L h hl S => by
  subst el eh
  have ht := S.1.1
  have hs1 : s ≤ t := by rw [← hs]; exact skp_le hx
  obtain ⟨h1, e1, F1, y3, y4, y5⟩ := takeNumber_x S.1 hx S.2.1 S.2.2.1 lo hi hhi hlo
  rw [hs] at e1 y3 y4 y5
  rw [nmR_f k] at e1
  rw [k] at y5
  obtain ⟨h2, e2, F2, k2⟩ := ff s h1 (S.fl (by omega) F1 (dnd_le hs1) y3 hs1 y5)
  exact ⟨h2, by dsimp only; rw [e1, cl2_some]; exact e2, F1.c1345L.trans F2, k2⟩
theorem dg_wnd {T : Nat → Int32} {t s : Nat} (h : (decide (s < t) && dgT T s) = true) : wnd T t s = s := by
  rw [Bool.and_eq_true, decide_eq_true_eq] at h
  refine scn_no h.1 ?_
  obtain ⟨k, k1, k2, e⟩ := rg_n (a := 48) (b := 57) (by decide) (by decide) h.2
  show rgT 97 122 T s = false
  unfold rgT
  rw [e, decide_eq_true (show nI k < (97 : Int32) from nI_lt (b := 97) (by omega) (by decide))]
  rfl
theorem dg_dnd {T : Nat → Int32} {t s : Nat} (hs : s ≤ t) (h : (decide (s < t) && dgT T s) = false) : dnd T t s = s := by
  by_cases c : s < t
  · rw [decide_eq_true c, Bool.true_and] at h
    exact scn_no c h
  · exact scn_end (by omega)
theorem part_both {T : Nat → Int32} {t d x : Nat} (hx : x ≤ t) : LB SEMS T t d x 2 2 1 1 (fun h => pCf h) (fun h => fX12_readPart h) := by
  have hg := skp_ge (T := T) hx
  have hs := skp_le (T := T) hx
  have hss := skp_id (T := T) hx
  have mL : ∀ (R : List (Int32 × Int32)) h, RLS T t d x R h → ∃ h1, fX12_letters h = some h1 ∧ FI cRl h h1 ∧ RLS T t d (wnd T t (skp T t x)) R h1 ∧ h1 208 12 = nI (skp T t x) := fun R h S => by
    obtain ⟨h1, e1, F1, y10, y12⟩ := letters_m S.1 hx S.2.1
    exact ⟨h1, e1, F1.c1012L, S.tp F1 y10, y12⟩
  have mN : ∀ (R : List (Int32 × Int32)) h, RLS T t d x R h → wnd T t (skp T t x) = skp T t x → R.length + 1 ≤ x → ∃ h2, fX12_readPart h = (if nmK T t 0 999 (skp T t x) then some (1, h2) else some (0, h2)) ∧ FI cRl h h2 ∧ RLS T t d (dnd T t (skp T t x)) (R ++ [(8, nmR T t 0 999 (skp T t x))]) h2 ∧ h2 208 12 = nI (skp T t x) := fun R h S ew hl => by
    have ht := S.1.1
    obtain ⟨h1, e1, F1, S1, y12⟩ := mL R h S
    rw [ew] at S1
    obtain ⟨h2, e2, F2, z12, z10⟩ := number_m S1.1 hs S1.2.1 0 999 (by decide) (by decide)
    rw [hss] at e2 z12 z10
    obtain ⟨h3, e3, F3, S3, q12⟩ := em_m (S1.tp F2 z10) (by omega) 8 (nmR T t 0 999 (skp T t x))
    refine ⟨h3, ?_, (F1.trans F2.c1012L).trans F3, S3, by rw [q12]; exact z12⟩
    rw [readPart_n e1 (by rw [S1.2.1, y12]) e2, e3, cl9_some]
    cases k : nmK T t 0 999 (skp T t x) with
    | true => rw [nmR_t k, if_neg (nI_pos (by have := nmV_ok (T := T) hs; omega)), if_pos rfl]
    | false => rw [nmR_f k, if_pos (by decide), if_neg (by decide)]
  generalize hS : skp T t x = s at *
  cases hd : (decide (s < t) && dgT T s) with
  | true =>
    have ew := dg_wnd hd
    cases k : nmK T t 0 999 s with
    | true =>
      obtain ⟨k1, k2, k3⟩ := nmK_t k
      have hd1 := dnd_le (T := T) hs
      refine ⟨.inr (dnd T t s, [nI (nmV T t s)], [(8, nI (nmV T t s))]), ⟨by omega, hd1, by show 1 + x + 2 ≤ _; omega, by show 1 + x + 1 ≤ _; omega, sem_num k3⟩, ?_, fun R h hl S => ?_⟩
      · unfold pCf
        exact CF.dig_y hx hS hd (CF.num_y (lo := 0) (hi := 999) hs hss (by decide) (by decide) rfl rfl k (K := fun x h => cl9 (fX2_put h 13 x) (fun h1 => some h1)) (CF.tail (CF.put hd1 (a := 2) (by decide) _ _)) (by omega))
      · obtain ⟨h2, e2, F2, S2, -⟩ := mN R h S ew hl
        rw [k, if_pos rfl] at e2
        rw [nmR_t k] at S2
        exact ⟨1, h2, e2, F2, rfl, S2⟩
    | false =>
      refine ⟨.inl s, hs, ?_, fun R h hl S => ?_⟩
      · unfold pCf
        exact CF.dig_y hx hS hd (CF.num_f (lo := 0) (hi := 999) hs hss (by decide) (by decide) rfl rfl k (K := fun x h => cl9 (fX2_put h 13 x) (fun h1 => some h1)) (FF.seq (FF.put _) FF.id))
      · obtain ⟨h2, e2, F2, S2, y12⟩ := mN R h S ew hl
        rw [k, if_neg (by decide)] at e2
        exact ⟨0, h2, e2, F2, rfl, y12⟩
  | false =>
    rcases pwords hs hss with ⟨c, k, q1, q2, q3, q4, q5⟩ | ⟨q1, q2⟩
    · have hw1 := wnd_le (T := T) hs
      refine ⟨.inr (wnd T t s, [c], [(nI k, 0)]), ⟨by omega, hw1, by show 1 + x + 2 ≤ _; omega, by show 1 + x + 1 ≤ _; omega, q1⟩, ?_, fun R h hl S => ?_⟩
      · unfold pCf
        exact CF.dig_n hx hS hd q4
      · have ht := S.1.1
        obtain ⟨h1, e1, F1, S1, y12⟩ := mL R h S
        obtain ⟨h3, e3, F3, S3, -⟩ := em_m S1 (by omega) (nI k) 0
        refine ⟨1, h3, ?_, F1.trans F3, rfl, S3⟩
        dsimp only
        rw [readPart_w e1 (by rw [S1.2.1, y12]; exact nI_ne (by omega) (by omega) (by omega)) (q5 h1 S1.1 S1.2.1 y12), e3, cl9_some, if_neg (nI_pos (by omega))]
    · refine ⟨.inl s, hs, ?_, fun R h hl S => ?_⟩
      · unfold pCf
        exact CF.dig_n hx hS hd q1
      · have ht := S.1.1
        by_cases c : wnd T t s = s
        · obtain ⟨h2, e2, F2, S2, y12⟩ := mN R h S c hl
          have k : nmK T t 0 999 s = false := by unfold nmK; rw [dg_dnd hs hd, Nat.sub_self]; rfl
          rw [k, if_neg (by decide)] at e2
          exact ⟨0, h2, e2, F2, rfl, y12⟩
        · obtain ⟨h1, e1, F1, S1, y12⟩ := mL R h S
          obtain ⟨h3, e3, F3, S3, z⟩ := em_m S1 (by omega) (-1) 0
          have hw1 := wnd_le (T := T) hs
          refine ⟨0, h3, ?_, F1.trans F3, rfl, by rw [z]; exact y12⟩
          dsimp only
          rw [readPart_w e1 (by rw [S1.2.1, y12]; exact nI_ne (by omega) (by omega) c) (q2 h1 S1.1 S1.2.1 y12), e3, cl9_some, if_pos (by decide)]

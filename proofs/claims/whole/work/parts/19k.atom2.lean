/-! The law's text: an atom, at each depth. -/
theorem atom_one {T : Nat → Int32} {t d n n' : Nat} (ht : t ≤ 400) (hd : d ≤ 6) (hn : 1 ≤ n) (hn' : n' ≤ n) {sc : Nat → Hp → Int32 → Option Hp} {sm : Nat → Hp → Option (Int32 × Hp)} (N : d < 6 → ∀ x, x ≤ t → 1 ≤ x → LB (SEMC n') T t (d + 1) x 2 1 1 1 (fun h => sc 1 h (nI (d + 1))) (fun h => sm 2 h)) (P : d < 6 → ∀ x, x ≤ t → 1 ≤ x → LB (SEMC n) T t (d + 1) x 2 1 1 1 (fun h => sc 0 h (nI (d + 1))) (fun h => sm 0 h)) {x : Nat} (hx : x ≤ t) (h1 : 1 ≤ x) : LB (SEMC n) T t d x 2 1 1 1 (fun h => F9X3_takeAtom h sc (nI d)) (fun h => F9X12_readAtom h sm) := by
  have hg := skp_ge (T := T) hx
  have hs := skp_le (T := T) hx
  have hss := skp_id (T := T) hx
  generalize hE : skp T t x = s at *
  unfold F9X3_takeAtom F9X12_readAtom
  cases hP : isW T t sw4 s with
  | true =>
    have hl := isW_lt hP (by decide)
    have he := wnd_le (T := T) hs
    refine ⟨.inr (wnd T t s, [-11], [(6, 0)]), ⟨by omega, he, by show 1 + x + 1 ≤ _; omega, by show 1 + x + 1 ≤ _; omega, (sem_tag false).mono hn⟩, CF.word_y hx hE (by decide) hP (a1 := 2) (CF.tail (CF.put he (by decide) _ _)) (by omega), ?_⟩
    exact MF.sign_n hx hE (c := 40) rfl (isW_S hs hP (by decide) (by decide)) (MF.word_n hs hss (w := sw45) (by decide) (isW_ex hP (by decide)) (tag_y false (by decide) _ hs hss hP))
  | false =>
    cases hL : isW T t sw5 s with
    | true =>
      have hl := isW_lt hL (by decide)
      have he := wnd_le (T := T) hs
      refine ⟨.inr (wnd T t s, [-12], [(7, 0)]), ⟨by omega, he, by show 1 + x + 1 ≤ _; omega, by show 1 + x + 1 ≤ _; omega, (sem_tag true).mono hn⟩, CF.word_n hx hE (by decide) hP (CF.word_y hs hss (by decide) hL (a1 := 2) (CF.tail (CF.put he (by decide) _ _)) (by omega)), ?_⟩
      exact MF.sign_n hx hE (c := 40) rfl (isW_S hs hL (by decide) (by decide)) (MF.word_n hs hss (w := sw45) (by decide) (isW_ex hL (by decide)) (tag_y true (by decide) _ hs hss hL))
    | false =>
      cases hN : isW T t sw6 s with
      | true =>
        have hl := isW_lt hN (by decide)
        have he := wnd_le (T := T) hs
        have hS := isW_S (c := 40) hs hN (by decide) (by decide)
        by_cases c6 : d = 6
        · subst c6
          exact ⟨.inl s, hs, CF.word_n hx hE (by decide) hP (CF.word_n hs hss (by decide) hL (CF.deepW hs hss (by decide) hN)), MF.sign_n hx hE (c := 40) rfl hS (MF.deepW hs hss (w := sw45) (by decide) hN)⟩
        · obtain ⟨o, k, c, m⟩ := N (by omega) (wnd T t s) he (by omega)
          have cc : ∀ o', CF T t (wnd T t s) 2 o' (fun h9 => cl9 (sc 1 h9 (nI (d + 1))) (fun h44 => cl9 (fX2_put h44 13 (-13 : Int32)) (fun h46 => some h46))) → CF T t x 2 o' (fun h => F9X3_takeAtom h sc (nI d)) := fun o' q => by
            unfold F9X3_takeAtom
            exact CF.word_n hx hE (w := sw4) (by decide) hP (CF.word_n hs hss (w := sw5) (by decide) hL (CF.word_y hs hss (w := sw6) (by decide) hN (a1 := 2) (CF.cg (f := fun h9 => cl2 (fX3_isTooDeep h9 (nI d)) (fun x42 h40 => (if x42 = (0 : Int32) then cl9 (sc 1 h40 (nI d + 1)) (fun h44 => cl9 (fX2_put h44 13 (-13 : Int32)) (fun h46 => some h46)) else some h40))) (fun h => by rw [tooDeep_n (by omega), cl2_some, if_pos rfl, nI_1]) q) (by omega)))
          cases o with
          | inl f =>
            exact ⟨.inl f, k, cc _ (c.seqF (FF.seq (FF.put _) FF.id)), MF.sign_n hx hE (c := 40) rfl hS (MF.word_y hs hss (w := sw45) (by decide) hN (b1 := 1) (MF.deepF (by omega) m) (by omega))⟩
          | inr q =>
            obtain ⟨y, cl, rl⟩ := q
            have k' := k
            obtain ⟨k1, k2, k3, k4, k5⟩ := k
            refine ⟨seqO cl rl (.inr (y, [-13], [(12, 0)])), ?_, cc _ (CF.seq c (CF.tail (CF.put k2 (a := 1) (by decide) _ _)) (by omega)), MF.sign_n hx hE (c := 40) rfl hS (MF.word_y hs hss (w := sw45) (by decide) hN (b1 := 2) ((MF.deep (by omega) m (b1 := 1) (MF.emit (cl := []) (b1 := 0) (o := .inr (y, [-13], [])) k2 (MF.one _) (by decide)) (by omega)).mono (by omega)) ?_)⟩
            · have hl3 := isW_len hs hN
              have hl4 : sw6.length = 3 := rfl
              refine ⟨by omega, k2, ?_, ?_, (sem_not k5).mono hn'⟩
              · rw [List.length_append]; show _ + 1 + x + 1 ≤ y + 2; omega
              · rw [List.length_append]; show _ + 1 + x + 1 ≤ y + 1; omega
            · omega
      | false =>
        cases hO : isS T t 40 s with
        | true =>
          have hs1 := isS_lt hO
          by_cases c6 : d = 6
          · subst c6
            exact ⟨.inl s, hs, CF.word_n hx hE (by decide) hP (CF.word_n hs hss (by decide) hL (CF.word_n hs hss (by decide) hN (CF.deepS hs hss (c := 40) (by decide) rfl hO))), MF.deepS hx hE (c := 40) rfl hO⟩
          · obtain ⟨o, k, c, m⟩ := P (by omega) (s + 1) (by omega) (by omega)
            have cc : ∀ o', CF T t (s + 1) 2 o' (fun h9 => cl9 (sc 0 h9 (nI (d + 1))) (fun h32 => cl2 (fX9_takeSign h32 (41 : Int32)) (fun x36 h34 => (if x36 = (0 : Int32) then cl9 (fX9_failNext h34) (fun h38 => some h38) else some h34)))) → CF T t x 2 o' (fun h => F9X3_takeAtom h sc (nI d)) := fun o' q => by
              unfold F9X3_takeAtom
              exact CF.word_n hx hE (w := sw4) (by decide) hP (CF.word_n hs hss (w := sw5) (by decide) hL (CF.word_n hs hss (w := sw6) (by decide) hN (CF.sign_y hs hss (c := 40) (c' := 40) (by decide) rfl hO (a1 := 2) (CF.cg (f := fun h9 => cl2 (fX3_isTooDeep h9 (nI d)) (fun x30 h28 => (if x30 = (0 : Int32) then cl9 (sc 0 h28 (nI d + 1)) (fun h32 => cl2 (fX9_takeSign h32 (41 : Int32)) (fun x36 h34 => (if x36 = (0 : Int32) then cl9 (fX9_failNext h34) (fun h38 => some h38) else some h34))) else some h28))) (fun h => by rw [tooDeep_n (by omega), cl2_some, if_pos rfl, nI_1]) q) (by omega))))
            cases o with
            | inl f =>
              exact ⟨.inl f, k, cc _ (c.seqF (FF.sign (FF.seq FF.next FF.id))), MF.sign_y hx hE (c := 40) rfl hO (b1 := 1) (MF.deepF (by omega) m) (by omega)⟩
            | inr q =>
              obtain ⟨y, cl, rl⟩ := q
              have k' := k
              obtain ⟨k1, k2, k3, k4, k5⟩ := k
              have hy := skp_le (T := T) k2
              have hyg := skp_ge (T := T) k2
              have hyy := skp_id (T := T) k2
              have mS : ∀ o', MF T t d y 1 o' (fun h60 => cl2 (fX12_sign h60 (41 : Int32)) (fun x63 h61 => gd (x63 = 0 ∨ x63 = 1) (some (x63, h61)))) → MF T t d x 1 (seqO cl rl o') (fun h => F9X12_readAtom h sm) := fun o' q => by
                unfold F9X12_readAtom
                exact MF.sign_y hx hE (c := 40) (c' := 40) rfl hO (b1 := 1) (MF.deep (by omega) m (b1 := 1) q (by omega)) (by decide)
              cases hC : isS T t 41 (skp T t y) with
              | true =>
                have hs2 := isS_lt hC
                refine ⟨seqO cl rl (.inr (skp T t y + 1, [], [])), ?_, cc _ (CF.seq c (CF.sign_y k2 rfl (c := 41) (by decide) rfl hC (a := 1) (a1 := 1) (CF.id _) (by decide)) (by omega)), mS _ ?_⟩
                · refine ⟨by omega, by omega, ?_, ?_, ?_⟩
                  · rw [List.append_nil]; omega
                  · rw [List.append_nil]; omega
                  · rw [List.append_nil, List.append_nil]; exact k5
                · exact MF.sgn_y k2 rfl (c := 41) rfl hC (b1 := 1) (MF.cg (fun h => gd_t (Or.inr rfl)) (MF.one _)) (by decide)
              | false =>
                refine ⟨.inl (skp T t y), hy, cc _ (CF.seq c (o := .inl (skp T t y)) (CF.sign_n k2 rfl (c := 41) (by decide) rfl hC (a := 1) (CF.tail (CF.next hy hyy))) (by omega)), mS (.inl (skp T t y)) (fun R h hl S => ?_)⟩
                obtain ⟨h1, e1, F1, S1, y12⟩ := sg_n S k2 rfl (c := 41) (c' := 41) rfl hC
                exact ⟨0, h1, by dsimp only; rw [e1, cl2_some, gd_t (Or.inl rfl)], F1, rfl, y12⟩
        | false =>
          obtain ⟨o, k, c, m⟩ := LB.seq (Pr := SEMC n) (sum_both (T := T) (d := d) ht hs (by omega)) (show FF T t cTl from FF.seq (FF.put _) (FF.cmp (K := fun x23 h21 => cl9 (fX3_takeSum h21) (fun h24 => cl9 (fX2_put h24 13 x23) (fun h26 => some h26))) (fun v => FF.seq FF.tsum (FF.seq (FF.put _) FF.id)))) (fun y h1 h2 => tail_both ht h2) (fun c r c' r' p ⟨less, c2, r2, p2, e1, e2⟩ => by rw [e1, e2]; exact (sem_cmp less p p2).mono hn)
          refine ⟨o, k.mono (by omega) (by omega) (by omega), CF.word_n hx hE (by decide) hP (CF.word_n hs hss (by decide) hL (CF.word_n hs hss (by decide) hN (CF.sign_n hs hss (c := 40) (by decide) rfl hO c))), ?_⟩
          exact MF.sign_n hx hE (c := 40) rfl hO (MF.word_n hs hss (w := sw45) (by decide) hN (tag_n hs hss hP hL m))
theorem grpC_1 (n : Nat) (a : Int32) : (fun h => grp_X3_takeCondition (n + 1) 1 h a) = fun h => F9X3_takeAtom h (grp_X3_takeCondition n) a := rfl
theorem grpC_0 (n : Nat) (a : Int32) : (fun h => grp_X3_takeCondition (n + 1) 0 h a) = fun h => F9X3_takeCondition h (grp_X3_takeCondition n) a := rfl
theorem grpM_2 (n : Nat) : (fun h => grp_X12_readCond (n + 1) 2 h) = fun h => F9X12_readAtom h (grp_X12_readCond n) := rfl
theorem grpM_0 (n : Nat) : (fun h => grp_X12_readCond (n + 1) 0 h) = fun h => F9X12_readCond h (grp_X12_readCond n) := rfl
theorem grp_both {T : Nat → Int32} {t : Nat} (ht : t ≤ 400) : ∀ k d, d + k = 6 → ∀ dc dm, 2 * k ≤ dc → 3 * k ≤ dm → (∀ x, x ≤ t → 1 ≤ x → LB (SEMC (2 * k + 1)) T t d x 2 1 1 1 (fun h => grp_X3_takeCondition (dc + 1) 1 h (nI d)) (fun h => grp_X12_readCond (dm + 1) 2 h)) ∧ (∀ x, x ≤ t → 1 ≤ x → LB (SEMC (2 * k + 3)) T t d x 2 1 1 1 (fun h => grp_X3_takeCondition (dc + 2) 0 h (nI d)) (fun h => grp_X12_readCond (dm + 3) 0 h)) := by
  have out : ∀ k d dc dm, (∀ x, x ≤ t → 1 ≤ x → LB (SEMC (2 * k + 1)) T t d x 2 1 1 1 (fun h => grp_X3_takeCondition (dc + 1) 1 h (nI d)) (fun h => grp_X12_readCond (dm + 1) 2 h)) → (∀ x, x ≤ t → 1 ≤ x → LB (SEMC (2 * k + 3)) T t d x 2 1 1 1 (fun h => grp_X3_takeCondition (dc + 2) 0 h (nI d)) (fun h => grp_X12_readCond (dm + 3) 0 h)) := fun k d dc dm A x hx h1 => by
    rw [grpC_0, grpM_0]
    exact cond_both ht (sm := grp_X12_readCond (dm + 1)) (fun h => rfl) A hx h1
  intro k
  induction k with
  | zero =>
    intro d hd dc dm h1 h2
    have A : ∀ x, x ≤ t → 1 ≤ x → LB (SEMC (2 * 0 + 1)) T t d x 2 1 1 1 (fun h => grp_X3_takeCondition (dc + 1) 1 h (nI d)) (fun h => grp_X12_readCond (dm + 1) 2 h) := fun x hx hx1 => by
      rw [grpC_1, grpM_2]
      exact atom_one ht (by omega) (by decide) (Nat.le_refl _) (fun q => by omega) (fun q => by omega) hx hx1
    exact ⟨A, out _ _ _ _ A⟩
  | succ k ih =>
    intro d hd dc dm h1 h2
    obtain ⟨dc, rfl⟩ : ∃ j, dc = j + 2 := ⟨dc - 2, by omega⟩
    obtain ⟨dm, rfl⟩ : ∃ j, dm = j + 3 := ⟨dm - 3, by omega⟩
    have N := (ih (d + 1) (by omega) (dc + 1) (dm + 2) (by omega) (by omega)).1
    have P := (ih (d + 1) (by omega) dc dm (by omega) (by omega)).2
    have A : ∀ x, x ≤ t → 1 ≤ x → LB (SEMC (2 * (k + 1) + 1)) T t d x 2 1 1 1 (fun h => grp_X3_takeCondition (dc + 2 + 1) 1 h (nI d)) (fun h => grp_X12_readCond (dm + 3 + 1) 2 h) := fun x hx hx1 => by
      rw [grpC_1, grpM_2]
      exact atom_one ht (by omega) (by omega) (n' := 2 * k + 1) (by omega) (fun _ => N) (fun _ => P) hx hx1
    exact ⟨A, out _ _ _ _ A⟩
/-- a condition of the law, as both read it -/
theorem condition_both {T : Nat → Int32} {t : Nat} (ht : t ≤ 400) {x : Nat} (hx : x ≤ t) (h1 : 1 ≤ x) : LB (SEMC 15) T t 0 x 2 1 1 1 (fun h => fX3_takeCondition h 0) (fun h => fX12_readCond h) := (grp_both ht 6 0 rfl 62 61 (by decide) (by decide)).2 x hx h1
theorem FF.condition {T : Nat → Int32} {t : Nat} : FF T t (fun h => fX3_takeCondition h 0) := FF.cond 62 0

/-! seen, climb: the reference's sets, and both asks -/
def cL (k j : Nat) : Prop := (k = 208 ∧ (j = 18 ∨ j = 22)) ∨ k = 216 ∨ k = 218 ∨ k = 219
def TBS (w : Nat → Int32) (s : Hp) (l : List Nat) : Prop := s 208 22 = nI l.length ∧ AtL (s 218) l ∧ ∀ i, i < l.length → ∀ p, p < 16 → s 219 (16 * i + p) = nI (skS w (l.getD i 0) p)
theorem laysSets_m {h : Hp} {w T : Nat → Int32} (G : GW w) (HM : lawM w) (hw : h 209 = w) {t m : Nat} (etm : t = 2 * m) (ht : t ≤ 400) (e11 : h 208 11 = nI t) (hT : ∀ j, j < t → h 214 j = T j) (PL : PLT T m) {P : Nat} (hP : P < 65536) (eP : w 7 = nI P) : ∃ h', fX12_laysSets h = some h' ∧ FI cL h h' ∧ TBS w h' ((List.range (P + 1)).filter (fun n => two n && fitS w T m n)) := by
  unfold fX12_laysSets
  simp only [lt9_e]
  obtain ⟨r, e, q1, q2⟩ := loop0 (σ := Hp) (ρ := Hp) (P + 1) (fun n i s => LX12_laysSets n s (nI i)) (fun i s => FI cL h s ∧ TBS w s ((List.range i).filter (fun n => two n && fitS w T m n))) (fun r => FI cL h r ∧ TBS w r ((List.range (P + 1)).filter (fun n => two n && fitS w T m n))) (up2 h 208 22 0) (by omega) ⟨FI.up2 _ _ (Or.inl ⟨rfl, Or.inr rfl⟩), by rw [up2_s, upd_s]; rfl, fun i hi => absurd hi (Nat.not_lt_zero _), fun i hi => absurd hi (Nat.not_lt_zero _)⟩ (by
    rintro n S s hi ⟨b1, b2, b3, b4⟩
    left
    have s9 : s 209 = w := by rw [b1.cell (fun j q => by unfold cL at q; omega)]; exact hw
    have hl : ((List.range S).filter (fun n => two n && fitS w T m n)).length < 273 := Nat.lt_of_le_of_lt (range_len _ (by omega)) (by decide)
    generalize hL : (List.range S).filter (fun n => two n && fitS w T m n) = l at b2 b3 b4 hl
    have eL : (List.range (S + 1)).filter (fun n => two n && fitS w T m n) = l ++ [S].filter (fun n => two n && fitS w T m n) := by rw [List.range_succ, List.filter_append, hL]
    rw [eL]
    try dsimp only
    have st : LX12_laysSets (n + 1) s (nI S) = cl9 ((if (nI S &&& (w 7 ^^^ (-1))) = 0 then (if 2 < nI (bcN S) then some false else some true) else some false) : Option Bool) (fun q2 => if q2 = true then cl2 (fX12_fits s (nI S)) (fun x10 h8 => (if x10 = 0 then LX12_laysSets n h8 (nI (S + 1)) else gd (inb (h8 208 22) 273) (LX12_laysSets n (up2 (up2 h8 218 (h8 208 22).toNatClampNeg (nI S)) 208 22 ((up2 h8 218 (h8 208 22).toNatClampNeg (nI S)) 208 22 + 1)) (nI (S + 1))))) else LX12_laysSets n s (nI (S + 1))) := by
      rw [LX12_laysSets, BX12_laysSets_0]
      unfold fX12_pins
      rw [s9, eP, if_neg (nlt (by omega) (by omega)), bitCount_N (by omega)]
      simp only [lt9_e]
      rw [nI_1]
    rw [st]
    by_cases c : nI S &&& (w 7 ^^^ (-1)) = 0
    · rw [if_pos c]
      have sb : subP w S = true := decide_eq_true c
      by_cases d : bcN S ≤ 2
      · have tw : two S = true := by unfold two; exact Nat.ble_eq.mpr d
        obtain ⟨s1, e1, F1, t1⟩ := fits_m G HM s9 etm ht (by rw [b1 208 11 (fun q => by unfold cL at q; omega)]; exact e11) (by rw [b1.cell (k := 214) (fun j q => by unfold cL at q; omega)]; exact hT) PL hl b2 S
        have F1' : FI cL s s1 := F1.mono (fun c j q => by unfold cT at q; unfold cL; omega)
        have s22 : s1 208 22 = nI l.length := by rw [F1 208 22 (fun q => by unfold cT at q; omega)]; exact b2
        have s18 : s1 218 = s 218 := F1.cell (fun j q => by unfold cT at q; omega)
        have s19 : ∀ i, i < l.length → ∀ p, p < 16 → s1 219 (16 * i + p) = nI (skS w (l.getD i 0) p) := fun i hi p hp => by rw [F1 219 _ (fun q => by unfold cT at q; omega)]; exact b4 i hi p hp
        rw [if_neg (by rw [i_2]; exact nlt d (by decide)), cl9_some, if_pos rfl, e1, cl2_some]
        cases o : allB (okP w T S) m with
        | false =>
          rw [filter1f (show (two S && fitS w T m S) = false by unfold fitS; rw [sb, o, tw]; rfl), List.append_nil]
          exact ⟨s1, ⟨b1.trans F1', s22, by rw [s18]; exact b3, s19⟩, by rw [if_pos (show bI false = 0 from rfl)]⟩
        | true =>
          rw [filter1t (show (two S && fitS w T m S) = true by unfold fitS; rw [sb, o, tw]; rfl)]
          rw [if_neg (show ¬ bI true = 0 by decide), s22, gd_in hl (by decide), nI_clamp (by omega)]
          refine ⟨_, ⟨((b1.trans F1').trans (FI.up2 _ _ (Or.inr (Or.inr (Or.inl rfl))))).trans (FI.up2 _ _ (Or.inl ⟨rfl, Or.inr rfl⟩)), ?_, ?_, ?_⟩, rfl⟩
          · rw [up2_s, upd_s, up2_n _ _ _ (by decide), s22, nI_1, List.length_append]; rfl
          · rw [up2_n _ _ _ (by decide), up2_s, s18]
            exact b3.app S
          · intro i hi p hp
            rw [up2_n _ _ _ (by decide), up2_n _ _ _ (by decide)]
            rw [List.length_append, List.length_singleton] at hi
            by_cases ci : i = l.length
            · subst ci
              rw [t1 p hp]; simp
            · rw [s19 i (by omega) p hp]; simp [List.getD, List.getElem?_append_left (show i < l.length by omega)]
      · have tw : two S = false := by unfold two; cases q : Nat.ble (bcN S) 2 with
          | false => rfl
          | true => exact absurd (Nat.ble_eq.mp q) d
        have b5 : bcN S < 2 ^ 31 := Nat.lt_of_le_of_lt (show bcN S ≤ 63 from Nat.and_le_right) (by decide)
        rw [filter1f (show (two S && fitS w T m S) = false by rw [tw]; rfl), List.append_nil]
        exact ⟨s, ⟨b1, b2, b3, b4⟩, by rw [if_pos (by rw [i_2]; exact nI_lt (by omega) b5), cl9_some, if_neg (by decide)]⟩
    · rw [filter1f (show (two S && fitS w T m S) = false by unfold fitS subP; rw [decide_eq_false c, Bool.false_and, Bool.and_false]), List.append_nil]
      exact ⟨s, ⟨b1, b2, b3, b4⟩, by rw [if_neg c, cl9_some, if_neg (by decide)]⟩) (by
    rintro n s ⟨b1, b2⟩
    have s9 : s 209 = w := by rw [b1.cell (fun j q => by unfold cL at q; omega)]; exact hw
    try dsimp only
    refine ⟨s, ?_, b1, b2⟩
    rw [LX12_laysSets, BX12_laysSets_0]
    unfold fX12_pins
    rw [s9, eP, if_pos (nI_lt (by omega) (by omega))])
  exact ⟨r, e, q1, q2⟩
theorem sub_le {w : Nat → Int32} {P S : Nat} (hP : P < 65536) (eP : w 7 = nI P) (hS : S < 65536) (h : subP w S = true) : S ≤ P := by
  have h := of_decide_eq_true h
  have z : nI S &&& nI P = nI S := has9_ext (fun p hp => by
    rw [has9_and]
    have := (and_zero_iff _ _).mp h p hp
    rw [has9_cpl _ hp, eP] at this
    revert this
    cases has9 (nI S) p <;> cases has9 (nI P) p <;> simp)
  rw [nI_and] at z
  have : S &&& P ≤ P := Nat.and_le_right
  have z2 := (nI_eq (Nat.lt_of_le_of_lt this (by omega)) (by omega)).mp z
  omega
/-- the two lists -/
theorem two_lists {w T : Nat → Int32} {m P : Nat} (hP : P < 65536) (eP : w 7 = nI P) : (SL.filter (fitS w T m)).Perm ((List.range (P + 1)).filter (fun n => two n && fitS w T m n)) :=
  SL_perm _ hP (fun n h1 h2 => sub_le hP eP h1 (by unfold fitS at h2; rw [Bool.and_eq_true] at h2; exact h2.1))
def andL (a : Int32) (l : List Nat) : Int32 := l.foldl (fun a S => a &&& nI S) a
theorem andL_has (p : Nat) : ∀ (l : List Nat) (a : Int32), has9 (andL a l) p = (has9 a p && l.all (fun S => has9 (nI S) p))
  | [], a => by simp [andL]
  | S :: l, a => by
    have := andL_has p l (a &&& nI S)
    unfold andL at this ⊢
    rw [List.foldl_cons, this, has9_and, List.all_cons, Bool.and_assoc]
theorem andL_s (a : Int32) (l : List Nat) {i : Nat} (hi : i < l.length) : andL a (l.take (i + 1)) = andL a (l.take i) &&& nI (l.getD i 0) := by
  unfold andL
  rw [take_s l hi, List.foldl_append]
  rfl
theorem and_two {w T : Nat → Int32} {m P : Nat} (hP : P < 65536) (eP : w 7 = nI P) (h16 : S16 (w 7)) {l1 l2 : List Nat} (e1 : l1 = SL.filter (fitS w T m)) (p12 : l1.Perm l2) (h0 : l1 ≠ []) : andL (w 7) l1 = andL 65535 l2 := by
  have sb : ∀ S, S ∈ l1 → ∀ p, p < 16 → has9 (nI S) p = true → has9 (w 7) p = true := by
    intro S hS p hp h9
    rw [e1, List.mem_filter] at hS
    have h2 := hS.2
    unfold fitS at h2
    rw [Bool.and_eq_true] at h2
    have := (and_zero_iff _ _).mp (of_decide_eq_true h2.1) p (by omega)
    rw [has9_cpl _ (by omega), h9] at this
    revert this
    cases has9 (w 7) p <;> simp
  have all12 : ∀ p, l1.all (fun S => has9 (nI S) p) = l2.all (fun S => has9 (nI S) p) := by
    intro p
    rw [Bool.eq_iff_iff, List.all_eq_true, List.all_eq_true]
    exact ⟨fun h x hx => h x (p12.mem_iff.mpr hx), fun h x hx => h x (p12.mem_iff.mp hx)⟩
  refine S16_ext (fun p hp => by rw [andL_has, h16 p hp]; rfl) (fun p hp => by rw [andL_has, S16_all p hp]; rfl) (fun p hp => ?_)
  rw [andL_has, andL_has, has9_all hp, Bool.true_and, ← all12]
  cases c : l1.all (fun S => has9 (nI S) p) with
  | false => rw [Bool.and_false]
  | true =>
    obtain ⟨S, hS⟩ := List.exists_mem_of_ne_nil _ h0
    rw [sb S hS p hp (List.all_eq_true.mp c S hS)]
    rfl
theorem seen_xL {s : Hp} {l : List Nat} (hA : AtL (s 29) l) (hl : l.length ≤ 137) (a : Int32) : LX11_seen big s (nI l.length) a 0 = some (andL a l, 0, s) := by
  obtain ⟨r, e, er⟩ := loop0 (σ := Unit) (ρ := Int32 × Nat × Hp) l.length (fun n i _ => LX11_seen n s (nI l.length) (andL a (l.take i)) (nI i)) (fun i _ => True) (fun r => r = (andL a l, 0, s)) () (by omega) trivial (by
    rintro n i - hi -
    left
    refine ⟨(), trivial, ?_⟩
    try dsimp only
    rw [LX11_seen, BX11_seen_0, if_neg (nI_ge hi (by omega)), gd_in (show i < 137 by omega) (by decide), nI_clamp (by omega), hA i hi, nI_1, andL_s a l hi]
    rfl) (by
    rintro n - -
    try dsimp only
    refine ⟨_, ?_, rfl⟩
    rw [LX11_seen, BX11_seen_0, if_pos (nI_le (Nat.le_refl _) (by omega)), List.take_length])
  subst er
  exact e
theorem seen_mL {w : Nat → Int32} {s : Hp} {l : List Nat} (hA : TBS w s l) (hl : l.length ≤ 137) (x a : Int32) : LX12_seen big s x a 0 = some (if x = 0 then nI l.length else andL a l, s) := by
  obtain ⟨r, e, er⟩ := loop0 (σ := Unit) (ρ := Int32 × Hp) l.length (fun n i _ => LX12_seen n s x (andL a (l.take i)) (nI i)) (fun i _ => True) (fun r => r = (if x = 0 then nI l.length else andL a l, s)) () (by omega) trivial (by
    rintro n i - hi -
    left
    refine ⟨(), trivial, ?_⟩
    try dsimp only
    rw [LX12_seen, BX12_seen_0, hA.1, if_neg (nI_ge hi (by omega)), gd_in (show i < 273 by omega) (by decide), nI_clamp (by omega), hA.2.1 i hi, nI_1, andL_s a l hi]
    rfl) (by
    rintro n - -
    try dsimp only
    refine ⟨_, ?_, rfl⟩
    rw [LX12_seen, BX12_seen_0, hA.1, if_pos (nI_le (Nat.le_refl _) (by omega)), List.take_length]
    by_cases c : x = 0
    · rw [if_pos c, if_pos c]
    · rw [if_neg c, if_neg c])
  subst er
  exact e

/-! A day. -/
def drwW (w : Nat → Int32) : Nat → Int32 := upd w 12 ((1103515245 : Int32) * w 12 + 12345)
def drwV (w : Nat → Int32) : Int32 := (ushr ((1103515245 : Int32) * w 12 + 12345) 16) &&& 32767
def lostW (w : Nat → Int32) (p : Nat) : Nat → Int32 := upd (takeW w p 3) 10 (w 10 + 1)
def loseW (w : Nat → Int32) (S : Int32) : Nat → (Nat → Int32)
  | 0 => w
  | n + 1 => if has9 S n then lostW (loseW w S n) n else loseW w S n
theorem loseW_s (w : Nat → Int32) (S : Int32) (n : Nat) : loseW w S (n + 1) = if has9 S n then lostW (loseW w S n) n else loseW w S n := rfl
def blowW (w : Nat → Int32) : Nat → Int32 := if w 8 ≤ irem (drwV w) 100 then drwW w else if has9 (w 7) (irem (drwV (drwW w)) 16).toNatClampNeg then lostW (drwW (drwW w)) (irem (drwV (drwW w)) 16).toNatClampNeg else drwW (drwW w)
def gnawW (w : Nat → Int32) : Nat → Int32 := if w 9 ≤ irem (drwV w) 100 then drwW w else if has9 (w 7) (irem (drwV (drwW w)) 16).toNatClampNeg then upd (drwW (drwW w)) (62 + (irem (drwV (drwW w)) 16).toNatClampNeg) (jmin 99 (w (62 + (irem (drwV (drwW w)) 16).toNatClampNeg) + 20)) else drwW (drwW w)
def rustW (w : Nat → Int32) : Nat → (Nat → Int32)
  | 0 => w
  | n + 1 => if has9 (w 7) n then upd (rustW w n) (62 + n) (jmin 99 (rustW w n (62 + n) + rustB (rustW w n) n)) else rustW w n
theorem rustW_s (w : Nat → Int32) (n : Nat) : rustW w (n + 1) = if has9 (w 7) n then upd (rustW w n) (62 + n) (jmin 99 (rustW w n (62 + n) + rustB (rustW w n) n)) else rustW w n := rfl
def windW (wind : Bool) (w : Nat → Int32) : Nat → Int32 := if wind then gnawW (blowW w) else w
def gonS (w : Nat → Int32) : Int32 := w 7 &&& (hold9 w (w 7) ^^^ (-1))
def endW (w : Nat → Int32) : Nat → Int32 := upd w 3 (jmin 9999 (w 3 + 1))
def dayW (wind : Bool) (w : Nat → Int32) : Nat → Int32 := endW (loseW (windW wind (rustW w 16)) (gonS (windW wind (rustW w 16))) 16)
/-- what a day leaves as it is -/
def KEEP (w w' : Nat → Int32) : Prop := w' 2 = w 2 ∧ ∀ i, 333 ≤ i → w' i = w i
theorem KEEP.refl (w : Nat → Int32) : KEEP w w := ⟨rfl, fun _ _ => rfl⟩
theorem KEEP.trans {w w1 w2 : Nat → Int32} (a : KEEP w w1) (b : KEEP w1 w2) : KEEP w w2 := ⟨b.1.trans a.1, fun i hi => (b.2 i hi).trans (a.2 i hi)⟩
theorem KEEP.upd (w : Nat → Int32) {i : Nat} (v : Int32) (h2 : i ≠ 2) (hi : i < 333) : KEEP w (upd w i v) := ⟨upd_n _ _ (Ne.symm h2), fun j hj => upd_n _ _ (by omega)⟩
theorem takeW_keep (w : Nat → Int32) {p : Nat} (hp : p < 16) (a : Int32) : KEEP w (takeW w p a) := by
  unfold takeW
  refine ⟨?_, fun i hi => ?_⟩
  · rw [upd_n _ _ (by omega), upd_n _ _ (by decide), logW_lt _ _ _ _ (by decide), upd_n _ _ (by decide)]
  · rw [upd_n _ _ (by omega), upd_n _ _ (by omega), logW_ge _ _ _ _ hi]
theorem takeW_lt (w : Nat → Int32) {p : Nat} (a : Int32) {i : Nat} (hi : i < 93) (h7 : i ≠ 7) (h11 : i ≠ 11) (hp : i ≠ 62 + p) : takeW w p a i = w i := by
  unfold takeW
  rw [upd_n _ _ hp, upd_n _ _ h7, logW_lt _ _ _ _ hi, upd_n _ _ h11]
theorem lostW_7 (w : Nat → Int32) {p : Nat} (hp : p < 16) : lostW w p 7 = wo9 (w 7) p := by
  unfold lostW takeW
  rw [upd_n _ _ (by decide), upd_n _ _ (by omega), upd_s]
theorem lostW_10 (w : Nat → Int32) (p : Nat) : lostW w p 10 = w 10 + 1 := by unfold lostW; rw [upd_s]
theorem lostW_keep (w : Nat → Int32) {p : Nat} (hp : p < 16) : KEEP w (lostW w p) := (takeW_keep w hp 3).trans (KEEP.upd _ _ (by decide) (by decide))
theorem loseW_keep (w : Nat → Int32) (S : Int32) : ∀ n, n ≤ 16 → KEEP w (loseW w S n)
  | 0, _ => KEEP.refl w
  | n + 1, h => by
    rw [loseW_s]
    cases has9 S n with
    | true => exact (loseW_keep w S n (by omega)).trans (lostW_keep _ (by omega))
    | false => exact loseW_keep w S n (by omega)
theorem drw_lt (w : Nat → Int32) : ∃ d, d < 32768 ∧ drwV w = nI d := by
  unfold drwV
  exact pk_andE _ 15 (by decide)
theorem drw16 (w : Nat → Int32) : ∃ q, q < 16 ∧ irem (drwV w) 16 = nI q := by
  obtain ⟨d, hd, e⟩ := drw_lt w
  exact ⟨d % 16, Nat.mod_lt _ (by decide), by rw [e, i_16, irem_n (by omega) (by decide) (by decide)]⟩
theorem drwW_keep (w : Nat → Int32) : KEEP w (drwW w) := KEEP.upd _ _ (by decide) (by decide)
theorem drwW_n (w : Nat → Int32) {i : Nat} (h : i ≠ 12) : drwW w i = w i := upd_n _ _ h
theorem blowW_keep (w : Nat → Int32) : KEEP w (blowW w) := by
  obtain ⟨q, hq, e⟩ := drw16 (drwW w)
  unfold blowW
  rw [e, nI_clamp (by omega)]
  by_cases c : w 8 ≤ irem (drwV w) 100
  · rw [if_pos c]; exact drwW_keep w
  · rw [if_neg c]
    cases has9 (w 7) q with
    | true => exact ((drwW_keep w).trans (drwW_keep _)).trans (lostW_keep _ hq)
    | false => exact (drwW_keep w).trans (drwW_keep _)
theorem gnawW_keep (w : Nat → Int32) : KEEP w (gnawW w) := by
  obtain ⟨q, hq, e⟩ := drw16 (drwW w)
  unfold gnawW
  rw [e, nI_clamp (by omega)]
  by_cases c : w 9 ≤ irem (drwV w) 100
  · rw [if_pos c]; exact drwW_keep w
  · rw [if_neg c]
    cases has9 (w 7) q with
    | true => exact ((drwW_keep w).trans (drwW_keep _)).trans (KEEP.upd _ _ (by omega) (by omega))
    | false => exact (drwW_keep w).trans (drwW_keep _)
theorem rustW_keep (w : Nat → Int32) : ∀ n, n ≤ 16 → KEEP w (rustW w n) ∧ rustW w n 7 = w 7 ∧ rustW w n 10 = w 10
  | 0, _ => ⟨KEEP.refl w, rfl, rfl⟩
  | n + 1, h => by
    obtain ⟨a, b, c⟩ := rustW_keep w n (by omega)
    rw [rustW_s]
    cases has9 (w 7) n with
    | true =>
      simp only [if_true]
      exact ⟨a.trans (KEEP.upd _ _ (by omega) (by omega)), by rw [upd_n _ _ (by omega)]; exact b, by rw [upd_n _ _ (by omega)]; exact c⟩
    | false => exact ⟨a, b, c⟩
theorem windW_keep (b : Bool) (w : Nat → Int32) : KEEP w (windW b w) := by
  unfold windW
  cases b with
  | true => exact (blowW_keep w).trans (gnawW_keep _)
  | false => exact KEEP.refl w
theorem dayW_keep (b : Bool) (w : Nat → Int32) : KEEP w (dayW b w) := by
  unfold dayW endW
  exact (((rustW_keep w 16 (by decide)).1.trans (windW_keep b _)).trans (loseW_keep _ _ 16 (by decide))).trans (KEEP.upd _ _ (by decide) (by decide))
/-! how many were lost -/
def LC (w w' : Nat → Int32) : Prop := (∀ p, p < 16 → has9 (w' 7) p = true → has9 (w 7) p = true) ∧ w' 10 = w 10 + nI (cntB (fun p => has9 (w 7) p && !has9 (w' 7) p) 16)
theorem cntB_add {f g : Nat → Bool} {q : Nat} (hf : f q = false) (hg : g q = true) (h : ∀ p, p ≠ q → f p = g p) : ∀ n, cntB g n = cntB f n + (if q < n then 1 else 0)
  | 0 => rfl
  | n + 1 => by
    rw [cntB_s, cntB_s, cntB_add hf hg h n]
    by_cases c : n = q
    · subst c; simp [hf, hg]
    · rw [h n c]
      by_cases d : q < n
      · simp [d, show q < n + 1 by omega]; omega
      · simp [d, show ¬ q < n + 1 by omega]
theorem LC.refl (w : Nat → Int32) : LC w w := by
  refine ⟨fun _ _ h => h, ?_⟩
  have : ∀ n, cntB (fun p => has9 (w 7) p && !has9 (w 7) p) n = 0 := by
    intro n
    induction n with
    | zero => rfl
    | succ n ih => rw [cntB_s, ih]; simp
  rw [this]
  show w 10 = w 10 + 0
  rw [Int32.add_zero]
theorem LC.same {w w1 w2 : Nat → Int32} (a : LC w w1) (e7 : w2 7 = w1 7) (e10 : w2 10 = w1 10) : LC w w2 := by
  unfold LC at a ⊢
  rw [e7, e10]; exact a
theorem LC.lost {w w1 : Nat → Int32} (a : LC w w1) {q : Nat} (hq : q < 16) (h : has9 (w1 7) q = true) : LC w (lostW w1 q) := by
  obtain ⟨a1, a2⟩ := a
  have e7 : ∀ p, p < 32 → has9 (lostW w1 q 7) p = (has9 (w1 7) p && !decide (p = q)) := fun p hp => by rw [lostW_7 w1 hq, has9_wo _ (by omega) hp]
  refine ⟨fun p hp c => ?_, ?_⟩
  · rw [e7 p (by omega)] at c
    simp at c
    exact a1 p hp c.1
  · rw [lostW_10, a2, Int32.add_assoc]
    congr 1
    have e1 : cntB (fun p => has9 (w 7) p && !has9 (lostW w1 q 7) p) 16 = cntB (fun p => has9 (w 7) p && !(has9 (w1 7) p && !decide (p = q))) 16 := cntB_cong (fun p hp => by rw [e7 p (by omega)])
    rw [e1, cntB_add (f := fun p => has9 (w 7) p && !has9 (w1 7) p) (g := fun p => has9 (w 7) p && !(has9 (w1 7) p && !decide (p = q))) (q := q) (by simp [h]) (by simp [a1 q hq h]) (fun p hp => by simp [hp]) 16, if_pos hq]
    exact nI_1 _
theorem loseW_LC {w w1 : Nat → Int32} (a : LC w w1) {S : Int32} (hS : ∀ p, p < 16 → has9 S p = true → has9 (w1 7) p = true) : ∀ n, n ≤ 16 → LC w (loseW w1 S n) ∧ ∀ p, n ≤ p → p < 16 → has9 (loseW w1 S n 7) p = has9 (w1 7) p := by
  intro n
  induction n with
  | zero => intro _; exact ⟨a, fun _ _ _ => rfl⟩
  | succ n ih =>
    intro hn
    obtain ⟨b1, b2⟩ := ih (by omega)
    rw [loseW_s]
    cases c : has9 S n with
    | true =>
      simp only [if_true]
      refine ⟨b1.lost (by omega) (by rw [b2 n (Nat.le_refl _) (by omega)]; exact hS n (by omega) c), fun p h1 h2 => ?_⟩
      rw [lostW_7 _ (by omega), has9_wo _ (by omega) (by omega), b2 p (by omega) h2]
      simp [show ¬ p = n by omega]
    | false => exact ⟨b1, fun p h1 h2 => b2 p (by omega) h2⟩
theorem windW_LC (b : Bool) (w : Nat → Int32) : LC w (windW b w) := by
  unfold windW
  cases b with
  | false => exact LC.refl w
  | true =>
    have h1 : LC w (blowW w) := by
      obtain ⟨q, hq, e⟩ := drw16 (drwW w)
      unfold blowW
      rw [e, nI_clamp (by omega)]
      have d1 : LC w (drwW w) := (LC.refl w).same (drwW_n _ (by decide)) (drwW_n _ (by decide))
      have d2 : LC w (drwW (drwW w)) := d1.same (drwW_n _ (by decide)) (drwW_n _ (by decide))
      by_cases c : w 8 ≤ irem (drwV w) 100
      · rw [if_pos c]; exact d1
      · rw [if_neg c]
        cases d : has9 (w 7) q with
        | true => exact d2.lost hq (by rw [drwW_n _ (by decide), drwW_n _ (by decide)]; exact d)
        | false => exact d2
    generalize blowW w = v at h1
    show LC w (gnawW v)
    obtain ⟨q, hq, e⟩ := drw16 (drwW v)
    unfold gnawW
    rw [e, nI_clamp (by omega)]
    have d1 : LC w (drwW v) := h1.same (drwW_n _ (by decide)) (drwW_n _ (by decide))
    have d2 : LC w (drwW (drwW v)) := d1.same (drwW_n _ (by decide)) (drwW_n _ (by decide))
    by_cases c : v 9 ≤ irem (drwV v) 100
    · rw [if_pos c]; exact d1
    · rw [if_neg c]
      cases has9 (v 7) q with
      | true => exact d2.same (upd_n _ _ (by omega)) (upd_n _ _ (by omega))
      | false => exact d2
theorem dayW_LC (b : Bool) (w : Nat → Int32) : LC w (dayW b w) := by
  obtain ⟨-, r7, r10⟩ := rustW_keep w 16 (by decide)
  unfold dayW endW
  have h1 : LC w (windW b (rustW w 16)) := by
    have := windW_LC b (rustW w 16)
    unfold LC at this ⊢
    rw [r7, r10] at this
    exact this
  have h2 := (loseW_LC h1 (S := gonS (windW b (rustW w 16))) (fun p hp c => by
    unfold gonS at c
    rw [has9_and] at c
    simp at c
    exact c.1) 16 (by decide)).1
  exact h2.same (upd_n _ _ (by decide)) (upd_n _ _ (by decide))
/-! the class's day -/
def CSK (h : Hp) (b : Nat) (w : Nat → Int32) : Prop := SKY h b w ∧ lawM w ∧ lawC h 6 w ∧ 32 ≤ b
theorem CSK.cs {h : Hp} {b : Nat} {w : Nat → Int32} (H : CSK h b w) : CS h b w := ⟨H.1.1, H.1.2.1, H.2.1, H.2.2.1, H.2.2.2⟩
def cS (b k : Nat) : Prop := (b ≤ k ∧ k ≤ b + 10) ∨ k = 4 ∨ k = 5
theorem CSK.set {h h' : Hp} {b : Nat} {w w' : Nat → Int32} (H : CSK h b w) (S : SKY h' b w') (F : FR (cS b) h h') (K : KEEP w w') : CSK h' b w' := by
  obtain ⟨h1, h2, h3, h4⟩ := H
  exact ⟨S, h2.out K.1 (fun i hi _ => K.2 i hi), (h3.out h2 K.1 (fun i hi _ => K.2 i hi)).fr F (fun j hj q => by unfold cS at q; omega), h4⟩
theorem CSK.f45 {h h' : Hp} {b : Nat} {w : Nat → Int32} (H : CSK h b w) (F : FR c45 h h') : CSK h' b w := by
  obtain ⟨h1, h2, h3, h4⟩ := H
  exact ⟨h1.fr F (fun j hj q => by unfold c45 at q; omega), h2, h3.fr F (fun j hj q => by unfold c45 at q; omega), h4⟩
theorem c45S {h h' : Hp} {b : Nat} (F : FR c45 h h') : FR (cS b) h h' := F.mono (fun k q => by unfold c45 at q; unfold cS; omega)
theorem rustMore_x {h : Hp} {b : Nat} {w : Nat → Int32} (H : CSK h b w) {p n : Nat} (hp : p < 16) (hn : n ≤ 1000) (c : has9 (w 7) p = true) : ∃ h', fX7_rustMore h b (nI p) (nI n) = some h' ∧ CSK h' b (upd w (62 + p) (jmin 99 (w (62 + p) + nI n))) ∧ FR (cS b) h h' := by
  obtain ⟨r, hr, er⟩ := H.1.2.1.rust hp
  have ev : jmin 99 (w (62 + p) + nI n) = nI (min 99 (r + n)) := by rw [er, nI_add, i_99, jmin_n (by decide) (by omega)]
  have F : FR (cS b) h (up2 h (b + 4) p (jmin 99 (w (62 + p) + nI n))) := FR.up2 _ _ _ (by unfold cS; omega)
  refine ⟨up2 h (b + 4) p (jmin 99 (w (62 + p) + nI n)), ?_, ?_, F⟩
  · unfold fX7_rustMore
    simp only [gd_in hp (show 16 < 2 ^ 31 by decide), nI_clamp (show p < 2 ^ 31 by omega), lt9_e]
    rw [H.cs.rust hp, jmin_comm]
  · refine H.set (H.1.up (loc_r hp) (by omega) (by omega) (by omega) ?_) F (KEEP.upd _ _ (by omega) (by omega))
    rw [ev]
    exact H.1.2.1.set (by omega) (spc_n (by omega)) (by rw [hiT_r hp]; omega) (by omega) (fun _ => by omega) (fun _ _ => Or.inl (by rw [show 62 + p - 62 = p by omega]; exact c)) (fun k _ => by omega)
theorem draw_x {h : Hp} {b : Nat} {w : Nat → Int32} (H : CSK h b w) : ∃ h', fX7_draw h b = some (drwV w, h') ∧ CSK h' b (drwW w) ∧ FR (cS b) h h' := by
  have F : FR (cS b) h (up2 h b 14 ((1103515245 : Int32) * w 12 + 12345)) := FR.up2 _ _ _ (by unfold cS; omega)
  refine ⟨up2 h b 14 ((1103515245 : Int32) * w 12 + 12345), ?_, H.set (H.1.up (i := 12) (c := 0) rfl (by decide) (by decide) (by decide) (H.1.2.1.any (Or.inr rfl) _)) F (drwW_keep w), F⟩
  unfold fX7_draw drwV
  simp only [lt9_e]
  rw [H.cs.f12, up2_s, upd_s]
theorem lost_x {h : Hp} {b : Nat} {w : Nat → Int32} (H : CSK h b w) {p : Nat} (hp : p < 16) : ∃ h5 h7, fX4_add h b (h b 13) (nI p) 3 (h (b + 4) p) = some h5 ∧ fX7_takePin h5 b (nI p) = some h7 ∧ CSK (up2 h7 b 15 (h7 b 15 + 1)) b (lostW w p) ∧ FR (cS b) h (up2 h7 b 15 (h7 b 15 + 1)) := by
  obtain ⟨r, hr, er⟩ := H.1.2.1.rust hp
  obtain ⟨h5, e5, S5, F5⟩ := add_x H.1 hp (a := 3) (r := r) (by decide) hr
  obtain ⟨h7, e7, S7, F7⟩ := takePin_x S5 hp
  have l7 : logW w (nI p) (nI 3) (nI r) 7 = w 7 := by rw [logW_lt _ _ _ _ (by decide), upd_n _ _ (by decide)]
  have ew : upd (upd (logW w (nI p) (nI 3) (nI r)) 7 (wo9 (logW w (nI p) (nI 3) (nI r) 7) p)) (62 + p) 0 = takeW w p 3 := by
    unfold takeW
    rw [l7, er]; rfl
  rw [ew] at S7
  have e15 : h7 b 15 = w 10 := by
    have : h7 b 15 = takeW w p 3 10 := S7.1.get (i := 10) (c := 0) rfl (by decide) (by decide)
    rw [this, takeW_lt w 3 (by decide) (by decide) (by decide) (by omega)]
  have F8 : FR (cS b) h (up2 h7 b 15 (h7 b 15 + 1)) := ((F5.mono (D := cS b) (fun k q => by unfold cS; omega)).trans (F7.mono (fun k q => by unfold cS; omega))).trans (FR.up2 _ _ _ (by unfold cS; omega))
  refine ⟨h5, h7, ?_, e7, ?_, F8⟩
  · have e5' : fX4_add h b (w 3) (nI p) 3 (nI r) = some h5 := e5
    rw [H.cs.f3, H.cs.rust hp, er]; exact e5'
  · refine H.set ?_ F8 (lostW_keep w hp)
    rw [e15]
    exact S7.up (i := 10) (c := 0) rfl (by decide) (by decide) (by decide) (S7.2.1.any (Or.inl rfl) _)
theorem losePins_x {h : Hp} {b : Nat} {w : Nat → Int32} (H : CSK h b w) (S : Int32) : ∃ h', fX7_losePins h b S = some h' ∧ CSK h' b (loseW w S 16) ∧ FR (cS b) h h' := by
  obtain ⟨r, e, q1, q2⟩ := loop0 (σ := Hp) (ρ := Hp) 16 (fun m i s => LX7_losePins b m s S (nI i)) (fun i s => CSK s b (loseW w S i) ∧ FR (cS b) h s) (fun r => CSK r b (loseW w S 16) ∧ FR (cS b) h r) h (by decide) ⟨H, FR.refl _ _⟩ (by
    rintro m i h1 hi ⟨a1, a2⟩
    left
    obtain ⟨h5, h7, e5, e7, C7, F7⟩ := lost_x a1 hi
    try dsimp only
    rw [LX7_losePins, BX7_losePins_0, if_neg (c16n hi), has_x S (by omega), gd_in hi (by decide), nI_clamp (by omega), e5, cl9_some, e7, cl9_some, nI_1, loseW_s]
    simp only [lt9_e, bI_eq0]
    cases c : has9 S i with
    | false => exact ⟨h1, ⟨a1, a2⟩, rfl⟩
    | true => exact ⟨_, ⟨C7, a2.trans F7⟩, rfl⟩) (by
    rintro m h1 ⟨a1, a2⟩
    refine ⟨h1, ?_, a1, a2⟩
    try dsimp only
    rw [LX7_losePins, BX7_losePins_0, if_pos c16p])
  exact ⟨r, e, q1, q2⟩
theorem loseW_one {w : Nat → Int32} {q : Nat} (hq : q < 16) : loseW w (w 7 &&& bit9 q) 16 = if has9 (w 7) q then lostW w q else w := by
  have key : ∀ n, n ≤ 16 → loseW w (w 7 &&& bit9 q) n = if q < n ∧ has9 (w 7) q = true then lostW w q else w := by
    intro n
    induction n with
    | zero => intro _; rw [if_neg (by omega)]; rfl
    | succ n ih =>
      intro hn
      rw [loseW_s, ih (by omega), has9_and, has9_bit (by omega)]
      by_cases c : n = q
      · subst c
        rw [if_neg (show ¬ (n < n ∧ has9 (w 7) n = true) by omega)]
        cases has9 (w 7) n <;> simp
      · by_cases d : q < n
        · simp [c, d, show q < n + 1 by omega]
        · simp [c, d, show ¬ q < n + 1 by omega]
  rw [key 16 (by decide)]
  by_cases c : has9 (w 7) q = true
  · rw [if_pos ⟨hq, c⟩, if_pos c]
  · rw [if_neg (fun x => c x.2), if_neg c]
theorem blow_x {h : Hp} {b : Nat} {w : Nat → Int32} (H : CSK h b w) : ∃ h', fX1_blow h b = some h' ∧ CSK h' b (blowW w) ∧ FR (cS b) h h' := by
  obtain ⟨h1, e1, C1, F1⟩ := draw_x H
  obtain ⟨h2, e2, C2, F2⟩ := draw_x C1
  obtain ⟨q, hq, eq⟩ := drw16 (drwW w)
  have p2 : (drwW (drwW w)) 7 = w 7 := by rw [drwW_n _ (by decide), drwW_n _ (by decide)]
  obtain ⟨h3, e3, C3, F3⟩ := losePins_x C2 ((drwW (drwW w)) 7 &&& bit9 q)
  rw [loseW_one hq, p2] at C3
  unfold fX1_blow blowW
  rw [e1, cl2_some, C1.cs.f8, drwW_n _ (by decide), e2, cl2_some, eq, nI_clamp (by omega)]
  simp only [lt9_e]
  rw [C2.cs.f7, bit9_def, e3, cl9_some]
  by_cases c : w 8 ≤ irem (drwV w) 100
  · rw [if_pos c, if_pos c]; exact ⟨h1, rfl, C1, F1⟩
  · rw [if_neg c, if_neg c]; exact ⟨h3, rfl, C3, (F1.trans F2).trans F3⟩
theorem gnaw_x {h : Hp} {b : Nat} {w : Nat → Int32} (H : CSK h b w) : ∃ h', fX1_gnaw h b = some h' ∧ CSK h' b (gnawW w) ∧ FR (cS b) h h' := by
  obtain ⟨h1, e1, C1, F1⟩ := draw_x H
  obtain ⟨h2, e2, C2, F2⟩ := draw_x C1
  obtain ⟨q, hq, eq⟩ := drw16 (drwW w)
  have p2 : (drwW (drwW w)) 7 = w 7 := by rw [drwW_n _ (by decide), drwW_n _ (by decide)]
  have r2 : (drwW (drwW w)) (62 + q) = w (62 + q) := by rw [drwW_n _ (by omega), drwW_n _ (by omega)]
  unfold fX1_gnaw gnawW fX7_hasPin
  rw [e1, cl2_some, C1.cs.f9, drwW_n _ (by decide), e2, cl2_some, eq, nI_clamp (by omega)]
  simp only [lt9_e]
  rw [C2.cs.f7, p2, has_x _ (by omega)]
  by_cases c : w 9 ≤ irem (drwV w) 100
  · rw [if_pos c, if_pos c]; exact ⟨h1, rfl, C1, F1⟩
  · rw [if_neg c, if_neg c]
    cases d : has9 (w 7) q with
    | false => exact ⟨h2, rfl, C2, F1.trans F2⟩
    | true =>
      obtain ⟨h3, e3, C3, F3⟩ := rustMore_x C2 hq (n := 20) (by decide) (by rw [p2]; exact d)
      have e3' : fX7_rustMore h2 b (nI q) 20 = some h3 := e3
      rw [r2] at C3
      rw [if_neg (by decide), e3', cl9_some]
      exact ⟨h3, rfl, C3, (F1.trans F2).trans F3⟩
theorem endDay_x {h : Hp} {b : Nat} {w : Nat → Int32} (H : CSK h b w) : ∃ h', fX7_endDay h b = some h' ∧ CSK h' b (endW w) ∧ FR (cS b) h h' := by
  obtain ⟨d, hd, ed⟩ := H.1.2.1.n3
  have ev : jmin 9999 (w 3 + 1) = nI (min 9999 (d + 1)) := by rw [ed, nI_1, i_9999, jmin_n (by decide) (by omega)]
  have F : FR (cS b) h (up2 h b 13 (jmin 9999 (w 3 + 1))) := FR.up2 _ _ _ (by unfold cS; omega)
  refine ⟨up2 h b 13 (jmin 9999 (w 3 + 1)), ?_, ?_, F⟩
  · unfold fX7_endDay
    simp only [lt9_e]
    rw [H.cs.f3, jmin_comm]
  · refine H.set (H.1.up (i := 3) (c := 0) rfl (by decide) (by decide) (by decide) ?_) F (KEEP.upd _ _ (by decide) (by decide))
    rw [ev]
    exact H.1.2.1.set (by decide) rfl (show min 9999 (d + 1) ≤ 9999 by omega) (by decide) (fun q => by cases q) (fun q => by omega) (fun k _ => by omega)
theorem rustB_le {w : Nat → Int32} (HM : lawM w) (p : Nat) : ∃ n, n ≤ 360 ∧ rustB w p = nI n := by
  unfold rustB
  by_cases c : w 2 = 1
  · rw [if_pos c]; exact sumR_le HM 1 _
  · rw [if_neg c]; exact ⟨1, by decide, rfl⟩
theorem dayMore_x {h : Hp} {b : Nat} {w : Nat → Int32} (H : CSK h b w) (wind : Bool) : ∃ h', fX1_dayMore h b (bI wind) = some (w 7 &&& (dayW wind w 7 ^^^ (-1)), h') ∧ CSK h' b (dayW wind w) ∧ FR (cS b) h h' := by
  obtain ⟨r, e, q0, q1, q2⟩ := loop0 (σ := Hp) (ρ := Int32 × Hp) 16 (fun m i s => LX1_dayMore b m s (bI wind) (nI i)) (fun i s => CSK s b (rustW w i) ∧ FR (cS b) h s) (fun r => r.1 = w 7 &&& (dayW wind w 7 ^^^ (-1)) ∧ CSK r.2 b (dayW wind w) ∧ FR (cS b) h r.2) h (by decide) ⟨H, FR.refl _ _⟩ (by
    rintro m i h1 hi ⟨a1, a2⟩
    left
    obtain ⟨-, r7, -⟩ := rustW_keep w i (by omega)
    try dsimp only
    rw [LX1_dayMore, BX1_dayMore_0, if_neg (c16n hi)]
    unfold fX7_hasPin
    rw [a1.cs.f7, r7, has_x _ (by omega), rustsBy_x a1.cs hi, cl9_some, r7, nI_1, rustW_s]
    simp only [lt9_e, bI_eq0]
    cases c : has9 (w 7) i with
    | false => exact ⟨h1, ⟨a1, a2⟩, rfl⟩
    | true =>
      obtain ⟨n, hn, en⟩ := rustB_le a1.2.1 i
      obtain ⟨h3, e3, C3, F3⟩ := rustMore_x a1 hi (n := n) (by omega) (by rw [r7]; exact c)
      refine ⟨h3, ⟨?_, a2.trans F3⟩, ?_⟩
      · simp only [if_true]; rw [en]; exact C3
      · simp only [if_true]; rw [en, if_neg (by simp), e3, cl9_some]) (by
    rintro m h1 ⟨a1, a2⟩
    obtain ⟨-, r7, -⟩ := rustW_keep w 16 (by decide)
    have wd : ∃ h2, (if bI wind = 0 then some h1 else cl9 (fX1_blow h1 b) (fun h6 => cl9 (fX1_gnaw h6 b) (fun h8 => some h8))) = some h2 ∧ CSK h2 b (windW wind (rustW w 16)) ∧ FR (cS b) h1 h2 := by
      cases wind with
      | false => exact ⟨h1, rfl, a1, FR.refl _ _⟩
      | true =>
        obtain ⟨h6, e6, C6, F6⟩ := blow_x a1
        obtain ⟨h8, e8, C8, F8⟩ := gnaw_x C6
        exact ⟨h8, by rw [if_neg (by decide), e6, cl9_some, e8, cl9_some], C8, F6.trans F8⟩
    obtain ⟨h2, e2, C2, F2⟩ := wd
    obtain ⟨h10, e10, F10, V10⟩ := startOver_x h2 (windW wind (rustW w 16))
    have C10 := C2.f45 F10
    obtain ⟨h12, e12, F12, -⟩ := holdingWith_x C10.cs V10 ((windW wind (rustW w 16)) 7)
    have C12 := C10.f45 F12
    obtain ⟨h15, e15, C15, F15⟩ := losePins_x C12 (gonS (windW wind (rustW w 16)))
    obtain ⟨h17, e17, C17, F17⟩ := endDay_x C15
    refine ⟨(w 7 &&& (dayW wind w 7 ^^^ (-1)), h17), ?_, rfl, C17, (((((a2.trans F2).trans (c45S F10)).trans (c45S F12)).trans F15).trans F17)⟩
    try dsimp only
    rw [LX1_dayMore, BX1_dayMore_0, if_pos c16p, e2, cl9_some, e10, cl9_some, C10.cs.f7, e12, cl2_some]
    show cl9 (fX7_losePins h12 b (gonS (windW wind (rustW w 16)))) _ = _
    rw [e15, cl9_some, e17, cl9_some, a1.cs.f7, r7, C17.cs.f7]
    rfl)
  refine ⟨r.2, ?_, q1, q2⟩
  rw [← q0]
  exact e

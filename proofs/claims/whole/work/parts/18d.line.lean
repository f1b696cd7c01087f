/-! The sky's lines: an outcome that both sides follow. -/
abbrev Out : Type := Nat ⊕ (Nat × (Nat → Int32))
def cSk (k j : Nat) : Prop := (k = 1 ∧ (j = 3 ∨ j = 4 ∨ j = 5)) ∨ (65 ≤ k ∧ k ≤ 73)
def cRk (k j : Nat) : Prop := (k = 208 ∧ (j = 10 ∨ j = 12)) ∨ (k = 209 ∧ j < 93)
theorem PCS.cSf {T : Nat → Int32} {t : Nat} {h h' : Hp} (P : PCS T t h) (F : FI cSk h h') : PCS T t h' := P.fi F (fun k j q => by unfold cSk at q; omega)
theorem PMS.cRf {T : Nat → Int32} {t : Nat} {h h' : Hp} (P : PMS T t h) (F : FI cRk h h') : PMS T t h' := P.fi F (fun k j q => by unfold cRk at q; omega)
/-- the row as a line may change it -/
def keepW (w w' : Nat → Int32) : Prop := ∀ i, 93 ≤ i ∨ i = 1 ∨ i = 2 ∨ i = 3 ∨ i = 10 ∨ i = 11 ∨ i = 12 → w' i = w i
def CST (T : Nat → Int32) (t : Nat) (w : Nat → Int32) (x : Nat) (h : Hp) : Prop := PCS T t h ∧ h 1 3 = nI x ∧ h 1 5 = -1 ∧ SKs (SV h 65) w
def MST (T : Nat → Int32) (t : Nat) (w : Nat → Int32) (x : Nat) (h : Hp) : Prop := PMS T t h ∧ h 208 10 = nI x ∧ h 209 = w
def okC (T : Nat → Int32) (t : Nat) (o : Out) (h' : Hp) : Prop := match o with
  | .inl f => FLD T t f h'
  | .inr (x', w') => CST T t w' x' h'
def okM (T : Nat → Int32) (t : Nat) (o : Out) (r : Int32) (h' : Hp) : Prop := match o with
  | .inl f => r = 0 ∧ h' 208 12 = nI f
  | .inr (x', w') => r = 1 ∧ MST T t w' x' h'
def okO (t : Nat) (w : Nat → Int32) (x : Nat) (o : Out) : Prop := match o with
  | .inl f => f ≤ t
  | .inr (x', w') => x < x' ∧ x' ≤ t ∧ GW w' ∧ keepW w w'
def LEAF (T : Nat → Int32) (t : Nat) (w : Nat → Int32) (e s : Nat) (fc : Hp → Option Hp) (fm : Hp → Option (Int32 × Hp)) : Prop := ∃ o : Out, okO t w e o ∧ (∀ h, CST T t w e h → h 1 4 = nI s → ∃ h', fc h = some h' ∧ FI cSk h h' ∧ okC T t o h') ∧ (∀ h, MST T t w e h → h 208 12 = nI s → ∃ r h', fm h = some (r, h') ∧ FI cRk h h' ∧ okM T t o r h')
theorem keepW.refl (w : Nat → Int32) : keepW w w := fun _ _ => rfl
theorem keepW.up {w : Nat → Int32} {i : Nat} (h : i < 93 ∧ i ≠ 1 ∧ i ≠ 2 ∧ i ≠ 3 ∧ i ≠ 10 ∧ i ≠ 11 ∧ i ≠ 12) (v : Int32) : keepW w (upd w i v) := fun j hj => upd_n _ _ (by omega)
theorem keepW.trans {w w1 w2 : Nat → Int32} (a : keepW w w1) (b : keepW w1 w2) : keepW w w2 := fun i hi => (b i hi).trans (a i hi)
theorem nmR_f {T : Nat → Int32} {t lo hi s : Nat} (k : nmK T t lo hi s = false) : nmR T t lo hi s = -1 := by unfold nmR; rw [k]; rfl
theorem nmR_t {T : Nat → Int32} {t lo hi s : Nat} (k : nmK T t lo hi s = true) : nmR T t lo hi s = nI (nmV T t s) := by unfold nmR; rw [k]; rfl
theorem nmK_t {T : Nat → Int32} {t lo hi s : Nat} (k : nmK T t lo hi s = true) : s < dnd T t s ∧ lo ≤ nmV T t s ∧ nmV T t s ≤ hi := by
  unfold nmK at k
  rw [Bool.and_eq_true, Bool.and_eq_true, Bool.and_eq_true, Bool.not_eq_true', decide_eq_false_iff_not, decide_eq_true_eq, decide_eq_true_eq, decide_eq_true_eq] at k
  omega
theorem FI.c1345S {h h' : Hp} (F : FI c1345 h h') : FI cSk h h' := F.mono (fun k j q => by unfold c1345 at q; unfold cSk; omega)
theorem FI.c134S {h h' : Hp} (F : FI c134 h h') : FI cSk h h' := F.mono (fun k j q => by unfold c134 at q; unfold cSk; omega)
theorem FI.c1012R {h h' : Hp} (F : FI c1012 h h') : FI cRk h h' := F.mono (fun k j q => by unfold c1012 at q; unfold cRk; omega)
theorem SKs.fi {h h' : Hp} {w : Nat → Int32} {C : Nat → Nat → Prop} (H : SKs (SV h 65) w) (F : FI C h h') (c : ∀ k j, C k j → k < 65 ∨ 75 < k) : SKs (SV h' 65) w := fun i hi h2 => by
  have h9 := loc_c hi h2
  show h' (65 + (loc i).1) (loc i).2 = w i
  rw [F _ _ (fun q => by have := c _ _ q; omega)]
  exact H i hi h2
/-- a number is read: both know it, or both stop at it -/
theorem num_both {T : Nat → Int32} {t : Nat} {w : Nat → Int32} {x : Nat} (hx : x ≤ t) (lo hi : Nat) (hhi : hi ≤ 999) (hlo : lo ≤ 999) :
    (nmK T t lo hi (skp T t x) = true ∧ x < dnd T t (skp T t x) ∧ dnd T t (skp T t x) ≤ t ∧ lo ≤ nmV T t (skp T t x) ∧ nmV T t (skp T t x) ≤ hi ∧ (∀ h, CST T t w x h → ∃ h', fX9_takeNumber h (nI lo) (nI hi) = some (nI (nmV T t (skp T t x)), h') ∧ FI c1345 h h' ∧ CST T t w (dnd T t (skp T t x)) h' ∧ h' 1 4 = nI (skp T t x)) ∧ (∀ h, MST T t w x h → ∃ h', fX12_number h (nI lo) (nI hi) = some (nI (nmV T t (skp T t x)), h') ∧ FI c1012 h h' ∧ MST T t w (dnd T t (skp T t x)) h' ∧ h' 208 12 = nI (skp T t x))) ∨
    (nmK T t lo hi (skp T t x) = false ∧ skp T t x ≤ t ∧ (∀ h, CST T t w x h → ∃ h', fX9_takeNumber h (nI lo) (nI hi) = some (-1, h') ∧ FI c1345 h h' ∧ FLD T t (skp T t x) h') ∧ (∀ h, MST T t w x h → ∃ h', fX12_number h (nI lo) (nI hi) = some (-1, h') ∧ FI c1012 h h' ∧ h' 208 12 = nI (skp T t x) ∧ h' 209 = w)) := by
  have hs := skp_le (T := T) hx
  have hg := skp_ge (T := T) hx
  have hd := dnd_le (T := T) hs
  cases k : nmK T t lo hi (skp T t x) with
  | true =>
    left
    obtain ⟨k1, k2, k3⟩ := nmK_t k
    refine ⟨rfl, by omega, hd, k2, k3, fun h S => ?_, fun h S => ?_⟩
    · obtain ⟨h', e, F, y3, y4, y5⟩ := takeNumber_x S.1 hx S.2.1 S.2.2.1 lo hi hhi hlo
      rw [nmR_t k] at e
      rw [k] at y5
      exact ⟨h', e, F, ⟨S.1.cSf F.c1345S, y3, y5, S.2.2.2.fi F (fun k j q => by unfold c1345 at q; omega)⟩, y4⟩
    · obtain ⟨h', e, F, y12, y10⟩ := number_m S.1 hx S.2.1 lo hi hhi hlo
      rw [nmR_t k] at e
      exact ⟨h', e, F, ⟨S.1.cRf F.c1012R, y10, by rw [F.cell (k := 209) (fun j q => by unfold c1012 at q; omega)]; exact S.2.2⟩, y12⟩
  | false =>
    right
    refine ⟨rfl, hs, fun h S => ?_, fun h S => ?_⟩
    · obtain ⟨h', e, F, y3, y4, y5⟩ := takeNumber_x S.1 hx S.2.1 S.2.2.1 lo hi hhi hlo
      rw [nmR_f k] at e
      rw [k] at y5
      exact ⟨h', e, F, S.1.cSf F.c1345S, ⟨_, hd, y3⟩, hs, y5⟩
    · obtain ⟨h', e, F, y12, y10⟩ := number_m S.1 hx S.2.1 lo hi hhi hlo
      rw [nmR_f k] at e
      exact ⟨h', e, F, y12, by rw [F.cell (k := 209) (fun j q => by unfold c1012 at q; omega)]; exact S.2.2⟩
theorem m1_lt (v : Nat) : ((-1 : Int32) < 0) ∧ ¬ (0 : Int32) ≤ -1 := by decide
/-- a line of one number -/
theorem leaf_num {T : Nat → Int32} {t : Nat} {w : Nat → Int32} (G : GW w) {e s : Nat} (he : e ≤ t) {lo hi i j : Nat} (hhi : hi ≤ 999) (hlo : lo ≤ 999) (el : loc i = (0, j)) (hi93 : i < 93) (hs : spc i = false) (hh : hi ≤ hiT i) (hk : i < 93 ∧ i ≠ 1 ∧ i ≠ 2 ∧ i ≠ 3 ∧ i ≠ 10 ∧ i ≠ 11 ∧ i ≠ 12) (h0 : i ≠ 0) (h4 : i = 4 → 0 < lo) (h14 : i < 14) : LEAF T t w e s (fun h => cl2 (fX9_takeNumber h (nI lo) (nI hi)) (fun x h1 => lt9 (up2 h1 65 j x) (fun h2 => some h2))) (fun h => fX12_readNumber h (nI i) (nI lo) (nI hi)) := by
  rcases num_both (T := T) (w := w) he lo hi hhi hlo with ⟨k, a1, a2, a3, a4, ac, am⟩ | ⟨k, a1, ac, am⟩
  · refine ⟨.inr (dnd T t (skp T t e), upd w i (nI (nmV T t (skp T t e)))), ⟨a1, a2, G.set hi93 hs (Nat.le_trans a4 hh) h0 (fun q => by have := h4 q; omega) (fun q _ => by omega) (fun q _ => by omega), keepW.up hk _⟩, fun h S _ => ?_, fun h S _ => ?_⟩
    · obtain ⟨h', e', F, S', -⟩ := ac h S
      refine ⟨up2 h' 65 j (nI (nmV T t (skp T t e))), by dsimp only; rw [e']; rfl, F.c1345S.trans (FI.up2 _ _ (by unfold cSk; omega)), ⟨S'.1.cSf (FI.up2 _ _ (by unfold cSk; omega)), ?_, ?_, S'.2.2.2.up el hi93 _⟩⟩
      · rw [up2_n _ _ _ (by decide)]; exact S'.2.1
      · rw [up2_n _ _ _ (by decide)]; exact S'.2.2.1
    · obtain ⟨h', e', F, S', -⟩ := am h S
      dsimp only
      unfold fX12_readNumber
      rw [e', cl2_some, if_pos (show (0 : Int32) ≤ nI (nmV T t (skp T t e)) from nI_le (a := 0) (Nat.zero_le _) (by omega)), cl9_some, gd_in (show i < 2031 by omega) (by decide), nI_clamp (by omega), lt9_e, if_neg (nI_pos (n := nmV T t (skp T t e)) (by omega))]
      refine ⟨1, up2 h' 209 i (nI (nmV T t (skp T t e))), rfl, F.c1012R.trans (FI.up2 _ _ (by unfold cRk; omega)), rfl, S'.1.cRf (FI.up2 _ _ (by unfold cRk; omega)), ?_, ?_⟩
      · rw [up2_n _ _ _ (by decide)]; exact S'.2.1
      · rw [up2_s, S'.2.2]
  · refine ⟨.inl (skp T t e), a1, fun h S _ => ?_, fun h S _ => ?_⟩
    · obtain ⟨h', e', F, L⟩ := ac h S
      exact ⟨up2 h' 65 j (-1), by dsimp only; rw [e']; rfl, F.c1345S.trans (FI.up2 _ _ (by unfold cSk; omega)), L.fi (FI.up2 (C := fun k _ => k = 65) _ _ rfl) (fun k j q => by omega)⟩
    · obtain ⟨h', e', F, y12, y9⟩ := am h S
      dsimp only
      unfold fX12_readNumber
      rw [e', cl2_some, if_neg (show ¬ (0 : Int32) ≤ -1 by decide), gd_in (show i < 2031 by omega) (by decide), cl9_some, gd_in (show i < 2031 by omega) (by decide), nI_clamp (by omega), lt9_e, if_pos (show (-1 : Int32) < 0 by decide)]
      refine ⟨0, up2 h' 209 i (h' 209 i), rfl, F.c1012R.trans (FI.up2 _ _ (by unfold cRk; omega)), rfl, by rw [up2_n _ _ _ (by decide)]; exact y12⟩

/-! goes: the least of the longest, and who goes where -/
def minI (ok : Nat → Bool) (f : Nat → Nat) : Nat → Nat
  | 0 => 1000000
  | k + 1 => if ok k then min (minI ok f k) (f k) else minI ok f k
theorem minI_s (ok : Nat → Bool) (f : Nat → Nat) (k : Nat) : minI ok f (k + 1) = if ok k then min (minI ok f k) (f k) else minI ok f k := rfl
theorem minI_le {ok : Nat → Bool} {f : Nat → Nat} : ∀ {k i : Nat}, i < k → ok i = true → minI ok f k ≤ f i
  | 0, _, h, _ => by omega
  | k + 1, i, h, o => by
    rw [minI_s]
    by_cases c : i = k
    · subst c; rw [if_pos o]; omega
    · have := minI_le (f := f) (k := k) (i := i) (by omega) o
      cases ok k with
      | true => simp only [if_true]; omega
      | false => exact this
theorem minI_at {ok : Nat → Bool} {f : Nat → Nat} : ∀ {k : Nat}, minI ok f k < 1000000 → ∃ i, i < k ∧ ok i = true ∧ f i = minI ok f k
  | 0, h => by unfold minI at h; omega
  | k + 1, h => by
    rw [minI_s] at h ⊢
    cases o : ok k with
    | true =>
      rw [o] at h
      simp only [if_true] at h ⊢
      by_cases c : f k ≤ minI ok f k
      · exact ⟨k, by omega, o, by omega⟩
      · obtain ⟨i, hi, oi, ei⟩ := minI_at (ok := ok) (f := f) (k := k) (by omega)
        exact ⟨i, by omega, oi, by omega⟩
    | false =>
      rw [o] at h
      obtain ⟨i, hi, oi, ei⟩ := minI_at (ok := ok) (f := f) (k := k) (by simpa using h)
      exact ⟨i, by omega, oi, by simpa using ei⟩
theorem minI_big (ok : Nat → Bool) (f : Nat → Nat) : ∀ k, minI ok f k ≤ 1000000
  | 0 => Nat.le_refl _
  | k + 1 => by
    have := minI_big ok f k
    rw [minI_s]
    cases ok k with
    | true => simp only [if_true]; omega
    | false => exact this
theorem minI_max (ok : Nat → Bool) (f : Nat → Nat) {g : Nat} (hg : g ≤ 1000000) : ∀ k, minI ok (fun i => max g (f i)) k = max g (minI ok f k)
  | 0 => by show 1000000 = max g 1000000; omega
  | k + 1 => by
    rw [minI_s, minI_s, minI_max ok f hg k]
    cases ok k with
    | true => simp only [if_true]; omega
    | false => rfl
def LL9 (D : Nat → Nat → Nat) (n : Nat) : Nat → Nat → Nat → Nat
  | 0, _, _ => 0
  | r + 1, p, tk => minI (fun i => !tk.testBit i) (fun i => max (D p i) (LL9 D n r (p + 1) (tk ||| 2 ^ i))) n
theorem LL9_s (D : Nat → Nat → Nat) (n r p tk : Nat) : LL9 D n (r + 1) p tk = minI (fun i => !tk.testBit i) (fun i => max (D p i) (LL9 D n r (p + 1) (tk ||| 2 ^ i))) n := rfl
theorem LL9_big (D : Nat → Nat → Nat) (n r p tk : Nat) : LL9 D n r p tk ≤ 1000000 := by
  cases r with
  | zero => exact Nat.zero_le _
  | succ r => exact minI_big _ _ _
def fstI (f : Nat → Bool) : Nat → Nat → Nat
  | 0, i => i
  | m + 1, i => if f i then i else fstI f m (i + 1)
theorem fstI_eq {f : Nat → Bool} {i : Nat} (hi : f i = true) : ∀ m j, j ≤ i → i < j + m → (∀ q, j ≤ q → q < i → f q = false) → fstI f m j = i
  | 0, j, h1, h2, _ => by omega
  | m + 1, j, h1, h2, h => by
    unfold fstI
    by_cases c : j = i
    · subst c; rw [if_pos hi]
    · rw [if_neg (by rw [h j (Nat.le_refl _) (by omega)]; simp)]
      exact fstI_eq hi m (j + 1) (by omega) (by omega) (fun q h3 h4 => h q (by omega) h4)
def okG (D : Nat → Nat → Nat) (n r p tk v : Nat) (i : Nat) : Bool := !tk.testBit i && decide (max (D p i) (LL9 D n r (p + 1) (tk ||| 2 ^ i)) ≤ v)
def GR (D : Nat → Nat → Nat) (n v : Nat) : Nat → Nat → Nat → Nat → Nat
  | 0, _, _, _ => 0
  | r + 1, p, tk, q => if q = p then fstI (okG D n r p tk v) n 0 else GR D n v r (p + 1) (tk ||| 2 ^ fstI (okG D n r p tk v) n 0) q
theorem GR_s (D : Nat → Nat → Nat) (n v r p tk q : Nat) : GR D n v (r + 1) p tk q = if q = p then fstI (okG D n r p tk v) n 0 else GR D n v r (p + 1) (tk ||| 2 ^ fstI (okG D n r p tk v) n 0) q := rfl
theorem set_or {tk i : Nat} (hi : i < 5) : nI tk ||| bit9 i = nI (tk ||| 2 ^ i) := by
  have : bit9 i = nI (2 ^ i) := by
    have : ∀ a : Fin 5, bit9 a.val = nI (2 ^ a.val) := by decide +kernel
    exact this ⟨i, hi⟩
  rw [this, nI_or]
theorem or_lt5 {tk i : Nat} (ht : tk < 32) (hi : i < 5) : tk ||| 2 ^ i < 32 := Nat.or_lt_two_pow (n := 5) ht (Nat.pow_lt_pow_right (by decide) hi)
def dys (w T : Nat → Int32) (p i : Nat) : Nat := (adif (w (78 + 3 * p)).toNatClampNeg (T i).toNatClampNeg + (w (79 + 3 * p)).toNatClampNeg - 1) / (w (79 + 3 * p)).toNatClampNeg
/-- the crew and the told places in the class's cells -/
def CRW (w T : Nat → Int32) (n : Nat) (h : Hp) : Prop := h 37 0 = nI n ∧ (∀ p, p < n → h 38 p = w (78 + 3 * p)) ∧ (∀ p, p < n → h 39 p = w (79 + 3 * p)) ∧ ∀ i, i < n → h 21 i = T i
def GWT (w T : Nat → Int32) (n : Nat) : Prop := n ≤ 5 ∧ GW w ∧ w 0 = nI n ∧ ∀ i, i < n → ∃ q, q < 16 ∧ T i = nI q
theorem GWT.pos {w T : Nat → Int32} {n : Nat} (G : GWT w T n) {p : Nat} (hp : p < n) : ∃ a q, a ≤ 15 ∧ q ≤ 9 ∧ 0 < q ∧ w (78 + 3 * p) = nI a ∧ w (79 + 3 * p) = nI q := by
  obtain ⟨h5, G1, e0, -⟩ := G
  obtain ⟨a, ha, ea⟩ := G1.spot (k := p) (by omega)
  obtain ⟨q, hq, eq⟩ := G1.pace (k := p) (by omega)
  refine ⟨a, q, ha, hq, ?_, ea, eq⟩
  have := G1.2.2.2.2.1 p (by omega) (by rw [e0]; exact nI_lt hp (by omega))
  rcases Nat.eq_zero_or_pos q with c | c
  · rw [eq, c] at this; exact absurd rfl this
  · exact c
theorem dys_le {w T : Nat → Int32} {n : Nat} (G : GWT w T n) {p i : Nat} (hp : p < n) (hi : i < n) : dys w T p i ≤ 15 := by
  obtain ⟨a, q, ha, hq, h0, ea, eq⟩ := G.pos hp
  obtain ⟨t, ht, et⟩ := G.2.2.2 i hi
  unfold dys
  rw [ea, eq, et, nI_clamp (by omega), nI_clamp (by omega), nI_clamp (by omega)]
  have hb : adif a t ≤ 15 := by unfold adif; omega
  have : (adif a t + q - 1) / q < 16 := (Nat.div_lt_iff_lt_mul h0).mpr (by
    have : 16 * 1 ≤ 16 * q := Nat.mul_le_mul_left 16 h0
    have : adif a t ≤ 15 * q := Nat.le_trans hb (by have := Nat.mul_le_mul_left 15 h0; omega)
    omega)
  omega
theorem daysTo_x {w T : Nat → Int32} {n : Nat} (G : GWT w T n) {h : Hp} (W : CRW w T n h) {p i : Nat} (hp : p < n) (hi : i < n) : fX0_daysTo h 32 (nI p) (T i) = some (nI (dys w T p i)) := by
  obtain ⟨a, q, ha, hq, h0, ea, eq⟩ := G.pos hp
  obtain ⟨t, ht, et⟩ := G.2.2.2 i hi
  have h5 := G.1
  have hb : adif a t < 2 ^ 20 := by unfold adif; omega
  have w6 : h (32 + 6) p = nI a := by rw [← ea]; exact W.2.1 p hp
  have w7 : h (32 + 7) p = nI q := by rw [← eq]; exact W.2.2.1 p hp
  unfold fX0_daysTo dys
  simp only [gd_in (show p < 5 by omega) (show 5 < 2 ^ 31 by decide), nI_clamp (show p < 2 ^ 31 by omega), lt9_e]
  rw [w6, w7, et, jabs_n (by omega) (by omega), if_pos (show (1 : Int32) ≤ nI q from nI_le (a := 1) h0 (by omega)), gd_t (nI_ne0 h0 (by omega)), nI_add, i_1, nI_subN (by omega), pk_div (by omega) h0 (by omega), ea, eq, nI_clamp (by omega), nI_clamp (by omega), nI_clamp (by omega)]
def c2023 (k : Nat) : Prop := k = 20 ∨ k = 22 ∨ k = 23
theorem CRW.fr {w T : Nat → Int32} {n : Nat} {h h' : Hp} (W : CRW w T n h) (F : FR c2023 h h') : CRW w T n h' := by
  unfold CRW at W ⊢
  rw [F 37 (by unfold c2023; omega), F 38 (by unfold c2023; omega), F 39 (by unfold c2023; omega), F 21 (by unfold c2023; omega)]
  exact W
def SND (D : Nat → Nat → Nat) (n r p tk lg F : Nat) (h h' : Hp) : Prop :=
  FR c2023 h h' ∧ (∀ q, q < p → h' 22 q = h 22 q) ∧
  ((max lg (LL9 D n r p tk) < F ∧ h' 20 3 = nI (max lg (LL9 D n r p tk)) ∧ (∀ q, q < p → h' 23 q = h 22 q) ∧ ∀ q, p ≤ q → q < n → h' 23 q = nI (GR D n (max lg (LL9 D n r p tk)) r p tk q)) ∨ (F ≤ max lg (LL9 D n r p tk) ∧ h' 20 3 = nI F ∧ ∀ q, q < 5 → h' 23 q = h 23 q))
theorem send_x {w T : Nat → Int32} {n : Nat} (G : GWT w T n) : ∀ r p tk lg F d h, p + r = n → r < d → tk < 32 → lg ≤ 16 → F ≤ 16 → CRW w T n h → h 20 3 = nI F → ∃ h', grp_X6_send d h 32 (nI p) (nI tk) (nI lg) = some h' ∧ SND (dys w T) n r p tk lg F h h' := by
  have h5 := G.1
  intro r
  induction r with
  | zero =>
    intro p tk lg F d h hp hd ht hl hF W e3
    obtain ⟨d, rfl⟩ : ∃ k, d = k + 1 := ⟨d - 1, by omega⟩
    obtain rfl : p = n := by omega
    have l0 : max lg (LL9 (dys w T) p 0 p tk) = lg := by show max lg 0 = lg; omega
    have e5 : h (32 + 5) 0 = nI p := W.1
    rw [grp_X6_send, F9X6_send, e5, if_pos (nI_le (Nat.le_refl _) (by omega)), e3]
    by_cases c : F ≤ lg
    · rw [if_pos (nI_le c (by omega))]
      exact ⟨h, rfl, FR.refl _ _, fun _ _ => rfl, Or.inr ⟨by rw [l0]; exact c, e3, fun _ _ => rfl⟩⟩
    · rw [if_neg (nI_ge (by omega) (by omega))]
      simp only [lt9_e]
      refine ⟨_, rfl, (FR.up2 (C := c2023) h _ _ (Or.inl rfl)).trans (FR.upA _ _ (Or.inr (Or.inr rfl))), fun q _ => ?_, Or.inl ⟨by rw [l0]; omega, ?_, fun q hq => ?_, fun q h1 h2 => by omega⟩⟩
      · rw [upA_n _ _ (by decide), up2_n _ _ _ (by decide)]
      · rw [upA_n _ _ (by decide), up2_s, upd_s, l0]
      · rw [upA_s, pk_cpy_in (by omega) (by omega), up2_n _ _ _ (by decide)]
        simp
  | succ r ih =>
    intro p tk lg F d h hp hd ht hl hF W e3
    obtain ⟨d, rfl⟩ : ∃ k, d = k + 1 := ⟨d - 1, by omega⟩
    let X : Nat → Nat := fun i => max (dys w T p i) (LL9 (dys w T) n r (p + 1) (tk ||| 2 ^ i))
    let ok : Nat → Bool := fun i => !tk.testBit i
    let V : Nat → Nat := minI ok (fun i => max lg (X i))
    have e5 : h (32 + 5) 0 = nI n := W.1
    rw [grp_X6_send, F9X6_send, e5, if_neg (nI_ge (by omega) (by omega)), i_5, if_pos (nI_lt (by omega) (by decide))]
    obtain ⟨h', e', J1, J2, J3⟩ := loop0 (σ := Hp) (ρ := Hp) n (fun m i s => LX6_send (grp_X6_send d) 32 m s (nI p) (nI tk) (nI lg) (nI i)) (fun i s => FR c2023 h s ∧ (∀ q, q < p → s 22 q = h 22 q) ∧ ((V i < F ∧ s 20 3 = nI (V i) ∧ (∀ q, q < p → s 23 q = h 22 q) ∧ ∃ a, a < i ∧ ok a = true ∧ max lg (X a) = V i ∧ (∀ j, j < a → ok j = true → V i < max lg (X j)) ∧ s 23 p = nI a ∧ ∀ q, p < q → q < n → s 23 q = nI (GR (dys w T) n (V i) r (p + 1) (tk ||| 2 ^ a) q)) ∨ (F ≤ V i ∧ s 20 3 = nI F ∧ ∀ q, q < 5 → s 23 q = h 23 q))) (fun s => FR c2023 h s ∧ (∀ q, q < p → s 22 q = h 22 q) ∧ ((V n < F ∧ s 20 3 = nI (V n) ∧ (∀ q, q < p → s 23 q = h 22 q) ∧ ∃ a, a < n ∧ ok a = true ∧ max lg (X a) = V n ∧ (∀ j, j < a → ok j = true → V n < max lg (X j)) ∧ s 23 p = nI a ∧ ∀ q, p < q → q < n → s 23 q = nI (GR (dys w T) n (V n) r (p + 1) (tk ||| 2 ^ a) q)) ∨ (F ≤ V n ∧ s 20 3 = nI F ∧ ∀ q, q < 5 → s 23 q = h 23 q))) h (by omega) ⟨FR.refl _ _, fun _ _ => rfl, Or.inr ⟨by show F ≤ 1000000; omega, e3, fun _ _ => rfl⟩⟩ (by
      rintro m i s hi ⟨a1, a2, a3⟩
      left
      have W1 := W.fr a1
      have e5' : s (32 + 5) 0 = nI n := W1.1
      try dsimp only
      rw [LX6_send, BX6_send_0, e5', if_neg (nI_ge hi (by omega)), has_x _ (by omega), has9_tb (by omega), nI_1, bit9_def, set_or (by omega)]
      simp only [bI_eq0, lt9_e]
      cases b : tk.testBit i with
      | true =>
        have oi : ok i = false := by show (!tk.testBit i) = false; rw [b]; rfl
        have vi : V (i + 1) = V i := by show minI ok _ (i + 1) = minI ok _ i; rw [minI_s, oi]; rfl
        refine ⟨s, ⟨a1, a2, ?_⟩, by rw [if_neg (by simp), nI_1]⟩
        rw [vi]
        rcases a3 with ⟨q1, q2, q3, a, q4, q5⟩ | q
        · exact Or.inl ⟨q1, q2, q3, a, by omega, q5⟩
        · exact Or.inr q
      | false =>
        have oi : ok i = true := by show (!tk.testBit i) = true; rw [b]; rfl
        have vi : V (i + 1) = min (V i) (max lg (X i)) := by show minI ok _ (i + 1) = _; rw [minI_s, oi]; rfl
        let s5 : Hp := up2 s 22 p (nI i)
        have W5 : CRW w T n s5 := W1.fr (FR.up2 (C := c2023) s _ _ (Or.inr (Or.inl rfl)))
        have pl : s5 21 i = T i := W5.2.2.2 i hi
        have dl := dys_le G (show p < n by omega) hi
        obtain ⟨Fc, hFc, eFc, hFcV⟩ : ∃ Fc, Fc ≤ 16 ∧ s5 20 3 = nI Fc ∧ ((V i < F ∧ Fc = V i) ∨ (F ≤ V i ∧ Fc = F)) := by
          have e20 : s5 20 3 = s 20 3 := by show up2 s 22 p (nI i) 20 3 = _; rw [up2_n _ _ _ (by decide)]
          rcases a3 with ⟨q1, q2, -⟩ | ⟨q1, q2, -⟩
          · exact ⟨V i, by omega, by rw [e20]; exact q2, Or.inl ⟨q1, rfl⟩⟩
          · exact ⟨F, hF, by rw [e20]; exact q2, Or.inr ⟨q1, rfl⟩⟩
        obtain ⟨h9, e9, S9⟩ := ih (p + 1) (tk ||| 2 ^ i) (max lg (dys w T p i)) Fc d s5 (by omega) (by omega) (or_lt5 ht (by omega)) (by omega) hFc W5 eFc
        obtain ⟨f1, f2, f3⟩ := S9
        have vc : max (max lg (dys w T p i)) (LL9 (dys w T) n r (p + 1) (tk ||| 2 ^ i)) = max lg (X i) := by show _ = max lg (max (dys w T p i) (LL9 (dys w T) n r (p + 1) (tk ||| 2 ^ i))); omega
        rw [vc] at f3
        have s22 : s5 22 = upd (s 22) p (nI i) := by show up2 s 22 p (nI i) 22 = _; rw [up2_s]
        have s23 : s5 23 = s 23 := by show up2 s 22 p (nI i) 23 = _; rw [up2_n _ _ _ (by decide)]
        refine ⟨h9, ⟨(a1.trans (FR.up2 (C := c2023) s _ _ (Or.inr (Or.inl rfl)))).trans f1, fun q hq => ?_, ?_⟩, ?_⟩
        · rw [f2 q (by omega), s22, upd_n _ _ (by omega)]; exact a2 q hq
        · rw [vi]
          rcases f3 with ⟨g1, g2, g3, g4⟩ | ⟨g1, g2, g3⟩
          · have em : min (V i) (max lg (X i)) = max lg (X i) := by omega
            rw [em]
            refine Or.inl ⟨by omega, g2, fun q hq => ?_, i, by omega, oi, rfl, fun j hj oj => ?_, ?_, fun q h1 h2 => g4 q (by omega) h2⟩
            · rw [g3 q (by omega), s22, upd_n _ _ (by omega)]; exact a2 q hq
            · have := minI_le (f := fun i => max lg (X i)) hj oj
              have hv : V i ≤ max lg (X j) := this
              omega
            · rw [g3 p (by omega), s22, upd_s]
          · rcases a3 with ⟨q1, q2, q3, a, q4, q5, q6, q7, q8, q9⟩ | ⟨q1, q2, q3⟩
            · have em : min (V i) (max lg (X i)) = V i := by omega
              rw [em]
              refine Or.inl ⟨q1, by rw [g2]; congr 1; omega, fun q hq => ?_, a, by omega, q5, q6, q7, ?_, fun q h1 h2 => ?_⟩
              · rw [g3 q (by omega), s23]; exact q3 q hq
              · rw [g3 p (by omega), s23]; exact q8
              · rw [g3 q (by omega), s23]; exact q9 q h1 h2
            · refine Or.inr ⟨by omega, by rw [g2]; congr 1; omega, fun q hq => ?_⟩
              rw [g3 q hq, s23]; exact q3 q hq
        · simp only [gd_in (show p < 5 by omega) (show 5 < 2 ^ 31 by decide), gd_in (show i < 5 by omega) (show 5 < 2 ^ 31 by decide), nI_clamp (show p < 2 ^ 31 by omega), nI_clamp (show i < 2 ^ 31 by omega), if_true]
          show cl9 (fX0_daysTo s5 32 (nI p) (s5 21 i)) _ = _
          rw [pl, daysTo_x G W5 (by omega) hi, cl9_some, jmax_n (by omega) (by omega), nI_1, e9, cl9_some]) (by
      rintro m s ⟨a1, a2, a3⟩
      have W1 := W.fr a1
      have e5' : s (32 + 5) 0 = nI n := W1.1
      refine ⟨s, ?_, a1, a2, a3⟩
      try dsimp only
      rw [LX6_send, BX6_send_0, e5', if_pos (nI_le (Nat.le_refl _) (by omega))])
    refine ⟨h', e', J1, J2, ?_⟩
    have vn : V n = max lg (LL9 (dys w T) n (r + 1) p tk) := by
      show minI ok _ n = _
      rw [LL9_s, minI_max _ _ (by omega)]
    rw [vn] at J3
    rcases J3 with ⟨q1, q2, q3, a, q4, q5, q6, q7, q8, q9⟩ | q
    · refine Or.inl ⟨q1, q2, q3, fun q h1 h2 => ?_⟩
      have fa : fstI (okG (dys w T) n r p tk (max lg (LL9 (dys w T) n (r + 1) p tk))) n 0 = a := by
        refine fstI_eq ?_ n 0 (Nat.zero_le _) (by omega) (fun j _ hj => ?_)
        · unfold okG
          have : max (dys w T p a) (LL9 (dys w T) n r (p + 1) (tk ||| 2 ^ a)) ≤ max lg (LL9 (dys w T) n (r + 1) p tk) := by
            have : max lg (max (dys w T p a) (LL9 (dys w T) n r (p + 1) (tk ||| 2 ^ a))) = max lg (LL9 (dys w T) n (r + 1) p tk) := q6
            omega
          have o : (!tk.testBit a) = true := q5
          rw [o, decide_eq_true this]; rfl
        · unfold okG
          cases o : tk.testBit j with
          | true => rfl
          | false =>
            have : max lg (LL9 (dys w T) n (r + 1) p tk) < max lg (max (dys w T p j) (LL9 (dys w T) n r (p + 1) (tk ||| 2 ^ j))) := q7 j hj (by show (!tk.testBit j) = true; rw [o]; rfl)
            rw [decide_eq_false (by omega)]; rfl
      rw [GR_s, fa]
      by_cases c : q = p
      · rw [if_pos c, c]; exact q8
      · rw [if_neg c]; exact q9 q (by omega) h2
    · exact Or.inr q

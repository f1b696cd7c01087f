/-! Frames, loops, bits that a loop lays. -/
theorem i_18 : (18 : Int32) = nI 18 := rfl
theorem i_19 : (19 : Int32) = nI 19 := rfl
theorem i_21 : (21 : Int32) = nI 21 := rfl
theorem i_22 : (22 : Int32) = nI 22 := rfl
theorem i_23 : (23 : Int32) = nI 23 := rfl
theorem i_24 : (24 : Int32) = nI 24 := rfl
theorem i_25 : (25 : Int32) = nI 25 := rfl
theorem i_26 : (26 : Int32) = nI 26 := rfl
theorem i_27 : (27 : Int32) = nI 27 := rfl
theorem i_29 : (29 : Int32) = nI 29 := rfl
theorem i_33 : (33 : Int32) = nI 33 := rfl
theorem i_34 : (34 : Int32) = nI 34 := rfl
theorem i_35 : (35 : Int32) = nI 35 := rfl
theorem i_38 : (38 : Int32) = nI 38 := rfl
theorem i_39 : (39 : Int32) = nI 39 := rfl
theorem i_42 : (42 : Int32) = nI 42 := rfl
theorem i_43 : (43 : Int32) = nI 43 := rfl
theorem i_44 : (44 : Int32) = nI 44 := rfl
theorem i_45 : (45 : Int32) = nI 45 := rfl
theorem i_47 : (47 : Int32) = nI 47 := rfl
theorem i_50 : (50 : Int32) = nI 50 := rfl
theorem i_51 : (51 : Int32) = nI 51 := rfl
theorem i_52 : (52 : Int32) = nI 52 := rfl
theorem i_53 : (53 : Int32) = nI 53 := rfl
theorem i_54 : (54 : Int32) = nI 54 := rfl
theorem i_55 : (55 : Int32) = nI 55 := rfl
theorem i_56 : (56 : Int32) = nI 56 := rfl
theorem i_58 : (58 : Int32) = nI 58 := rfl
theorem i_64 : (64 : Int32) = nI 64 := rfl
theorem i_66 : (66 : Int32) = nI 66 := rfl
theorem i_67 : (67 : Int32) = nI 67 := rfl
theorem i_79 : (79 : Int32) = nI 79 := rfl
theorem i_80 : (80 : Int32) = nI 80 := rfl
theorem i_94 : (94 : Int32) = nI 94 := rfl
theorem i_95 : (95 : Int32) = nI 95 := rfl
theorem i_96 : (96 : Int32) = nI 96 := rfl
theorem i_120 : (120 : Int32) = nI 120 := rfl
theorem i_138 : (138 : Int32) = nI 138 := rfl
theorem i_209 : (209 : Int32) = nI 209 := rfl
theorem i_256 : (256 : Int32) = nI 256 := rfl
theorem i_1000000 : (1000000 : Int32) = nI 1000000 := rfl
theorem i_1183 : (1183 : Int32) = nI 1183 := rfl
theorem i_1231 : (1231 : Int32) = nI 1231 := rfl
theorem i_4368 : (4368 : Int32) = nI 4368 := rfl
theorem upd_s (f : Nat → Int32) (k : Nat) (x : Int32) : upd f k x k = x := if_pos rfl
theorem upd_n (f : Nat → Int32) {k j : Nat} (x : Int32) (h : j ≠ k) : upd f k x j = f j := if_neg h
theorem upA_s (h : Hp) (k : Nat) (f : Nat → Int32) : upA h k f k = f := if_pos rfl
theorem upA_n (h : Hp) {k k' : Nat} (f : Nat → Int32) (e : k' ≠ k) : upA h k f k' = h k' := if_neg e
theorem up2_s (h : Hp) (k j : Nat) (v : Int32) : up2 h k j v k = upd (h k) j v := if_pos rfl
theorem up2_n (h : Hp) {k k' : Nat} (j : Nat) (v : Int32) (e : k' ≠ k) : up2 h k j v k' = h k' := if_neg e
theorem upA_id (h : Hp) (k : Nat) : upA h k (h k) = h := by
  funext a; unfold upA; by_cases c : a = k <;> simp [c]
theorem upA_upA (h : Hp) (k : Nat) (f g : Nat → Int32) : upA (upA h k f) k g = upA h k g := by
  funext a; unfold upA; by_cases c : a = k <;> simp [c]
def FR (C : Nat → Prop) (h h' : Hp) : Prop := ∀ k, ¬ C k → h' k = h k
theorem FR.refl (C : Nat → Prop) (h : Hp) : FR C h h := fun _ _ => rfl
theorem FR.trans {C : Nat → Prop} {h h1 h2 : Hp} (a : FR C h h1) (b : FR C h1 h2) : FR C h h2 := fun k hk => (b k hk).trans (a k hk)
theorem FR.mono {C D : Nat → Prop} {h h1 : Hp} (a : FR C h h1) (m : ∀ k, C k → D k) : FR D h h1 := fun k hk => a k (fun c => hk (m k c))
theorem FR.up2 {C : Nat → Prop} (h : Hp) {k : Nat} (j : Nat) (v : Int32) (c : C k) : FR C h (up2 h k j v) := fun k' hk => up2_n h j v (fun e => hk (e ▸ c))
theorem FR.upA {C : Nat → Prop} (h : Hp) {k : Nat} (f : Nat → Int32) (c : C k) : FR C h (upA h k f) := fun k' hk => upA_n h f (fun e => hk (e ▸ c))
def FI (C : Nat → Nat → Prop) (h h' : Hp) : Prop := ∀ k j, ¬ C k j → h' k j = h k j
theorem FI.refl (C : Nat → Nat → Prop) (h : Hp) : FI C h h := fun _ _ _ => rfl
theorem FI.trans {C : Nat → Nat → Prop} {h h1 h2 : Hp} (a : FI C h h1) (b : FI C h1 h2) : FI C h h2 := fun k j hk => (b k j hk).trans (a k j hk)
theorem FI.mono {C D : Nat → Nat → Prop} {h h1 : Hp} (a : FI C h h1) (m : ∀ k j, C k j → D k j) : FI D h h1 := fun k j hk => a k j (fun c => hk (m k j c))
theorem FI.up2 {C : Nat → Nat → Prop} (h : Hp) {k j : Nat} (v : Int32) (c : C k j) : FI C h (up2 h k j v) := fun k' j' hk => by
  by_cases e : k' = k
  · subst e
    rw [up2_s]
    exact upd_n _ _ (fun e => hk (e ▸ c))
  · rw [up2_n _ _ _ e]
theorem FI.upA {C : Nat → Nat → Prop} (h : Hp) {k : Nat} (f : Nat → Int32) (c : ∀ j, C k j) : FI C h (upA h k f) := fun k' j' hk => by
  by_cases e : k' = k
  · subst e
    exact absurd (c j') hk
  · rw [upA_n _ _ e]
theorem FI.cell {C : Nat → Nat → Prop} {h h' : Hp} (a : FI C h h') {k : Nat} (c : ∀ j, ¬ C k j) : h' k = h k := funext (fun j => a k j (c j))
theorem loopN {σ ρ : Type} (N : Nat) (F : Nat → Nat → σ → Option ρ) (Inv : Nat → σ → Prop) (Post : ρ → Prop)
    (step : ∀ n i s, i < N → Inv i s → (∃ s', Inv (i + 1) s' ∧ F (n + 1) i s = F n (i + 1) s') ∨ ∃ r, F (n + 1) i s = some r ∧ Post r)
    (fin : ∀ n s, Inv N s → ∃ r, F (n + 1) N s = some r ∧ Post r) :
    ∀ (m n i : Nat) (s : σ), i + m = N → m < n → Inv i s → ∃ r, F n i s = some r ∧ Post r := by
  intro m
  induction m with
  | zero =>
    intro n i s hi hn hI
    obtain ⟨n, rfl⟩ : ∃ k, n = k + 1 := ⟨n - 1, by omega⟩
    obtain rfl : i = N := by omega
    exact fin n s hI
  | succ m ih =>
    intro n i s hi hn hI
    obtain ⟨n, rfl⟩ : ∃ k, n = k + 1 := ⟨n - 1, by omega⟩
    rcases step n i s (by omega) hI with ⟨s', h1, h2⟩ | h1
    · rw [h2]
      exact ih n (i + 1) s' (by omega) (by omega) h1
    · exact h1
theorem loop0 {σ ρ : Type} (N : Nat) (F : Nat → Nat → σ → Option ρ) (Inv : Nat → σ → Prop) (Post : ρ → Prop) (s : σ) (hN : N < 1000000) (h0 : Inv 0 s)
    (step : ∀ n i s, i < N → Inv i s → (∃ s', Inv (i + 1) s' ∧ F (n + 1) i s = F n (i + 1) s') ∨ ∃ r, F (n + 1) i s = some r ∧ Post r)
    (fin : ∀ n s, Inv N s → ∃ r, F (n + 1) N s = some r ∧ Post r) : ∃ r, F big 0 s = some r ∧ Post r :=
  loopN N F Inv Post step fin N big 0 s (by omega) hN h0
theorem loopI {σ ρ : Type} (N i0 : Nat) (F : Nat → Nat → σ → Option ρ) (Inv : Nat → σ → Prop) (Post : ρ → Prop) (s : σ) (hi : i0 ≤ N) (hN : N < 1000000) (h0 : Inv i0 s)
    (step : ∀ n i s, i < N → Inv i s → (∃ s', Inv (i + 1) s' ∧ F (n + 1) i s = F n (i + 1) s') ∨ ∃ r, F (n + 1) i s = some r ∧ Post r)
    (fin : ∀ n s, Inv N s → ∃ r, F (n + 1) N s = some r ∧ Post r) : ∃ r, F big i0 s = some r ∧ Post r :=
  loopN N F Inv Post step fin (N - i0) big i0 s (by omega) (Nat.lt_of_le_of_lt (Nat.sub_le _ _) hN) h0
theorem rchN {σ ρ α : Type} (F : Nat → α → Option ρ) (st : Nat → σ → α) (N k : Nat) (Inv : Nat → σ → Prop)
    (step : ∀ i s, i < N → Inv i s → ∃ s', Inv (i + 1) s' ∧ ∀ n, F (n + k) (st i s) = F n (st (i + 1) s')) :
    ∀ (m i : Nat) (s : σ), i + m = N → Inv i s → ∃ s', Inv N s' ∧ ∀ n, F (n + k * m) (st i s) = F n (st N s') := by
  intro m
  induction m with
  | zero =>
    intro i s hi hI
    obtain rfl : i = N := by omega
    exact ⟨s, hI, fun n => rfl⟩
  | succ m ih =>
    intro i s hi hI
    obtain ⟨s1, h1, e1⟩ := step i s (by omega) hI
    obtain ⟨s2, h2, e2⟩ := ih (i + 1) s1 (by omega) h1
    refine ⟨s2, h2, fun n => ?_⟩
    rw [show n + k * (m + 1) = (n + k * m) + k by rw [Nat.mul_succ]; omega, e1, e2]
def mkB (f : Nat → Bool) : Nat → Int32
  | 0 => 0
  | n + 1 => if f n then mkB f n ||| bit9 n else mkB f n
theorem mkB_s (f : Nat → Bool) (n : Nat) : mkB f (n + 1) = if f n then mkB f n ||| bit9 n else mkB f n := rfl
theorem mkB_has (f : Nat → Bool) : ∀ n, n ≤ 32 → ∀ p, has9 (mkB f n) p = (decide (p < n) && f p) := by
  intro n
  induction n with
  | zero => intro _ p; show has9 0 p = _; rw [has9_0]; simp
  | succ n ih =>
    intro hn p
    have h1 := ih (by omega) p
    unfold mkB
    cases e : f n with
    | true =>
      simp only [if_true]
      rw [has9_or, h1, has9_bit (by omega)]
      by_cases c : p = n
      · subst c; simp [e]
      · by_cases c2 : p < n
        · simp [c2, c, show p < n + 1 by omega]
        · simp [c2, c, show ¬ p < n + 1 by omega]
    | false =>
      simp only [Bool.false_eq_true, if_false]
      rw [h1]
      by_cases c : p = n
      · subst c; simp [e]
      · by_cases c2 : p < n
        · simp [c2, show p < n + 1 by omega]
        · simp [c2, show ¬ p < n + 1 by omega]
theorem mkB_S16 (f : Nat → Bool) : S16 (mkB f 16) := fun p hp => by rw [mkB_has f 16 (by decide)]; simp; omega
theorem mkB_16 (f : Nat → Bool) {p : Nat} (hp : p < 16) : has9 (mkB f 16) p = f p := by rw [mkB_has f 16 (by decide)]; simp [hp]
theorem mkB_cong {f g : Nat → Bool} : ∀ {n : Nat}, (∀ p, p < n → f p = g p) → mkB f n = mkB g n
  | 0, _ => rfl
  | n + 1, h => by
    unfold mkB
    rw [mkB_cong (n := n) (fun p hp => h p (by omega)), h n (by omega)]
theorem mkB_ext {S : Int32} {f : Nat → Bool} (hS : S16 S) (h : ∀ p, p < 16 → has9 S p = f p) : S = mkB f 16 :=
  S16_ext hS (mkB_S16 f) (fun p hp => by rw [h p hp, mkB_16 f hp])
theorem bI_01 (b : Bool) : bI b = 0 ∨ bI b = 1 := by cases b; exact Or.inl rfl; exact Or.inr rfl
theorem bI_t : (1 : Int32) = bI true := rfl
theorem bI_f : (0 : Int32) = bI false := rfl
theorem sub_lt {a b c : Nat} (ha : a < 2 ^ 30) (hb : b < 2 ^ 30) (hc : c < 2 ^ 30) : (nI a - nI b < nI c) ↔ a < b + c := by
  rw [Int32.lt_iff_toInt_lt, pk_sub_toInt ha hb, nI_toInt (by omega)]
  omega
theorem jmin_comm (a b : Int32) : jmin a b = jmin b a := by
  unfold jmin
  by_cases c : b < a
  · rw [if_pos c, if_neg (fun h => Int32.lt_irrefl (Int32.lt_trans c h))]
  · rw [if_neg c]
    by_cases d : a < b
    · rw [if_pos d]
    · rw [if_neg d]
      exact Int32.le_antisymm (Int32.not_lt.mp c) (Int32.not_lt.mp d)
/-! The table: where the class keeps what the reference keeps at i. -/
def loc (i : Nat) : Nat × Nat :=
  if i < 14 then [(5, 0), (0, 16), (11, 0), (0, 13), (0, 8), (0, 9), (0, 12), (0, 5), (0, 10), (0, 11), (0, 15), (9, 1), (0, 14), (0, 4)].getD i (11, 0)
  else if i < 30 then (1, i - 14) else if i < 46 then (2, i - 30) else if i < 62 then (3, i - 46) else if i < 78 then (4, i - 62) else (6 + (i - 78) % 3, (i - 78) / 3)
theorem loc_inj {i j : Nat} (hi : i < 93) (hj : j < 93) (h : loc i = loc j) : i = j := by
  have : ∀ a b : Fin 93, loc a.val = loc b.val → a.val = b.val := by decide +kernel
  exact this ⟨i, hi⟩ ⟨j, hj⟩ h
theorem loc_c {i : Nat} (hi : i < 93) (h2 : i ≠ 2) : (loc i).1 ≤ 9 := by
  have : ∀ a : Fin 93, a.val ≠ 2 → (loc a.val).1 ≤ 9 := by decide +kernel
  exact this ⟨i, hi⟩ h2
theorem loc_g {p : Nat} (h : p < 16) : loc (14 + p) = (1, p) := by
  have : ∀ a : Fin 16, loc (14 + a.val) = (1, a.val) := by decide +kernel
  exact this ⟨p, h⟩
theorem loc_d {p : Nat} (h : p < 16) : loc (30 + p) = (2, p) := by
  have : ∀ a : Fin 16, loc (30 + a.val) = (2, a.val) := by decide +kernel
  exact this ⟨p, h⟩
theorem loc_t {p : Nat} (h : p < 16) : loc (46 + p) = (3, p) := by
  have : ∀ a : Fin 16, loc (46 + a.val) = (3, a.val) := by decide +kernel
  exact this ⟨p, h⟩
theorem loc_r {p : Nat} (h : p < 16) : loc (62 + p) = (4, p) := by
  have : ∀ a : Fin 16, loc (62 + a.val) = (4, a.val) := by decide +kernel
  exact this ⟨p, h⟩
theorem loc_at {k : Nat} (h : k < 5) : loc (78 + 3 * k) = (6, k) := by
  have : ∀ a : Fin 5, loc (78 + 3 * a.val) = (6, a.val) := by decide +kernel
  exact this ⟨k, h⟩
theorem loc_pa {k : Nat} (h : k < 5) : loc (79 + 3 * k) = (7, k) := by
  have : ∀ a : Fin 5, loc (79 + 3 * a.val) = (7, a.val) := by decide +kernel
  exact this ⟨k, h⟩
theorem loc_br {k : Nat} (h : k < 5) : loc (80 + 3 * k) = (8, k) := by
  have : ∀ a : Fin 5, loc (80 + 3 * a.val) = (8, a.val) := by decide +kernel
  exact this ⟨k, h⟩
def SV (h : Hp) (b : Nat) : Nat → Nat → Int32 := fun j => h (b + j)
def SKs (f : Nat → Nat → Int32) (w : Nat → Int32) : Prop := ∀ i, i < 93 → i ≠ 2 → f (loc i).1 (loc i).2 = w i
theorem SKs.get {h : Hp} {b : Nat} {w : Nat → Int32} (H : SKs (SV h b) w) {c j i : Nat} (e : loc i = (c, j)) (hi : i < 93) (h2 : i ≠ 2) : h (b + c) j = w i := by
  have := H i hi h2
  rw [e] at this
  exact this
theorem SKs.up {h : Hp} {b : Nat} {w : Nat → Int32} (H : SKs (SV h b) w) {c j i : Nat} (e : loc i = (c, j)) (hi : i < 93) (v : Int32) : SKs (SV (up2 h (b + c) j v) b) (upd w i v) := by
  intro k hk hk2
  show up2 h (b + c) j v (b + (loc k).1) (loc k).2 = _
  by_cases q : k = i
  · subst q
    rw [e, upd_s, up2_s, upd_s]
  · rw [upd_n _ _ q]
    by_cases q1 : (loc k).1 = c
    · rw [q1, up2_s, upd_n]
      · rw [← q1]; exact H k hk hk2
      · intro q2
        exact q (loc_inj hk hi (by rw [e]; exact Prod.ext q1 q2))
    · rw [up2_n _ _ _ (by omega)]
      exact H k hk hk2
theorem SKs.fr {C : Nat → Prop} {h h' : Hp} {b : Nat} {w : Nat → Int32} (H : SKs (SV h b) w) (F : FR C h h') (hc : ∀ j, j ≤ 10 → ¬ C (b + j)) : SKs (SV h' b) w := by
  intro i hi h2
  show h' (b + (loc i).1) (loc i).2 = _
  rw [F _ (hc _ (Nat.le_trans (loc_c hi h2) (by decide)))]
  exact H i hi h2
theorem SKs.out {h : Hp} {b : Nat} {w w' : Nat → Int32} (H : SKs (SV h b) w) (e : ∀ i, i < 93 → i ≠ 2 → w' i = w i) : SKs (SV h b) w' := fun i hi h2 => (H i hi h2).trans (e i hi h2).symm
/-! What holds of the reference's row. -/
def hiT (i : Nat) : Nat :=
  if i < 14 then [5, 12, 1, 9999, 40, 9, 999, 0, 100, 100, 0, 60, 0, 0].getD i 0
  else if i < 30 then 9 else if i < 46 then 20 else if i < 62 then 9 else if i < 78 then 99 else if (i - 78) % 3 = 0 then 15 else if (i - 78) % 3 = 1 then 9 else 30
def spc (i : Nat) : Bool := i == 7 || i == 10 || i == 12 || i == 13
def GW (w : Nat → Int32) : Prop := (∀ i, i < 93 → spc i = false → ∃ n, n ≤ hiT i ∧ w i = nI n) ∧ S16 (w 7) ∧ S16 (w 13) ∧ (∀ p, p < 16 → has9 (w 7) p = false → w (62 + p) = 0) ∧ (∀ k, k < 5 → nI k < w 0 → w (79 + 3 * k) ≠ 0) ∧ w 4 ≠ 0
theorem hiT_g {p : Nat} (h : p < 16) : hiT (14 + p) = 9 := by
  have : ∀ a : Fin 16, hiT (14 + a.val) = 9 := by decide +kernel
  exact this ⟨p, h⟩
theorem hiT_d {p : Nat} (h : p < 16) : hiT (30 + p) = 20 := by
  have : ∀ a : Fin 16, hiT (30 + a.val) = 20 := by decide +kernel
  exact this ⟨p, h⟩
theorem hiT_t {p : Nat} (h : p < 16) : hiT (46 + p) = 9 := by
  have : ∀ a : Fin 16, hiT (46 + a.val) = 9 := by decide +kernel
  exact this ⟨p, h⟩
theorem hiT_r {p : Nat} (h : p < 16) : hiT (62 + p) = 99 := by
  have : ∀ a : Fin 16, hiT (62 + a.val) = 99 := by decide +kernel
  exact this ⟨p, h⟩
theorem hiT_at {k : Nat} (h : k < 5) : hiT (78 + 3 * k) = 15 := by
  have : ∀ a : Fin 5, hiT (78 + 3 * a.val) = 15 := by decide +kernel
  exact this ⟨k, h⟩
theorem hiT_pa {k : Nat} (h : k < 5) : hiT (79 + 3 * k) = 9 := by
  have : ∀ a : Fin 5, hiT (79 + 3 * a.val) = 9 := by decide +kernel
  exact this ⟨k, h⟩
theorem hiT_br {k : Nat} (h : k < 5) : hiT (80 + 3 * k) = 30 := by
  have : ∀ a : Fin 5, hiT (80 + 3 * a.val) = 30 := by decide +kernel
  exact this ⟨k, h⟩
theorem spc_n {i : Nat} (h : 14 ≤ i) : spc i = false := by
  unfold spc
  simp
  omega
section GWS
variable {w : Nat → Int32}
theorem GW.pins (G : GW w) : S16 (w 7) := G.2.1
theorem GW.bare (G : GW w) : S16 (w 13) := G.2.2.1
theorem GW.norust (G : GW w) {p : Nat} (hp : p < 16) (h : has9 (w 7) p = false) : w (62 + p) = 0 := G.2.2.2.1 p hp h
theorem GW.num (G : GW w) (i : Nat) (hi : i < 93) (hs : spc i = false) {m : Nat} (e : hiT i = m) : ∃ n, n ≤ m ∧ w i = nI n := by
  obtain ⟨n, h1, h2⟩ := G.1 i hi hs
  exact ⟨n, by omega, h2⟩
theorem GW.ground (G : GW w) {p : Nat} (hp : p < 16) : ∃ n, n ≤ 9 ∧ w (14 + p) = nI n := G.num _ (by omega) (spc_n (by omega)) (hiT_g hp)
theorem GW.need (G : GW w) {p : Nat} (hp : p < 16) : ∃ n, n ≤ 20 ∧ w (30 + p) = nI n := G.num _ (by omega) (spc_n (by omega)) (hiT_d hp)
theorem GW.tree (G : GW w) {p : Nat} (hp : p < 16) : ∃ n, n ≤ 9 ∧ w (46 + p) = nI n := G.num _ (by omega) (spc_n (by omega)) (hiT_t hp)
theorem GW.rust (G : GW w) {p : Nat} (hp : p < 16) : ∃ n, n ≤ 99 ∧ w (62 + p) = nI n := G.num _ (by omega) (spc_n (by omega)) (hiT_r hp)
theorem GW.spot (G : GW w) {k : Nat} (hk : k < 5) : ∃ n, n ≤ 15 ∧ w (78 + 3 * k) = nI n := G.num _ (by omega) (spc_n (by omega)) (hiT_at hk)
theorem GW.pace (G : GW w) {k : Nat} (hk : k < 5) : ∃ n, n ≤ 9 ∧ w (79 + 3 * k) = nI n := G.num _ (by omega) (spc_n (by omega)) (hiT_pa hk)
theorem GW.brass (G : GW w) {k : Nat} (hk : k < 5) : ∃ n, n ≤ 30 ∧ w (80 + 3 * k) = nI n := G.num _ (by omega) (spc_n (by omega)) (hiT_br hk)
theorem GW.n0 (G : GW w) : ∃ n, n ≤ 5 ∧ w 0 = nI n := G.num 0 (by decide) rfl rfl
theorem GW.n1 (G : GW w) : ∃ n, n ≤ 12 ∧ w 1 = nI n := G.num 1 (by decide) rfl rfl
theorem GW.n2 (G : GW w) : ∃ n, n ≤ 1 ∧ w 2 = nI n := G.num 2 (by decide) rfl rfl
theorem GW.n3 (G : GW w) : ∃ n, n ≤ 9999 ∧ w 3 = nI n := G.num 3 (by decide) rfl rfl
theorem GW.n4 (G : GW w) : ∃ n, n ≤ 40 ∧ w 4 = nI n := G.num 4 (by decide) rfl rfl
theorem GW.n5 (G : GW w) : ∃ n, n ≤ 9 ∧ w 5 = nI n := G.num 5 (by decide) rfl rfl
theorem GW.n6 (G : GW w) : ∃ n, n ≤ 999 ∧ w 6 = nI n := G.num 6 (by decide) rfl rfl
theorem GW.n8 (G : GW w) : ∃ n, n ≤ 100 ∧ w 8 = nI n := G.num 8 (by decide) rfl rfl
theorem GW.n9 (G : GW w) : ∃ n, n ≤ 100 ∧ w 9 = nI n := G.num 9 (by decide) rfl rfl
theorem GW.n11 (G : GW w) : ∃ n, n ≤ 60 ∧ w 11 = nI n := G.num 11 (by decide) rfl rfl
theorem GW.out {w' : Nat → Int32} (G : GW w) (e : ∀ i, i < 93 → w' i = w i) : GW w' := by
  refine ⟨fun i hi hs => ?_, ?_, ?_, fun p hp h => ?_, fun k hk h => ?_, ?_⟩
  · rw [e i hi]; exact G.1 i hi hs
  · rw [e 7 (by decide)]; exact G.2.1
  · rw [e 13 (by decide)]; exact G.2.2.1
  · rw [e 7 (by decide)] at h; rw [e _ (by omega)]; exact G.2.2.2.1 p hp h
  · rw [e 0 (by decide)] at h; rw [e _ (by omega)]; exact G.2.2.2.2.1 k hk h
  · rw [e 4 (by decide)]; exact G.2.2.2.2.2
/-- a number set at i -/
theorem GW.set (G : GW w) {i n : Nat} (hi : i < 93) (hs : spc i = false) (hn : n ≤ hiT i) (h0 : i ≠ 0) (h4 : i = 4 → n ≠ 0) (hr : 62 ≤ i → i < 78 → has9 (w 7) (i - 62) = true ∨ n = 0) (hp : ∀ k, k < 5 → i ≠ 79 + 3 * k) : GW (upd w i (nI n)) := by
  have a7 : i ≠ 7 := fun h => by subst h; cases hs
  have a13 : i ≠ 13 := fun h => by subst h; cases hs
  refine ⟨fun j hj hs2 => ?_, ?_, ?_, fun p hp2 h => ?_, fun k hk h => ?_, ?_⟩
  · by_cases c : j = i
    · subst c; exact ⟨n, hn, upd_s _ _ _⟩
    · rw [upd_n _ _ c]; exact G.1 j hj hs2
  · rw [upd_n _ _ (Ne.symm a7)]; exact G.2.1
  · rw [upd_n _ _ (Ne.symm a13)]; exact G.2.2.1
  · rw [upd_n _ _ (Ne.symm a7)] at h
    by_cases c : 62 + p = i
    · subst c
      rw [upd_s]
      rcases hr (by omega) (by omega) with q | q
      · rw [show 62 + p - 62 = p by omega, h] at q; cases q
      · subst q; rfl
    · rw [upd_n _ _ c]; exact G.2.2.2.1 p hp2 h
  · rw [upd_n _ _ (Ne.symm h0)] at h
    rw [upd_n _ _ (Ne.symm (hp k hk))]; exact G.2.2.2.2.1 k hk h
  · by_cases c : 4 = i
    · subst c; rw [upd_s]
      intro q
      exact h4 rfl ((nI_n0 (by have : hiT 4 = 40 := rfl; omega)).mp q)
    · rw [upd_n _ _ c]; exact G.2.2.2.2.2
/-- any int set where any may stand -/
theorem GW.any (G : GW w) {i : Nat} (h : i = 10 ∨ i = 12) (v : Int32) : GW (upd w i v) := by
  refine ⟨fun j hj hs2 => ?_, ?_, ?_, fun p hp2 h => ?_, fun k hk h => ?_, ?_⟩
  · have c : j ≠ i := by intro q; subst q; rcases h with rfl | rfl <;> cases hs2
    rw [upd_n _ _ c]; exact G.1 j hj hs2
  · rw [upd_n _ _ (by omega)]; exact G.2.1
  · rw [upd_n _ _ (by omega)]; exact G.2.2.1
  · rw [upd_n _ _ (by omega)] at h; rw [upd_n _ _ (by omega)]; exact G.2.2.2.1 p hp2 h
  · rw [upd_n _ _ (by omega)] at h; rw [upd_n _ _ (by omega)]; exact G.2.2.2.2.1 k hk h
  · rw [upd_n _ _ (by omega)]; exact G.2.2.2.2.2
/-- the pins become others -/
theorem GW.setpins (G : GW w) {S : Int32} (hS : S16 S) (h : ∀ p, p < 16 → has9 S p = false → w (62 + p) = 0) : GW (upd w 7 S) := by
  refine ⟨fun j hj hs2 => ?_, ?_, ?_, fun p hp2 h2 => ?_, fun k hk h => ?_, ?_⟩
  · have c : j ≠ 7 := by intro q; subst q; cases hs2
    rw [upd_n _ _ c]; exact G.1 j hj hs2
  · rw [upd_s]; exact hS
  · rw [upd_n _ _ (by omega)]; exact G.2.2.1
  · rw [upd_s] at h2; rw [upd_n _ _ (by omega)]; exact h p hp2 h2
  · rw [upd_n _ _ (by omega)] at h; rw [upd_n _ _ (by omega)]; exact G.2.2.2.2.1 k hk h
  · rw [upd_n _ _ (by omega)]; exact G.2.2.2.2.2
end GWS

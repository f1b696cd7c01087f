/-! duke -/
def dA (i : Nat) : Nat := if i = 0 then 16 else i - 1
def dukT (w : Nat → Int32) (a b : Nat) : Int32 := if b = 16 then (if a = 16 then w 7 else wo9 (w 7) a) else (if a = 16 then w 7 else wo9 (w 7) a) ||| bit9 b
def dukV (w : Nat → Int32) (a b : Nat) : Int32 := fJ_bitCount (stNow w (dukT w a b))
def okA (S : Int32) (a : Nat) : Bool := decide (a = 16) || has9 S a
def dC1 (w : Nat → Int32) (a b k : Nat) : Bool := !okA (w 7) k || decide (dukV w a b ≤ dukV w k b)
def dC2 (w : Nat → Int32) (a b k : Nat) : Bool := !okA (free9 w) k || decide (dukV w a k ≤ dukV w a b)
def rstB (w : Nat → Int32) (a b : Nat) : Bool := okA (w 7) a && okA (free9 w) b && (allB (dC1 w a b) 17 && allB (dC2 w a b) 17)
theorem allB_s (f : Nat → Bool) (n : Nat) : allB f (n + 1) = (f n && allB f n) := rfl
theorem allB_mk {f : Nat → Bool} : ∀ {n : Nat}, (∀ i, i < n → f i = true) → allB f n = true
  | 0, _ => rfl
  | n + 1, h => by rw [allB_s, h n (by omega), allB_mk (n := n) (fun i hi => h i (by omega))]; rfl
theorem allB_no {f : Nat → Bool} {n i : Nat} (hi : i < n) (h : f i = false) : allB f n = false := by
  cases c : allB f n with
  | false => rfl
  | true => rw [allB_of c i hi] at h; cases h
theorem dA_le {i : Nat} (h : i < 17) : dA i ≤ 16 := by unfold dA; by_cases c : i = 0 <;> simp [c] <;> omega
theorem dA_allB (f : Nat → Bool) : allB (fun i => f (dA i)) 17 = allB f 17 := by
  cases c : allB f 17 with
  | true => exact allB_mk (fun i hi => allB_of c (dA i) (by have := dA_le hi; omega))
  | false =>
    cases d : allB (fun i => f (dA i)) 17 with
    | false => rfl
    | true =>
      have : allB f 17 = true := allB_mk (fun i hi => by
        by_cases e : i = 16
        · subst e; exact allB_of d 0 (by decide)
        · have := allB_of d (i + 1) (by omega)
          unfold dA at this
          rw [if_neg (by omega), Nat.add_sub_cancel] at this
          exact this)
      rw [this] at c; cases c
theorem m1_0 : (-1 : Int32) = nI 0 - 1 := by decide
theorem ge16 {i : Nat} (h : i < 17) : ¬ (16 : Int32) ≤ nI i - 1 := by
  cases i with
  | zero => decide
  | succ i => rw [nI_pred]; exact c16n (by omega)
theorem ge17 : (16 : Int32) ≤ nI 17 - 1 := by decide
theorem dA_s (i : Nat) : dA (i + 1) = i := by unfold dA; rw [if_neg (by omega), Nat.add_sub_cancel]
theorem chs_x (S : Int32) {i : Nat} (h : i < 17) : fX11_canChoose S (nI i - 1) = bI (okA S (dA i)) := by
  unfold fX11_canChoose okA
  cases i with
  | zero => rfl
  | succ i =>
    rw [dA_s, nI_pred, if_neg (fun q => by have := nI_pos (n := i) (by omega); rw [q] at this; exact this (by decide)), has_x S (by omega), decide_eq_false (show ¬ i = 16 by omega), Bool.false_or]
    cases has9 S i <;> rfl
theorem bitOf_x {i : Nat} (h : i < 17) : fX11_bitOf (nI i - 1) = if dA i = 16 then 0 else bit9 (dA i) := by
  unfold fX11_bitOf dA
  cases i with
  | zero => rfl
  | succ i =>
    rw [nI_pred, if_neg (fun q => by have := nI_pos (n := i) (by omega); rw [q] at this; exact this (by decide)), if_neg (show ¬ i + 1 = 0 by omega), Nat.add_sub_cancel, if_neg (by omega), bit9_def]
theorem pair_x (i j : Nat) : fX11_pair (nI i - 1) (nI j - 1) = nI (17 * i + j) := by
  unfold fX11_pair
  rw [Int32.sub_add_cancel, Int32.add_assoc, Int32.sub_add_cancel, i_17, nI_mul, nI_add, Nat.mul_comm]
theorem and_m1 (x : Int32) : x &&& ((0 : Int32) ^^^ (-1)) = x := has9_ext (fun p hp => by rw [has9_and, has9_cpl _ hp, has9_0]; simp)
theorem dukT_x (w : Nat → Int32) {i j : Nat} (hi : i < 17) (hj : j < 17) : (w 7 &&& (fX11_bitOf (nI i - 1) ^^^ (-1))) ||| fX11_bitOf (nI j - 1) = dukT w (dA i) (dA j) := by
  rw [bitOf_x hi, bitOf_x hj]
  unfold dukT
  by_cases c : dA i = 16
  · rw [if_pos c, if_pos c, and_m1]
    by_cases d : dA j = 16
    · rw [if_pos d, if_pos d, or_zero]
    · rw [if_neg d, if_neg d]
  · rw [if_neg c, if_neg c, wo9_def]
    by_cases d : dA j = 16
    · rw [if_pos d, if_pos d, or_zero]
    · rw [if_neg d, if_neg d]
theorem sub_p1 (i : Nat) : (nI i - 1) + 1 = nI (i + 1) - 1 := by rw [Int32.sub_add_cancel, nI_pred]
def c31 (k : Nat) : Prop := k = 4 ∨ k = 5 ∨ k = 31
theorem CS.f31 {h h' : Hp} {b : Nat} {w : Nat → Int32} (H : CS h b w) (F : FR c31 h h') : CS h' b w := by
  obtain ⟨H1, H2, H3, H4, H5⟩ := H
  exact ⟨H1.fr F (fun j hj q => by unfold c31 at q; omega), H2, H3, H4.fr F (fun j hj q => by unfold c31 at q; omega), H5⟩
theorem CV.up {h : Hp} {w : Nat → Int32} (V : CV h w) {k : Nat} (j : Nat) (v : Int32) (h4 : k ≠ 4) (h5 : k ≠ 5) : CV (up2 h k j v) w := by
  unfold CV
  rw [up2_n _ _ _ (Ne.symm h4), up2_n _ _ _ (Ne.symm h5)]
  exact V
def GAM (w : Nat → Int32) (s : Hp) (n : Nat) : Prop := ∀ i j, i < 17 → j < 17 → 17 * i + j < n → okA (w 7) (dA i) = true → okA (free9 w) (dA j) = true → s 31 (17 * i + j) = dukV w (dA i) (dA j)
theorem playGame_x {h : Hp} {w : Nat → Int32} (H : CS h 32 w) : ∃ h', fX11_playGame h (free9 w) = some h' ∧ FR c31 h h' ∧ GAM w h' 289 := by
  obtain ⟨h0, e0, F0, V0⟩ := startOver_x h w
  obtain ⟨s, ⟨a1, a2, a3⟩, e⟩ := rchN (σ := Hp) (ρ := Hp) (α := Hp × Int32) (fun n a => LX11_playGame n 0 a.1 (free9 w) a.2 0) (fun i s => (s, nI i - 1)) 17 19 (fun i s => FR c31 h s ∧ CV s w ∧ GAM w s (17 * i)) (by
    rintro i s hi ⟨b1, b2, b3⟩
    obtain ⟨t, ⟨d1, d2, d3⟩, et⟩ := rchN (σ := Hp) (ρ := Hp) (α := Hp × Int32) (fun n a => LX11_playGame n 1 a.1 (free9 w) (nI i - 1) a.2) (fun j s => (s, nI j - 1)) 17 1 (fun j s => FR c31 h s ∧ CV s w ∧ GAM w s (17 * i + j)) (by
      rintro j s2 hj ⟨c1, c2, c3⟩
      have H2 := H.f31 c1
      try dsimp only
      have ext : ∀ s3 : Hp, (okA (w 7) (dA i) = true → okA (free9 w) (dA j) = true → s3 31 (17 * i + j) = dukV w (dA i) (dA j)) → (∀ k, k ≠ 17 * i + j → s3 31 k = s2 31 k) → GAM w s3 (17 * i + (j + 1)) := by
        intro s3 q1 q2 i' j' hi' hj' hn o1 o2
        by_cases c : 17 * i' + j' = 17 * i + j
        · have : i' = i := by omega
          have : j' = j := by omega
          subst i' j'
          exact q1 o1 o2
        · rw [q2 _ c]; exact c3 i' j' hi' hj' (by omega) o1 o2
      have eL : ∀ n, LX11_playGame (n + 1) 1 s2 (free9 w) (nI i - 1) (nI j - 1) = cl9 (if okA (w 7) (dA i) = false then some false else if okA (free9 w) (dA j) = false then some false else some true) (fun q4 => if q4 = true then cl2 (fX1_standingWith s2 32 (dukT w (dA i) (dA j))) (fun x13 h11 => LX11_playGame n 1 (up2 h11 31 (17 * i + j) (fJ_bitCount x13)) (free9 w) (nI i - 1) (nI (j + 1) - 1)) else LX11_playGame n 1 s2 (free9 w) (nI i - 1) (nI (j + 1) - 1)) := by
        intro n
        rw [LX11_playGame, if_neg (by decide), if_pos rfl, BX11_playGame_1, if_neg (ge16 hj), H2.f7, chs_x _ hi, chs_x _ hj, dukT_x w hi hj, pair_x, sub_p1]
        simp only [bI_eq0, lt9_e, gd_in (show 17 * i + j < 289 by omega) (show 289 < 2 ^ 31 by decide), nI_clamp (show 17 * i + j < 2 ^ 31 by omega)]
      cases o1 : okA (w 7) (dA i) with
      | false =>
        refine ⟨s2, ⟨c1, c2, ext s2 (fun q => by rw [o1] at q; cases q) (fun _ _ => rfl)⟩, fun n => ?_⟩
        rw [eL n, o1]; rfl
      | true =>
        cases o2 : okA (free9 w) (dA j) with
        | false =>
          refine ⟨s2, ⟨c1, c2, ext s2 (fun _ q => by rw [o2] at q; cases q) (fun _ _ => rfl)⟩, fun n => ?_⟩
          rw [eL n, o1, o2]; rfl
        | true =>
          obtain ⟨h4, e4, F4, V4⟩ := standingWith_x H2 c2 (dukT w (dA i) (dA j))
          have n31 : h4 31 = s2 31 := F4 31 (by unfold c45; omega)
          refine ⟨up2 h4 31 (17 * i + j) (dukV w (dA i) (dA j)), ⟨(c1.trans (F4.mono (fun k q => by unfold c45 at q; unfold c31; omega))).trans (FR.up2 _ _ _ (by unfold c31; omega)), V4.up _ _ (by decide) (by decide), ext _ (fun _ _ => by rw [up2_s, upd_s]) (fun k hk => by rw [up2_s, upd_n _ _ hk, n31])⟩, fun n => ?_⟩
          rw [eL n, o1, o2, if_neg (by simp), if_neg (by simp), cl9_some, if_pos rfl, e4, cl2_some]
          rfl) 17 0 s rfl ⟨b1, b2, b3⟩
    refine ⟨t, ⟨d1, d2, by rw [show 17 * (i + 1) = 17 * i + 17 by omega]; exact d3⟩, fun n => ?_⟩
    try dsimp only
    have s2 := et (n + 1)
    dsimp only at s2
    rw [show n + 19 = (n + 1 + 1 * 17) + 1 by omega, LX11_playGame, if_pos rfl, BX11_playGame_0, if_neg (ge16 hi), m1_0, s2, LX11_playGame, if_neg (by decide), if_pos rfl, BX11_playGame_1, if_pos ge17, sub_p1]
    rfl) 17 0 h0 rfl ⟨F0.mono (fun k q => by unfold c45 at q; unfold c31; omega), V0, fun i j _ _ q => by omega⟩
  refine ⟨s, ?_, a1, a3⟩
  unfold fX11_playGame
  rw [e0, cl9_some]
  have e1 := e (999676 + 1)
  dsimp only at e1
  rw [show big = 999676 + 1 + 19 * 17 from rfl, m1_0, e1, LX11_playGame, if_pos rfl, BX11_playGame_0, if_pos ge17]
theorem allB_le {f : Nat → Bool} {n m : Nat} (h : allB f n = true) (hm : m ≤ n) : allB f m = true := allB_mk (fun i hi => allB_of h i (by omega))
theorem dukeRests_x {h : Hp} {w : Nat → Int32} (e7 : h 32 5 = w 7) (Gm : GAM w h 289) {i j : Nat} (hi : i < 17) (hj : j < 17) (o1 : okA (w 7) (dA i) = true) (o2 : okA (free9 w) (dA j) = true) : fX11_dukeRests h (nI i - 1) (nI j - 1) = some (bI (allB (dC1 w (dA i) (dA j)) 17)) := by
  have key : ∀ m n k, k + m = 17 → m < n → allB (fun k => dC1 w (dA i) (dA j) (dA k)) k = true → LX11_dukeRests h n (nI j - 1) (dukV w (dA i) (dA j)) (nI k - 1) = some (bI (allB (fun k => dC1 w (dA i) (dA j) (dA k)) 17)) := by
    intro m
    induction m with
    | zero =>
      intro n k hk hn ha
      obtain ⟨n, rfl⟩ : ∃ q, n = q + 1 := ⟨n - 1, by omega⟩
      obtain rfl : k = 17 := by omega
      rw [LX11_dukeRests, BX11_dukeRests_0, if_pos ge17, ha]; rfl
    | succ m ih =>
      intro n k hk hn ha
      obtain ⟨n, rfl⟩ : ∃ q, n = q + 1 := ⟨n - 1, by omega⟩
      have step : dC1 w (dA i) (dA j) (dA k) = true → allB (fun k => dC1 w (dA i) (dA j) (dA k)) (k + 1) = true := fun q => by rw [allB_s, ha]; simp [q]
      rw [LX11_dukeRests, BX11_dukeRests_0, if_neg (ge16 (by omega)), e7, chs_x _ (by omega), pair_x, sub_p1, gd_in (show 17 * k + j < 289 by omega) (by decide), nI_clamp (by omega)]
      simp only [bI_eq0, lt9_e]
      cases o : okA (w 7) (dA k) with
      | false =>
        rw [if_pos rfl]
        exact ih n (k + 1) (by omega) (by omega) (step (by unfold dC1; rw [o]; rfl))
      | true =>
        rw [if_neg (by simp), Gm k j (by omega) hj (by omega) o o2]
        by_cases d : dukV w (dA i) (dA j) ≤ dukV w (dA k) (dA j)
        · rw [if_pos d]
          exact ih n (k + 1) (by omega) (by omega) (step (by unfold dC1; rw [o, decide_eq_true d]; rfl))
        · rw [if_neg d, allB_no (i := k) (by omega) (by (try dsimp only); unfold dC1; rw [o, decide_eq_false d]; rfl)]; rfl
  unfold fX11_dukeRests
  rw [pair_x, gd_in (show 17 * i + j < 289 by omega) (by decide), nI_clamp (by omega), Gm i j hi hj (by omega) o1 o2, m1_0, key 17 big 0 rfl (by decide) rfl, dA_allB]
theorem guildRests_x {h : Hp} {w : Nat → Int32} (Gm : GAM w h 289) {i j : Nat} (hi : i < 17) (hj : j < 17) (o1 : okA (w 7) (dA i) = true) (o2 : okA (free9 w) (dA j) = true) : fX11_guildRests h (nI i - 1) (nI j - 1) (free9 w) = some (bI (allB (dC2 w (dA i) (dA j)) 17)) := by
  have key : ∀ m n k, k + m = 17 → m < n → allB (fun k => dC2 w (dA i) (dA j) (dA k)) k = true → LX11_guildRests h n (nI i - 1) (free9 w) (dukV w (dA i) (dA j)) (nI k - 1) = some (bI (allB (fun k => dC2 w (dA i) (dA j) (dA k)) 17)) := by
    intro m
    induction m with
    | zero =>
      intro n k hk hn ha
      obtain ⟨n, rfl⟩ : ∃ q, n = q + 1 := ⟨n - 1, by omega⟩
      obtain rfl : k = 17 := by omega
      rw [LX11_guildRests, BX11_guildRests_0, if_pos ge17, ha]; rfl
    | succ m ih =>
      intro n k hk hn ha
      obtain ⟨n, rfl⟩ : ∃ q, n = q + 1 := ⟨n - 1, by omega⟩
      have step : dC2 w (dA i) (dA j) (dA k) = true → allB (fun k => dC2 w (dA i) (dA j) (dA k)) (k + 1) = true := fun q => by rw [allB_s, ha]; simp [q]
      rw [LX11_guildRests, BX11_guildRests_0, if_neg (ge16 (by omega)), chs_x _ (by omega), pair_x, sub_p1, gd_in (show 17 * i + k < 289 by omega) (by decide), nI_clamp (by omega)]
      simp only [bI_eq0, lt9_e]
      cases o : okA (free9 w) (dA k) with
      | false =>
        rw [if_pos rfl]
        exact ih n (k + 1) (by omega) (by omega) (step (by unfold dC2; rw [o]; rfl))
      | true =>
        rw [if_neg (by simp), Gm i k hi (by omega) (by omega) o1 o]
        by_cases d : dukV w (dA i) (dA k) ≤ dukV w (dA i) (dA j)
        · rw [if_pos d]
          exact ih n (k + 1) (by omega) (by omega) (step (by unfold dC2; rw [o, decide_eq_true d]; rfl))
        · rw [if_neg d, allB_no (i := k) (by omega) (by (try dsimp only); unfold dC2; rw [o, decide_eq_false d]; rfl)]; rfl
  unfold fX11_guildRests
  rw [pair_x, gd_in (show 17 * i + j < 289 by omega) (by decide), nI_clamp (by omega), Gm i j hi hj (by omega) o1 o2, m1_0, key 17 big 0 rfl (by decide) rfl, dA_allB]
def sumN (f : Nat → Nat) : Nat → Nat
  | 0 => 0
  | n + 1 => sumN f n + f n
theorem sumN_s (f : Nat → Nat) (n : Nat) : sumN f (n + 1) = sumN f n + f n := rfl
theorem sumN_sh (f : Nat → Nat) : ∀ n, sumN f (n + 1) = f 0 + sumN (fun i => f (i + 1)) n
  | 0 => by simp [sumN]
  | n + 1 => by rw [sumN_s, sumN_sh f n, sumN_s]; omega
theorem sumN_cong {f g : Nat → Nat} : ∀ {n : Nat}, (∀ i, i < n → f i = g i) → sumN f n = sumN g n
  | 0, _ => rfl
  | n + 1, h => by rw [sumN_s, sumN_s, sumN_cong (n := n) (fun i hi => h i (by omega)), h n (by omega)]
theorem sum_dA (f : Nat → Nat) : sumN (fun i => f (dA i)) 17 = sumN f 17 := by
  rw [sumN_sh (fun i => f (dA i)) 16, sumN_s f 16]
  have e : sumN (fun i => f (dA (i + 1))) 16 = sumN f 16 := sumN_cong (fun i hi => by unfold dA; rw [if_neg (by omega), Nat.add_sub_cancel])
  rw [e]
  show f 16 + _ = _
  omega
theorem cnt_sum (f : Nat → Bool) : ∀ n, cntB f n = sumN (fun i => if f i then 1 else 0) n
  | 0 => rfl
  | n + 1 => by rw [cntB_s, sumN_s, cnt_sum f n]
theorem cnt_dA (f : Nat → Bool) : cntB (fun i => f (dA i)) 17 = cntB f 17 := by
  rw [cnt_sum, cnt_sum]
  exact sum_dA (fun a => if f a then 1 else 0)
theorem duke_x {h : Hp} {w : Nat → Int32} (H : CS h 32 w) : ∃ h', fX11_duke h = some (nI (sumN (fun a => cntB (rstB w a) 17) 17), h') ∧ FR c31 h h' := by
  obtain ⟨h1, e1, F1, Gm⟩ := playGame_x H
  have H1 := H.f31 F1
  have bnd : ∀ (f : Nat → Nat → Bool) i, sumN (fun i => cntB (f i) 17) i ≤ 17 * i := by
    intro f i
    induction i with
    | zero => exact Nat.le_refl _
    | succ i ih => rw [sumN_s]; have := cntB_le (f i) 17; omega
  obtain ⟨c, hc, e⟩ := rchN (σ := Nat) (ρ := Int32 × Hp) (α := Int32 × Int32) (fun n a => LX11_duke n 0 h1 (free9 w) a.1 a.2 0) (fun i c => (nI c, nI i - 1)) 17 19 (fun i c => c = sumN (fun i => cntB (fun j => rstB w (dA i) (dA j)) 17) i) (by
    rintro i c hi rfl
    obtain ⟨t, ht, et⟩ := rchN (σ := Nat) (ρ := Int32 × Hp) (α := Int32 × Int32) (fun n a => LX11_duke n 1 h1 (free9 w) a.1 (nI i - 1) a.2) (fun j c => (nI c, nI j - 1)) 17 1 (fun j c => c = sumN (fun i => cntB (fun j => rstB w (dA i) (dA j)) 17) i + cntB (fun j => rstB w (dA i) (dA j)) j) (by
      rintro j c hj rfl
      refine ⟨_, rfl, fun n => ?_⟩
      try dsimp only
      rw [LX11_duke, if_neg (by decide), if_pos rfl, BX11_duke_1, if_neg (ge16 hj), H1.f7, chs_x _ hi, chs_x _ hj, sub_p1, cntB_s]
      simp only [bI_eq0, lt9_e]
      have un : rstB w (dA i) (dA j) = (okA (w 7) (dA i) && okA (free9 w) (dA j) && (allB (dC1 w (dA i) (dA j)) 17 && allB (dC2 w (dA i) (dA j)) 17)) := rfl
      rw [un]
      cases o1 : okA (w 7) (dA i) with
      | false => simp
      | true =>
        cases o2 : okA (free9 w) (dA j) with
        | false => simp
        | true =>
          rw [if_neg (by simp), if_neg (by simp), dukeRests_x H1.f7 Gm hi hj o1 o2, cl9_some, guildRests_x Gm hi hj o1 o2, cl9_some, nI_1]
          simp only [bI_eq0]
          cases allB (dC1 w (dA i) (dA j)) 17 <;> cases allB (dC2 w (dA i) (dA j)) 17 <;> rfl) 17 0 (sumN (fun i => cntB (fun j => rstB w (dA i) (dA j)) 17) i) rfl rfl
    refine ⟨_, rfl, fun n => ?_⟩
    try dsimp only
    have s2 := et (n + 1)
    dsimp only at s2
    rw [show n + 19 = (n + 1 + 1 * 17) + 1 by omega, LX11_duke, if_pos rfl, BX11_duke_0, if_neg (ge16 hi), m1_0, s2, LX11_duke, if_neg (by decide), if_pos rfl, BX11_duke_1, if_pos ge17, sub_p1, ht]
    rfl) 17 0 0 rfl rfl
  refine ⟨h1, ?_, F1⟩
  unfold fX11_duke
  rw [free_x H]
  simp only [lt9_e]
  rw [e1, cl9_some]
  have q1 := e (999676 + 1)
  dsimp only at q1
  rw [show big = 999676 + 1 + 19 * 17 from rfl, m1_0]
  show LX11_duke (999676 + 1 + 19 * 17) 0 h1 (free9 w) (nI 0) (nI 0 - 1) 0 = _
  rw [q1, LX11_duke, if_pos rfl, BX11_duke_0, if_pos ge17, hc]
  have e2 : sumN (fun i => cntB (fun j => rstB w (dA i) (dA j)) 17) 17 = sumN (fun a => cntB (rstB w a) 17) 17 := by
    rw [← sum_dA (fun a => cntB (rstB w a) 17)]
    exact sumN_cong (fun i _ => cnt_dA (rstB w (dA i)))
  rw [e2]
/-! the reference -/
def cU (k j : Nat) : Prop := k = 220 ∨ cT k j
theorem cU_209 {h h' : Hp} (F : FI cU h h') : h' 209 = h 209 := F.cell (fun j c => by unfold cU cT at c; omega)
def STM (w : Nat → Int32) (s : Hp) (n : Nat) : Prop := ∀ a b, a < 17 → b < 17 → 17 * a + b < n → okA (w 7) a = true → okA (free9 w) b = true → s 220 (17 * a + b) = dukV w a b
theorem canDuke_m {h : Hp} {w : Nat → Int32} (hw : h 209 = w) {a : Nat} (ha : a < 17) : fX12_canDuke h (nI a) = bI (okA (w 7) a) := by
  unfold fX12_canDuke fX12_hasPin fX12_pins okA
  rw [hw, has_m _ (by omega)]
  by_cases c : a = 16
  · subst c; rfl
  · rw [i_16, if_neg (nI_ne (by omega) (by decide) c), decide_eq_false c, Bool.false_or]
    cases has9 (w 7) a <;> rfl
theorem canGuild_m {h : Hp} {w : Nat → Int32} (hw : h 209 = w) {a : Nat} (ha : a < 17) : fX12_canGuild h (nI a) = bI (okA (free9 w) a) := by
  unfold fX12_canGuild okA
  rw [free_m hw, has_m _ (by omega)]
  by_cases c : a = 16
  · subst c; rfl
  · rw [i_16, if_neg (nI_ne (by omega) (by decide) c), decide_eq_false c, Bool.false_or]
    cases has9 (free9 w) a <;> rfl
theorem idx17 (a b : Nat) : (17 : Int32) * nI a + nI b = nI (17 * a + b) := by rw [i_17, nI_mul, nI_add]
theorem dukT_S16 {w : Nat → Int32} (G : GW w) {a b : Nat} (hb : b < 17) : S16 (dukT w a b) := by
  have h1 : S16 (if a = 16 then w 7 else wo9 (w 7) a) := by
    by_cases c : a = 16
    · rw [if_pos c]; exact G.pins
    · rw [if_neg c]; exact S16_wo G.pins
  unfold dukT
  by_cases d : b = 16
  · rw [if_pos d]; exact h1
  · rw [if_neg d]; exact S16_or h1 (S16_bit (by omega))
theorem gt16 {b : Nat} (h : b < 17) : ¬ (16 : Int32) < nI b := nI_nlt (a := 16) (b := b) (by omega) (by decide)
theorem gt17 : (16 : Int32) < nI 17 := by decide
theorem laysStands_m {h : Hp} {w : Nat → Int32} (G : GW w) (HM : lawM w) (hw : h 209 = w) : ∃ h', fX12_laysStands h = some h' ∧ FI cU h h' ∧ STM w h' 289 := by
  obtain ⟨s, ⟨a1, a2⟩, e⟩ := rchN (σ := Hp) (ρ := Hp) (α := Hp × Int32) (fun n a => LX12_laysStands n 0 a.1 a.2 0) (fun i s => (s, nI i)) 17 19 (fun i s => FI cU h s ∧ STM w s (17 * i)) (by
    rintro i s hi ⟨b1, b2⟩
    obtain ⟨t, ⟨d1, d2⟩, et⟩ := rchN (σ := Hp) (ρ := Hp) (α := Hp × Int32) (fun n a => LX12_laysStands n 1 a.1 (nI i) a.2) (fun j s => (s, nI j)) 17 1 (fun j s => FI cU h s ∧ STM w s (17 * i + j)) (by
      rintro j s2 hj ⟨c1, c2⟩
      have w2 : s2 209 = w := by rw [cU_209 c1]; exact hw
      try dsimp only
      have ext : ∀ s3 : Hp, (okA (w 7) i = true → okA (free9 w) j = true → s3 220 (17 * i + j) = dukV w i j) → (∀ k, k ≠ 17 * i + j → s3 220 k = s2 220 k) → STM w s3 (17 * i + (j + 1)) := by
        intro s3 q1 q2 i' j' hi' hj' hn o1 o2
        by_cases c : 17 * i' + j' = 17 * i + j
        · have : i' = i := by omega
          have : j' = j := by omega
          subst i' j'
          exact q1 o1 o2
        · rw [q2 _ c]; exact c2 i' j' hi' hj' (by omega) o1 o2
      have eT : (if nI i = (16 : Int32) then some (w 7) else some (w 7 &&& (bit9 i ^^^ (-1)))) = some (if i = 16 then w 7 else wo9 (w 7) i) := by
        by_cases c : i = 16
        · subst c; rfl
        · rw [i_16, if_neg (nI_ne (by omega) (by decide) c), if_neg c]; rfl
      have eT2 : ∀ v : Int32, (if nI j = (16 : Int32) then some v else some (v ||| bit9 j)) = some (if j = 16 then v else v ||| bit9 j) := by
        intro v
        by_cases c : j = 16
        · subst c; rfl
        · rw [i_16, if_neg (nI_ne (by omega) (by decide) c), if_neg c]
      have eL : ∀ n, LX12_laysStands (n + 1) 1 s2 (nI i) (nI j) = if okA (w 7) i = false then LX12_laysStands n 1 s2 (nI i) (nI (j + 1)) else if okA (free9 w) j = false then LX12_laysStands n 1 s2 (nI i) (nI (j + 1)) else cl2 (fX12_standingWith s2 (dukT w i j)) (fun x18 h16 => LX12_laysStands n 1 (up2 h16 220 (17 * i + j) (fJ_bitCount x18)) (nI i) (nI (j + 1))) := by
        intro n
        rw [LX12_laysStands, if_neg (by decide), if_pos rfl, BX12_laysStands_1, if_neg (gt16 hj)]
        unfold fX12_pins
        rw [w2, bit9_def, eT, cl9_some, canDuke_m w2 hi, canGuild_m w2 hj, bit9_def, eT2, cl9_some, idx17, nI_1]
        simp only [bI_eq0, lt9_e, gd_in (show 17 * i + j < 289 by omega) (show 289 < 2 ^ 31 by decide), nI_clamp (show 17 * i + j < 2 ^ 31 by omega)]
        rfl
      cases o1 : okA (w 7) i with
      | false =>
        refine ⟨s2, ⟨c1, ext s2 (fun q => by rw [o1] at q; cases q) (fun _ _ => rfl)⟩, fun n => ?_⟩
        rw [eL n, o1]; rfl
      | true =>
        cases o2 : okA (free9 w) j with
        | false =>
          refine ⟨s2, ⟨c1, ext s2 (fun _ q => by rw [o2] at q; cases q) (fun _ _ => rfl)⟩, fun n => ?_⟩
          rw [eL n, o1, o2]; rfl
        | true =>
          obtain ⟨h4, e4, F4, -⟩ := standingWith_m (dukT_S16 G (a := i) hj) G HM w2
          have n31 : h4 220 = s2 220 := F4.cell (fun j c => by unfold cT at c; omega)
          refine ⟨up2 h4 220 (17 * i + j) (dukV w i j), ⟨(c1.trans (F4.mono (fun k j q => Or.inr q))).trans (FI.up2 _ _ (Or.inl rfl)), ext _ (fun _ _ => by rw [up2_s, upd_s]) (fun k hk => by rw [up2_s, upd_n _ _ hk, n31])⟩, fun n => ?_⟩
          rw [eL n, o1, o2, if_neg (by simp), if_neg (by simp), e4, cl2_some]
          rfl) 17 0 s rfl ⟨b1, b2⟩
    refine ⟨t, ⟨d1, by rw [show 17 * (i + 1) = 17 * i + 17 by omega]; exact d2⟩, fun n => ?_⟩
    try dsimp only
    have s2 := et (n + 1)
    dsimp only at s2
    have s1 : LX12_laysStands (n + 19) 0 s (nI i) 0 = LX12_laysStands (n + 1 + 1 * 17) 1 s (nI i) (nI 0) := by
      rw [show n + 19 = (n + 1 + 1 * 17) + 1 by omega, LX12_laysStands, if_pos rfl, BX12_laysStands_0, if_neg (gt16 hi)]
      rfl
    rw [s1, s2, LX12_laysStands, if_neg (by decide), if_pos rfl, BX12_laysStands_1, if_pos gt17, nI_1]
    rfl) 17 0 h rfl ⟨FI.refl _ _, fun i j _ _ q => by omega⟩
  refine ⟨s, ?_, a1, a2⟩
  unfold fX12_laysStands
  have e1 := e (999676 + 1)
  dsimp only at e1
  rw [show big = 999676 + 1 + 19 * 17 from rfl]
  show LX12_laysStands (999676 + 1 + 19 * 17) 0 h (nI 0) 0 = _
  rw [e1, LX12_laysStands, if_pos rfl, BX12_laysStands_0, if_pos gt17]
theorem standsBy_m {h : Hp} {a b : Nat} (ha : a < 17) (hb : b < 17) : fX12_standsBy h (nI a) (nI b) = some (h 220 (17 * a + b)) := by
  unfold fX12_standsBy
  rw [idx17, gd_in (by omega) (by decide), nI_clamp (by omega)]
theorem doesRest_m {h : Hp} {w : Nat → Int32} (hw : h 209 = w) (Sm : STM w h 289) {a b : Nat} (ha : a < 17) (hb : b < 17) : fX12_doesRest h (nI a) (nI b) = some (bI (rstB w a b)) := by
  have key : okA (w 7) a = true → okA (free9 w) b = true → ∀ m n k, k + m = 17 → m < n → allB (dC1 w a b) k = true → allB (dC2 w a b) k = true → LX12_doesRest h n (nI a) (nI b) 1 (nI k) = some (bI (allB (dC1 w a b) 17 && allB (dC2 w a b) 17)) := by
    intro oa ob m
    induction m with
    | zero =>
      intro n k hk hn h1 h2
      obtain ⟨n, rfl⟩ : ∃ q, n = q + 1 := ⟨n - 1, by omega⟩
      obtain rfl : k = 17 := by omega
      rw [LX12_doesRest, BX12_doesRest_0, if_pos gt17, h1, h2]; rfl
    | succ m ih =>
      intro n k hk hn h1 h2
      obtain ⟨n, rfl⟩ : ∃ q, n = q + 1 := ⟨n - 1, by omega⟩
      have sab := Sm a b ha hb (by omega) oa ob
      have stop : (dC1 w a b k && dC2 w a b k) = false → LX12_doesRest h n (nI a) (nI b) 0 (nI (k + 1)) = some (bI (allB (dC1 w a b) 17 && allB (dC2 w a b) 17)) := by
        intro q
        have z : (allB (dC1 w a b) 17 && allB (dC2 w a b) 17) = false := by
          rw [Bool.and_eq_false_iff] at q ⊢
          rcases q with q | q
          · exact Or.inl (allB_no (by omega) q)
          · exact Or.inr (allB_no (by omega) q)
        rw [z]
        obtain ⟨n, rfl⟩ : ∃ q, n = q + 1 := ⟨n - 1, by omega⟩
        rw [LX12_doesRest, BX12_doesRest_0]
        by_cases c : (16 : Int32) < nI (k + 1)
        · rw [if_pos c]; rfl
        · rw [if_neg c]; rfl
      have go : (dC1 w a b k && dC2 w a b k) = true → LX12_doesRest h n (nI a) (nI b) 1 (nI (k + 1)) = some (bI (allB (dC1 w a b) 17 && allB (dC2 w a b) 17)) := by
        intro q
        rw [Bool.and_eq_true] at q
        exact ih n (k + 1) (by omega) (by omega) (by rw [allB_s, q.1, h1]; rfl) (by rw [allB_s, q.2, h2]; rfl)
      rw [LX12_doesRest, BX12_doesRest_0, if_neg (gt16 (by omega)), if_neg (by decide), canDuke_m hw (by omega), canGuild_m hw (by omega), standsBy_m ha (by omega), standsBy_m ha hb, standsBy_m (by omega) hb, cl9_some, cl9_some, cl9_some, cl9_some, sab, nI_1]
      simp only [bI_eq0, lt9_e, cl9_some]
      cases o1 : okA (w 7) k with
      | false =>
        have d1 : dC1 w a b k = true := by unfold dC1; rw [o1]; rfl
        cases o2 : okA (free9 w) k with
        | false =>
          have d2 : dC2 w a b k = true := by unfold dC2; rw [o2]; rfl
          rw [if_pos rfl, if_pos rfl, cl9_some, if_pos rfl]
          exact go (by rw [d1, d2]; rfl)
        | true =>
          rw [Sm a k ha (by omega) (by omega) oa o2]
          by_cases c : dukV w a b < dukV w a k
          · rw [if_pos rfl, if_neg (by simp), if_pos c, cl9_some]
            exact stop (by rw [d1]; unfold dC2; rw [o2, decide_eq_false (Int32.not_le.mpr c)]; rfl)
          · rw [if_pos rfl, if_neg (by simp), if_neg c, cl9_some]
            exact go (by rw [d1]; unfold dC2; rw [o2, decide_eq_true (Int32.not_lt.mp c)]; rfl)
      | true =>
        rw [Sm k b (by omega) hb (by omega) o1 ob, if_neg (by simp)]
        by_cases c1 : dukV w k b < dukV w a b
        · rw [if_pos c1, cl9_some]
          exact stop (by unfold dC1; rw [o1, decide_eq_false (Int32.not_le.mpr c1)]; rfl)
        · have d1 : dC1 w a b k = true := by unfold dC1; rw [o1, decide_eq_true (Int32.not_lt.mp c1)]; rfl
          rw [if_neg c1]
          cases o2 : okA (free9 w) k with
          | false =>
            have d2 : dC2 w a b k = true := by unfold dC2; rw [o2]; rfl
            rw [if_pos rfl, cl9_some, if_pos rfl]
            exact go (by rw [d1, d2]; rfl)
          | true =>
            rw [Sm a k ha (by omega) (by omega) oa o2]
            by_cases c : dukV w a b < dukV w a k
            · rw [if_neg (by simp), if_pos c, cl9_some]
              exact stop (by rw [d1]; unfold dC2; rw [o2, decide_eq_false (Int32.not_le.mpr c)]; rfl)
            · rw [if_neg (by simp), if_neg c, cl9_some]
              exact go (by rw [d1]; unfold dC2; rw [o2, decide_eq_true (Int32.not_lt.mp c)]; rfl)
  have z : ∀ n, LX12_doesRest h (n + 1) (nI a) (nI b) 0 0 = some 0 := by
    intro n
    rw [LX12_doesRest, BX12_doesRest_0, if_neg (by decide), if_pos rfl]; rfl
  have un : rstB w a b = (okA (w 7) a && okA (free9 w) b && (allB (dC1 w a b) 17 && allB (dC2 w a b) 17)) := rfl
  unfold fX12_doesRest
  rw [canDuke_m hw ha, canGuild_m hw hb, un]
  simp only [bI_eq0]
  cases oa : okA (w 7) a with
  | false =>
    rw [if_pos rfl, cl9_some, if_neg (by decide), show big = 999999 + 1 from rfl, z]; rfl
  | true =>
    cases ob : okA (free9 w) b with
    | false =>
      rw [if_neg (by simp), if_pos rfl, cl9_some, if_neg (by decide), show big = 999999 + 1 from rfl, z]; rfl
    | true =>
      rw [if_neg (by simp), if_neg (by simp), cl9_some, if_pos rfl]
      exact key oa ob 17 big 0 rfl (by decide) rfl rfl
theorem duke_N {h : Hp} {σ : St} (C : RC h σ) : OpN h σ (fX11_duke h) fX12_duke := by
  obtain ⟨h1, e1, F1⟩ := duke_x C.cs
  refine opN_ask C e1 (F1.mono (fun k q => by unfold c31 at q; unfold aX sc; omega)) (fun ha M => ?_)
  obtain ⟨h2, e2, F2, Sm⟩ := laysStands_m C.cs.2.1 C.cs.2.2.1 (w00 M 0 0)
  have w2 : h2 209 = σ.1 := by rw [cU_209 F2]; exact w00 M 0 0
  refine ⟨h2, ?_, (a0 (j := 0) ha 0 (by omega)).trans (F2.mono (fun k j q => by unfold cU cT at q; unfold aM sm; omega))⟩
  obtain ⟨c, hc, e⟩ := rchN (σ := Nat) (ρ := Int32 × Hp) (α := Int32 × Int32) (fun n a => LX12_duke n 0 h2 a.1 a.2 0) (fun i c => (nI c, nI i)) 17 19 (fun i c => c = sumN (fun a => cntB (rstB σ.1 a) 17) i) (by
    rintro i c hi rfl
    obtain ⟨t, ht, et⟩ := rchN (σ := Nat) (ρ := Int32 × Hp) (α := Int32 × Int32) (fun n a => LX12_duke n 1 h2 a.1 (nI i) a.2) (fun j c => (nI c, nI j)) 17 1 (fun j c => c = sumN (fun a => cntB (rstB σ.1 a) 17) i + cntB (rstB σ.1 i) j) (by
      rintro j c hj rfl
      refine ⟨_, rfl, fun n => ?_⟩
      try dsimp only
      rw [LX12_duke, if_neg (by decide), if_pos rfl, BX12_duke_1, if_neg (gt16 hj), doesRest_m w2 Sm hi hj, cl9_some, cntB_s, nI_1, nI_1, Int32.add_zero]
      simp only [bI_eq0, lt9_e]
      cases rstB σ.1 i j <;> rfl) 17 0 (sumN (fun a => cntB (rstB σ.1 a) 17) i) rfl rfl
    refine ⟨_, rfl, fun n => ?_⟩
    try dsimp only
    have s2 := et (n + 1)
    dsimp only at s2
    have s1 : LX12_duke (n + 19) 0 h2 (nI (sumN (fun a => cntB (rstB σ.1 a) 17) i)) (nI i) 0 = LX12_duke (n + 1 + 1 * 17) 1 h2 (nI (sumN (fun a => cntB (rstB σ.1 a) 17) i)) (nI i) (nI 0) := by
      rw [show n + 19 = (n + 1 + 1 * 17) + 1 by omega, LX12_duke, if_pos rfl, BX12_duke_0, if_neg (gt16 hi)]
      rfl
    rw [s1, s2, LX12_duke, if_neg (by decide), if_pos rfl, BX12_duke_1, if_pos gt17, nI_1, ht]
    rfl) 17 0 0 rfl rfl
  unfold fX12_duke
  simp only [lt9_e]
  rw [e2, cl9_some]
  have q1 := e (999676 + 1)
  dsimp only at q1
  rw [show big = 999676 + 1 + 19 * 17 from rfl]
  show LX12_duke (999676 + 1 + 19 * 17) 0 h2 (nI 0) (nI 0) 0 = _
  rw [q1, LX12_duke, if_pos rfl, BX12_duke_0, if_pos gt17, hc]

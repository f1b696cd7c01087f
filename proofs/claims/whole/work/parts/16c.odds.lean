/-! odds -/
theorem rchV {σ ρ α : Type} (F : Nat → α → Option ρ) (st : Nat → σ → α) (N k : Nat) (Inv : Nat → σ → Prop)
    (step : ∀ i s, i < N → Inv i s → ∃ s' k', k' ≤ k ∧ Inv (i + 1) s' ∧ ∀ n, F (n + k') (st i s) = F n (st (i + 1) s')) :
    ∀ (m i : Nat) (s : σ), i + m = N → Inv i s → ∃ s' K, K ≤ k * m ∧ Inv N s' ∧ ∀ n, F (n + K) (st i s) = F n (st N s') := by
  intro m
  induction m with
  | zero =>
    intro i s hi hI
    obtain rfl : i = N := by omega
    exact ⟨s, 0, by omega, hI, fun n => rfl⟩
  | succ m ih =>
    intro i s hi hI
    obtain ⟨s1, k1, hk1, h1, e1⟩ := step i s (by omega) hI
    obtain ⟨s2, K2, hK2, h2, e2⟩ := ih (i + 1) s1 (by omega) h1
    refine ⟨s2, K2 + k1, by rw [Nat.mul_succ]; omega, h2, fun n => ?_⟩
    rw [← Nat.add_assoc, e1, e2]
theorem power_x (h : Hp) (b : Nat) {n : Nat} (hn : n ≤ 6) : fX11_power h (lN b) (nI n) = some (lN (b ^ n)) := by
  obtain ⟨r, e, q⟩ := loop0 (σ := Int64) (ρ := Int64) n (fun m i s => LX11_power h m (lN b) (nI n) s (nI i)) (fun i s => s = lN (b ^ i)) (fun r => r = lN (b ^ n)) (1 : Int64) (by omega) rfl (by
    rintro m i s hi rfl
    left
    refine ⟨_, rfl, ?_⟩
    try dsimp only
    rw [LX11_power, BX11_power_0, if_neg (nI_ge hi (by omega)), lN_mul, nI_1, Nat.pow_succ]
    rfl) (by
    rintro m s rfl
    refine ⟨_, ?_, rfl⟩
    try dsimp only
    rw [LX11_power, BX11_power_0, if_pos (nI_le (Nat.le_refl _) (by omega))])
  rw [← q]; exact e
def chN (n : Nat) : Nat → Nat
  | 0 => 1
  | i + 1 => chN n i * (n - i) / (i + 1)
theorem chN_s (n i : Nat) : chN n (i + 1) = chN n i * (n - i) / (i + 1) := rfl
theorem chN_le {n i : Nat} (hn : n ≤ 6) (hi : i ≤ 6) : chN n i ≤ 20 := by
  have : ∀ a b : Fin 7, chN a.val b.val ≤ 20 := by decide +kernel
  exact this ⟨n, by omega⟩ ⟨i, by omega⟩
theorem choices_x (h : Hp) {n k : Nat} (hn : n ≤ 6) (hk : k ≤ n) : fX11_choices h (nI n) (nI k) = some (lN (chN n k)) := by
  obtain ⟨r, e, q⟩ := loop0 (σ := Int64) (ρ := Int64) k (fun m i s => LX11_choices h m (nI n) (nI k) s (nI (i + 1))) (fun i s => s = lN (chN n i)) (fun r => r = lN (chN n k)) (1 : Int64) (by omega) rfl (by
    rintro m i s hi rfl
    left
    refine ⟨_, rfl, ?_⟩
    try dsimp only
    have hc := chN_le hn (show i ≤ 6 by omega)
    have hb : chN n i * (n - i) ≤ 20 * 6 := Nat.mul_le_mul hc (by omega)
    have e1 : nI n - nI (i + 1) + 1 = nI (n - i) := by rw [nI_subN (by omega), nI_1]; exact congrArg nI (by omega)
    have z : ¬ lN (i + 1) = 0 := fun q => by
      have := (lN_eq (a := i + 1) (b := 0) (by omega) (by decide)).mp q
      omega
    rw [LX11_choices, BX11_choices_0, if_neg (nI_nlt (by omega) (by omega)), e1, nI_l (by omega), nI_l (by omega), gd_t z, lN_mul, pk_lDiv (by omega) (by omega) (by omega), nI_1, chN_s]
    rfl) (by
    rintro m s rfl
    refine ⟨_, ?_, rfl⟩
    try dsimp only
    rw [LX11_choices, BX11_choices_0, if_pos (nI_lt (by omega) (by omega))])
  rw [← q]; exact e
def oddT (n g k i : Nat) : Nat := if k ≤ i then chN n i * g ^ i * (100 - g) ^ (n - i) else 0
theorem pow_le6 {b n : Nat} (hb : b ≤ 100) (hn : n ≤ 6) : b ^ n ≤ 1000000000000 := by
  have h1 : b ^ n ≤ 100 ^ n := Nat.pow_le_pow_left hb n
  have h2 : 100 ^ n ≤ 100 ^ 6 := Nat.pow_le_pow_right (by decide) hn
  have h3 : 100 ^ 6 = 1000000000000 := by decide
  omega
theorem term_le {n g i : Nat} (hn : n ≤ 6) (hg : g ≤ 100) (hi : i ≤ n) : g ^ i * (100 - g) ^ (n - i) ≤ 1000000000000 := by
  have h1 : g ^ i ≤ 100 ^ i := Nat.pow_le_pow_left hg i
  have h2 : (100 - g) ^ (n - i) ≤ 100 ^ (n - i) := Nat.pow_le_pow_left (by omega) _
  have h3 := Nat.mul_le_mul h1 h2
  rw [← Nat.pow_add, show i + (n - i) = n by omega] at h3
  exact Nat.le_trans h3 (pow_le6 (Nat.le_refl _) hn)
theorem all_1 {n : Nat} (hn : n ≤ 6) : (0 : Int32) ≤ lg_cmp (lN (100 ^ n)) (1 : Int64) := by
  have h2 := pow_le6 (b := 100) (Nat.le_refl _) hn
  have h3 : 0 < 100 ^ n := Nat.pow_pos (by decide)
  exact (lg_cmp_ge _ _).mpr ((pk_lLE (a := 1) (b := 100 ^ n) (by decide) (by omega)).mpr h3)
theorem odds_xL (h : Hp) {n g k : Nat} (hn : n ≤ 6) (hg : g ≤ 100) (eg : h 32 10 = nI g) : ∀ m f j, j + m = n + 1 → m < f → k ≤ j → LX11_odds f h (nI n) (lN (sumN (oddT n g k) j)) (nI j) = some (nI (sumN (oddT n g k) (n + 1) * 10000 / 100 ^ n), 0, h) := by
  have sle : ∀ j, j ≤ n + 1 → sumN (oddT n g k) j ≤ 20000000000000 * j := by
    intro j
    induction j with
    | zero => intro _; exact Nat.le_refl _
    | succ j ih =>
      intro hj
      have h1 := ih (by omega)
      have h2 : oddT n g k j ≤ 20000000000000 := by
        unfold oddT
        by_cases c : k ≤ j
        · rw [if_pos c, Nat.mul_assoc]
          exact Nat.mul_le_mul (chN_le hn (by omega)) (term_le hn hg (by omega))
        · rw [if_neg c]; exact Nat.zero_le _
      rw [sumN_s]; omega
  intro m
  induction m with
  | zero =>
    intro f j hj hf hk
    obtain ⟨f, rfl⟩ : ∃ q, f = q + 1 := ⟨f - 1, by omega⟩
    obtain rfl : j = n + 1 := by omega
    have h1 := sle (n + 1) (Nat.le_refl _)
    have h2 := pow_le6 (b := 100) (Nat.le_refl _) hn
    have h3 : 0 < 100 ^ n := Nat.pow_pos (by decide)
    have z : ¬ lN (100 ^ n) = 0 := fun q => by
      have := (pk_lEQ (a := 100 ^ n) (b := 0) (by omega) (by decide)).mp q
      omega
    rw [LX11_odds, BX11_odds_0, if_pos (nI_lt (by omega) (by omega))]
    simp only [lt9_e]
    rw [show (100 : Int64) = lN 100 from rfl, power_x h 100 hn, cl9_some, if_pos (all_1 hn), gd_t z, show (10000 : Int64) = lN 10000 from rfl, lN_mul, pk_lDiv (by omega) h3 (by omega), lN_i]
  | succ m ih =>
    intro f j hj hf hk
    obtain ⟨f, rfl⟩ : ∃ q, f = q + 1 := ⟨f - 1, by omega⟩
    have e100 : (100 : Int32) - nI g = nI (100 - g) := by rw [i_100, nI_subN hg]
    rw [LX11_odds, BX11_odds_0, if_neg (nI_nlt (by omega) (by omega)), choices_x h hn (by omega), cl9_some, eg, e100, nI_l (by omega), nI_l (by omega), power_x h g (by omega), cl9_some, nI_subN (show j ≤ n by omega), power_x h (100 - g) (by omega), cl9_some, lN_mul, lN_mul, lN_add, nI_1]
    simp only [lt9_e]
    have := ih f (j + 1) (by omega) (by omega) (by omega)
    rw [sumN_s] at this
    unfold oddT at this
    rw [if_pos hk] at this
    exact this
/-! the reference counts the days one by one -/
def pop9 (d : Nat) : Nat := cntB (has9 (nI d)) 16
theorem cntB_ext {f : Nat → Bool} {n : Nat} : ∀ m, (∀ p, n ≤ p → p < n + m → f p = false) → cntB f (n + m) = cntB f n
  | 0, _ => rfl
  | m + 1, h => by
    rw [← Nat.add_assoc, cntB_s, cntB_ext m (fun p h1 h2 => h p h1 (by omega)), h (n + m) (by omega) (by omega)]
    simp
theorem pop_n {n d : Nat} (hn : n ≤ 6) (hd : d < 2 ^ n) : cntB (has9 (nI d)) n = pop9 d := by
  have h6 : 2 ^ n ≤ 2 ^ 6 := Nat.pow_le_pow_right (by decide) hn
  have := cntB_ext (f := has9 (nI d)) (n := n) (16 - n) (fun p h1 h2 => by
    rw [has9_n (by omega), Nat.div_eq_of_lt (Nat.lt_of_lt_of_le hd (Nat.pow_le_pow_right (by decide) h1))]; rfl)
  rw [show n + (16 - n) = 16 by omega] at this
  exact this.symm
theorem pop_le {n d : Nat} (hn : n ≤ 6) (hd : d < 2 ^ n) : pop9 d ≤ n := by
  rw [← pop_n hn hd]; exact cntB_le _ n
theorem ch_cnt {n j : Nat} (hn : n ≤ 6) (hj : j ≤ n) : cntB (fun d => decide (pop9 d = j)) (2 ^ n) = chN n j := by
  have : ∀ (a : Fin 7) (b : Fin 7), b.val ≤ a.val → cntB (fun d => decide (pop9 d = b.val)) (2 ^ a.val) = chN a.val b.val := by decide +kernel
  exact this ⟨n, by omega⟩ ⟨j, by omega⟩ hj
theorem sum_one (F : Nat → Nat) {q : Nat} : ∀ n, q < n → sumN (fun j => (if decide (q = j) then 1 else 0) * F j) n = F q
  | 0, h => by omega
  | n + 1, h => by
    rw [sumN_s]
    by_cases c : q = n
    · subst c
      have : ∀ m, m ≤ q → sumN (fun j => (if decide (q = j) then 1 else 0) * F j) m = 0 := by
        intro m
        induction m with
        | zero => intro _; rfl
        | succ m ih => intro hm; rw [sumN_s, ih (by omega)]; simp [show ¬ q = m by omega]
      rw [this q (Nat.le_refl _)]
      simp
    · rw [sum_one F n (by omega)]
      simp [c]
theorem sum_add (f g : Nat → Nat) : ∀ n, sumN (fun i => f i + g i) n = sumN f n + sumN g n
  | 0 => rfl
  | n + 1 => by rw [sumN_s, sumN_s, sumN_s, sum_add f g n]; omega
theorem group (F : Nat → Nat) {n : Nat} : ∀ D, (∀ d, d < D → pop9 d ≤ n) → sumN (fun d => F (pop9 d)) D = sumN (fun j => cntB (fun d => decide (pop9 d = j)) D * F j) (n + 1)
  | 0, _ => by
    have : ∀ m, sumN (fun j => cntB (fun d => decide (pop9 d = j)) 0 * F j) m = 0 := by
      intro m
      induction m with
      | zero => rfl
      | succ m ih => rw [sumN_s, ih]; simp [cntB]
    rw [this]; rfl
  | D + 1, h => by
    rw [sumN_s, group F D (fun d hd => h d (by omega))]
    have e : sumN (fun j => cntB (fun d => decide (pop9 d = j)) (D + 1) * F j) (n + 1) = sumN (fun j => cntB (fun d => decide (pop9 d = j)) D * F j + (if decide (pop9 D = j) then 1 else 0) * F j) (n + 1) := sumN_cong (fun j _ => by rw [cntB_s, Nat.add_mul])
    rw [e, sum_add, sum_one F (n + 1) (by have := h D (by omega); omega)]
def oddR (n g k d : Nat) : Nat := if k ≤ pop9 d then g ^ pop9 d * (100 - g) ^ (n - pop9 d) else 0
theorem odd_eq {n g k : Nat} (hn : n ≤ 6) : sumN (oddR n g k) (2 ^ n) = sumN (oddT n g k) (n + 1) := by
  have h1 := group (fun j => if k ≤ j then g ^ j * (100 - g) ^ (n - j) else 0) (2 ^ n) (fun d hd => pop_le hn hd)
  have h2 : sumN (oddR n g k) (2 ^ n) = sumN (fun d => (fun j => if k ≤ j then g ^ j * (100 - g) ^ (n - j) else 0) (pop9 d)) (2 ^ n) := rfl
  rw [h2, h1]
  refine sumN_cong (fun j hj => ?_)
  rw [ch_cnt hn (by omega)]
  unfold oddT
  by_cases c : k ≤ j
  · rw [if_pos c, if_pos c, Nat.mul_assoc]
  · rw [if_neg c, if_neg c, Nat.mul_zero]
theorem bit9_pow {n : Nat} (hn : n ≤ 6) : bit9 n = nI (2 ^ n) := by
  have : ∀ a : Fin 7, bit9 a.val = nI (2 ^ a.val) := by decide +kernel
  exact this ⟨n, by omega⟩
theorem odds_m {h : Hp} {w : Nat → Int32} (hw : h 209 = w) {n g k : Nat} (hn : n ≤ 6) (hk : k ≤ 6) (hg : g ≤ 100) (eg : w 8 = nI g) : LX12_odds big 0 h (nI n) (nI k) (0 : Int64) (1 : Int64) 0 0 0 = some (nI (10000 * sumN (oddR n g k) (2 ^ n) / 100 ^ n), h) := by
  have h6 : 2 ^ n ≤ 2 ^ 6 := Nat.pow_le_pow_right (by decide) hn
  have e100 : (100 : Int32) - nI g = nI (100 - g) := by rw [i_100, nI_subN hg]
  have rle : ∀ d, d < 2 ^ n → oddR n g k d ≤ 1000000000000 := by
    intro d hd
    unfold oddR
    by_cases c : k ≤ pop9 d
    · rw [if_pos c]; exact term_le hn hg (pop_le hn hd)
    · rw [if_neg c]; exact Nat.zero_le _
  have sle : ∀ D, D ≤ 2 ^ n → sumN (oddR n g k) D ≤ 1000000000000 * D := by
    intro D
    induction D with
    | zero => intro _; exact Nat.le_refl _
    | succ D ih => intro hD; rw [sumN_s]; have := ih (by omega); have := rle D (by omega); omega
  obtain ⟨s0, hs0, e0⟩ := rchN (σ := Int64) (ρ := Int32 × Hp) (α := Int64 × Int32) (fun f a => LX12_odds f 0 h (nI n) (nI k) (0 : Int64) a.1 a.2 0 0) (fun i s => (s, nI i)) n 1 (fun i s => s = lN (100 ^ i)) (by
    rintro i s hi rfl
    refine ⟨_, rfl, fun f => ?_⟩
    try dsimp only
    rw [LX12_odds, if_pos rfl, BX12_odds_0, if_neg (nI_ge hi (by omega)), show (100 : Int64) = lN 100 from rfl, lN_mul, nI_1, Nat.pow_succ]
    rfl) n 0 (1 : Int64) (by omega) rfl
  subst hs0
  obtain ⟨s1, K, hK, hs1, e1⟩ := rchV (σ := Int64) (ρ := Int32 × Hp) (α := Int64 × Int32) (fun f a => LX12_odds f 1 h (nI n) (nI k) a.1 (lN (100 ^ n)) a.2 0 0) (fun i s => (s, nI i)) (2 ^ n) 10 (fun i s => s = lN (sumN (oddR n g k) i)) (by
    rintro d s hd rfl
    have bc : fJ_bitCount (nI d) = nI (pop9 d) := by
      have hS : S16 (nI d) := fun p hp => by
        rw [has9_n (by omega), Nat.div_eq_of_lt (Nat.lt_of_lt_of_le (show d < 2 ^ 16 by omega) (Nat.pow_le_pow_right (by decide) hp))]; rfl
      exact bitCount_n hS
    have pl := pop_le hn hd
    by_cases c : k ≤ pop9 d
    · obtain ⟨t, ht, et⟩ := rchN (σ := Int64) (ρ := Int32 × Hp) (α := Int64 × Int32) (fun f a => LX12_odds f 2 h (nI n) (nI k) (lN (sumN (oddR n g k) d)) (lN (100 ^ n)) (nI d) a.1 a.2) (fun i s => (s, nI i)) n 1 (fun i s => s = lN (g ^ cntB (has9 (nI d)) i * (100 - g) ^ (i - cntB (has9 (nI d)) i))) (by
        rintro i s hi rfl
        refine ⟨_, rfl, fun f => ?_⟩
        try dsimp only
        have cl := cntB_le (has9 (nI d)) i
        rw [LX12_odds, if_neg (by decide), if_neg (by decide), if_pos rfl, BX12_odds_2, if_neg (nI_ge hi (by omega)), has_m _ (by omega), hw, eg, e100, nI_l (by omega), nI_l (by omega), nI_1, lN_mul, lN_mul, cntB_s]
        simp only [bI_eq0, lt9_e]
        cases b : has9 (nI d) i with
        | false =>
          rw [if_pos rfl]
          have : g ^ (cntB (has9 (nI d)) i + if false = true then 1 else 0) * (100 - g) ^ (i + 1 - (cntB (has9 (nI d)) i + if false = true then 1 else 0)) = g ^ cntB (has9 (nI d)) i * (100 - g) ^ (i - cntB (has9 (nI d)) i) * (100 - g) := by
            simp only [Bool.false_eq_true, if_false, Nat.add_zero]
            rw [show i + 1 - cntB (has9 (nI d)) i = (i - cntB (has9 (nI d)) i) + 1 by omega, Nat.pow_succ, Nat.mul_assoc]
          rw [this]
        | true =>
          rw [if_neg (by simp)]
          have : g ^ (cntB (has9 (nI d)) i + if true = true then 1 else 0) * (100 - g) ^ (i + 1 - (cntB (has9 (nI d)) i + if true = true then 1 else 0)) = g ^ cntB (has9 (nI d)) i * (100 - g) ^ (i - cntB (has9 (nI d)) i) * g := by
            simp only [if_true]
            rw [show i + 1 - (cntB (has9 (nI d)) i + 1) = i - cntB (has9 (nI d)) i by omega, Nat.pow_succ, Nat.mul_assoc, Nat.mul_assoc, Nat.mul_comm g]
          rw [this]) n 0 (1 : Int64) (by omega) rfl
      rw [pop_n hn hd] at ht
      refine ⟨lN (sumN (oddR n g k) (d + 1)), 1 + 1 * n + 1, by omega, rfl, fun f => ?_⟩
      try dsimp only
      have s2 := et (f + 1)
      dsimp only at s2
      have s1 : LX12_odds (f + (1 + 1 * n + 1)) 1 h (nI n) (nI k) (lN (sumN (oddR n g k) d)) (lN (100 ^ n)) (nI d) 0 0 = LX12_odds (f + 1 + 1 * n) 2 h (nI n) (nI k) (lN (sumN (oddR n g k) d)) (lN (100 ^ n)) (nI d) (1 : Int64) (nI 0) := by
        rw [show f + (1 + 1 * n + 1) = (f + 1 + 1 * n) + 1 by omega, LX12_odds, if_neg (by decide), if_pos rfl, BX12_odds_1, bit9_def, bit9_pow hn, if_neg (nI_ge hd (by omega)), bc, if_pos (nI_le c (by omega))]
        rfl
      rw [s1, s2, LX12_odds, if_neg (by decide), if_neg (by decide), if_pos rfl, BX12_odds_2, if_pos (nI_le (Nat.le_refl _) (by omega)), ht, lN_add, nI_1, sumN_s]
      have : oddR n g k d = g ^ pop9 d * (100 - g) ^ (n - pop9 d) := by unfold oddR; rw [if_pos c]
      rw [this]
      rfl
    · refine ⟨lN (sumN (oddR n g k) (d + 1)), 1, by omega, rfl, fun f => ?_⟩
      try dsimp only
      rw [LX12_odds, if_neg (by decide), if_pos rfl, BX12_odds_1, bit9_def, bit9_pow hn, if_neg (nI_ge hd (by omega)), bc, if_neg (nI_ge (by omega) (by omega)), nI_1, sumN_s]
      have : oddR n g k d = 0 := by unfold oddR; rw [if_neg c]
      rw [this]
      rfl) (2 ^ n) 0 (0 : Int64) (by omega) rfl
  subst hs1
  have sl := sle (2 ^ n) (Nat.le_refl _)
  have h2 := pow_le6 (b := 100) (Nat.le_refl _) hn
  have h3 : 0 < 100 ^ n := Nat.pow_pos (by decide)
  have z : ¬ lN (100 ^ n) = 0 := fun q => by
    have := (pk_lEQ (a := 100 ^ n) (b := 0) (by omega) (by decide)).mp q
    omega
  obtain ⟨r, hr⟩ : ∃ r, 1000000 = (r + 1) + K + 1 + 1 * n := ⟨1000000 - (1 + K + 1 + 1 * n), by omega⟩
  have q0 := e0 ((r + 1) + K + 1)
  have q1 := e1 (r + 1)
  dsimp only at q0 q1
  show LX12_odds 1000000 0 h (nI n) (nI k) (0 : Int64) (1 : Int64) (nI 0) 0 0 = _
  rw [hr, q0, LX12_odds, if_pos rfl, BX12_odds_0, if_pos (nI_le (Nat.le_refl _) (by omega))]
  show LX12_odds (r + 1 + K) 1 h (nI n) (nI k) (0 : Int64) (lN (100 ^ n)) (nI 0) 0 0 = _
  rw [q1, LX12_odds, if_neg (by decide), if_pos rfl, BX12_odds_1, bit9_def, bit9_pow hn, if_pos (nI_le (Nat.le_refl _) (by omega))]
  simp only [lt9_e]
  rw [gd_t z, show (10000 : Int64) = lN 10000 from rfl, lN_mul, pk_lDiv (by omega) h3 (by omega), lN_i]
theorem odds_T {h : Hp} {σ : St} (C : RC h σ) (x y : Int32) : OpT h σ [(3, 1)] (fX11_odds h x y) (fun ha => fX12_odds ha x y) := by
  obtain ⟨g, hg, eg⟩ := C.cs.2.1.n8
  have eg' : h 32 10 = nI g := by rw [C.cs.f8, eg]
  rcases num_cases x 0 6 (by decide) (by decide) with ⟨c1, c2⟩ | ⟨n, -, hn, rfl, c1, c2⟩
  · have c1' : fX11_checkNumber x 0 6 = 3 := c1
    have c2' : fX12_in x 0 6 = 0 := c2
    exact thr_T C 3 1 (by simp) (by decide) (by unfold fX11_odds; rw [c1']; rfl) (fun ha w => by unfold fX12_odds; rw [c2']; rfl)
  · have c1' : fX11_checkNumber (nI n) 0 6 = 0 := c1
    have c2' : fX12_in (nI n) 0 6 = 1 := c2
    rcases num_cases y 0 6 (by decide) (by decide) with ⟨d1, d2⟩ | ⟨k, -, hk, rfl, d1, d2⟩
    · have d1' : fX11_checkNumber y 0 6 = 3 := d1
      have d2' : fX12_in y 0 6 = 0 := d2
      exact thr_T C 3 1 (by simp) (by decide) (by unfold fX11_odds; rw [c1', d1']; rfl) (fun ha w => by unfold fX12_odds; rw [c2', d2']; rfl)
    · have d1' : fX11_checkNumber (nI k) 0 6 = 0 := d1
      have d2' : fX12_in (nI k) 0 6 = 1 := d2
      have z0 : ∀ j, j ≤ k → sumN (oddT n g k) j = 0 := by
        intro j
        induction j with
        | zero => intro _; rfl
        | succ j ih => intro hj; rw [sumN_s, ih (by omega)]; unfold oddT; rw [if_neg (by omega)]
      refine opT_ask C (r := nI (sumN (oddT n g k) (n + 1) * 10000 / 100 ^ n)) (k := 0) (c := 0) (h1 := h) ?_ (by simp) (FR.refl _ _) (fun ha M => ⟨_, up2 ha 208 0 0, ?_, a0 (j := 0) ha 0 (by omega), z00 ha, fun _ => rfl⟩)
      · unfold fX11_odds
        rw [c1', if_pos rfl, d1', if_pos rfl]
        by_cases c : k ≤ n + 1
        · have := odds_xL h hn hg eg' (n + 1 - k) big k (by omega) (by unfold big; omega) (Nat.le_refl k)
          rw [z0 k (Nat.le_refl _)] at this
          exact this
        · have h3 : 0 < 100 ^ n := Nat.pow_pos (by decide)
          have h2 := pow_le6 (b := 100) (Nat.le_refl _) hn
          have z : ¬ lN (100 ^ n) = 0 := fun q => by
            have := (pk_lEQ (a := 100 ^ n) (b := 0) (by omega) (by decide)).mp q
            omega
          rw [z0 (n + 1) (by omega), show big = 999999 + 1 from rfl, LX11_odds, BX11_odds_0, if_pos (nI_lt (by omega) (by omega))]
          simp only [lt9_e]
          rw [show (100 : Int64) = lN 100 from rfl, power_x h 100 hn, cl9_some, if_pos (all_1 hn), gd_t z, show (10000 : Int64) = lN 10000 from rfl, show (0 : Int64) = lN 0 from rfl, lN_mul, pk_lDiv (by omega) h3 (by omega), lN_i]
      · unfold fX12_odds
        simp only [lt9_e]
        rw [c2', d2', if_neg (by decide), if_neg (by decide), cl9_some]
        simp only [Bool.false_eq_true, if_false]
        rw [cl9_some, throws_0, cl2_some, if_pos rfl, odds_m (w00 M 0 0) hn hk hg eg, odd_eq hn, Nat.mul_comm]

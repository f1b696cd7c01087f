/-! How far it is to the next of a set. -/
def near9 (S : Int32) (p s : Nat) : Bool := has9 S (p + s) || (decide (s ≤ p) && has9 S (p - s))
def dstF (S : Int32) (p : Nat) : Nat → Nat → Nat
  | 0, s => s
  | m + 1, s => if near9 S p s then s else dstF S p m (s + 1)
def dst (S : Int32) (p : Nat) : Nat := dstF S p 16 0
theorem dst_bits {p s : Nat} (hp : p < 16) (hs : s < 16) (q : Nat) : has9 ((bit9 p <<< (nI s &&& 31)) ||| (ushr (bit9 p) (nI s))) q = (decide (q = p + s) || (decide (s ≤ p) && decide (q = p - s))) := by
  by_cases hq : q < 32
  · have : ∀ (a b : Fin 16) (c : Fin 32), has9 ((bit9 a.val <<< (nI b.val &&& 31)) ||| (ushr (bit9 a.val) (nI b.val))) c.val = (decide (c.val = a.val + b.val) || (decide (b.val ≤ a.val) && decide (c.val = a.val - b.val))) := by decide +kernel
    exact this ⟨p, hp⟩ ⟨s, hs⟩ ⟨q, hq⟩
  · rw [has9_ge _ (by omega)]
    simp; omega
theorem dst_and {S : Int32} {p s : Nat} (hp : p < 16) (hs : s < 16) : (S &&& ((bit9 p <<< (nI s &&& 31)) ||| (ushr (bit9 p) (nI s))) = 0) ↔ near9 S p s = false := by
  rw [and_zero_iff]
  unfold near9
  constructor
  · intro h
    have h1 := h (p + s) (by omega)
    rw [dst_bits hp hs] at h1
    have h2 := h (p - s) (by omega)
    rw [dst_bits hp hs] at h2
    simp only [decide_true, Bool.true_or, Bool.and_true] at h1
    by_cases hsp : s ≤ p
    · simp [hsp] at h2
      simp [h1, h2]
    · simp [h1, hsp]
  · intro h q hq
    rw [dst_bits hp hs]
    simp only [Bool.or_eq_false_iff] at h
    by_cases e1 : q = p + s
    · subst e1
      simp [h.1]
    · by_cases e2 : s ≤ p ∧ q = p - s
      · obtain ⟨e2, rfl⟩ := e2
        simp [e2] at h
        simp [h.2]
      · have e3 : (decide (s ≤ p) && decide (q = p - s)) = false := by
          simp
          intro h5 h6
          exact e2 ⟨h5, h6⟩
        simp [e1, e3]
theorem distance_L (h : Hp) (S : Int32) {p : Nat} (hp : p < 16) : ∀ (m n s : Nat), s + m = 16 → m < n → LX11_distance h n S (bit9 p) (nI s) = some (nI (dstF S p m s)) := by
  intro m
  induction m with
  | zero =>
    intro n s hs hn
    obtain ⟨n, rfl⟩ : ∃ k, n = k + 1 := ⟨n - 1, by omega⟩
    obtain rfl : s = 16 := by omega
    rfl
  | succ m ih =>
    intro n s hs hn
    obtain ⟨n, rfl⟩ : ∃ k, n = k + 1 := ⟨n - 1, by omega⟩
    rw [LX11_distance, BX11_distance_0, if_neg (c16n (by omega))]
    unfold dstF
    cases e : near9 S p s with
    | false =>
      rw [if_pos ((dst_and hp (by omega)).mpr e), lt9, nI_1, ih n (s + 1) (by omega) (by omega)]
      simp
    | true =>
      rw [if_neg (fun h1 => by rw [(dst_and hp (by omega)).mp h1] at e; cases e)]
      simp
theorem distance_x (h : Hp) (S : Int32) {p : Nat} (hp : p < 16) : fX11_distance h S (nI p) = some (nI (dst S p)) := by
  unfold fX11_distance lt9
  exact distance_L h S hp 16 big 0 rfl (by decide)
theorem dstF_spec (S : Int32) (p : Nat) : ∀ (m s : Nat), s + m = 16 → s ≤ dstF S p m s ∧ dstF S p m s ≤ 16 ∧ (∀ t, s ≤ t → t < dstF S p m s → near9 S p t = false) ∧ (dstF S p m s < 16 → near9 S p (dstF S p m s) = true) := by
  intro m
  induction m with
  | zero => intro s hs; unfold dstF; exact ⟨Nat.le_refl _, by omega, fun t h1 h2 => by omega, fun h => by omega⟩
  | succ m ih =>
    intro s hs
    unfold dstF
    cases e : near9 S p s with
    | true => simp only [if_true]; exact ⟨Nat.le_refl _, by omega, fun t h1 h2 => by omega, fun _ => e⟩
    | false =>
      obtain ⟨h1, h2, h3, h4⟩ := ih (s + 1) (by omega)
      simp only [Bool.false_eq_true, if_false]
      refine ⟨by omega, h2, fun t h5 h6 => ?_, h4⟩
      by_cases ht : t = s
      · rw [ht]; exact e
      · exact h3 t (by omega) h6
theorem dst_le (S : Int32) (p : Nat) : dst S p ≤ 16 := (dstF_spec S p 16 0 rfl).2.1
theorem dst_min {S : Int32} {p q : Nat} (hp : p < 16) (hq : q < 16) (h : has9 S q = true) : dst S p ≤ adif p q := by
  obtain ⟨-, -, h3, -⟩ := dstF_spec S p 16 0 rfl
  apply Nat.le_of_not_lt
  intro h5
  have h6 := h3 (adif p q) (Nat.zero_le _) h5
  unfold near9 at h6
  simp only [Bool.or_eq_false_iff] at h6
  unfold adif at h6 h5
  by_cases c : q ≤ p
  · rw [show p - q + (q - p) = p - q by omega] at h6
    rw [show p - (p - q) = q by omega, h] at h6
    simp at h6
  · rw [show p + (p - q + (q - p)) = q by omega, h] at h6
    simp at h6
theorem dst_at {S : Int32} {p : Nat} (hS : S16 S) (hp : p < 16) (h : dst S p < 16) : ∃ q, q < 16 ∧ has9 S q = true ∧ adif p q = dst S p := by
  obtain ⟨-, -, -, h4⟩ := dstF_spec S p 16 0 rfl
  have h5 := h4 h
  have e : dstF S p 16 0 = dst S p := rfl
  rw [e] at h5
  unfold near9 at h5
  simp only [Bool.or_eq_true, Bool.and_eq_true, decide_eq_true_eq] at h5
  rcases h5 with h5 | ⟨h6, h5⟩
  · refine ⟨p + dst S p, ?_, h5, by unfold adif; omega⟩
    apply Nat.lt_of_not_le
    intro h7
    rw [hS _ h7] at h5
    cases h5
  · exact ⟨p - dst S p, by omega, h5, by unfold adif; omega⟩
theorem dst_lt {S : Int32} {p : Nat} (hS : S16 S) (hp : p < 16) (h : S ≠ 0) : dst S p < 16 := by
  apply Nat.lt_of_not_le
  intro h1
  apply h
  refine S16_ext hS S16_0 (fun q hq => ?_)
  rw [has9_0]
  cases e : has9 S q with
  | false => rfl
  | true =>
    have := dst_min hp hq e
    unfold adif at this
    omega
theorem dst_eq {S : Int32} {p d : Nat} (hS : S16 S) (hp : p < 16) (h1 : d ≤ 16) (h2 : ∀ q, q < 16 → has9 S q = true → d ≤ adif p q) (h3 : d < 16 → ∃ q, q < 16 ∧ has9 S q = true ∧ adif p q = d) : d = dst S p := by
  have h4 := dst_le S p
  by_cases c : dst S p < 16
  · obtain ⟨q, hq, h5, h6⟩ := dst_at hS hp c
    have h7 := h2 q hq h5
    by_cases c2 : d < 16
    · obtain ⟨q2, hq2, h8, h9⟩ := h3 c2
      have := dst_min hp hq2 h8
      omega
    · omega
  · by_cases c2 : d < 16
    · obtain ⟨q2, hq2, h8, h9⟩ := h3 c2
      have := dst_min hp hq2 h8
      omega
    · omega
/-- the set without a place -/
def wo9 (S : Int32) (p : Nat) : Int32 := S &&& (bit9 p ^^^ (-1))
theorem has9_wo (S : Int32) {p q : Nat} (hp : p < 32) (hq : q < 32) : has9 (wo9 S p) q = (has9 S q && !decide (q = p)) := by
  unfold wo9
  rw [has9_and, has9_cpl _ hq, has9_bit hp]
theorem S16_wo {S : Int32} {p : Nat} (hS : S16 S) : S16 (wo9 S p) := S16_and hS
def gap9 (S : Int32) (p : Nat) : Nat := dst (wo9 S p) p
theorem gap_x (h : Hp) (S : Int32) {p : Nat} (hp : p < 16) : fX1_gap h S (nI p) = some (nI (gap9 S p)) := by
  unfold fX1_gap
  have e : S &&& (((1 : Int32) <<< (nI p &&& 31)) ^^^ (-1)) = wo9 S p := rfl
  rw [e, distance_x h _ hp]
  rfl
theorem gap_le (S : Int32) (p : Nat) : gap9 S p ≤ 16 := dst_le _ _
/-! the reference's gap -/
def gapF (T : Int32) (p : Nat) : Nat → Nat → Nat → Nat
  | 0, _, g => g
  | m + 1, i, g => gapF T p m (i + 1) (if decide (i = p) || !has9 T i then g else min g (adif p i))
theorem gapF_spec (T : Int32) (p : Nat) : ∀ (m i g : Nat), i + m = 16 → gapF T p m i g ≤ g ∧ (∀ q, i ≤ q → q < 16 → q ≠ p → has9 T q = true → gapF T p m i g ≤ adif p q) ∧ (gapF T p m i g = g ∨ ∃ q, q < 16 ∧ q ≠ p ∧ has9 T q = true ∧ adif p q = gapF T p m i g) := by
  intro m
  induction m with
  | zero => intro i g hi; unfold gapF; exact ⟨Nat.le_refl _, fun q h1 h2 => by omega, Or.inl rfl⟩
  | succ m ih =>
    intro i g hi
    unfold gapF
    obtain ⟨h1, h2, h3⟩ := ih (i + 1) (if decide (i = p) || !has9 T i then g else min g (adif p i)) (by omega)
    by_cases c : (decide (i = p) || !has9 T i) = true
    · rw [if_pos c] at h1 h2 h3 ⊢
      refine ⟨h1, fun q h4 h5 h6 h7 => ?_, h3⟩
      by_cases e : q = i
      · subst e
        simp [h6, h7] at c
      · exact h2 q (by omega) h5 h6 h7
    · rw [if_neg c] at h1 h2 h3 ⊢
      simp at c
      refine ⟨Nat.le_trans h1 (Nat.min_le_left _ _), fun q h4 h5 h6 h7 => ?_, ?_⟩
      · by_cases e : q = i
        · subst e; exact Nat.le_trans h1 (Nat.min_le_right _ _)
        · exact h2 q (by omega) h5 h6 h7
      · rcases h3 with h3 | h3
        · by_cases e : g ≤ adif p i
          · left; omega
          · right; exact ⟨i, by omega, c.1, c.2, by omega⟩
        · exact Or.inr h3
theorem gapF_eq {T : Int32} {p : Nat} (hT : S16 T) (hp : p < 16) : gapF T p 16 0 16 = gap9 T p := by
  obtain ⟨h1, h2, h3⟩ := gapF_spec T p 16 0 16 rfl
  apply dst_eq (S16_wo hT) hp h1
  · intro q hq h4
    rw [has9_wo _ (by omega) (by omega)] at h4
    simp at h4
    exact h2 q (Nat.zero_le _) hq h4.2 h4.1
  · intro h4
    rcases h3 with h3 | ⟨q, hq, h5, h6, h7⟩
    · omega
    · refine ⟨q, hq, ?_, h7⟩
      rw [has9_wo _ (by omega) (by omega)]
      simp [h5, h6]
theorem gapOf_L (h : Hp) {T : Int32} (hT : h 208 18 = T) {p : Nat} (hp : p < 16) : ∀ (m n i g : Nat), i + m = 16 → m < n → g ≤ 16 → LX12_gapOf h n (nI p) (nI g) (nI i) = some (nI (gapF T p m i g)) := by
  intro m
  induction m with
  | zero =>
    intro n i g hi hn hg
    obtain ⟨n, rfl⟩ : ∃ k, n = k + 1 := ⟨n - 1, by omega⟩
    obtain rfl : i = 16 := by omega
    rfl
  | succ m ih =>
    intro n i g hi hn hg
    obtain ⟨n, rfl⟩ : ∃ k, n = k + 1 := ⟨n - 1, by omega⟩
    rw [LX12_gapOf, BX12_gapOf_0, if_neg (c16n (by omega)), hT, has_m _ (by omega)]
    unfold gapF
    simp only [nI_eq (show i < 2 ^ 31 by omega) (show p < 2 ^ 31 by omega), bI_eq0, lt9, nI_1, jabs_n (show p < 2 ^ 31 by omega) (show i < 2 ^ 31 by omega)]
    have hb : adif p i < 2 ^ 31 := by unfold adif; omega
    by_cases c : i = p
    · rw [if_pos c, cl9_some]
      simp only [Bool.false_eq_true, if_false]
      rw [ih n (i + 1) g (by omega) (by omega) hg]
      simp [c]
    · rw [if_neg c]
      cases e : has9 T i with
      | false =>
        rw [if_pos rfl, cl9_some]
        simp only [Bool.false_eq_true, if_false]
        rw [ih n (i + 1) g (by omega) (by omega) hg]
        simp
      | true =>
        rw [if_neg (by simp), cl9_some]
        simp only [if_true]
        rw [jmin_n (by omega) hb, ih n (i + 1) (min g (adif p i)) (by omega) (by omega) (by omega)]
        simp [c]
theorem gapOf_m (h : Hp) {T : Int32} (hT : h 208 18 = T) (hS : S16 T) {p : Nat} (hp : p < 16) : fX12_gapOf h (nI p) = some (nI (gap9 T p)) := by
  unfold fX12_gapOf
  rw [show (16 : Int32) = nI 16 from rfl, show (0 : Int32) = nI 0 from rfl, gapOf_L h hT hp 16 big 0 16 rfl (by decide) (by decide), gapF_eq hS hp]
/-! how high it hangs -/
def sky9 (S : Int32) (H T t p : Nat) : Nat := if S = 0 then 0 else (H - T * dst S p) - 2 * t
theorem sky9_le (S : Int32) (H T t p : Nat) : sky9 S H T t p ≤ H := by
  unfold sky9
  by_cases c : S = 0
  · rw [if_pos c]; omega
  · rw [if_neg c]; omega
theorem skyAt_x (h : Hp) {b : Nat} (S : Int32) {p H T t : Nat} (hp : p < 16) (ht : h (b + 3) p = nI t) (hH : H ≤ 40) (hT : T ≤ 9) (htt : t ≤ 9) : fX7_skyAt h b (nI p) S (nI H) (nI T) = some (nI (sky9 S H T t p)) := by
  unfold fX7_skyAt sky9
  by_cases c : S = 0
  · rw [if_pos c, if_pos c]; rfl
  · have h1 := dst_le S p
    have h2 : T * dst S p ≤ 9 * 16 := Nat.mul_le_mul hT h1
    rw [if_neg c, if_neg c, distance_x h _ hp, cl9_some]
    simp only [lt9]
    rw [nI_mul, jmax0_sub (by omega) (by omega), gd_in (by omega) (by decide), nI_clamp (by omega), ht, show (2 : Int32) = nI 2 from rfl, nI_mul, jmax0_sub (by omega) (by omega)]
def skyF (S : Int32) (H T p : Nat) : Nat → Nat → Nat → Nat
  | 0, _, g => g
  | m + 1, i, g => skyF S H T p m (i + 1) (if has9 S i then max g (H - T * adif p i) else g)
theorem skyF_spec (S : Int32) (H T p : Nat) : ∀ (m i g : Nat), i + m = 16 → g ≤ skyF S H T p m i g ∧ (∀ q, i ≤ q → q < 16 → has9 S q = true → H - T * adif p q ≤ skyF S H T p m i g) ∧ (skyF S H T p m i g = g ∨ ∃ q, q < 16 ∧ has9 S q = true ∧ H - T * adif p q = skyF S H T p m i g) := by
  intro m
  induction m with
  | zero => intro i g hi; unfold skyF; exact ⟨Nat.le_refl _, fun q h1 h2 => by omega, Or.inl rfl⟩
  | succ m ih =>
    intro i g hi
    unfold skyF
    obtain ⟨h1, h2, h3⟩ := ih (i + 1) (if has9 S i then max g (H - T * adif p i) else g) (by omega)
    by_cases c : has9 S i = true
    · rw [if_pos c] at h1 h2 h3 ⊢
      refine ⟨by omega, fun q h4 h5 h6 => ?_, ?_⟩
      · by_cases e : q = i
        · subst e; omega
        · exact h2 q (by omega) h5 h6
      · rcases h3 with h3 | h3
        · by_cases e : H - T * adif p i ≤ g
          · left; omega
          · right; exact ⟨i, by omega, c, by omega⟩
        · exact Or.inr h3
    · rw [if_neg c] at h1 h2 h3 ⊢
      refine ⟨h1, fun q h4 h5 h6 => ?_, h3⟩
      by_cases e : q = i
      · subst e; exact absurd h6 c
      · exact h2 q (by omega) h5 h6
theorem skyF_eq {S : Int32} {H T p : Nat} (hS : S16 S) (hp : p < 16) : skyF S H T p 16 0 0 = if S = 0 then 0 else H - T * dst S p := by
  obtain ⟨-, h2, h3⟩ := skyF_spec S H T p 16 0 0 rfl
  by_cases c : S = 0
  · rw [if_pos c]
    rcases h3 with h3 | ⟨q, -, h4, -⟩
    · exact h3
    · rw [c, has9_0] at h4; cases h4
  · rw [if_neg c]
    obtain ⟨q, hq, h4, h5⟩ := dst_at hS hp (dst_lt hS hp c)
    have h6 := h2 q (Nat.zero_le _) hq h4
    rw [h5] at h6
    rcases h3 with h3 | ⟨r, hr, h7, h8⟩
    · omega
    · have h9 := dst_min hp hr h7
      have : T * dst S p ≤ T * adif p r := Nat.mul_le_mul_left T h9
      omega
theorem skyBy_L (h : Hp) (S : Int32) {H T p t : Nat} (hH : h 209 4 = nI H) (hT : h 209 5 = nI T) (ht : h 209 (46 + p) = nI t) (bH : H ≤ 40) (bT : T ≤ 9) (bt : t ≤ 9) (hp : p < 16) : ∀ (m n i g : Nat), i + m = 16 → m < n → g ≤ 40 → LX12_skyBy h n S (nI p) (nI g) (nI i) = some (nI (skyF S H T p m i g - 2 * t)) := by
  intro m
  induction m with
  | zero =>
    intro n i g hi hn hg
    obtain ⟨n, rfl⟩ : ∃ k, n = k + 1 := ⟨n - 1, by omega⟩
    obtain rfl : i = 16 := by omega
    rw [LX12_skyBy, BX12_skyBy_0, if_pos c16p, show (46 : Int32) = nI 46 from rfl, nI_add, gd_in (by omega) (by decide), nI_clamp (by omega), ht, show (2 : Int32) = nI 2 from rfl, nI_mul, jmax0_sub (by omega) (by omega)]
    rfl
  | succ m ih =>
    intro n i g hi hn hg
    obtain ⟨n, rfl⟩ : ∃ k, n = k + 1 := ⟨n - 1, by omega⟩
    have hb : adif p i ≤ 16 := by unfold adif; omega
    have h2 : T * adif p i ≤ 9 * 16 := Nat.mul_le_mul bT hb
    rw [LX12_skyBy, BX12_skyBy_0, if_neg (c16n (by omega)), has_m _ (by omega)]
    unfold skyF
    simp only [bI_eq0, lt9, nI_1, jabs_n (show p < 2 ^ 31 by omega) (show i < 2 ^ 31 by omega), hH, hT, nI_mul]
    cases e : has9 S i with
    | false =>
      rw [if_pos rfl, ih n (i + 1) g (by omega) (by omega) hg]
      simp
    | true =>
      rw [if_neg (by simp), jmax_sub (by omega) (by omega) (by omega), ih n (i + 1) _ (by omega) (by omega) (by omega)]
      simp
theorem skyBy_m (h : Hp) {S : Int32} (hS : S16 S) {H T p t : Nat} (hH : h 209 4 = nI H) (hT : h 209 5 = nI T) (ht : h 209 (46 + p) = nI t) (bH : H ≤ 40) (bT : T ≤ 9) (bt : t ≤ 9) (hp : p < 16) : fX12_skyBy h S (nI p) = some (nI (sky9 S H T t p)) := by
  unfold fX12_skyBy
  rw [show (0 : Int32) = nI 0 from rfl, skyBy_L h S hH hT ht bH bT bt hp 16 big 0 0 rfl (by decide) (by decide), skyF_eq hS hp]
  unfold sky9
  by_cases c : S = 0
  · rw [if_pos c, if_pos c]; simp
  · rw [if_neg c, if_neg c]

/-! The pure part: bits and small numbers. -/
theorem i_0 : (0 : Int32) = nI 0 := rfl
theorem i_1 : (1 : Int32) = nI 1 := rfl
theorem i_2 : (2 : Int32) = nI 2 := rfl
theorem i_3 : (3 : Int32) = nI 3 := rfl
theorem i_4 : (4 : Int32) = nI 4 := rfl
theorem i_5 : (5 : Int32) = nI 5 := rfl
theorem i_6 : (6 : Int32) = nI 6 := rfl
theorem i_7 : (7 : Int32) = nI 7 := rfl
theorem i_8 : (8 : Int32) = nI 8 := rfl
theorem i_9 : (9 : Int32) = nI 9 := rfl
theorem i_10 : (10 : Int32) = nI 10 := rfl
theorem i_11 : (11 : Int32) = nI 11 := rfl
theorem i_12 : (12 : Int32) = nI 12 := rfl
theorem i_13 : (13 : Int32) = nI 13 := rfl
theorem i_14 : (14 : Int32) = nI 14 := rfl
theorem i_15 : (15 : Int32) = nI 15 := rfl
theorem i_16 : (16 : Int32) = nI 16 := rfl
theorem i_17 : (17 : Int32) = nI 17 := rfl
theorem i_20 : (20 : Int32) = nI 20 := rfl
theorem i_28 : (28 : Int32) = nI 28 := rfl
theorem i_30 : (30 : Int32) = nI 30 := rfl
theorem i_31 : (31 : Int32) = nI 31 := rfl
theorem i_32 : (32 : Int32) = nI 32 := rfl
theorem i_36 : (36 : Int32) = nI 36 := rfl
theorem i_37 : (37 : Int32) = nI 37 := rfl
theorem i_40 : (40 : Int32) = nI 40 := rfl
theorem i_41 : (41 : Int32) = nI 41 := rfl
theorem i_46 : (46 : Int32) = nI 46 := rfl
theorem i_48 : (48 : Int32) = nI 48 := rfl
theorem i_49 : (49 : Int32) = nI 49 := rfl
theorem i_57 : (57 : Int32) = nI 57 := rfl
theorem i_59 : (59 : Int32) = nI 59 := rfl
theorem i_60 : (60 : Int32) = nI 60 := rfl
theorem i_61 : (61 : Int32) = nI 61 := rfl
theorem i_62 : (62 : Int32) = nI 62 := rfl
theorem i_63 : (63 : Int32) = nI 63 := rfl
theorem i_78 : (78 : Int32) = nI 78 := rfl
theorem i_93 : (93 : Int32) = nI 93 := rfl
theorem i_97 : (97 : Int32) = nI 97 := rfl
theorem i_98 : (98 : Int32) = nI 98 := rfl
theorem i_99 : (99 : Int32) = nI 99 := rfl
theorem i_100 : (100 : Int32) = nI 100 := rfl
theorem i_122 : (122 : Int32) = nI 122 := rfl
theorem i_137 : (137 : Int32) = nI 137 := rfl
theorem i_192 : (192 : Int32) = nI 192 := rfl
theorem i_239 : (239 : Int32) = nI 239 := rfl
theorem i_240 : (240 : Int32) = nI 240 := rfl
theorem i_255 : (255 : Int32) = nI 255 := rfl
theorem i_273 : (273 : Int32) = nI 273 := rfl
theorem i_289 : (289 : Int32) = nI 289 := rfl
theorem i_333 : (333 : Int32) = nI 333 := rfl
theorem i_334 : (334 : Int32) = nI 334 := rfl
theorem i_382 : (382 : Int32) = nI 382 := rfl
theorem i_400 : (400 : Int32) = nI 400 := rfl
theorem i_849 : (849 : Int32) = nI 849 := rfl
theorem i_999 : (999 : Int32) = nI 999 := rfl
theorem i_1182 : (1182 : Int32) = nI 1182 := rfl
theorem i_2031 : (2031 : Int32) = nI 2031 := rfl
theorem i_3663 : (3663 : Int32) = nI 3663 := rfl
theorem i_3996 : (3996 : Int32) = nI 3996 := rfl
theorem i_4095 : (4095 : Int32) = nI 4095 := rfl
theorem i_9999 : (9999 : Int32) = nI 9999 := rfl
theorem i_10000 : (10000 : Int32) = nI 10000 := rfl
theorem i_12345 : (12345 : Int32) = nI 12345 := rfl
theorem i_16384 : (16384 : Int32) = nI 16384 := rfl
theorem i_32767 : (32767 : Int32) = nI 32767 := rfl
theorem i_65535 : (65535 : Int32) = nI 65535 := rfl
theorem i_65536 : (65536 : Int32) = nI 65536 := rfl
theorem gd_in {β : Type} {k : Option β} {i n : Nat} (h : i < n) (hn : n < 2 ^ 31) : gd (inb (nI i) n) k = k := by
  unfold gd
  exact if_pos (nI_in h hn)
theorem gd_t {β : Type} {k : Option β} {c : Prop} [Decidable c] (h : c) : gd c k = k := if_pos h
theorem cl9_some {ρ β : Type} (a : ρ) (k : ρ → Option β) : cl9 (some a) k = k a := rfl
theorem cl2_some {ρ σ β : Type} (a : ρ) (b : σ) (k : ρ → σ → Option β) : cl2 (some (a, b)) k = k a b := rfl
theorem cl3_some {ρ σ τ β : Type} (a : ρ) (b : σ) (c : τ) (k : ρ → σ → τ → Option β) : cl3 (some (a, b, c)) k = k a b c := rfl
theorem cl4_some {ρ σ τ υ β : Type} (a : ρ) (b : σ) (c : τ) (d : υ) (k : ρ → σ → τ → υ → Option β) : cl4 (some (a, b, c, d)) k = k a b c d := rfl
theorem nI_mul (a b : Nat) : nI a * nI b = nI (a * b) := (Int32.ofNat_mul a b).symm
theorem nI_nneg {a : Nat} (h : a < 2 ^ 31) : (nI a < 0) ↔ False := ⟨fun h1 => nI_pos h h1, fun h => h.elim⟩
theorem nI_n0 {a : Nat} (h : a < 2 ^ 31) : (nI a = 0) ↔ a = 0 := nI_eq (b := 0) h (by decide)
theorem nI_subN {a b : Nat} (h : b ≤ a) : nI a - nI b = nI (a - b) := by
  have e : nI (a - b) + nI b = nI a := by rw [nI_add, Nat.sub_add_cancel h]
  rw [← e, Int32.add_sub_cancel]
theorem nI_neg {a b : Nat} (h : a < b) (hb : b < 2 ^ 31) : nI a - nI b < 0 := by
  rw [Int32.lt_iff_toInt_lt, Int32.toInt_sub, nI_toInt (by omega), nI_toInt (by omega)]
  rw [Int.bmod_eq_of_le (by omega) (by omega)]
  show (a : Int) - b < 0
  omega
def bI (b : Bool) : Int32 := if b then 1 else 0
theorem bI_eq0 (b : Bool) : (bI b = 0) ↔ b = false := by cases b <;> decide
theorem bI_eq1 (b : Bool) : (bI b = 1) ↔ b = true := by cases b <;> decide
theorem bI_ne0 (b : Bool) : (0 = bI b) ↔ b = false := by cases b <;> decide
theorem jmin_n {a b : Nat} (ha : a < 2 ^ 31) (hb : b < 2 ^ 31) : jmin (nI a) (nI b) = nI (min a b) := by
  unfold jmin
  by_cases h : b < a
  · rw [if_pos ((nI_ltI hb ha).mpr h), Nat.min_eq_right (by omega)]
  · rw [if_neg (fun h1 => h ((nI_ltI hb ha).mp h1)), Nat.min_eq_left (by omega)]
theorem jmax_n {a b : Nat} (ha : a < 2 ^ 31) (hb : b < 2 ^ 31) : jmax (nI a) (nI b) = nI (max a b) := by
  unfold jmax
  by_cases h : a < b
  · rw [if_pos ((nI_ltI ha hb).mpr h), Nat.max_eq_right (by omega)]
  · rw [if_neg (fun h1 => h ((nI_ltI ha hb).mp h1)), Nat.max_eq_left (by omega)]
theorem jmax0_sub {a b : Nat} (ha : a < 2 ^ 31) (hb : b < 2 ^ 31) : jmax 0 (nI a - nI b) = nI (a - b) := by
  by_cases h : b ≤ a
  · rw [nI_subN h, show (0 : Int32) = nI 0 from rfl, jmax_n (by decide) (by omega), Nat.max_eq_right (Nat.zero_le _)]
  · have h1 := nI_neg (a := a) (b := b) (by omega) hb
    unfold jmax
    rw [if_neg (fun h2 => Int32.lt_irrefl (Int32.lt_trans h1 h2)), show a - b = 0 by omega]
    rfl
theorem jmax_sub {g a b : Nat} (hg : g < 2 ^ 31) (ha : a < 2 ^ 31) (hb : b < 2 ^ 31) : jmax (nI g) (nI a - nI b) = nI (max g (a - b)) := by
  by_cases h : b ≤ a
  · rw [nI_subN h, jmax_n hg (by omega)]
  · have h1 := nI_neg (a := a) (b := b) (by omega) hb
    unfold jmax
    rw [if_neg (fun h2 => nI_pos hg (Int32.lt_trans h2 h1)), show max g (a - b) = g by omega]
def adif (a b : Nat) : Nat := (a - b) + (b - a)
theorem jabs_n {a b : Nat} (ha : a < 2 ^ 31) (hb : b < 2 ^ 31) : jabs (nI a - nI b) = nI (adif a b) := by
  unfold jabs adif
  by_cases h : b ≤ a
  · rw [nI_subN h, if_pos (nI_pos' (by omega)), show a - b + (b - a) = a - b by omega]
  · have h1 := nI_neg (a := a) (b := b) (by omega) hb
    rw [if_neg (fun h2 => Int32.lt_irrefl (Int32.lt_of_lt_of_le h1 h2)), show a - b + (b - a) = b - a by omega, Int32.zero_sub, Int32.neg_sub, nI_subN (by omega)]
/-! bits -/
def has9 (S : Int32) (p : Nat) : Bool := S.toBitVec.getLsbD p
theorem has9_ext {S T : Int32} (h : ∀ p, p < 32 → has9 S p = has9 T p) : S = T := by
  apply Int32.toBitVec_inj.mp
  apply BitVec.eq_of_getLsbD_eq
  intro i hi
  exact h i hi
theorem has9_and (a b : Int32) (p : Nat) : has9 (a &&& b) p = (has9 a p && has9 b p) := by
  unfold has9
  rw [Int32.toBitVec_and, BitVec.getLsbD_and]
theorem has9_or (a b : Int32) (p : Nat) : has9 (a ||| b) p = (has9 a p || has9 b p) := by
  unfold has9
  rw [Int32.toBitVec_or, BitVec.getLsbD_or]
theorem has9_m1 : ∀ p : Nat, has9 (-1) p = decide (p < 32) := by
  intro p
  by_cases h : p < 32
  · have : ∀ q : Fin 32, has9 (-1) q.val = true := by decide +kernel
    rw [this ⟨p, h⟩]; simp [h]
  · unfold has9
    rw [BitVec.getLsbD_of_ge _ _ (by omega)]; simp [h]
theorem has9_cpl (a : Int32) {p : Nat} (hp : p < 32) : has9 (a ^^^ (-1)) p = !has9 a p := by
  have e := has9_m1 p
  unfold has9 at e ⊢
  rw [Int32.toBitVec_xor, BitVec.getLsbD_xor, e]
  simp [hp]
theorem has9_0 (p : Nat) : has9 0 p = false := by
  unfold has9
  show (0#32).getLsbD p = false
  simp
theorem has9_ge (S : Int32) {p : Nat} (h : 32 ≤ p) : has9 S p = false := by
  unfold has9
  exact BitVec.getLsbD_of_ge _ _ h
def bit9 (p : Nat) : Int32 := (1 : Int32) <<< (nI p &&& 31)
theorem has9_bit {p : Nat} (hp : p < 32) (q : Nat) : has9 (bit9 p) q = decide (q = p) := by
  by_cases hq : q < 32
  · have : ∀ a b : Fin 32, has9 (bit9 a.val) b.val = decide (b.val = a.val) := by decide +kernel
    exact this ⟨p, hp⟩ ⟨q, hq⟩
  · rw [has9_ge _ (by omega)]
    simp; omega
theorem and1 (x : Int32) : x &&& 1 = bI (has9 x 0) := by
  apply has9_ext
  intro p hp
  rw [has9_and]
  have e : has9 1 p = decide (p = 0) := has9_bit (p := 0) (by decide) p
  rw [e]
  by_cases h : p = 0
  · subst h
    cases hx : has9 x 0 <;> simp [bI] <;> decide
  · cases hx : has9 x 0
    · simp [h, bI, has9_0]
    · simp [h, bI, e]
theorem ushr_bv (x : Int32) {p : Nat} (hp : p < 32) : (ushr x (nI p)).toBitVec = x.toBitVec >>> p := by
  unfold ushr
  have e : ∀ p : Fin 32, (nI p.val).toUInt32 &&& Int32.toUInt32 31 = UInt32.ofNat p.val := by decide +kernel
  rw [e ⟨p, hp⟩]
  have e2 : ∀ p : Fin 32, ((UInt32.ofNat p.val).toBitVec % 32#32).toNat = p.val := by decide +kernel
  show (x.toUInt32 >>> UInt32.ofNat p).toBitVec = _
  rw [UInt32.toBitVec_shiftRight]
  show x.toBitVec >>> ((UInt32.ofNat p).toBitVec % 32#32).toNat = _
  rw [e2 ⟨p, hp⟩]
theorem has9_ushr (x : Int32) {p : Nat} (hp : p < 32) (q : Nat) : has9 (ushr x (nI p)) q = has9 x (p + q) := by
  unfold has9
  rw [ushr_bv x hp, BitVec.getLsbD_ushiftRight]
theorem has9_shr (x : Int32) {p : Nat} (hp : p < 32) {q : Nat} (hq : p + q < 32) : has9 (x >>> (nI p &&& 31)) q = has9 x (p + q) := by
  unfold has9
  have e : ∀ p : Fin 32, ((nI p.val &&& 31).toBitVec.smod 32).toNat = p.val := by decide +kernel
  rw [Int32.toBitVec_shiftRight]
  have e1 : x.toBitVec.sshiftRight' ((nI p &&& 31).toBitVec.smod 32) = x.toBitVec.sshiftRight p := by
    unfold BitVec.sshiftRight'
    rw [e ⟨p, hp⟩]
  rw [e1, BitVec.getLsbD_sshiftRight]
  simp [show ¬ 32 ≤ q by omega, hq]
theorem has_x (S : Int32) {p : Nat} (hp : p < 32) : fX11_has S (nI p) = bI (has9 S p) := by
  unfold fX11_has
  rw [and1, has9_ushr S hp, Nat.add_zero]
  cases has9 S p <;> rfl
theorem has_m (S : Int32) {p : Nat} (hp : p < 32) : fX12_has S (nI p) = bI (has9 S p) := by
  unfold fX12_has
  rw [and1, has9_shr S hp (by omega), Nat.add_zero]
  cases has9 S p <;> rfl
theorem and_zero_iff (a b : Int32) : (a &&& b = 0) ↔ ∀ p, p < 32 → (has9 a p && has9 b p) = false := by
  constructor
  · intro h p _
    rw [← has9_and, h, has9_0]
  · intro h
    apply has9_ext
    intro p hp
    rw [has9_and, h p hp, has9_0]
def S16 (S : Int32) : Prop := ∀ p, 16 ≤ p → has9 S p = false
theorem S16_0 : S16 0 := fun p _ => has9_0 p
theorem S16_or {a b : Int32} (ha : S16 a) (hb : S16 b) : S16 (a ||| b) := fun p hp => by rw [has9_or, ha p hp, hb p hp]; rfl
theorem S16_and {a b : Int32} (ha : S16 a) : S16 (a &&& b) := fun p hp => by rw [has9_and, ha p hp]; rfl
theorem S16_and' {a b : Int32} (hb : S16 b) : S16 (a &&& b) := fun p hp => by rw [has9_and, hb p hp, Bool.and_false]
theorem S16_bit {p : Nat} (hp : p < 16) : S16 (bit9 p) := fun q hq => by rw [has9_bit (by omega)]; simp; omega
theorem S16_all : S16 65535 := by
  intro p hp
  by_cases h : p < 32
  · have : ∀ q : Fin 16, has9 65535 (16 + q.val) = false := by decide +kernel
    have := this ⟨p - 16, by omega⟩
    rwa [show 16 + (p - 16) = p by omega] at this
  · exact has9_ge _ (by omega)
theorem has9_all {p : Nat} (hp : p < 16) : has9 65535 p = true := by
  have : ∀ q : Fin 16, has9 65535 q.val = true := by decide +kernel
  exact this ⟨p, hp⟩
theorem S16_ext {S T : Int32} (hS : S16 S) (hT : S16 T) (h : ∀ p, p < 16 → has9 S p = has9 T p) : S = T :=
  has9_ext (fun p _ => if hp : p < 16 then h p hp else by rw [hS p (by omega), hT p (by omega)])
theorem or_zero (a : Int32) : a ||| 0 = a := has9_ext (fun p _ => by rw [has9_or, has9_0, Bool.or_false])
theorem le_n {c : Int32} (k : Nat) (e : c = nI k) {i : Nat} (h : i < k) (hk : k < 2 ^ 31) : ¬ c ≤ nI i := by subst e; exact nI_ge h hk
theorem le_p {c : Int32} (k : Nat) (e : c = nI k) {i : Nat} (h : k ≤ i) (hk : i < 2 ^ 31) : c ≤ nI i := by subst e; exact nI_le h hk
theorem c16n {i : Nat} (h : i < 16) : ¬ (16 : Int32) ≤ nI i := le_n 16 rfl h (by decide)
theorem c16p : (16 : Int32) ≤ nI 16 := le_p 16 rfl (by decide) (by decide)

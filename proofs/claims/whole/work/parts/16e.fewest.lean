/-! fewest -/
def Qs (s k c : Nat) : Prop := (∀ j, k ≤ j → j < 65536 → j < c → bcN j ≠ s) ∧ (c < 65536 → bcN c = s ∧ k ≤ c)
theorem Qs_dn {s k c : Nat} (h : Qs s (k + 1) c) (hb : bcN k ≠ s) : Qs s k c := by
  refine ⟨fun j h1 h2 h3 => ?_, fun hc => ⟨(h.2 hc).1, by have := (h.2 hc).2; omega⟩⟩
  by_cases e : j = k
  · rw [e]; exact hb
  · exact h.1 j (by omega) h2 h3
theorem Qs_at {s k : Nat} (hb : bcN k = s) : Qs s k k := ⟨fun j h1 h2 h3 => by omega, fun _ => ⟨hb, Nat.le_refl _⟩⟩
def NXT (k K : Nat) : Prop := ∀ j, k ≤ j → j < K → ∀ s, 1 ≤ s → s ≤ 4 → bcN j = s → Qs s (j + 1) (nxN j)
theorem walk_ok {A B C D : Nat} : ∀ m k a b c d, walk A B C D m k a b c d = true → Qs 1 (k + m) A → Qs 2 (k + m) B → Qs 3 (k + m) C → Qs 4 (k + m) D → (Qs 1 k a ∧ Qs 2 k b ∧ Qs 3 k c ∧ Qs 4 k d) ∧ NXT k (k + m) := by
  intro m
  induction m with
  | zero =>
    intro k a b c d h q1 q2 q3 q4
    unfold walk at h
    simp only [Bool.and_eq_true] at h
    obtain ⟨⟨⟨h1, h2⟩, h3⟩, h4⟩ := h
    rw [Nat.eq_of_beq_eq_true h1, Nat.eq_of_beq_eq_true h2, Nat.eq_of_beq_eq_true h3, Nat.eq_of_beq_eq_true h4]
    exact ⟨⟨q1, q2, q3, q4⟩, fun j h5 h6 => by omega⟩
  | succ m ih =>
    intro k a b c d h q1 q2 q3 q4
    have h' : wkS k a b c d (walk A B C D m (k + 1)) = true := h
    unfold wkS at h'
    rw [show k + (m + 1) = k + 1 + m by omega] at q1 q2 q3 q4 ⊢
    have mk : NXT (k + 1) (k + 1 + m) → (∀ s, 1 ≤ s → s ≤ 4 → bcN k = s → Qs s (k + 1) (nxN k)) → NXT k (k + 1 + m) := by
      intro n1 n2 j h5 h6 s h7 h8 h9
      by_cases e : j = k
      · subst e; exact n2 s h7 h8 h9
      · exact n1 j (by omega) h6 s h7 h8 h9
    by_cases c1 : Nat.beq (bcN k) 1 = true
    · have e1 := Nat.eq_of_beq_eq_true c1
      rw [if_pos c1, Bool.and_eq_true] at h'
      have ek := Nat.eq_of_beq_eq_true h'.1
      obtain ⟨⟨r1, r2, r3, r4⟩, rn⟩ := ih (k + 1) (nxN k) b c d h'.2 q1 q2 q3 q4
      refine ⟨⟨by rw [← ek]; exact Qs_at e1, Qs_dn r2 (by omega), Qs_dn r3 (by omega), Qs_dn r4 (by omega)⟩, mk rn (fun s _ _ hs => by rw [show s = 1 by omega]; exact r1)⟩
    · rw [if_neg c1] at h'
      by_cases c2 : Nat.beq (bcN k) 2 = true
      · have e1 := Nat.eq_of_beq_eq_true c2
        rw [if_pos c2, Bool.and_eq_true] at h'
        have ek := Nat.eq_of_beq_eq_true h'.1
        obtain ⟨⟨r1, r2, r3, r4⟩, rn⟩ := ih (k + 1) a (nxN k) c d h'.2 q1 q2 q3 q4
        refine ⟨⟨Qs_dn r1 (by omega), by rw [← ek]; exact Qs_at e1, Qs_dn r3 (by omega), Qs_dn r4 (by omega)⟩, mk rn (fun s _ _ hs => by rw [show s = 2 by omega]; exact r2)⟩
      · rw [if_neg c2] at h'
        by_cases c3 : Nat.beq (bcN k) 3 = true
        · have e1 := Nat.eq_of_beq_eq_true c3
          rw [if_pos c3, Bool.and_eq_true] at h'
          have ek := Nat.eq_of_beq_eq_true h'.1
          obtain ⟨⟨r1, r2, r3, r4⟩, rn⟩ := ih (k + 1) a b (nxN k) d h'.2 q1 q2 q3 q4
          refine ⟨⟨Qs_dn r1 (by omega), Qs_dn r2 (by omega), by rw [← ek]; exact Qs_at e1, Qs_dn r4 (by omega)⟩, mk rn (fun s _ _ hs => by rw [show s = 3 by omega]; exact r3)⟩
        · rw [if_neg c3] at h'
          by_cases c4 : Nat.beq (bcN k) 4 = true
          · have e1 := Nat.eq_of_beq_eq_true c4
            rw [if_pos c4, Bool.and_eq_true] at h'
            have ek := Nat.eq_of_beq_eq_true h'.1
            obtain ⟨⟨r1, r2, r3, r4⟩, rn⟩ := ih (k + 1) a b c (nxN k) h'.2 q1 q2 q3 q4
            refine ⟨⟨Qs_dn r1 (by omega), Qs_dn r2 (by omega), Qs_dn r3 (by omega), by rw [← ek]; exact Qs_at e1⟩, mk rn (fun s _ _ hs => by rw [show s = 4 by omega]; exact r4)⟩
          · rw [if_neg c4] at h'
            have n1 : bcN k ≠ 1 := fun q => c1 (by rw [q]; rfl)
            have n2 : bcN k ≠ 2 := fun q => c2 (by rw [q]; rfl)
            have n3 : bcN k ≠ 3 := fun q => c3 (by rw [q]; rfl)
            have n4 : bcN k ≠ 4 := fun q => c4 (by rw [q]; rfl)
            obtain ⟨⟨r1, r2, r3, r4⟩, rn⟩ := ih (k + 1) a b c d h' q1 q2 q3 q4
            refine ⟨⟨Qs_dn r1 n1, Qs_dn r2 n2, Qs_dn r3 n3, Qs_dn r4 n4⟩, mk rn (fun s _ _ hs => by omega)⟩
theorem Qs_end {s c : Nat} (h : 65536 ≤ c) : Qs s 65536 c := ⟨fun j h1 h2 _ => by omega, fun h2 => by omega⟩
theorem walk_all : (Qs 1 0 1 ∧ Qs 2 0 3 ∧ Qs 3 0 7 ∧ Qs 4 0 15) ∧ NXT 0 65536 := by
  have w16 : (Qs 1 65536 65536 ∧ Qs 2 65536 65537 ∧ Qs 3 65536 65539 ∧ Qs 4 65536 65543) := ⟨Qs_end (by decide), Qs_end (by decide), Qs_end (by decide), Qs_end (by decide)⟩
  obtain ⟨w15, n15⟩ := walk_ok 4096 61440 _ _ _ _ wk_15 w16.1 w16.2.1 w16.2.2.1 w16.2.2.2
  obtain ⟨w14, n14⟩ := walk_ok 4096 57344 _ _ _ _ wk_14 w15.1 w15.2.1 w15.2.2.1 w15.2.2.2
  obtain ⟨w13, n13⟩ := walk_ok 4096 53248 _ _ _ _ wk_13 w14.1 w14.2.1 w14.2.2.1 w14.2.2.2
  obtain ⟨w12, n12⟩ := walk_ok 4096 49152 _ _ _ _ wk_12 w13.1 w13.2.1 w13.2.2.1 w13.2.2.2
  obtain ⟨w11, n11⟩ := walk_ok 4096 45056 _ _ _ _ wk_11 w12.1 w12.2.1 w12.2.2.1 w12.2.2.2
  obtain ⟨w10, n10⟩ := walk_ok 4096 40960 _ _ _ _ wk_10 w11.1 w11.2.1 w11.2.2.1 w11.2.2.2
  obtain ⟨w9, n9⟩ := walk_ok 4096 36864 _ _ _ _ wk_9 w10.1 w10.2.1 w10.2.2.1 w10.2.2.2
  obtain ⟨w8, n8⟩ := walk_ok 4096 32768 _ _ _ _ wk_8 w9.1 w9.2.1 w9.2.2.1 w9.2.2.2
  obtain ⟨w7, n7⟩ := walk_ok 4096 28672 _ _ _ _ wk_7 w8.1 w8.2.1 w8.2.2.1 w8.2.2.2
  obtain ⟨w6, n6⟩ := walk_ok 4096 24576 _ _ _ _ wk_6 w7.1 w7.2.1 w7.2.2.1 w7.2.2.2
  obtain ⟨w5, n5⟩ := walk_ok 4096 20480 _ _ _ _ wk_5 w6.1 w6.2.1 w6.2.2.1 w6.2.2.2
  obtain ⟨w4, n4⟩ := walk_ok 4096 16384 _ _ _ _ wk_4 w5.1 w5.2.1 w5.2.2.1 w5.2.2.2
  obtain ⟨w3, n3⟩ := walk_ok 4096 12288 _ _ _ _ wk_3 w4.1 w4.2.1 w4.2.2.1 w4.2.2.2
  obtain ⟨w2, n2⟩ := walk_ok 4096 8192 _ _ _ _ wk_2 w3.1 w3.2.1 w3.2.2.1 w3.2.2.2
  obtain ⟨w1, n1⟩ := walk_ok 4096 4096 _ _ _ _ wk_1 w2.1 w2.2.1 w2.2.2.1 w2.2.2.2
  obtain ⟨w0, n0⟩ := walk_ok 4096 0 _ _ _ _ wk_0 w1.1 w1.2.1 w1.2.2.1 w1.2.2.2
  refine ⟨w0, fun j h1 h2 s h3 h4 h5 => ?_⟩
  rcases (show (0 ≤ j ∧ j < 4096) ∨ (4096 ≤ j ∧ j < 8192) ∨ (8192 ≤ j ∧ j < 12288) ∨ (12288 ≤ j ∧ j < 16384) ∨ (16384 ≤ j ∧ j < 20480) ∨ (20480 ≤ j ∧ j < 24576) ∨ (24576 ≤ j ∧ j < 28672) ∨ (28672 ≤ j ∧ j < 32768) ∨ (32768 ≤ j ∧ j < 36864) ∨ (36864 ≤ j ∧ j < 40960) ∨ (40960 ≤ j ∧ j < 45056) ∨ (45056 ≤ j ∧ j < 49152) ∨ (49152 ≤ j ∧ j < 53248) ∨ (53248 ≤ j ∧ j < 57344) ∨ (57344 ≤ j ∧ j < 61440) ∨ (61440 ≤ j ∧ j < 65536) by omega) with q | q | q | q | q | q | q | q | q | q | q | q | q | q | q | q
  · exact n0 j q.1 q.2 s h3 h4 h5
  · exact n1 j q.1 q.2 s h3 h4 h5
  · exact n2 j q.1 q.2 s h3 h4 h5
  · exact n3 j q.1 q.2 s h3 h4 h5
  · exact n4 j q.1 q.2 s h3 h4 h5
  · exact n5 j q.1 q.2 s h3 h4 h5
  · exact n6 j q.1 q.2 s h3 h4 h5
  · exact n7 j q.1 q.2 s h3 h4 h5
  · exact n8 j q.1 q.2 s h3 h4 h5
  · exact n9 j q.1 q.2 s h3 h4 h5
  · exact n10 j q.1 q.2 s h3 h4 h5
  · exact n11 j q.1 q.2 s h3 h4 h5
  · exact n12 j q.1 q.2 s h3 h4 h5
  · exact n13 j q.1 q.2 s h3 h4 h5
  · exact n14 j q.1 q.2 s h3 h4 h5
  · exact n15 j q.1 q.2 s h3 h4 h5
theorem low_form {n l : Nat} (tl : n.testBit l = true) (tq : ∀ q, q < l → n.testBit q = false) : ∃ m, n = 2 ^ (l + 1) * m + 2 ^ l := by
  have m0 : n % 2 ^ l = 0 := by
    apply Nat.eq_of_testBit_eq
    intro i
    rw [Nat.testBit_mod_two_pow, Nat.zero_testBit]
    by_cases c : i < l
    · rw [tq i c]; simp
    · simp [c]
  have od : n / 2 ^ l % 2 = 1 := by
    rw [Nat.testBit_eq_decide_div_mod_eq] at tl
    simpa using tl
  refine ⟨n / 2 ^ l / 2, ?_⟩
  have e1 := Nat.div_add_mod n (2 ^ l)
  have e2 := Nat.div_add_mod (n / 2 ^ l) 2
  rw [m0] at e1
  rw [od] at e2
  have e3 : 2 ^ (l + 1) * (n / 2 ^ l / 2) = 2 ^ l * (2 * (n / 2 ^ l / 2)) := by rw [Nat.pow_succ, Nat.mul_assoc]
  rw [e3]
  have e4 : 2 ^ l * (n / 2 ^ l) = 2 ^ l * (2 * (n / 2 ^ l / 2)) + 2 ^ l := by
    conv => lhs; rw [← e2, Nat.mul_add, Nat.mul_one]
  omega
theorem nI_xor (a b : Nat) : nI a ^^^ nI b = nI (a ^^^ b) := by
  apply Int32.toBitVec_inj.mp
  rw [Int32.toBitVec_xor]
  show BitVec.ofNat 32 a ^^^ BitVec.ofNat 32 b = BitVec.ofNat 32 (a ^^^ b)
  exact (BitVec.ofNat_xor).symm
theorem has9_neg (x : Int32) {q : Nat} (hq : q < 32) : has9 (-x) q = !has9 (x - 1) q := by
  have e : (-x).toBitVec = ~~~(x.toBitVec - 1#32) := by
    rw [Int32.toBitVec_neg, ← BitVec.not_neg, BitVec.not_not]
  unfold has9
  rw [e, BitVec.getLsbD_not, Int32.toBitVec_sub]
  simp [hq]
theorem ushr_nn {n p : Nat} (hn : n < 2 ^ 32) (hp : p < 32) : ushr (nI n) (nI p) = nI (n / 2 ^ p) := by
  apply Int32.toBitVec_inj.mp
  rw [ushr_bv _ hp]
  apply BitVec.eq_of_toNat_eq
  rw [BitVec.toNat_ushiftRight]
  show (BitVec.ofNat 32 n).toNat >>> p = (BitVec.ofNat 32 (n / 2 ^ p)).toNat
  have : n / 2 ^ p ≤ n := Nat.div_le_self _ _
  rw [BitVec.toNat_ofNat, BitVec.toNat_ofNat, Nat.mod_eq_of_lt hn, Nat.mod_eq_of_lt (by omega), Nat.shiftRight_eq_div_pow]
theorem next_x (h : Hp) {n : Nat} (h0 : 0 < n) (hn : n < 65536) : fX11_nextOfSameSize h (nI n) = some (nI (nxN n)) ∧ nxN n < 131072 := by
  have hS : S16 (nI n) := fun p hp => by
    rw [has9_n (by omega), Nat.div_eq_of_lt (Nat.lt_of_lt_of_le (show n < 2 ^ 16 by omega) (Nat.pow_le_pow_right (by decide) hp))]; rfl
  obtain ⟨l, l16, el, hl, hlt⟩ := loB h hS (nI_ne0 h0 (by omega))
  obtain ⟨m, em⟩ := low_form (n := n) (l := l) (by rw [← has9_tb (by omega)]; exact hl) (fun q hq => by rw [← has9_tb (by omega)]; exact hlt q hq)
  have p2 : 0 < 2 ^ l := Nat.two_pow_pos l
  have lt1 : 2 ^ l < 2 ^ (l + 1) := by rw [Nat.pow_succ]; omega
  have lt2 : 2 ^ l ≤ 2 ^ 15 := Nat.pow_le_pow_right (by decide) (by omega)
  have en : ∀ j, n.testBit j = if j < l + 1 then decide (l = j) else m.testBit (j - (l + 1)) := fun j => by rw [em, Nat.testBit_two_pow_mul_add m lt1, Nat.testBit_two_pow]
  have en1 : ∀ j, (n - 1).testBit j = if j < l + 1 then decide (j < l) else m.testBit (j - (l + 1)) := fun j => by rw [show n - 1 = 2 ^ (l + 1) * m + (2 ^ l - 1) by omega, Nat.testBit_two_pow_mul_add m (by omega), Nat.testBit_two_pow_sub_one]
  have ea : n &&& (n - 1) = 2 ^ (l + 1) * m := by
    apply Nat.eq_of_testBit_eq
    intro j
    have e0 : (2 ^ (l + 1) * m).testBit j = if j < l + 1 then false else m.testBit (j - (l + 1)) := by
      have := Nat.testBit_two_pow_mul_add m (b := 0) (i := l + 1) (by omega) j
      rw [Nat.add_zero, Nat.zero_testBit] at this
      exact this
    rw [Nat.testBit_and, en, en1, e0]
    by_cases c : j < l + 1
    · rw [if_pos c, if_pos c, if_pos c]
      by_cases d : l = j
      · simp [d]
      · simp [d]
    · rw [if_neg c, if_neg c, if_neg c, Bool.and_self]
  have low : n - (n &&& (n - 1)) = 2 ^ l := by rw [ea]; omega
  have b15 : bit9 l = nI (2 ^ l) := by
    have : ∀ a : Fin 16, bit9 a.val = nI (2 ^ a.val) := by decide +kernel
    exact this ⟨l, l16⟩
  have X : nI n &&& (-nI n) = nI (2 ^ l) := by
    rw [← b15]
    have e1 : nI n - 1 = nI (n - 1) := by rw [i_1, nI_subN (by omega)]
    apply has9_ext
    intro j hj
    rw [has9_and, has9_neg _ hj, e1, has9_tb (by omega), has9_tb (by omega), en, en1, has9_bit (by omega)]
    by_cases c : j < l + 1
    · rw [if_pos c, if_pos c]
      by_cases d : j < l
      · simp [d, show ¬ l = j by omega, show ¬ j = l by omega]
      · simp [d, show l = j by omega]
    · rw [if_neg c, if_neg c]
      simp [show ¬ j = l by omega]
  have b17 : n + 2 ^ l < 2 ^ 17 := by omega
  have x17 : n ^^^ (n + 2 ^ l) < 2 ^ 17 := Nat.xor_lt_two_pow (by omega) b17
  have d17 : (n ^^^ (n + 2 ^ l)) / 2 ^ (2 + l) < 2 ^ 17 := Nat.lt_of_le_of_lt (Nat.div_le_self _ _) x17
  have eN : nxN n = (n + 2 ^ l) ||| ((n ^^^ (n + 2 ^ l)) / 2 ^ (2 + l)) := by
    unfold nxN
    rw [low, Nat.pow_add]
  constructor
  · unfold fX11_nextOfSameSize
    rw [X, nI_add]
    simp only [lt9_e]
    rw [el, cl9_some, i_2, nI_add, nI_xor, ushr_nn (by omega) (by omega), nI_or, eN]
  · rw [eN]; exact Nat.or_lt_two_pow b17 d17
theorem bc_zero {j : Nat} (hj : j < 65536) (h : bcN j = 0) : j = 0 := by
  have h1 := cnt_n (n := j) (by omega)
  rw [← bcN_eq hj, h] at h1
  have key : ∀ (f : Nat → Bool) n, cntB f n = 0 → ∀ p, p < n → f p = false := by
    intro f n
    induction n with
    | zero => intro _ p hp; omega
    | succ n ih =>
      intro q p hp
      rw [cntB_s] at q
      by_cases c : p = n
      · subst c
        cases d : f p with
        | false => rfl
        | true => rw [d] at q; simp at q
      · exact ih (by omega) p (by omega)
  have hS : S16 (nI j) := fun p hp => by
    rw [has9_n (by omega), Nat.div_eq_of_lt (Nat.lt_of_lt_of_le (show j < 2 ^ 16 by omega) (Nat.pow_le_pow_right (by decide) hp))]; rfl
  have : nI j = 0 := S16_ext hS S16_0 (fun p hp => by rw [key _ 16 h1 p hp, has9_0])
  exact (nI_n0 (by omega)).mp this
def gdF (w : Nat → Int32) (due : Int32) (d : Nat) : Prop := nI d &&& (free9 w ^^^ (-1)) = 0 ∧ due &&& (stNow w (w 7 ||| nI d) ^^^ (-1)) = 0
def FW (w : Nat → Int32) (due r : Int32) : Prop := (∃ d, d < 65536 ∧ gdF w due d ∧ bcN d ≤ 4 ∧ r = nI d ∧ ∀ j, j < 65536 → gdF w due j → bcN d ≤ bcN j ∧ (bcN j = bcN d → d ≤ j)) ∨ (r = -1 ∧ ∀ j, j < 65536 → gdF w due j → 5 ≤ bcN j)
theorem FW_one {w : Nat → Int32} {due r1 r2 : Int32} (h1 : FW w due r1) (h2 : FW w due r2) : r1 = r2 := by
  rcases h1 with ⟨d, hd, gd1, bd, rfl, m1⟩ | ⟨rfl, m1⟩
  · rcases h2 with ⟨e, he, ge1, be, rfl, m2⟩ | ⟨rfl, m2⟩
    · have a1 := m1 e he ge1
      have a2 := m2 d hd gd1
      have : bcN d = bcN e := by omega
      have b1 := a1.2 (by omega)
      have b2 := a2.2 (by omega)
      rw [show d = e by omega]
    · have := m2 d hd gd1
      omega
  · rcases h2 with ⟨e, he, ge1, be, rfl, m2⟩ | ⟨rfl, m2⟩
    · have := m1 e he ge1
      omega
    · rfl
theorem leastPins_L {w : Nat → Int32} {h0 : Hp} (H : CS h0 32 w) (due : Int32) {s : Nat} (hs1 : 1 ≤ s) (hs4 : s ≤ 4) : ∀ m f c t h, 65536 - c ≤ m → m + 1 < f → c < 131072 → t + 1 ≤ c → (c < 65536 → bcN c = s) → (∀ j, j < c → j < 65536 → bcN j = s → ¬ gdF w due j) → FR c45 h0 h → CV h w →
    ∃ r h', LX11_leastPins f h (free9 w) due (nI c) (nI t) = some (r, h') ∧ FR c45 h0 h' ∧ CV h' w ∧ ((∃ d, d < 65536 ∧ gdF w due d ∧ bcN d = s ∧ r = nI d ∧ ∀ j, j < d → bcN j = s → ¬ gdF w due j) ∨ (r = -1 ∧ ∀ j, j < 65536 → bcN j = s → ¬ gdF w due j)) := by
  intro m
  induction m with
  | zero =>
    intro f c t h hc hf hb ht hp hn F V
    obtain ⟨f, rfl⟩ : ∃ k, f = k + 1 := ⟨f - 1, by omega⟩
    refine ⟨-1, h, ?_, F, V, Or.inr ⟨rfl, fun j hj => hn j (by omega) hj⟩⟩
    rw [LX11_leastPins, BX11_leastPins_0, i_65535]
    by_cases q : nI 65535 ≤ nI t
    · rw [if_pos q]
    · rw [if_neg q, if_pos (nI_lt (by omega) (by omega))]
  | succ m ih =>
    intro f c t h hc hf hb ht hp hn F V
    by_cases big' : 65536 ≤ c
    · obtain ⟨f, rfl⟩ : ∃ k, f = k + 1 := ⟨f - 1, by omega⟩
      refine ⟨-1, h, ?_, F, V, Or.inr ⟨rfl, fun j hj => hn j (by omega) hj⟩⟩
      rw [LX11_leastPins, BX11_leastPins_0, i_65535]
      by_cases q : nI 65535 ≤ nI t
      · rw [if_pos q]
      · rw [if_neg q, if_pos (nI_lt (by omega) (by omega))]
    · obtain ⟨f, rfl⟩ : ∃ k, f = k + 1 := ⟨f - 1, by omega⟩
      have bc := hp (by omega)
      have H1 := H.f45 F
      have Q := walk_all.2 c (by omega) (by omega) s hs1 hs4 bc
      obtain ⟨en, bn⟩ := next_x h (n := c) (by omega) (by omega)
      have gt : c + 1 ≤ nxN c := by
        by_cases q : nxN c < 65536
        · exact (Q.2 q).2
        · omega
      have go : ¬ gdF w due c → ∀ h', FR c45 h0 h' → CV h' w → ∃ r h'', LX11_leastPins f h' (free9 w) due (nI (nxN c)) (nI (t + 1)) = some (r, h'') ∧ FR c45 h0 h'' ∧ CV h'' w ∧ ((∃ d, d < 65536 ∧ gdF w due d ∧ bcN d = s ∧ r = nI d ∧ ∀ j, j < d → bcN j = s → ¬ gdF w due j) ∨ (r = -1 ∧ ∀ j, j < 65536 → bcN j = s → ¬ gdF w due j)) := by
        intro ng h' F' V'
        refine ih f (nxN c) (t + 1) h' (by omega) (by omega) bn (by omega) (fun q => (Q.2 q).1) (fun j hj hj2 hb2 => ?_) F' V'
        by_cases q1 : j < c
        · exact hn j q1 hj2 hb2
        · by_cases q2 : j = c
          · rw [q2]; exact ng
          · exact absurd hb2 (Q.1 j (by omega) hj2 hj)
      rw [LX11_leastPins, BX11_leastPins_0, i_65535, if_neg (nI_ge (by omega) (by omega)), if_neg (nI_nlt (by omega) (by omega)), en, cl9_some, H1.f7, nI_1]
      simp only [lt9_e]
      by_cases q1 : nI c &&& (free9 w ^^^ (-1)) = 0
      · rw [if_pos q1]
        obtain ⟨h2, e2, F2, V2⟩ := standingWith_x H1 V (w 7 ||| nI c)
        obtain ⟨en2, -⟩ := next_x h2 (n := c) (by omega) (by omega)
        rw [e2, cl2_some, en2, cl9_some]
        by_cases q2 : due &&& (stNow w (w 7 ||| nI c) ^^^ (-1)) = 0
        · rw [if_pos q2]
          exact ⟨nI c, h2, rfl, F.trans F2, V2, Or.inl ⟨c, by omega, ⟨q1, q2⟩, bc, rfl, fun j hj => hn j hj (by omega)⟩⟩
        · rw [if_neg q2]
          exact go (fun g => q2 g.2) h2 (F.trans F2) V2
      · rw [if_neg q1]
        exact go (fun g => q1 g.1) h F V
theorem fewest_x {h : Hp} {w : Nat → Int32} (H : CS h 32 w) (x : Int32) : ∃ r h', fX11_fewest h x = some (r, h') ∧ FR c45 h h' ∧ FW w (x &&& 65535) r := by
  obtain ⟨h1, e1, F1, V1⟩ := standing_n H
  have H1 := H.f45 F1
  have z7 : w 7 ||| nI 0 = w 7 := or_zero _
  have b0 : bcN 0 = 0 := by decide
  unfold fX11_fewest
  simp only [lt9_e]
  rw [e1, cl2_some]
  by_cases c : (x &&& 65535) &&& (stNow w (w 7) ^^^ (-1)) = 0
  · rw [if_pos c]
    refine ⟨0, h1, rfl, F1, Or.inl ⟨0, by decide, ⟨?_, by rw [z7]; exact c⟩, by omega, rfl, fun j _ _ => ⟨by omega, fun _ => Nat.zero_le _⟩⟩⟩
    rw [and_zero_iff]; intro p hp
    show (has9 0 p && _) = false
    rw [has9_0]; rfl
  · rw [if_neg c, free_x H1]
    have key : ∀ m f s h2, s + m = 5 → m < f → 1 ≤ s → (∀ j, j < 65536 → gdF w (x &&& 65535) j → s ≤ bcN j) → FR c45 h h2 → CV h2 w → ∃ r h', LX11_fewest f h2 (x &&& 65535) (free9 w) (nI s) = some (r, h') ∧ FR c45 h h' ∧ FW w (x &&& 65535) r := by
      intro m
      induction m with
      | zero =>
        intro f s h2 hs hf h1s hmin F2 V2
        obtain ⟨f, rfl⟩ : ∃ k, f = k + 1 := ⟨f - 1, by omega⟩
        refine ⟨-1, h2, ?_, F2, Or.inr ⟨rfl, fun j hj g => by have := hmin j hj g; omega⟩⟩
        rw [LX11_fewest, BX11_fewest_0, i_4, if_pos (nI_lt (by omega) (by omega))]
      | succ m ih =>
        intro f s h2 hs hf h1s hmin F2 V2
        obtain ⟨f, rfl⟩ : ∃ k, f = k + 1 := ⟨f - 1, by omega⟩
        have st : ((1 : Int32) <<< (nI s &&& 31)) - 1 = nI (2 ^ s - 1) := by
          rcases (show s = 1 ∨ s = 2 ∨ s = 3 ∨ s = 4 by omega) with rfl | rfl | rfl | rfl <;> decide
        have Q0 : Qs s 0 (2 ^ s - 1) := by
          rcases (show s = 1 ∨ s = 2 ∨ s = 3 ∨ s = 4 by omega) with rfl | rfl | rfl | rfl
          · exact walk_all.1.1
          · exact walk_all.1.2.1
          · exact walk_all.1.2.2.1
          · exact walk_all.1.2.2.2
        have rg : 1 ≤ 2 ^ s - 1 ∧ 2 ^ s - 1 < 65536 := by
          rcases (show s = 1 ∨ s = 2 ∨ s = 3 ∨ s = 4 by omega) with rfl | rfl | rfl | rfl <;> decide
        obtain ⟨r, h3, e3, F3, V3, R⟩ := leastPins_L (H.f45 (FR.refl _ _)) (x &&& 65535) h1s (by omega) 65536 big (2 ^ s - 1) 0 h2 (by omega) (by decide) (by omega) (by omega) (fun q => (Q0.2 q).1) (fun j hj hj2 hb => absurd hb (Q0.1 j (Nat.zero_le _) hj2 hj)) F2 V2
        have el : fX11_leastPins h2 (nI s) (free9 w) (x &&& 65535) = some (r, h3) := by
          unfold fX11_leastPins
          rw [st]
          exact e3
        rw [LX11_fewest, BX11_fewest_0, i_4, if_neg (nI_nlt (by omega) (by omega)), el, cl2_some, nI_1]
        simp only [lt9_e]
        rcases R with ⟨d, hd, gd1, bd, rfl, md⟩ | ⟨rfl, mn⟩
        · rw [if_neg (fun q => by have := nI_pos (n := d) (by omega); rw [q] at this; exact this (by decide))]
          refine ⟨nI d, h3, rfl, F3, Or.inl ⟨d, hd, gd1, by omega, rfl, fun j hj g => ⟨by have := hmin j hj g; omega, fun eb => ?_⟩⟩⟩
          apply Nat.le_of_not_lt
          intro q
          exact md j q (by omega) g
        · rw [if_pos rfl]
          exact ih f (s + 1) h3 (by omega) (by omega) (by omega) (fun j hj g => by
            have := hmin j hj g
            by_cases q : bcN j = s
            · exact absurd g (mn j hj q)
            · omega) F3 V3
    exact key 4 big 1 h1 rfl (by decide) (by decide) (fun j hj g => by
      apply Nat.pos_of_ne_zero
      intro q
      have := bc_zero hj q
      subst this
      apply c
      have := g.2
      rw [z7] at this
      exact this) F1 V1
theorem fewest_m {h : Hp} {w : Nat → Int32} (G : GW w) (HM : lawM w) (hw : h 209 = w) (due : Int32) : ∃ r h', LX12_fewest big h due (free9 w) (-1) 5 0 = some (r, h') ∧ FI cT h h' ∧ FW w due r := by
  obtain ⟨r, e, q1, q2⟩ := loop0 (σ := Hp × Int32 × Int32) (ρ := Int32 × Hp) 65536 (fun m i s => LX12_fewest m s.1 due (free9 w) s.2.1 s.2.2 (nI i)) (fun i s => FI cT h s.1 ∧ ((s.2.2 = nI 5 ∧ s.2.1 = -1 ∧ ∀ j, j < i → gdF w due j → 5 ≤ bcN j) ∨ ∃ d, d < i ∧ gdF w due d ∧ bcN d ≤ 4 ∧ s.2.1 = nI d ∧ s.2.2 = nI (bcN d) ∧ ∀ j, j < i → gdF w due j → bcN d ≤ bcN j ∧ (bcN j = bcN d → d ≤ j))) (fun r => FI cT h r.2 ∧ FW w due r.1) (h, -1, 5) (by decide) ⟨FI.refl _ _, Or.inl ⟨rfl, rfl, fun j hj => by omega⟩⟩ (by
    rintro m i ⟨h1, best, many⟩ hi ⟨a1, a2⟩
    left
    dsimp only at a1 a2 ⊢
    have w1 : h1 209 = w := by rw [cT_209 a1]; exact hw
    have bl : bcN i ≤ 16 := by rw [bcN_eq hi, ← cnt_n (by omega)]; exact cntB_le _ 16
    obtain ⟨mn, hmn, emn, skip, take⟩ : ∃ mn, mn ≤ 5 ∧ many = nI mn ∧ ((gdF w due i → mn ≤ bcN i) → ((many = nI 5 ∧ best = -1 ∧ ∀ j, j < i + 1 → gdF w due j → 5 ≤ bcN j) ∨ ∃ d, d < i + 1 ∧ gdF w due d ∧ bcN d ≤ 4 ∧ best = nI d ∧ many = nI (bcN d) ∧ ∀ j, j < i + 1 → gdF w due j → bcN d ≤ bcN j ∧ (bcN j = bcN d → d ≤ j))) ∧ (gdF w due i → bcN i < mn → ∀ j, j < i + 1 → gdF w due j → bcN i ≤ bcN j ∧ (bcN j = bcN i → i ≤ j)) := by
      rcases a2 with ⟨b1, b2, b3⟩ | ⟨d, hd, g1, b1, b2, b3, b4⟩
      · refine ⟨5, by decide, b1, fun q => Or.inl ⟨b1, b2, fun j hj g => ?_⟩, fun g lt j hj gj => ?_⟩
        · by_cases c : j = i
          · rw [c] at g ⊢; exact q g
          · exact b3 j (by omega) g
        · by_cases c : j = i
          · rw [c]; exact ⟨Nat.le_refl _, fun _ => Nat.le_refl _⟩
          · have := b3 j (by omega) gj
            exact ⟨by omega, fun _ => by omega⟩
      · refine ⟨bcN d, by omega, b3, fun q => Or.inr ⟨d, by omega, g1, b1, b2, b3, fun j hj g => ?_⟩, fun g lt j hj gj => ?_⟩
        · by_cases c : j = i
          · rw [c] at g ⊢; exact ⟨q g, fun _ => by omega⟩
          · exact b4 j (by omega) g
        · by_cases c : j = i
          · rw [c]; exact ⟨Nat.le_refl _, fun _ => Nat.le_refl _⟩
          · have := b4 j (by omega) gj
            exact ⟨by omega, fun _ => by omega⟩
    rw [LX12_fewest, BX12_fewest_0, i_65535, if_neg (nI_nlt (by omega) (by omega)), bitCount_N hi, nI_1]
    unfold fX12_pins
    simp only [lt9_e]
    by_cases q1 : nI i &&& (free9 w ^^^ (-1)) = 0
    · rw [if_pos q1, emn]
      by_cases q2 : mn ≤ bcN i
      · rw [if_pos (nI_le q2 (by omega)), cl9_some]
        exact ⟨(h1, best, many), ⟨a1, skip (fun _ => q2)⟩, by rw [emn]; rfl⟩
      · rw [if_neg (nI_ge (by omega) (by omega)), cl9_some, if_pos rfl, w1]
        have hS : S16 (nI i) := fun p hp => by
          rw [has9_n (by omega), Nat.div_eq_of_lt (Nat.lt_of_lt_of_le (show i < 2 ^ 16 by omega) (Nat.pow_le_pow_right (by decide) hp))]; rfl
        obtain ⟨h2, e2, F2, -⟩ := standingWith_m (S16_or G.pins hS) G HM w1
        rw [e2, cl2_some]
        by_cases q3 : due &&& (stNow w (w 7 ||| nI i) ^^^ (-1)) = 0
        · rw [if_pos q3]
          exact ⟨(h2, nI i, nI (bcN i)), ⟨a1.trans F2, Or.inr ⟨i, by omega, ⟨q1, q3⟩, by omega, rfl, rfl, take ⟨q1, q3⟩ (by omega)⟩⟩, rfl⟩
        · rw [if_neg q3]
          exact ⟨(h2, best, many), ⟨a1.trans F2, skip (fun g => absurd g.2 q3)⟩, by rw [emn]⟩
    · rw [if_neg q1, cl9_some]
      exact ⟨(h1, best, many), ⟨a1, skip (fun g => absurd g.1 q1)⟩, rfl⟩) (by
    rintro m ⟨h1, best, many⟩ ⟨a1, a2⟩
    dsimp only at a1 a2
    refine ⟨(best, h1), ?_, a1, ?_⟩
    · try dsimp only
      rw [LX12_fewest, BX12_fewest_0, i_65535, if_pos (nI_lt (by omega) (by omega))]
    · rcases a2 with ⟨b1, b2, b3⟩ | ⟨d, hd, g1, b1, b2, b3, b4⟩
      · exact Or.inr ⟨b2, b3⟩
      · exact Or.inl ⟨d, hd, g1, b1, b2, b4⟩)
  exact ⟨r.1, r.2, e, q1, q2⟩
theorem fewest_N {h : Hp} {σ : St} (C : RC h σ) (x : Int32) : OpN h σ (fX11_fewest h x) (fun ha => fX12_fewest ha x) := by
  obtain ⟨r, h1, e1, F1, W1⟩ := fewest_x C.cs x
  refine opN_ask C e1 (a45 F1) (fun ha M => ?_)
  obtain ⟨r2, h2, e2, F2, W2⟩ := fewest_m C.cs.2.1 C.cs.2.2.1 (w00 M 0 0) (x &&& 65535)
  refine ⟨h2, ?_, (a0 (j := 0) ha 0 (by omega)).trans (aT F2)⟩
  unfold fX12_fewest
  simp only [lt9_e]
  rw [free_m (w00 M 0 0), e2, FW_one W1 W2]

/-! The lowest and the highest bit; round; duke. -/
theorem has9_tb {n p : Nat} (h : n < 2 ^ 32) : has9 (nI n) p = n.testBit p := by
  unfold has9
  show (BitVec.ofNat 32 n).getLsbD p = _
  rw [← BitVec.testBit_toNat, BitVec.toNat_ofNat, Nat.mod_eq_of_lt h]
def ntzX (x1 : Int32) : Option Int32 := (if (0 : Int32) < x1 then cl2 ((if x1 ≤ (65536 : Int32) then some (x1, (1 : Int32)) else lt9 ((1 : Int32) + (16 : Int32)) (fun x8 => lt9 (ushr x1 (16 : Int32)) (fun x9 => some (x9, x8)))) : Option (Int32 × Int32)) (fun x3 x4 => cl2 ((if x3 ≤ (256 : Int32) then some (x3, x4) else lt9 (x4 + (8 : Int32)) (fun x15 => lt9 (ushr x3 (8 : Int32)) (fun x16 => some (x16, x15)))) : Option (Int32 × Int32)) (fun x10 x11 => cl2 ((if x10 ≤ (16 : Int32) then some (x10, x11) else lt9 (x11 + (4 : Int32)) (fun x22 => lt9 (ushr x10 (4 : Int32)) (fun x23 => some (x23, x22)))) : Option (Int32 × Int32)) (fun x17 x18 => (if x17 ≤ (4 : Int32) then some (x18 + (ushr x17 (1 : Int32))) else lt9 (x18 + (2 : Int32)) (fun x25 => lt9 (ushr x17 (2 : Int32)) (fun x26 => some (x25 + (ushr x26 (1 : Int32))))))))) else some (x1 &&& (32 : Int32)))
theorem ntz_X (h : Hp) (a : Int32) : fJ_numberOfTrailingZeros h a = ntzX ((a ^^^ (-1 : Int32)) &&& (a - (1 : Int32))) := rfl
theorem ntzX_all : ∀ l : Fin 16, ntzX (nI (2 ^ l.val - 1)) = some (nI l.val) := by decide +kernel
theorem loB (h : Hp) {S : Int32} (hS : S16 S) (h0 : S ≠ 0) : ∃ l, l < 16 ∧ fJ_numberOfTrailingZeros h S = some (nI l) ∧ has9 S l = true ∧ ∀ q, q < l → has9 S q = false := by
  obtain ⟨n, hn, rfl⟩ := S16_nat hS
  have ex : ∃ k, has9 (nI n) k = true := by
    apply Classical.byContradiction
    intro c
    apply h0
    apply has9_ext
    intro p hp
    rw [has9_0]
    cases d : has9 (nI n) p with
    | false => rfl
    | true => exact absurd ⟨p, d⟩ c
  obtain ⟨l, hl, hlt⟩ := pk_least (fun k => has9 (nI n) k = true) ex
  have l16 : l < 16 := by
    apply Nat.lt_of_not_le
    intro c
    rw [hS l c] at hl; cases hl
  have tl : n.testBit l = true := by rw [← has9_tb (by omega)]; exact hl
  have tq : ∀ q, q < l → n.testBit q = false := fun q hq => by
    rw [← has9_tb (by omega)]
    cases d : has9 (nI n) q with
    | false => rfl
    | true => exact absurd d (hlt q hq)
  have m0 : n % 2 ^ l = 0 := by
    apply Nat.eq_of_testBit_eq
    intro i
    rw [Nat.testBit_mod_two_pow, Nat.zero_testBit]
    by_cases c : i < l
    · rw [tq i c]; simp
    · simp [c]
  have od : n / 2 ^ l % 2 = 1 := by
    rw [Nat.testBit_eq_decide_div_mod_eq] at tl
    simpa using tl
  have hm : ∃ m, n = 2 ^ (l + 1) * m + 2 ^ l := by
    refine ⟨n / 2 ^ l / 2, ?_⟩
    have e1 := Nat.div_add_mod n (2 ^ l)
    have e2 := Nat.div_add_mod (n / 2 ^ l) 2
    rw [m0] at e1
    rw [od] at e2
    have e3 : 2 ^ (l + 1) * (n / 2 ^ l / 2) = 2 ^ l * (2 * (n / 2 ^ l / 2)) := by rw [Nat.pow_succ, Nat.mul_assoc]
    rw [e3]
    have e4 : 2 ^ l * (n / 2 ^ l) = 2 ^ l * (2 * (n / 2 ^ l / 2)) + 2 ^ l := by
      conv => lhs; rw [← e2, Nat.mul_add, Nat.mul_one]
    omega
  obtain ⟨m, em⟩ := hm
  have p2 : 0 < 2 ^ l := Nat.two_pow_pos l
  have lt1 : 2 ^ l < 2 ^ (l + 1) := by rw [Nat.pow_succ]; omega
  have lt2 : 2 ^ l ≤ 2 ^ 15 := Nat.pow_le_pow_right (by decide) (by omega)
  have X : (nI n ^^^ (-1 : Int32)) &&& (nI n - 1) = nI (2 ^ l - 1) := by
    have e1 : nI n - 1 = nI (n - 1) := by rw [i_1, nI_subN (by omega)]
    rw [e1]
    apply has9_ext
    intro j hj
    rw [has9_and, has9_cpl _ hj, has9_tb (by omega), has9_tb (by omega), has9_tb (by omega), Nat.testBit_two_pow_sub_one]
    have en : n.testBit j = if j < l + 1 then (2 ^ l).testBit j else m.testBit (j - (l + 1)) := by rw [em, Nat.testBit_two_pow_mul_add m lt1]
    have en1 : (n - 1).testBit j = if j < l + 1 then (2 ^ l - 1).testBit j else m.testBit (j - (l + 1)) := by rw [show n - 1 = 2 ^ (l + 1) * m + (2 ^ l - 1) by omega, Nat.testBit_two_pow_mul_add m (by omega)]
    rw [en, en1, Nat.testBit_two_pow_sub_one, Nat.testBit_two_pow]
    by_cases c : j < l + 1
    · rw [if_pos c, if_pos c]
      by_cases d : j < l
      · simp [d, show ¬ l = j by omega]
      · simp [d]
    · rw [if_neg c, if_neg c]
      cases m.testBit (j - (l + 1)) <;> simp <;> omega
  refine ⟨l, l16, ?_, hl, fun q hq => ?_⟩
  · rw [ntz_X, X]
    exact ntzX_all ⟨l, l16⟩
  · rw [has9_tb (by omega)]; exact tq q hq
def nlzX (x9 x10 : Int32) : Option Int32 := cl2 ((if x9 < (16 : Int32) then some (x9, x10) else lt9 (x10 + (-4 : Int32)) (fun x21 => lt9 (ushr x9 (4 : Int32)) (fun x22 => some (x22, x21)))) : Option (Int32 × Int32)) (fun x16 x17 => (if x16 < (4 : Int32) then some (x17 - (ushr x16 (1 : Int32))) else lt9 (x17 + (-2 : Int32)) (fun x24 => lt9 (ushr x16 (2 : Int32)) (fun x25 => some (x24 - (ushr x25 (1 : Int32)))))))
theorem nlzX_a : ∀ a : Fin 256, a.val ≠ 0 → nlzX (nI a.val) 31 = some (nI (31 - Nat.log2 a.val)) := by decide +kernel
theorem nlzX_b : ∀ a : Fin 256, a.val ≠ 0 → nlzX (nI a.val) 23 = some (nI (31 - (8 + Nat.log2 a.val))) := by decide +kernel
theorem nlz_n (h : Hp) {n : Nat} (hn : n < 65536) (h0 : n ≠ 0) : ∃ k, k < 16 ∧ fJ_numberOfLeadingZeros h (nI n) = some (nI (31 - k)) ∧ 2 ^ k ≤ n ∧ n < 2 ^ (k + 1) := by
  have e1 : fJ_numberOfLeadingZeros h (nI n) = cl2 ((if nI n < (256 : Int32) then some (nI n, (31 : Int32)) else some (ushr (nI n) (8 : Int32), (31 : Int32) + (-8 : Int32))) : Option (Int32 × Int32)) nlzX := by
    unfold fJ_numberOfLeadingZeros
    rw [if_pos (show (0 : Int32) < nI n from nI_lt (a := 0) (by omega) (by omega)), if_pos (show nI n < (65536 : Int32) from nI_lt (b := 65536) hn (by decide)), cl2_some]
    rfl
  rw [e1]
  by_cases c : n < 256
  · rw [if_pos (show nI n < (256 : Int32) from nI_lt (b := 256) c (by decide)), cl2_some]
    have l1 := Nat.log2_self_le h0
    have l2 := @Nat.lt_log2_self n
    have l3 : Nat.log2 n < 8 := by
      apply Nat.lt_of_not_le
      intro q
      have : 2 ^ 8 ≤ 2 ^ Nat.log2 n := Nat.pow_le_pow_right (by decide) q
      omega
    exact ⟨Nat.log2 n, by omega, nlzX_a ⟨n, c⟩ h0, l1, l2⟩
  · rw [if_neg (show ¬ nI n < (256 : Int32) from nI_nlt (b := 256) (by omega) (by omega)), cl2_some, ushr_n (by omega) 8 8 (by decide), show (31 : Int32) + (-8 : Int32) = 23 from by decide]
    have h1 : n / 2 ^ 8 < 256 := by omega
    have h2 : n / 2 ^ 8 ≠ 0 := by omega
    have l1 := Nat.log2_self_le h2
    have l2 := @Nat.lt_log2_self (n / 2 ^ 8)
    have l3 : Nat.log2 (n / 2 ^ 8) < 8 := by
      apply Nat.lt_of_not_le
      intro q
      have : 2 ^ 8 ≤ 2 ^ Nat.log2 (n / 2 ^ 8) := Nat.pow_le_pow_right (by decide) q
      omega
    refine ⟨8 + Nat.log2 (n / 2 ^ 8), by omega, nlzX_b ⟨n / 2 ^ 8, h1⟩ h2, ?_, ?_⟩
    · rw [Nat.pow_add]
      have := Nat.mul_le_mul_left (2 ^ 8) l1
      have h3 := Nat.div_add_mod n (2 ^ 8)
      omega
    · rw [show 8 + Nat.log2 (n / 2 ^ 8) + 1 = 8 + (Nat.log2 (n / 2 ^ 8) + 1) by omega, Nat.pow_add]
      have : 2 ^ 8 * (n / 2 ^ 8 + 1) ≤ 2 ^ 8 * 2 ^ (Nat.log2 (n / 2 ^ 8) + 1) := Nat.mul_le_mul_left (2 ^ 8) l2
      have h3 := Nat.div_add_mod n (2 ^ 8)
      have h4 : n % 2 ^ 8 < 2 ^ 8 := Nat.mod_lt _ (by decide)
      rw [Nat.mul_add, Nat.mul_one] at this
      omega
theorem hiB (h : Hp) {S : Int32} (hS : S16 S) (h0 : S ≠ 0) : ∃ k, k < 16 ∧ fJ_numberOfLeadingZeros h S = some (nI (31 - k)) ∧ has9 S k = true ∧ ∀ q, k < q → has9 S q = false := by
  obtain ⟨n, hn, rfl⟩ := S16_nat hS
  have n0 : n ≠ 0 := fun q => h0 (by rw [q]; rfl)
  obtain ⟨k, hk, e, l1, l2⟩ := nlz_n h hn n0
  refine ⟨k, hk, e, ?_, fun q hq => ?_⟩
  · rw [has9_n (by omega), Nat.div_eq_of_lt_le (k := 1) (by omega) (by rw [Nat.pow_succ] at l2; omega)]
    rfl
  · rw [has9_n (by omega), Nat.div_eq_of_lt]
    · rfl
    · exact Nat.lt_of_lt_of_le l2 (Nat.pow_le_pow_right (by decide) hq)
def rndV (p lo hi : Nat) (z : Int32) : Int32 := if z = 0 then ((nI p - nI lo) + (nI hi - nI p)) + jmin (nI p - nI lo) (nI hi - nI p) else if nI p - nI lo = 0 then nI hi else if nI hi - nI p = 0 then nI lo else if nI p - nI lo < nI hi - nI p then nI hi else nI lo
theorem rnd_last {p lo hi : Nat} (h1 : lo ≤ p) (h2 : p ≤ hi) (h3 : hi < 16) : (if nI p - nI lo = 0 then nI hi else if nI hi - nI p = 0 then nI lo else if nI p - nI lo < nI hi - nI p then nI hi else nI lo) = if nI p - nI lo < nI hi - nI p then nI hi else nI lo := by
  rw [nI_subN h1, nI_subN h2]
  by_cases q : p - lo < hi - p
  · have a := nI_lt q (by omega)
    have b := nI_lt (show 0 < hi - p by omega) (by omega)
    by_cases d2 : nI (p - lo) = 0
    · rw [if_pos d2, if_pos a]
    · by_cases d3 : nI (hi - p) = 0
      · rw [d3] at b
        exact absurd b (by decide)
      · rw [if_neg d2, if_neg d3]
  · have a := nI_nlt (show hi - p ≤ p - lo by omega) (by omega)
    by_cases d2 : nI (p - lo) = 0
    · have e : p - lo = 0 := by
        apply Classical.byContradiction
        intro c
        have b := nI_lt (show 0 < p - lo by omega) (by omega)
        rw [d2] at b
        exact absurd b (by decide)
      rw [if_pos d2, if_neg a]
      exact congrArg nI (by omega)
    · rw [if_neg d2, if_neg a]
      exact ite_self _
theorem round_T {h : Hp} {σ : St} (C : RC h σ) (x y z : Int32) : OpT h σ [(1, 1)] (fX11_round h x y z) (fun ha => fX12_round ha x y z) := by
  have H := C.cs
  obtain ⟨n, hn, en⟩ := H.2.1.n0
  have e0 : h 37 0 = nI n := by rw [← en]; exact H.f0
  rcases pinner_cases x hn e0 with ⟨c1, c2⟩ | ⟨k, hk, rfl, c1, c2⟩
  · exact thr_T C 1 1 (by simp) (by decide) (by unfold fX11_round; rw [c1]; rfl) (fun ha w => by unfold fX12_round; simp only [lt9_e]; rw [c2 _ (by rw [up2_n _ _ _ (by decide), w]; exact en)]; rfl)
  · have hk5 : k < 5 := by omega
    obtain ⟨p, hp1, ep⟩ := H.2.1.spot hk5
    have hp : p < 16 := by omega
    have S1 : S16 (y &&& 65535) := S16_and' S16_all
    have S2 : S16 ((y &&& 65535) ||| bit9 p) := S16_or S1 (S16_bit hp)
    have hb : has9 ((y &&& 65535) ||| bit9 p) p = true := by rw [has9_or, has9_bit (by omega)]; simp
    have n2 : (y &&& 65535) ||| bit9 p ≠ 0 := fun q => by rw [q, has9_0] at hb; cases hb
    obtain ⟨lo, hlo, elo, lo1, lo2⟩ := loB h S2 n2
    obtain ⟨hi, hhi, ehi, hi1, hi2⟩ := hiB h S2 n2
    have bits : ∀ q, has9 ((y &&& 65535) ||| bit9 p) q = (has9 (y &&& 65535) q || decide (q = p)) := fun q => by rw [has9_or, has9_bit (by omega)]
    have lop : lo ≤ p := by
      apply Nat.le_of_not_lt; intro c
      rw [lo2 p c] at hb; cases hb
    have hip : p ≤ hi := by
      apply Nat.le_of_not_lt; intro c
      rw [hi2 p c] at hb; cases hb
    refine opT_ask C (r := rndV p lo hi z) (k := 0) (c := 0) (h1 := h) ?_ (by simp) (FR.refl _ _) (fun ha M => ⟨_, up2 ha 208 0 0, ?_, a0 (j := 0) ha 0 (by omega), z00 ha, fun _ => rfl⟩)
    · unfold fX11_round rndV
      rw [c1, if_pos rfl, gd_in hk5 (by decide), nI_clamp (by omega), H.spot hk5, ep, bit9_def]
      simp only [lt9_e]
      have e31 : (31 : Int32) - nI (31 - hi) = nI hi := by rw [i_31, nI_subN (by omega)]; exact congrArg nI (by omega)
      rw [elo, cl9_some, ehi, cl9_some, e31]
      by_cases d1 : z = 0
      · rw [if_pos d1, if_pos d1]
      · rw [if_neg d1, if_neg d1]
        rw [rnd_last lop hip hhi]
        by_cases d4 : nI p - nI lo < nI hi - nI p
        · rw [if_pos d4, if_pos d4]
        · rw [if_neg d4, if_neg d4]
    · have low : fX12_lowestOf (up2 ha 208 0 0) (y &&& 65535) (nI p) = some (nI lo) := by
        unfold fX12_lowestOf
        by_cases c : y &&& 65535 = 0
        · rw [if_pos c]
          rw [bits, c, has9_0] at lo1
          simp at lo1
          rw [lo1]
        · rw [if_neg c]
          obtain ⟨l, hl, el, l1, l2⟩ := loB (up2 ha 208 0 0) S1 c
          rw [el, cl9_some, jmin_n (by omega) (by omega)]
          have : lo ≤ l := by
            apply Nat.le_of_not_lt; intro q
            have := lo2 l q
            rw [bits, l1] at this; cases this
          rw [bits] at lo1
          simp at lo1
          have e3 : min p l = lo := by
            rcases lo1 with q | q
            · have : l ≤ lo := by
                apply Nat.le_of_not_lt; intro q2
                rw [l2 lo q2] at q; cases q
              omega
            · omega
          rw [e3]
      have high : fX12_highestOf (up2 ha 208 0 0) (y &&& 65535) (nI p) = some (nI hi) := by
        unfold fX12_highestOf
        by_cases c : y &&& 65535 = 0
        · rw [if_pos c]
          rw [bits, c, has9_0] at hi1
          simp at hi1
          rw [hi1]
        · rw [if_neg c]
          obtain ⟨l, hl, el, l1, l2⟩ := hiB (up2 ha 208 0 0) S1 c
          rw [el, cl9_some, i_31, nI_subN (by omega), show 31 - (31 - l) = l by omega, jmax_n (by omega) (by omega)]
          have : l ≤ hi := by
            apply Nat.le_of_not_lt; intro q
            have := hi2 l q
            rw [bits, l1] at this; cases this
          rw [bits] at hi1
          simp at hi1
          have e3 : max p l = hi := by
            rcases hi1 with q | q
            · have : hi ≤ l := by
                apply Nat.le_of_not_lt; intro q2
                rw [l2 hi q2] at q; cases q
              omega
            · omega
          rw [e3]
      unfold fX12_round rndV
      simp only [lt9_e]
      rw [c2 _ (by rw [w00 M 0 0]; exact en), throws_0, cl2_some, if_pos rfl, of_0 (w00 M 0 0) hk5, cl9_some, ep, low, cl9_some, high, cl9_some]
      by_cases d1 : z = 0
      · rw [if_pos d1, if_pos d1]
      · rw [if_neg d1, if_neg d1]
        by_cases d2 : nI p - nI lo = 0
        · rw [if_pos d2, if_pos d2]
        · rw [if_neg d2, if_neg d2]
          by_cases d3 : nI hi - nI p = 0
          · rw [if_pos d3, if_pos d3]
          · rw [if_neg d3, if_neg d3]
            by_cases d4 : nI p - nI lo < nI hi - nI p
            · rw [if_pos d4, if_pos d4]
            · rw [if_neg d4, if_neg d4]

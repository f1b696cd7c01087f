/-! Bits counted. -/
theorem nI_and (a b : Nat) : nI a &&& nI b = nI (a &&& b) := by
  apply Int32.toBitVec_inj.mp
  rw [Int32.toBitVec_and]
  show BitVec.ofNat 32 a &&& BitVec.ofNat 32 b = BitVec.ofNat 32 (a &&& b)
  exact (BitVec.ofNat_and).symm
theorem ushr_n {n : Nat} (hn : n < 2 ^ 32) (s : Int32) (k : Nat) (hs : ((s.toUInt32 &&& Int32.toUInt32 31).toBitVec % 32).toNat = k) : ushr (nI n) s = nI (n / 2 ^ k) := pk_ushrN hn s k hs
theorem bitCount_N {n : Nat} (h : n < 65536) : fJ_bitCount (nI n) = nI (bcN n) := by
  have a0 : (n / 2) &&& 1431655765 ≤ n / 2 := Nat.and_le_left
  have h1 : bc1 n ≤ n := Nat.sub_le _ _
  have h2 : bc2 (bc1 n) ≤ 2 * n := by
    have q1 : bc1 n &&& 858993459 ≤ bc1 n := Nat.and_le_left
    have q2 : (bc1 n / 4) &&& 858993459 ≤ bc1 n / 4 := Nat.and_le_left
    unfold bc2
    omega
  have h3 : bc3 (bc2 (bc1 n)) ≤ 4 * n := by
    have q1 : (bc2 (bc1 n) + bc2 (bc1 n) / 16) &&& 252645135 ≤ bc2 (bc1 n) + bc2 (bc1 n) / 16 := Nat.and_le_left
    unfold bc3
    omega
  have h4 : bc4 (bc3 (bc2 (bc1 n))) ≤ 8 * n := by
    unfold bc4
    omega
  unfold fJ_bitCount
  simp only [lt9_e]
  rw [ushr_n (by omega) 1 1 (by decide), show (1431655765 : Int32) = nI 1431655765 from rfl, nI_and, nI_subN (Nat.le_trans Nat.and_le_left (Nat.div_le_self _ _))]
  have e1 : nI (n - (n / 2 ^ 1 &&& 1431655765)) = nI (bc1 n) := rfl
  rw [e1, ushr_n (by omega) 2 2 (by decide), show (858993459 : Int32) = nI 858993459 from rfl, nI_and, nI_and, nI_add]
  have e2 : nI ((bc1 n &&& 858993459) + (bc1 n / 2 ^ 2 &&& 858993459)) = nI (bc2 (bc1 n)) := rfl
  rw [e2, ushr_n (by omega) 4 4 (by decide), nI_add, show (252645135 : Int32) = nI 252645135 from rfl, nI_and]
  have e3 : nI (bc2 (bc1 n) + bc2 (bc1 n) / 2 ^ 4 &&& 252645135) = nI (bc3 (bc2 (bc1 n))) := rfl
  rw [e3, ushr_n (by omega) 8 8 (by decide), nI_add]
  have e4 : nI (bc3 (bc2 (bc1 n)) + bc3 (bc2 (bc1 n)) / 2 ^ 8) = nI (bc4 (bc3 (bc2 (bc1 n)))) := rfl
  rw [e4, ushr_n (by omega) 16 16 (by decide), nI_add, show (63 : Int32) = nI 63 from rfl, nI_and]
  rfl
theorem has9_n {n p : Nat} (h : n < 2 ^ 32) : has9 (nI n) p = decide (n / 2 ^ p % 2 = 1) := by
  unfold has9
  show (BitVec.ofNat 32 n).getLsbD p = _
  rw [← BitVec.testBit_toNat, BitVec.toNat_ofNat, Nat.mod_eq_of_lt h, Nat.testBit_eq_decide_div_mod_eq]
theorem cnt_n {n : Nat} (h : n < 2 ^ 32) : cntB (has9 (nI n)) 16 = ctN n := by
  have e : ∀ p, (if has9 (nI n) p then 1 else 0) = n / 2 ^ p % 2 := by
    intro p
    rw [has9_n h]
    rcases Nat.mod_two_eq_zero_or_one (n / 2 ^ p) with q | q <;> simp [q]
  unfold ctN
  simp only [cntB, e]
  simp
theorem S16_nat {S : Int32} (h : S16 S) : ∃ n, n < 65536 ∧ S = nI n := by
  refine ⟨S.toBitVec.toNat, ?_, ?_⟩
  · apply Nat.lt_pow_two_of_testBit (n := 16)
    intro i hi
    have := h i hi
    unfold has9 at this
    exact this
  · apply Int32.toBitVec_inj.mp
    show S.toBitVec = BitVec.ofNat 32 S.toBitVec.toNat
    rw [BitVec.ofNat_toNat, BitVec.setWidth_eq]
theorem bitCount_n {S : Int32} (h : S16 S) : fJ_bitCount S = nI (cntB (has9 S) 16) := by
  obtain ⟨n, hn, rfl⟩ := S16_nat h
  rw [bitCount_N hn, bcN_eq hn, cnt_n (by omega)]

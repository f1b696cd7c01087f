/-! How many bits. -/
def cntB (f : Nat → Bool) : Nat → Nat
  | 0 => 0
  | n + 1 => cntB f n + (if f n then 1 else 0)
theorem cntB_s (f : Nat → Bool) (n : Nat) : cntB f (n + 1) = cntB f n + (if f n then 1 else 0) := rfl
theorem cntB_cong {f g : Nat → Bool} : ∀ {n : Nat}, (∀ p, p < n → f p = g p) → cntB f n = cntB g n
  | 0, _ => rfl
  | n + 1, h => by
    unfold cntB
    rw [cntB_cong (n := n) (fun p hp => h p (by omega)), h n (by omega)]
theorem cntB_le (f : Nat → Bool) : ∀ n, cntB f n ≤ n
  | 0 => Nat.le_refl _
  | n + 1 => by
    have := cntB_le f n
    unfold cntB
    cases f n <;> simp <;> omega
def bc1 (n : Nat) : Nat := n - ((n / 2) &&& 1431655765)
def bc2 (n : Nat) : Nat := (n &&& 858993459) + ((n / 4) &&& 858993459)
def bc3 (n : Nat) : Nat := (n + n / 16) &&& 252645135
def bc4 (n : Nat) : Nat := n + n / 256
def bc5 (n : Nat) : Nat := (n + n / 65536) &&& 63
def bcN (n : Nat) : Nat := bc5 (bc4 (bc3 (bc2 (bc1 n))))
def ctN (n : Nat) : Nat := n % 2 + n / 2 % 2 + n / 4 % 2 + n / 8 % 2 + n / 16 % 2 + n / 32 % 2 + n / 64 % 2 + n / 128 % 2 + n / 256 % 2 + n / 512 % 2 + n / 1024 % 2 + n / 2048 % 2 + n / 4096 % 2 + n / 8192 % 2 + n / 16384 % 2 + n / 32768 % 2
def allB (f : Nat → Bool) : Nat → Bool
  | 0 => true
  | n + 1 => f n && allB f n
theorem allB_of {f : Nat → Bool} : ∀ {n : Nat}, allB f n = true → ∀ i, i < n → f i = true
  | 0, _, i, hi => by omega
  | n + 1, h, i, hi => by
    unfold allB at h
    rw [Bool.and_eq_true] at h
    by_cases c : i = n
    · rw [c]; exact h.1
    · exact allB_of h.2 i (by omega)
theorem bc_c0 : allB (fun i => Nat.beq (bcN (0 + i)) (ctN (0 + i))) 4096 = true := by decide +kernel
theorem bc_c1 : allB (fun i => Nat.beq (bcN (4096 + i)) (ctN (4096 + i))) 4096 = true := by decide +kernel
theorem bc_c2 : allB (fun i => Nat.beq (bcN (8192 + i)) (ctN (8192 + i))) 4096 = true := by decide +kernel
theorem bc_c3 : allB (fun i => Nat.beq (bcN (12288 + i)) (ctN (12288 + i))) 4096 = true := by decide +kernel
theorem bc_c4 : allB (fun i => Nat.beq (bcN (16384 + i)) (ctN (16384 + i))) 4096 = true := by decide +kernel
theorem bc_c5 : allB (fun i => Nat.beq (bcN (20480 + i)) (ctN (20480 + i))) 4096 = true := by decide +kernel
theorem bc_c6 : allB (fun i => Nat.beq (bcN (24576 + i)) (ctN (24576 + i))) 4096 = true := by decide +kernel
theorem bc_c7 : allB (fun i => Nat.beq (bcN (28672 + i)) (ctN (28672 + i))) 4096 = true := by decide +kernel
theorem bc_c8 : allB (fun i => Nat.beq (bcN (32768 + i)) (ctN (32768 + i))) 4096 = true := by decide +kernel
theorem bc_c9 : allB (fun i => Nat.beq (bcN (36864 + i)) (ctN (36864 + i))) 4096 = true := by decide +kernel
theorem bc_c10 : allB (fun i => Nat.beq (bcN (40960 + i)) (ctN (40960 + i))) 4096 = true := by decide +kernel
theorem bc_c11 : allB (fun i => Nat.beq (bcN (45056 + i)) (ctN (45056 + i))) 4096 = true := by decide +kernel
theorem bc_c12 : allB (fun i => Nat.beq (bcN (49152 + i)) (ctN (49152 + i))) 4096 = true := by decide +kernel
theorem bc_c13 : allB (fun i => Nat.beq (bcN (53248 + i)) (ctN (53248 + i))) 4096 = true := by decide +kernel
theorem bc_c14 : allB (fun i => Nat.beq (bcN (57344 + i)) (ctN (57344 + i))) 4096 = true := by decide +kernel
theorem bc_c15 : allB (fun i => Nat.beq (bcN (61440 + i)) (ctN (61440 + i))) 4096 = true := by decide +kernel
theorem bcN_eq {n : Nat} (h : n < 65536) : bcN n = ctN n := by
  have key : ∀ k, allB (fun i => Nat.beq (bcN (k + i)) (ctN (k + i))) 4096 = true → k ≤ n → n < k + 4096 → bcN n = ctN n := by
    intro k h1 h2 h3
    have := allB_of h1 (n - k) (by omega)
    rw [show k + (n - k) = n by omega] at this
    exact Nat.eq_of_beq_eq_true this
  rcases (show n < 4096 ∨ (4096 ≤ n ∧ n < 8192) ∨ (8192 ≤ n ∧ n < 12288) ∨ (12288 ≤ n ∧ n < 16384) ∨ (16384 ≤ n ∧ n < 20480) ∨ (20480 ≤ n ∧ n < 24576) ∨ (24576 ≤ n ∧ n < 28672) ∨ (28672 ≤ n ∧ n < 32768) ∨ (32768 ≤ n ∧ n < 36864) ∨ (36864 ≤ n ∧ n < 40960) ∨ (40960 ≤ n ∧ n < 45056) ∨ (45056 ≤ n ∧ n < 49152) ∨ (49152 ≤ n ∧ n < 53248) ∨ (53248 ≤ n ∧ n < 57344) ∨ (57344 ≤ n ∧ n < 61440) ∨ (61440 ≤ n ∧ n < 65536) by omega) with q | q | q | q | q | q | q | q | q | q | q | q | q | q | q | q
  · exact key 0 bc_c0 (by omega) (by omega)
  · exact key 4096 bc_c1 (by omega) (by omega)
  · exact key 8192 bc_c2 (by omega) (by omega)
  · exact key 12288 bc_c3 (by omega) (by omega)
  · exact key 16384 bc_c4 (by omega) (by omega)
  · exact key 20480 bc_c5 (by omega) (by omega)
  · exact key 24576 bc_c6 (by omega) (by omega)
  · exact key 28672 bc_c7 (by omega) (by omega)
  · exact key 32768 bc_c8 (by omega) (by omega)
  · exact key 36864 bc_c9 (by omega) (by omega)
  · exact key 40960 bc_c10 (by omega) (by omega)
  · exact key 45056 bc_c11 (by omega) (by omega)
  · exact key 49152 bc_c12 (by omega) (by omega)
  · exact key 53248 bc_c13 (by omega) (by omega)
  · exact key 57344 bc_c14 (by omega) (by omega)
  · exact key 61440 bc_c15 (by omega) (by omega)

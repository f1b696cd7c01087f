/-! The sets of a size, one after the other. -/
def nxN (n : Nat) : Nat := (n + (n - (n &&& (n - 1)))) ||| ((n ^^^ (n + (n - (n &&& (n - 1))))) / (4 * (n - (n &&& (n - 1)))))
def wkS (k a b c d : Nat) (f : Nat → Nat → Nat → Nat → Bool) : Bool :=
  if Nat.beq (bcN k) 1 then (Nat.beq k a && f (nxN k) b c d) else if Nat.beq (bcN k) 2 then (Nat.beq k b && f a (nxN k) c d) else if Nat.beq (bcN k) 3 then (Nat.beq k c && f a b (nxN k) d) else if Nat.beq (bcN k) 4 then (Nat.beq k d && f a b c (nxN k)) else f a b c d
def walk (A B C D : Nat) : Nat → Nat → Nat → Nat → Nat → Nat → Bool
  | 0, _, a, b, c, d => Nat.beq a A && Nat.beq b B && Nat.beq c C && Nat.beq d D
  | m + 1, k, a, b, c, d => wkS k a b c d (walk A B C D m (k + 1))
theorem wk_0 : walk 4096 4097 4099 4103 4096 0 1 3 7 15 = true := by decide +kernel
theorem wk_1 : walk 8192 8193 8195 8199 4096 4096 4096 4097 4099 4103 = true := by decide +kernel
theorem wk_2 : walk 16384 12288 12289 12291 4096 8192 8192 8193 8195 8199 = true := by decide +kernel
theorem wk_3 : walk 16384 16385 16387 16391 4096 12288 16384 12288 12289 12291 = true := by decide +kernel
theorem wk_4 : walk 32768 20480 20481 20483 4096 16384 16384 16385 16387 16391 = true := by decide +kernel
theorem wk_5 : walk 32768 24576 24577 24579 4096 20480 32768 20480 20481 20483 = true := by decide +kernel
theorem wk_6 : walk 32768 32769 28672 28673 4096 24576 32768 24576 24577 24579 = true := by decide +kernel
theorem wk_7 : walk 32768 32769 32771 32775 4096 28672 32768 32769 28672 28673 = true := by decide +kernel
theorem wk_8 : walk 65536 36864 36865 36867 4096 32768 32768 32769 32771 32775 = true := by decide +kernel
theorem wk_9 : walk 65536 40960 40961 40963 4096 36864 65536 36864 36865 36867 = true := by decide +kernel
theorem wk_10 : walk 65536 49152 45056 45057 4096 40960 65536 40960 40961 40963 = true := by decide +kernel
theorem wk_11 : walk 65536 49152 49153 49155 4096 45056 65536 49152 45056 45057 = true := by decide +kernel
theorem wk_12 : walk 65536 65537 53248 53249 4096 49152 65536 49152 49153 49155 = true := by decide +kernel
theorem wk_13 : walk 65536 65537 57344 57345 4096 53248 65536 65537 53248 53249 = true := by decide +kernel
theorem wk_14 : walk 65536 65537 65539 61440 4096 57344 65536 65537 57344 57345 = true := by decide +kernel
theorem wk_15 : walk 65536 65537 65539 65543 4096 61440 65536 65537 65539 61440 = true := by decide +kernel

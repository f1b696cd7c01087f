/-! seen, climb: the sets that could have failed -/
def SL : List Nat := [0, 1, 3, 5, 9, 17, 33, 65, 129, 257, 513, 1025, 2049, 4097, 8193, 16385, 32769, 2, 6, 10, 18, 34, 66, 130, 258, 514, 1026, 2050, 4098, 8194, 16386, 32770, 4, 12, 20, 36, 68, 132, 260, 516, 1028, 2052, 4100, 8196, 16388, 32772, 8, 24, 40, 72, 136, 264, 520, 1032, 2056, 4104, 8200, 16392, 32776, 16, 48, 80, 144, 272, 528, 1040, 2064, 4112, 8208, 16400, 32784, 32, 96, 160, 288, 544, 1056, 2080, 4128, 8224, 16416, 32800, 64, 192, 320, 576, 1088, 2112, 4160, 8256, 16448, 32832, 128, 384, 640, 1152, 2176, 4224, 8320, 16512, 32896, 256, 768, 1280, 2304, 4352, 8448, 16640, 33024, 512, 1536, 2560, 4608, 8704, 16896, 33280, 1024, 3072, 5120, 9216, 17408, 33792, 2048, 6144, 10240, 18432, 34816, 4096, 12288, 20480, 36864, 8192, 24576, 40960, 16384, 49152, 32768]
def SLp (a b : Nat) : List Nat := 0 :: ((List.range a).flatMap (fun x => (List.range' x (16 - x)).map (fun y => 2 ^ x ||| 2 ^ y)) ++ (List.range' a (b - a)).map (fun y => 2 ^ a ||| 2 ^ y))
theorem SLp_end : SLp 16 16 = SL := by decide +kernel
theorem SLp_b : ∀ a : Fin 16, ∀ b : Fin 16, a.val ≤ b.val → SLp a.val (b.val + 1) = SLp a.val b.val ++ [2 ^ a.val ||| 2 ^ b.val] ∧ (SLp a.val b.val).length < 137 := by decide +kernel
theorem SLp_a : ∀ a : Fin 16, SLp a.val 16 = SLp (a.val + 1) (a.val + 1) := by decide +kernel
theorem SL_nd : SL.Nodup := by decide +kernel
theorem SL_len : SL.length = 137 := by decide +kernel
theorem SL_all : SL.all (fun n => Nat.blt n 65536 && Nat.ble (bcN n) 2) = true := by decide +kernel
def inS (n : Nat) : Bool := if Nat.ble (bcN n) 2 then SL.any (Nat.beq n) else true
theorem inS_0 : allB (fun i => inS (0 + i)) 4096 = true := by decide +kernel
theorem inS_1 : allB (fun i => inS (4096 + i)) 4096 = true := by decide +kernel
theorem inS_2 : allB (fun i => inS (8192 + i)) 4096 = true := by decide +kernel
theorem inS_3 : allB (fun i => inS (12288 + i)) 4096 = true := by decide +kernel
theorem inS_4 : allB (fun i => inS (16384 + i)) 4096 = true := by decide +kernel
theorem inS_5 : allB (fun i => inS (20480 + i)) 4096 = true := by decide +kernel
theorem inS_6 : allB (fun i => inS (24576 + i)) 4096 = true := by decide +kernel
theorem inS_7 : allB (fun i => inS (28672 + i)) 4096 = true := by decide +kernel
theorem inS_8 : allB (fun i => inS (32768 + i)) 4096 = true := by decide +kernel
theorem inS_9 : allB (fun i => inS (36864 + i)) 4096 = true := by decide +kernel
theorem inS_10 : allB (fun i => inS (40960 + i)) 4096 = true := by decide +kernel
theorem inS_11 : allB (fun i => inS (45056 + i)) 4096 = true := by decide +kernel
theorem inS_12 : allB (fun i => inS (49152 + i)) 4096 = true := by decide +kernel
theorem inS_13 : allB (fun i => inS (53248 + i)) 4096 = true := by decide +kernel
theorem inS_14 : allB (fun i => inS (57344 + i)) 4096 = true := by decide +kernel
theorem inS_15 : allB (fun i => inS (61440 + i)) 4096 = true := by decide +kernel
theorem inS_t {n : Nat} (h : n < 65536) : inS n = true := by
  have key : ∀ k, allB (fun i => inS (k + i)) 4096 = true → k ≤ n → n < k + 4096 → inS n = true := by
    intro k h1 h2 h3
    have := allB_of h1 (n - k) (by omega)
    rw [show k + (n - k) = n by omega] at this
    exact this
  rcases (show (0 ≤ n ∧ n < 4096) ∨ (4096 ≤ n ∧ n < 8192) ∨ (8192 ≤ n ∧ n < 12288) ∨ (12288 ≤ n ∧ n < 16384) ∨ (16384 ≤ n ∧ n < 20480) ∨ (20480 ≤ n ∧ n < 24576) ∨ (24576 ≤ n ∧ n < 28672) ∨ (28672 ≤ n ∧ n < 32768) ∨ (32768 ≤ n ∧ n < 36864) ∨ (36864 ≤ n ∧ n < 40960) ∨ (40960 ≤ n ∧ n < 45056) ∨ (45056 ≤ n ∧ n < 49152) ∨ (49152 ≤ n ∧ n < 53248) ∨ (53248 ≤ n ∧ n < 57344) ∨ (57344 ≤ n ∧ n < 61440) ∨ (61440 ≤ n ∧ n < 65536) by omega) with q | q | q | q | q | q | q | q | q | q | q | q | q | q | q | q
  · exact key 0 inS_0 (by omega) (by omega)
  · exact key 4096 inS_1 (by omega) (by omega)
  · exact key 8192 inS_2 (by omega) (by omega)
  · exact key 12288 inS_3 (by omega) (by omega)
  · exact key 16384 inS_4 (by omega) (by omega)
  · exact key 20480 inS_5 (by omega) (by omega)
  · exact key 24576 inS_6 (by omega) (by omega)
  · exact key 28672 inS_7 (by omega) (by omega)
  · exact key 32768 inS_8 (by omega) (by omega)
  · exact key 36864 inS_9 (by omega) (by omega)
  · exact key 40960 inS_10 (by omega) (by omega)
  · exact key 45056 inS_11 (by omega) (by omega)
  · exact key 49152 inS_12 (by omega) (by omega)
  · exact key 53248 inS_13 (by omega) (by omega)
  · exact key 57344 inS_14 (by omega) (by omega)
  · exact key 61440 inS_15 (by omega) (by omega)
def two (n : Nat) : Bool := Nat.ble (bcN n) 2
theorem SL_mem {n : Nat} : n ∈ SL ↔ n < 65536 ∧ two n = true := by
  constructor
  · intro h
    have := List.all_eq_true.mp SL_all n h
    rw [Bool.and_eq_true] at this
    exact ⟨by have := this.1; rw [Nat.blt_eq] at this; exact this, this.2⟩
  · rintro ⟨h1, h2⟩
    have := inS_t h1
    unfold inS at this
    unfold two at h2
    rw [h2, if_pos rfl, List.any_eq_true] at this
    obtain ⟨x, hx, e⟩ := this
    rw [Nat.eq_of_beq_eq_true e]; exact hx
/-- the order of the sets is of no account -/
theorem SL_perm (ok : Nat → Bool) {P : Nat} (hP : P < 65536) (h : ∀ n, n < 65536 → ok n = true → n ≤ P) : (SL.filter ok).Perm ((List.range (P + 1)).filter (fun n => two n && ok n)) := by
  refine (List.perm_ext_iff_of_nodup (SL_nd.filter _) (List.nodup_range.filter _)).mpr (fun n => ?_)
  rw [List.mem_filter, List.mem_filter, SL_mem, List.mem_range, Bool.and_eq_true]
  constructor
  · rintro ⟨⟨h1, h2⟩, h3⟩
    exact ⟨by have := h n h1 h3; omega, h2, h3⟩
  · rintro ⟨h1, h2, h3⟩
    exact ⟨⟨by omega, h2⟩, h3⟩
theorem range_len (ok : Nat → Bool) {k : Nat} (hk : k ≤ 65536) : ((List.range k).filter (fun n => two n && ok n)).length ≤ 137 := by
  have p := (SL_perm (fun n => ok n && decide (n < k)) (P := 65535) (by decide) (fun n h _ => by omega)).length_eq
  have l1 : (SL.filter (fun n => ok n && decide (n < k))).length ≤ 137 := by rw [← SL_len]; exact List.length_filter_le _ _
  have l2 : ((List.range k).filter (fun n => two n && ok n)).length ≤ ((List.range (65535 + 1)).filter (fun n => two n && (ok n && decide (n < k)))).length := by
    have e : (List.range k).filter (fun n => two n && ok n) = (List.range k).filter (fun n => two n && (ok n && decide (n < k))) := by
      refine List.filter_congr (fun n hn => ?_)
      rw [List.mem_range] at hn
      rw [decide_eq_true hn, Bool.and_true]
    rw [e]
    exact (List.Sublist.filter _ (List.range_sublist.mpr (by omega))).length_le
  omega
/-- a list in the cells of an array -/
def AtL (f : Nat → Int32) (l : List Nat) : Prop := ∀ i, i < l.length → f i = nI (l.getD i 0)
theorem AtL.app {f : Nat → Int32} {l : List Nat} (h : AtL f l) (x : Nat) : AtL (upd f l.length (nI x)) (l ++ [x]) := by
  intro i hi
  rw [List.length_append, List.length_singleton] at hi
  by_cases c : i = l.length
  · subst c; rw [upd_s]; simp
  · rw [upd_n _ _ c, h i (by omega)]; simp [List.getD, List.getElem?_append_left (show i < l.length by omega)]
theorem take_s (l : List Nat) {i : Nat} (hi : i < l.length) : l.take (i + 1) = l.take i ++ [l.getD i 0] := by
  rw [List.take_add_one]
  simp [List.getD, hi]


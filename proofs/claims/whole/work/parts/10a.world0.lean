/-! The world behind the constructors is wd of h0. -/
def skyI : Nat → Int32 := fun j => if j = 8 then 20 else if j = 9 then 3 else if j = 14 then 1 else 0
def h0 : Hp := fun k =>
  if k = 0 then (fun j => if j = 11 then -1 else 0)
  else if k = 1 then (fun j => if j = 5 then -1 else 0)
  else if k = 6 then (fun j => if j = 0 then -1 else 0)
  else if k = 13 then (fun j => if j = 0 then -1 else 0)
  else if k = 24 then (fun j => if j = 0 then -1 else 0)
  else if k < 32 then (fun _ => 0)
  else if k < 208 then (if (k - 32) % 11 = 0 then skyI else (fun _ => 0))
  else if k = 208 then (fun j => if j = 14 then -1 else 0)
  else if k = 209 then upd (upd (upd (fun _ => 0) 4 20) 5 3) 12 1
  else (fun _ => 0)
def posF (k : Nat) : Nat :=
  if k < 4 then k else if k < 6 then k + 5 else if k < 11 then k - 2 else if k = 11 then 11 else if k = 12 then 23 else if k < 20 then k + 11 else if k < 24 then k + 143 else if k < 32 then k + 176 else if k < 65 then k + 135 else if k < 76 then k - 53 else if k < 208 then k - 45 else k
def adF (a mm : Nat → Nat) (o : Nat) : Nat → Nat := fun k => if k < 208 then a (posF k) else if k < 221 then mm (k - 208) else o
def LW (cA : Nat → ClassId) (a mm : Nat → Nat) (o : Nat) : va_W := blkX11 cA a ++ (blkX12 cA mm ++ [(o, .inl (cA 2, 1, .inr (.inl (fun _ => 0))))])
theorem pos_a {k : Nat} (h1 : 32 ≤ k) (h2 : k < 65) : posF k = k + 135 := by
  unfold posF
  rw [if_neg (by omega), if_neg (by omega), if_neg (by omega), if_neg (by omega), if_neg (by omega), if_neg (by omega), if_neg (by omega), if_neg (by omega), if_pos (by omega)]
theorem pos_b {k : Nat} (h1 : 65 ≤ k) (h2 : k < 76) : posF k = k - 53 := by
  unfold posF
  rw [if_neg (by omega), if_neg (by omega), if_neg (by omega), if_neg (by omega), if_neg (by omega), if_neg (by omega), if_neg (by omega), if_neg (by omega), if_neg (by omega), if_pos (by omega)]
theorem pos_c {k : Nat} (h1 : 76 ≤ k) (h2 : k < 208) : posF k = k - 45 := by
  unfold posF
  rw [if_neg (by omega), if_neg (by omega), if_neg (by omega), if_neg (by omega), if_neg (by omega), if_neg (by omega), if_neg (by omega), if_neg (by omega), if_neg (by omega), if_neg (by omega), if_pos (by omega)]
theorem sky_mem {cA : Nat → ClassId} {ad f : Nat → Nat} {b : Nat} (h : ∀ j, j < 11 → ad (b + j) = f j) (j : Nat) (hj : j < 11) : (f j, cellE cA ad (if j = 0 then skyI else (fun _ => 0)) (skyD b j)) ∈ blkX7 cA f := by
  have h1 := h 1 (by decide)
  have h2 := h 2 (by decide)
  have h3 := h 3 (by decide)
  have h4 := h 4 (by decide)
  have h5 := h 5 (by decide)
  have h6 := h 6 (by decide)
  have h7 := h 7 (by decide)
  have h8 := h 8 (by decide)
  have h9 := h 9 (by decide)
  have h10 := h 10 (by decide)
  match j, hj with
  | 0, _ =>
    have e : cellE cA ad skyI (skyD b 0) = .inr (7, [.ref (f 1), .ref (f 2), .ref (f 3), .ref (f 4), .int 0, .int 0, .ref (f 5), .ref (f 9), .int 20, .int 3, .int 0, .int 0, .int 0, .int 0, .int 1, .int 0, .int 0]) := by
      rw [← h1, ← h2, ← h3, ← h4, ← h5, ← h9]; rfl
    show (f 0, cellE cA ad skyI (skyD b 0)) ∈ _
    rw [e]
    exact List.mem_of_getElem? (i := 0) rfl
  | 1, _ => exact List.mem_of_getElem? (i := 1) rfl
  | 2, _ => exact List.mem_of_getElem? (i := 2) rfl
  | 3, _ => exact List.mem_of_getElem? (i := 3) rfl
  | 4, _ => exact List.mem_of_getElem? (i := 4) rfl
  | 5, _ =>
    have e : cellE cA ad (fun _ => 0) (skyD b 5) = .inr (0, [.int 0, .ref (f 6), .ref (f 7), .ref (f 8)]) := by
      rw [← h6, ← h7, ← h8]; rfl
    show (f 5, cellE cA ad (fun _ => 0) (skyD b 5)) ∈ _
    rw [e]
    exact List.mem_of_getElem? (i := 5) rfl
  | 6, _ => exact List.mem_of_getElem? (i := 6) rfl
  | 7, _ => exact List.mem_of_getElem? (i := 7) rfl
  | 8, _ => exact List.mem_of_getElem? (i := 8) rfl
  | 9, _ =>
    have e : cellE cA ad (fun _ => 0) (skyD b 9) = .inr (4, [.ref (f 10), .int 0, .int 0]) := by
      rw [← h10]; rfl
    show (f 9, cellE cA ad (fun _ => 0) (skyD b 9)) ∈ _
    rw [e]
    exact List.mem_of_getElem? (i := 9) rfl
  | 10, _ => exact List.mem_of_getElem? (i := 10) rfl
theorem law_mem {cA : Nat → ClassId} {ad f : Nat → Nat} {b : Nat} (h : ∀ j, j < 5 → ad (b + j) = f j) (j : Nat) (hj : j < 5) : (f j, cellE cA ad (if j = 0 then (fun j => if j = 0 then -1 else 0) else (fun _ => 0)) (lawD b j)) ∈ blkX2 cA f := by
  have h1 := h 1 (by decide)
  have h2 := h 2 (by decide)
  have h3 := h 3 (by decide)
  have h4 := h 4 (by decide)
  match j, hj with
  | 0, _ =>
    have e : cellE cA ad (fun j => if j = 0 then -1 else 0) (lawD b 0) = .inr (2, [.int (-1), .ref (f 1), .ref (f 2), .ref (f 3), .ref (f 4), .int 0]) := by
      rw [← h1, ← h2, ← h3, ← h4]; rfl
    show (f 0, cellE cA ad (fun j => if j = 0 then -1 else 0) (lawD b 0)) ∈ _
    rw [e]
    exact List.mem_of_getElem? (i := 0) rfl
  | 1, _ => exact List.mem_of_getElem? (i := 1) rfl
  | 2, _ => exact List.mem_of_getElem? (i := 2) rfl
  | 3, _ => exact List.mem_of_getElem? (i := 3) rfl
  | 4, _ => exact List.mem_of_getElem? (i := 4) rfl
theorem SB_mem {cA : Nat → ClassId} {A : Nat → Nat → Nat} {x : Nat × va_E} : ∀ {n i : Nat}, i < n → x ∈ blkX7 cA (A i) → x ∈ SB cA A n
  | 0, i, h, _ => absurd h (Nat.not_lt_zero i)
  | n + 1, i, h, hx => by
    rw [SB]
    by_cases e : i = n
    · subst e; exact List.mem_append_right _ hx
    · exact List.mem_append_left _ (SB_mem (by omega) hx)

theorem lm_1 {cA : Nat → ClassId} {a mm : Nat → Nat} {o : Nat} {x : Nat × va_E} (h : x ∈ blkX9 cA (fun j => a (1 + j))) : x ∈ LW cA a mm o := List.mem_append_left _ (List.mem_cons_of_mem _ (List.mem_append_left _ h))
theorem lm_3 {cA : Nat → ClassId} {a mm : Nat → Nat} {o : Nat} {x : Nat × va_E} (h : x ∈ blkX1 cA (fun j => a (3 + j))) : x ∈ LW cA a mm o := List.mem_append_left _ (List.mem_cons_of_mem _ (List.mem_append_right _ (List.mem_append_left _ h)))
theorem lm_11 {cA : Nat → ClassId} {a mm : Nat → Nat} {o : Nat} {x : Nat × va_E} (h : x ∈ blkX8 cA (fun j => a (11 + j))) : x ∈ LW cA a mm o := List.mem_append_left _ (List.mem_cons_of_mem _ (List.mem_append_right _ (List.mem_append_right _ (List.mem_append_left _ h))))
theorem lm_23 {cA : Nat → ClassId} {a mm : Nat → Nat} {o : Nat} {x : Nat × va_E} (h : x ∈ blkX3 cA (fun j => a (23 + j))) : x ∈ LW cA a mm o := List.mem_append_left _ (List.mem_cons_of_mem _ (List.mem_append_right _ (List.mem_append_right _ (List.mem_append_right _ (List.mem_append_left _ h)))))
theorem lm_29 {cA : Nat → ClassId} {a mm : Nat → Nat} {o : Nat} {x : Nat × va_E} (h : x ∈ blkX5 cA (fun j => a (29 + j))) : x ∈ LW cA a mm o := List.mem_append_left _ (List.mem_cons_of_mem _ (List.mem_append_right _ (List.mem_append_right _ (List.mem_append_right _ (List.mem_append_right _ (List.mem_append_left _ h))))))
theorem lm_163 {cA : Nat → ClassId} {a mm : Nat → Nat} {o : Nat} {x : Nat × va_E} (h : x ∈ blkX6 cA (fun j => a (163 + j))) : x ∈ LW cA a mm o := List.mem_append_left _ (List.mem_cons_of_mem _ (List.mem_append_right _ (List.mem_append_right _ (List.mem_append_right _ (List.mem_append_right _ (List.mem_append_right _ (List.mem_append_left _ h)))))))
theorem lm_167 {cA : Nat → ClassId} {a mm : Nat → Nat} {o : Nat} {x : Nat × va_E} (h : x ∈ blkX7 cA (fun j => a (167 + j))) : x ∈ LW cA a mm o := List.mem_append_left _ (List.mem_cons_of_mem _ (List.mem_append_right _ (List.mem_append_right _ (List.mem_append_right _ (List.mem_append_right _ (List.mem_append_right _ (List.mem_append_right _ (List.mem_append_left _ h))))))))
theorem lm_178 {cA : Nat → ClassId} {a mm : Nat → Nat} {o : Nat} {x : Nat × va_E} (h : x ∈ blkX7 cA (fun j => a (178 + j))) : x ∈ LW cA a mm o := List.mem_append_left _ (List.mem_cons_of_mem _ (List.mem_append_right _ (List.mem_append_right _ (List.mem_append_right _ (List.mem_append_right _ (List.mem_append_right _ (List.mem_append_right _ (List.mem_append_right _ (List.mem_append_left _ h)))))))))
theorem lm_189 {cA : Nat → ClassId} {a mm : Nat → Nat} {o : Nat} {x : Nat × va_E} (h : x ∈ blkX7 cA (fun j => a (189 + j))) : x ∈ LW cA a mm o := List.mem_append_left _ (List.mem_cons_of_mem _ (List.mem_append_right _ (List.mem_append_right _ (List.mem_append_right _ (List.mem_append_right _ (List.mem_append_right _ (List.mem_append_right _ (List.mem_append_right _ (List.mem_append_right _ (List.mem_append_left _ h))))))))))
theorem lm_200 {cA : Nat → ClassId} {a mm : Nat → Nat} {o : Nat} {x : Nat × va_E} (h : x ∈ blkX2 cA (fun j => a (200 + j))) : x ∈ LW cA a mm o := List.mem_append_left _ (List.mem_cons_of_mem _ (List.mem_append_right _ (List.mem_append_right _ (List.mem_append_right _ (List.mem_append_right _ (List.mem_append_right _ (List.mem_append_right _ (List.mem_append_right _ (List.mem_append_right _ (List.mem_append_right _ (List.mem_append_left _ h)))))))))))
theorem lm_205 {cA : Nat → ClassId} {a mm : Nat → Nat} {o : Nat} : (a 205, (.inl (cA 0, 137, .inl (fun _ => 0)) : va_E)) ∈ LW cA a mm o := List.mem_append_left _ (List.mem_cons_of_mem _ (List.mem_append_right _ (List.mem_append_right _ (List.mem_append_right _ (List.mem_append_right _ (List.mem_append_right _ (List.mem_append_right _ (List.mem_append_right _ (List.mem_append_right _ (List.mem_append_right _ (List.mem_append_right _ (List.mem_of_getElem? (i := 0) rfl))))))))))))
theorem lm_206 {cA : Nat → ClassId} {a mm : Nat → Nat} {o : Nat} : (a 206, (.inl (cA 0, 41, .inl (fun _ => 0)) : va_E)) ∈ LW cA a mm o := List.mem_append_left _ (List.mem_cons_of_mem _ (List.mem_append_right _ (List.mem_append_right _ (List.mem_append_right _ (List.mem_append_right _ (List.mem_append_right _ (List.mem_append_right _ (List.mem_append_right _ (List.mem_append_right _ (List.mem_append_right _ (List.mem_append_right _ (List.mem_of_getElem? (i := 1) rfl))))))))))))
theorem lm_207 {cA : Nat → ClassId} {a mm : Nat → Nat} {o : Nat} : (a 207, (.inl (cA 0, 289, .inl (fun _ => 0)) : va_E)) ∈ LW cA a mm o := List.mem_append_left _ (List.mem_cons_of_mem _ (List.mem_append_right _ (List.mem_append_right _ (List.mem_append_right _ (List.mem_append_right _ (List.mem_append_right _ (List.mem_append_right _ (List.mem_append_right _ (List.mem_append_right _ (List.mem_append_right _ (List.mem_append_right _ (List.mem_of_getElem? (i := 2) rfl))))))))))))
theorem lm_m {cA : Nat → ClassId} {a mm : Nat → Nat} {o : Nat} {x : Nat × va_E} (h : x ∈ blkX12 cA mm) : x ∈ LW cA a mm o := List.mem_append_right _ (List.mem_append_left _ h)
theorem lm_o {cA : Nat → ClassId} {a mm : Nat → Nat} {o : Nat} : (o, (.inl (cA 2, 1, .inr (.inl (fun _ => 0))) : va_E)) ∈ LW cA a mm o := List.mem_append_right _ (List.mem_append_right _ List.mem_cons_self)
theorem p19 {a mm : Nat → Nat} {o : Nat} : pastF (pastA (fun j => a (29 + j))) 12 = fun j => ([76, 87, 98, 109, 120, 131, 142, 153, 164, 175, 186, 197][j]?).map (adF a mm o) := by
  funext j
  match j with
  | 0 => rfl
  | 1 => rfl
  | 2 => rfl
  | 3 => rfl
  | 4 => rfl
  | 5 => rfl
  | 6 => rfl
  | 7 => rfl
  | 8 => rfl
  | 9 => rfl
  | 10 => rfl
  | 11 => rfl
  | j + 12 =>
    unfold pastF
    rw [if_neg (by omega), List.getElem?_eq_none (by simp)]
    rfl
theorem p221 : (fun j : Nat => (h0 221 j).toInt64) = fun _ => (0 : Int64) := by
  funext j
  show (0 : Int32).toInt64 = 0
  rfl
/-- the skies: which block, by their number -/
theorem sky_in {cA : Nat → ClassId} {a mm : Nat → Nat} {o i j : Nat} (hi : i < 16) (hj : j < 11) : (adF a mm o (32 + 11 * i + j), cellE cA (adF a mm o) (h0 (32 + 11 * i + j)) (dsc (32 + 11 * i + j))) ∈ LW cA a mm o := by
  have e1 : dsc (32 + 11 * i + j) = skyD (32 + 11 * i) j := sky_dsc ⟨i, hi, rfl⟩ j hj
  have e2 : h0 (32 + 11 * i + j) = if j = 0 then skyI else (fun _ => 0) := by
    unfold h0
    rw [if_neg (by omega), if_neg (by omega), if_neg (by omega), if_neg (by omega), if_neg (by omega), if_neg (by omega), if_pos (by omega)]
    by_cases e : j = 0
    · rw [if_pos (by omega), if_pos e]
    · rw [if_neg (by omega), if_neg e]
  rw [e1, e2]
  have key : ∀ (off : Nat), (∀ j, j < 11 → posF (32 + 11 * i + j) = off + j) → (adF a mm o (32 + 11 * i + j), cellE cA (adF a mm o) (if j = 0 then skyI else (fun _ => 0)) (skyD (32 + 11 * i) j)) ∈ blkX7 cA (fun j => a (off + j)) := by
    intro off ho
    have hh : ∀ j, j < 11 → adF a mm o (32 + 11 * i + j) = a (off + j) := fun j hj => by
      unfold adF
      rw [if_pos (by omega), ho j hj]
    have := sky_mem (cA := cA) (f := fun j => a (off + j)) hh j hj
    rw [hh j hj]
    exact this
  rcases (show i = 0 ∨ i = 1 ∨ i = 2 ∨ i = 3 ∨ 4 ≤ i by omega) with rfl | rfl | rfl | rfl | h4
  · exact lm_167 (key 167 (fun j hj => by rw [pos_a (by omega) (by omega)]; omega))
  · exact lm_178 (key 178 (fun j hj => by rw [pos_a (by omega) (by omega)]; omega))
  · exact lm_189 (key 189 (fun j hj => by rw [pos_a (by omega) (by omega)]; omega))
  · refine lm_11 (List.mem_cons_of_mem _ ?_)
    have := key 12 (fun j hj => by rw [pos_b (by omega) (by omega)]; omega)
    have e3 : (fun j => a (12 + j)) = (fun j => a (11 + (1 + j))) := by funext j; rw [show 11 + (1 + j) = 12 + j by omega]
    rw [e3] at this
    exact this
  · refine lm_29 (List.mem_cons_of_mem _ (List.mem_cons_of_mem _ (SB_mem (i := i - 4) (by omega) ?_)))
    have := key (31 + 11 * (i - 4)) (fun j hj => by rw [pos_c (by omega) (by omega)]; omega)
    have e3 : (fun j => a (31 + 11 * (i - 4) + j)) = pastA (fun j => a (29 + j)) (i - 4) := by funext j; show _ = a (29 + (2 + 11 * (i - 4) + j)); rw [show 29 + (2 + 11 * (i - 4) + j) = 31 + 11 * (i - 4) + j by omega]
    rw [e3] at this
    exact this
theorem law_in {cA : Nat → ClassId} {a mm : Nat → Nat} {o b off j : Nat} (hb : isLaw b) (hj : j < 5) (ho : ∀ j, j < 5 → posF (b + j) = off + j) : (adF a mm o (b + j), cellE cA (adF a mm o) (h0 (b + j)) (dsc (b + j))) ∈ blkX2 cA (fun j => a (off + j)) := by
  have e1 : dsc (b + j) = lawD b j := law_dsc hb j hj
  have hb9 : b < 28 := by rcases hb with rfl | rfl | rfl <;> decide
  have e2 : h0 (b + j) = if j = 0 then (fun j => if j = 0 then -1 else 0) else (fun _ => 0) := by
    rcases hb with rfl | rfl | rfl <;>
    · rcases (show j = 0 ∨ j = 1 ∨ j = 2 ∨ j = 3 ∨ j = 4 by omega) with rfl | rfl | rfl | rfl | rfl <;> rfl
  have hh : ∀ j, j < 5 → adF a mm o (b + j) = a (off + j) := fun j hj => by
    unfold adF
    rw [if_pos (by omega), ho j hj]
  rw [e1, e2, hh j hj]
  exact law_mem (cA := cA) (f := fun j => a (off + j)) hh j hj
set_option maxHeartbeats 4000000 in
set_option maxRecDepth 100000 in
theorem lw_in {cA : Nat → ClassId} {a mm : Nat → Nat} {o : Nat} (k : Nat) (hk : k < 222) : (adF a mm o k, cellE cA (adF a mm o) (h0 k) (dsc k)) ∈ LW cA a mm o := by
  by_cases h1 : 32 ≤ k ∧ k < 208
  · have e : k = 32 + 11 * ((k - 32) / 11) + (k - 32) % 11 := by omega
    rw [e]
    exact sky_in (by omega) (by omega)
  · by_cases h2 : 6 ≤ k ∧ k < 11
    · have e : k = 6 + (k - 6) := by omega
      rw [e]
      have := law_in (cA := cA) (a := a) (mm := mm) (o := o) (b := 6) (off := 4) (j := k - 6) lk6 (by omega) (by decide)
      refine lm_3 (List.mem_cons_of_mem _ (List.mem_append_left _ ?_))
      have e3 : (fun j => a (4 + j)) = (fun j => a (3 + (1 + j))) := by funext j; rw [show 3 + (1 + j) = 4 + j by omega]
      rw [e3] at this
      exact this
    · by_cases h3 : 13 ≤ k ∧ k < 18
      · have e : k = 13 + (k - 13) := by omega
        rw [e]
        have := law_in (cA := cA) (a := a) (mm := mm) (o := o) (b := 13) (off := 24) (j := k - 13) lk13 (by omega) (by decide)
        refine lm_23 (List.mem_cons_of_mem _ ?_)
        have e3 : (fun j => a (24 + j)) = (fun j => a (23 + (1 + j))) := by funext j; rw [show 23 + (1 + j) = 24 + j by omega]
        rw [e3] at this
        exact this
      · by_cases h4 : 24 ≤ k ∧ k < 29
        · have e : k = 24 + (k - 24) := by omega
          rw [e]
          exact lm_200 (law_in (b := 24) (off := 200) (j := k - 24) lk24 (by omega) (by decide))
        · rcases (show k = 0 ∨ k = 1 ∨ k = 2 ∨ k = 3 ∨ k = 4 ∨ k = 5 ∨ k = 11 ∨ k = 12 ∨ k = 18 ∨ k = 19 ∨ k = 20 ∨ k = 21 ∨ k = 22 ∨ k = 23 ∨ k = 29 ∨ k = 30 ∨ k = 31 ∨ k = 208 ∨ k = 209 ∨ k = 210 ∨ k = 211 ∨ k = 212 ∨ k = 213 ∨ k = 214 ∨ k = 215 ∨ k = 216 ∨ k = 217 ∨ k = 218 ∨ k = 219 ∨ k = 220 ∨ k = 221 by omega) with rfl | rfl | rfl | rfl | rfl | rfl | rfl | rfl | rfl | rfl | rfl | rfl | rfl | rfl | rfl | rfl | rfl | rfl | rfl | rfl | rfl | rfl | rfl | rfl | rfl | rfl | rfl | rfl | rfl | rfl | rfl
          · exact List.mem_append_left _ (List.mem_of_getElem? (i := 0) rfl)
          · exact lm_1 (List.mem_of_getElem? (i := 0) rfl)
          · exact lm_1 (List.mem_of_getElem? (i := 1) rfl)
          · exact lm_3 (List.mem_of_getElem? (i := 0) rfl)
          · exact lm_3 (List.mem_of_getElem? (i := 6) rfl)
          · exact lm_3 (List.mem_of_getElem? (i := 7) rfl)
          · exact lm_11 (List.mem_of_getElem? (i := 0) rfl)
          · exact lm_23 (List.mem_of_getElem? (i := 0) rfl)
          · exact lm_29 (List.mem_of_getElem? (i := 0) rfl)
          · have e9 : cellE cA (adF a mm o) (h0 19) (dsc 19) = .inl (cA 3, 12, .inr (.inr (.inr (.inr (pastF (pastA (fun j => a (29 + j))) 12))))) := by
              rw [p19 (mm := mm) (o := o)]
              rfl
            rw [e9]
            exact lm_29 (List.mem_of_getElem? (i := 1) rfl)
          · exact lm_163 (List.mem_of_getElem? (i := 0) rfl)
          · exact lm_163 (List.mem_of_getElem? (i := 1) rfl)
          · exact lm_163 (List.mem_of_getElem? (i := 2) rfl)
          · exact lm_163 (List.mem_of_getElem? (i := 3) rfl)
          · exact lm_205
          · exact lm_206
          · exact lm_207
          · exact lm_m (List.mem_of_getElem? (i := 0) rfl)
          · exact lm_m (List.mem_of_getElem? (i := 1) rfl)
          · exact lm_m (List.mem_of_getElem? (i := 2) rfl)
          · exact lm_m (List.mem_of_getElem? (i := 3) rfl)
          · exact lm_m (List.mem_of_getElem? (i := 4) rfl)
          · exact lm_m (List.mem_of_getElem? (i := 5) rfl)
          · exact lm_m (List.mem_of_getElem? (i := 6) rfl)
          · exact lm_m (List.mem_of_getElem? (i := 7) rfl)
          · exact lm_m (List.mem_of_getElem? (i := 8) rfl)
          · exact lm_m (List.mem_of_getElem? (i := 9) rfl)
          · exact lm_m (List.mem_of_getElem? (i := 10) rfl)
          · exact lm_m (List.mem_of_getElem? (i := 11) rfl)
          · exact lm_m (List.mem_of_getElem? (i := 12) rfl)
          · have e9 : cellE cA (adF a mm o) (h0 221) (dsc 221) = .inl (cA 2, 1, .inr (.inl (fun j => (h0 221 j).toInt64))) := rfl
            rw [e9, p221]
            exact lm_o
theorem wd_P {D : va_G} {cA : Nat → ClassId} {a mm : Nat → Nat} {o : Nat} {H : Heap} (hP : va_P D vwCl (LW cA a mm o) H) : va_P D vwCl (wd cA (adF a mm o) h0) H := by
  intro k q hq
  by_cases hk : k < NC
  · rw [wd_get hk] at hq
    cases hq
    obtain ⟨i, hi⟩ := List.getElem?_of_mem (lw_in k hk)
    exact hP _ _ hi
  · rw [wd_out hk] at hq
    cases hq
def seg (a : Nat → Nat) (off n : Nat) : List Nat := (List.range n).map (fun j => a (off + j))
theorem seg_cat (a : Nat → Nat) (off m n : Nat) : seg a off m ++ seg a (off + m) n = seg a off (m + n) := by
  unfold seg
  rw [List.range_add, List.map_append, List.map_map]
  congr 1
  apply List.map_congr_left
  intro j _
  show a (off + m + j) = a (off + (m + j))
  rw [Nat.add_assoc]
theorem seg_off (a : Nat → Nat) (o1 o2 n : Nat) : seg (fun j => a (o1 + j)) o2 n = seg a (o1 + o2) n := by
  unfold seg
  apply List.map_congr_left
  intro j _
  show a (o1 + (o2 + j)) = a (o1 + o2 + j)
  rw [Nat.add_assoc]
theorem f7 {cA : Nat → ClassId} {f : Nat → Nat} : (blkX7 cA f).map Prod.fst = seg f 0 11 := by simp only [blkX7, blkX0, blkX4, seg, List.map, List.range, List.range.loop, Nat.zero_add, List.append_nil, List.cons_append, List.nil_append]
theorem f2 {cA : Nat → ClassId} {f : Nat → Nat} : (blkX2 cA f).map Prod.fst = seg f 0 5 := by simp only [blkX2, seg, List.map, List.range, List.range.loop, Nat.zero_add]
theorem f9 {cA : Nat → ClassId} {f : Nat → Nat} : (blkX9 cA f).map Prod.fst = seg f 0 2 := by simp only [blkX9, seg, List.map, List.range, List.range.loop, Nat.zero_add]
theorem f6 {cA : Nat → ClassId} {f : Nat → Nat} : (blkX6 cA f).map Prod.fst = seg f 0 4 := by simp only [blkX6, seg, List.map, List.range, List.range.loop, Nat.zero_add]
theorem f12 {cA : Nat → ClassId} {f : Nat → Nat} : (blkX12 cA f).map Prod.fst = seg f 0 13 := by simp only [blkX12, seg, List.map, List.range, List.range.loop, Nat.zero_add]
theorem f1 {cA : Nat → ClassId} {f : Nat → Nat} : (blkX1 cA f).map Prod.fst = seg f 0 8 := by simp only [blkX1, blkX2, seg, List.map, List.range, List.range.loop, Nat.zero_add, List.cons_append, List.nil_append]
theorem f8 {cA : Nat → ClassId} {f : Nat → Nat} : (blkX8 cA f).map Prod.fst = seg f 0 12 := by simp only [blkX8, blkX7, blkX0, blkX4, seg, List.map, List.range, List.range.loop, Nat.zero_add, List.append_nil, List.cons_append, List.nil_append]
theorem f3 {cA : Nat → ClassId} {f : Nat → Nat} : (blkX3 cA f).map Prod.fst = seg f 0 6 := by simp only [blkX3, blkX2, seg, List.map, List.range, List.range.loop, Nat.zero_add]
theorem fSB {cA : Nat → ClassId} {f : Nat → Nat} : ∀ n, (SB cA (pastA f) n).map Prod.fst = seg f 2 (11 * n)
  | 0 => rfl
  | n + 1 => by
    rw [SB, List.map_append, fSB n, f7, show seg (pastA f n) 0 11 = seg f (2 + 11 * n) 11 from by
      unfold seg
      apply List.map_congr_left
      intro j _
      show f (2 + 11 * n + (0 + j)) = f (2 + 11 * n + j)
      rw [Nat.zero_add], seg_cat, Nat.mul_succ]
theorem f5 {cA : Nat → ClassId} {f : Nat → Nat} : (blkX5 cA f).map Prod.fst = seg f 0 134 := by
  unfold blkX5 pastL
  rw [List.map_cons, List.map_cons, fSB 12]
  show f 0 :: f 1 :: seg f 2 (11 * 12) = seg f 0 134
  exact seg_cat f 0 2 132
theorem lw_fst {cA : Nat → ClassId} {a mm : Nat → Nat} {o : Nat} : (LW cA a mm o).map Prod.fst = seg a 0 208 ++ (seg mm 0 13 ++ [o]) := by
  unfold LW blkX11
  simp only [List.map_append, List.map_cons, List.map_nil, f9, f1, f8, f3, f5, f6, f7, f2, f12, seg_off, Nat.add_zero]
  have e3 : [a 205, a 206, a 207] = seg a 205 3 := rfl
  rw [e3, seg_cat a 200 5 3, seg_cat a 189 11 8, seg_cat a 178 11 19, seg_cat a 167 11 30, seg_cat a 163 4 41, seg_cat a 29 134 45, seg_cat a 23 6 179, seg_cat a 11 12 185, seg_cat a 3 8 197, seg_cat a 1 2 205]
  have e4 : a 0 :: seg a 1 (2 + 205) = seg a 0 208 := seg_cat a 0 1 207
  rw [e4]
theorem seg_get {a : Nat → Nat} {n i : Nat} (h : i < n) : (seg a 0 n)[i]? = some (a i) := by
  unfold seg
  rw [List.getElem?_map, List.getElem?_range h]
  show some (a (0 + i)) = some (a i)
  rw [Nat.zero_add]
theorem lw_pos {cA : Nat → ClassId} {a mm : Nat → Nat} {o k : Nat} (hk : k < 222) (hp : k < 208 → posF k < 208) (hq : ¬ k < 208 → posF k = k) : ((LW cA a mm o).map Prod.fst)[posF k]? = some (adF a mm o k) := by
  rw [lw_fst]
  have l1 : (seg a 0 208).length = 208 := by unfold seg; simp
  have l2 : (seg mm 0 13).length = 13 := by unfold seg; simp
  by_cases h1 : k < 208
  · rw [List.getElem?_append_left (by rw [l1]; exact hp h1), seg_get (hp h1)]
    unfold adF
    rw [if_pos h1]
  · rw [hq h1, List.getElem?_append_right (by rw [l1]; omega), l1]
    by_cases h2 : k < 221
    · rw [List.getElem?_append_left (by rw [l2]; omega), seg_get (by omega)]
      unfold adF
      rw [if_neg h1, if_pos h2]
    · rw [List.getElem?_append_right (by rw [l2]; omega), l2]
      have e : k = 221 := by omega
      subst e
      rfl
theorem pos_lt : ∀ k, k < 208 → posF k < 208 := by decide +kernel
theorem pos_eq {k : Nat} (h : ¬ k < 208) : posF k = k := by
  unfold posF
  rw [if_neg (by omega), if_neg (by omega), if_neg (by omega), if_neg (by omega), if_neg (by omega), if_neg (by omega), if_neg (by omega), if_neg (by omega), if_neg (by omega), if_neg (by omega), if_neg (by omega)]
theorem pos_inj : ∀ i, i < 222 → ∀ j, j < 222 → posF i = posF j → i = j := by decide +kernel
theorem wd_DD {A : Nat → Prop} {cA : Nat → ClassId} {a mm : Nat → Nat} {o : Nat} (hD : va_D A (LW cA a mm o)) : va_D A (wd cA (adF a mm o) (fun _ _ => 0)) := by
  have at9 : ∀ k, k < 222 → ∃ e, (LW cA a mm o)[posF k]? = some (adF a mm o k, e) := by
    intro k hk
    have h1 := lw_pos (cA := cA) (a := a) (mm := mm) (o := o) hk (pos_lt k) pos_eq
    rw [List.getElem?_map] at h1
    cases hx : (LW cA a mm o)[posF k]? with
    | none => rw [hx] at h1; cases h1
    | some q =>
      rw [hx] at h1
      have h2 : q.1 = adF a mm o k := Option.some.inj h1
      exact ⟨q.2, by rw [← h2]⟩
  refine wd_D (h := h0) ⟨fun i j p q hp hq e => ?_, fun k q hq => ?_⟩
  · by_cases hi : i < NC
    · by_cases hj : j < NC
      · rw [wd_get hi] at hp
        rw [wd_get hj] at hq
        cases hp
        cases hq
        obtain ⟨e1, g1⟩ := at9 i hi
        obtain ⟨e2, g2⟩ := at9 j hj
        exact pos_inj i hi j hj (hD.1 _ _ _ _ g1 g2 e)
      · rw [wd_out hj] at hq; cases hq
    · rw [wd_out hi] at hp; cases hp
  · by_cases hk : k < NC
    · rw [wd_get hk] at hq
      cases hq
      obtain ⟨e1, g1⟩ := at9 k hk
      exact hD.2 (posF k) (adF a mm o k, e1) g1
    · rw [wd_out hk] at hq
      cases hq

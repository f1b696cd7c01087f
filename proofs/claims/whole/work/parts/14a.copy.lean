/-! A sky becomes another, a law becomes another; the log. -/
def cpS (h : Hp) (b b2 c j : Nat) : Hp := up2 h (b + c) j (h (b2 + c) j)
def cpA (h : Hp) (b b2 c n : Nat) : Hp := upA h (b + c) (va_cpy (h (b2 + c)) (h (b + c)) 0 0 n)
def CPI (b b2 m : Nat) (K : Nat → Nat → Prop) (h0 h : Hp) : Prop := (∀ c j, K c j → h (b + c) j = h0 (b2 + c) j) ∧ FR (fun k => b ≤ k ∧ k ≤ b + m) h0 h
theorem CPI.s {b b2 m : Nat} (hd : b + m < b2 ∨ b2 + m < b) {K : Nat → Nat → Prop} {h0 h : Hp} (H : CPI b b2 m K h0 h) (c j : Nat) (hc : c ≤ m) : CPI b b2 m (fun c' j' => (c' = c ∧ j' = j) ∨ K c' j') h0 (cpS h b b2 c j) := by
  have e2 : h (b2 + c) = h0 (b2 + c) := H.2 _ (by omega)
  refine ⟨fun c' j' q => ?_, H.2.trans (FR.up2 _ _ _ (by omega))⟩
  unfold cpS
  rw [e2]
  by_cases a : c' = c
  · subst a
    rw [up2_s]
    by_cases a2 : j' = j
    · subst a2; rw [upd_s]
    · rw [upd_n _ _ a2]
      rcases q with q | q
      · exact absurd q.2 a2
      · exact H.1 _ _ q
  · rw [up2_n _ _ _ (by omega)]
    rcases q with q | q
    · exact absurd q.1 a
    · exact H.1 _ _ q
theorem CPI.a {b b2 m : Nat} (hd : b + m < b2 ∨ b2 + m < b) {K : Nat → Nat → Prop} {h0 h : Hp} (H : CPI b b2 m K h0 h) (c n : Nat) (hc : c ≤ m) : CPI b b2 m (fun c' j' => (c' = c ∧ j' < n) ∨ K c' j') h0 (cpA h b b2 c n) := by
  have e2 : h (b2 + c) = h0 (b2 + c) := H.2 _ (by omega)
  refine ⟨fun c' j' q => ?_, H.2.trans (FR.upA _ _ (by omega))⟩
  unfold cpA
  rw [e2]
  by_cases a : c' = c
  · subst a
    rw [upA_s]
    by_cases a2 : j' < n
    · rw [pk_cpy_in (by omega) (by omega)]; simp
    · rw [pk_cpy_out (by omega)]
      rcases q with q | q
      · exact absurd q.2 a2
      · exact H.1 _ _ q
  · rw [upA_n _ _ (by omega)]
    rcases q with q | q
    · exact absurd q.1 a
    · exact H.1 _ _ q
theorem CPI.mono {b b2 m : Nat} {K K' : Nat → Nat → Prop} {h0 h : Hp} (H : CPI b b2 m K h0 h) (q : ∀ c j, K' c j → K c j) : CPI b b2 m K' h0 h := ⟨fun c j k => H.1 c j (q c j k), H.2⟩
def okc (c j : Nat) : Prop := (c = 0 ∧ (j = 4 ∨ j = 5 ∨ (8 ≤ j ∧ j ≤ 16))) ∨ ((c = 1 ∨ c = 2 ∨ c = 3 ∨ c = 4) ∧ j < 16) ∨ (c = 5 ∧ j = 0) ∨ ((c = 6 ∨ c = 7 ∨ c = 8) ∧ j < 5) ∨ (c = 9 ∧ (j = 1 ∨ j = 2)) ∨ (c = 10 ∧ j < 60)
theorem okc_loc {i : Nat} (hi : i < 93) (h2 : i ≠ 2) : okc (loc i).1 (loc i).2 := by
  have : ∀ a : Fin 93, a.val ≠ 2 → (((loc a.val).1 == 0 && ((loc a.val).2 == 4 || (loc a.val).2 == 5 || (8 ≤ (loc a.val).2 && (loc a.val).2 ≤ 16))) || (((loc a.val).1 == 1 || (loc a.val).1 == 2 || (loc a.val).1 == 3 || (loc a.val).1 == 4) && (loc a.val).2 < 16) || ((loc a.val).1 == 5 && (loc a.val).2 == 0) || (((loc a.val).1 == 6 || (loc a.val).1 == 7 || (loc a.val).1 == 8) && (loc a.val).2 < 5) || ((loc a.val).1 == 9 && ((loc a.val).2 == 1 || (loc a.val).2 == 2))) = true := by decide +kernel
  have h := this ⟨i, hi⟩ h2
  simp only [Bool.or_eq_true, Bool.and_eq_true, beq_iff_eq, decide_eq_true_eq] at h
  unfold okc
  omega
theorem cp_s {b b2 m : Nat} (hd : b + m < b2 ∨ b2 + m < b) {K : Nat → Nat → Prop} {h0 h : Hp} (H : CPI b b2 m K h0 h) (c j : Nat) (hc : c ≤ m) {Q : Hp → Prop} {k : Hp → Option Hp} (n : ∀ h1, CPI b b2 m (fun c' j' => (c' = c ∧ j' = j) ∨ K c' j') h0 h1 → ∃ h', k h1 = some h' ∧ Q h') : ∃ h', lt9 (up2 h (b + c) j (h (b2 + c) j)) k = some h' ∧ Q h' := n _ (H.s hd c j hc)
theorem cp_a {b b2 m : Nat} (hd : b + m < b2 ∨ b2 + m < b) {K : Nat → Nat → Prop} {h0 h : Hp} (H : CPI b b2 m K h0 h) (c n0 : Nat) (hc : c ≤ m) {Q : Hp → Prop} {k : Hp → Option Hp} (n : ∀ h1, CPI b b2 m (fun c' j' => (c' = c ∧ j' < n0) ∨ K c' j') h0 h1 → ∃ h', k h1 = some h' ∧ Q h') : ∃ h', lt9 (upA h (b + c) (va_cpy (h (b2 + c)) (h (b + c)) 0 0 n0)) k = some h' ∧ Q h' := n _ (H.a hd c n0 hc)
theorem cp_c {h : Hp} {f : Hp → Option Hp} {k : Hp → Option Hp} {Q R : Hp → Prop} (e : ∃ h', f h = some h' ∧ R h') (n : ∀ h1, R h1 → ∃ h', k h1 = some h' ∧ Q h') : ∃ h', cl9 (f h) k = some h' ∧ Q h' := by
  obtain ⟨h1, e1, r1⟩ := e
  rw [e1, cl9_some]
  exact n h1 r1
theorem crew_b {b b2 : Nat} (hd : b + 10 < b2 ∨ b2 + 10 < b) {K : Nat → Nat → Prop} {h0 h : Hp} (H : CPI b b2 10 K h0 h) : ∃ h', fX0_become h b b2 = some h' ∧ CPI b b2 10 (fun c j => (c = 5 ∧ j = 0) ∨ ((c = 6 ∨ c = 7 ∨ c = 8) ∧ j < 5) ∨ K c j) h0 h' := by
  unfold fX0_become
  refine cp_s hd H 5 0 (by decide) (fun h1 H1 => ?_)
  refine cp_a hd H1 6 5 (by decide) (fun h2 H2 => ?_)
  refine cp_a hd H2 7 5 (by decide) (fun h3 H3 => ?_)
  refine cp_a hd H3 8 5 (by decide) (fun h4 H4 => ?_)
  refine ⟨h4, rfl, H4.mono (fun c j q => ?_)⟩
  rcases q with q | ⟨q1 | q1 | q1, q⟩ | q
  · exact Or.inr (Or.inr (Or.inr (Or.inl q)))
  · exact Or.inr (Or.inr (Or.inl ⟨q1, q⟩))
  · exact Or.inr (Or.inl ⟨q1, q⟩)
  · exact Or.inl ⟨q1, q⟩
  · exact Or.inr (Or.inr (Or.inr (Or.inr q)))
theorem log_b {b b2 : Nat} (hd : b + 10 < b2 ∨ b2 + 10 < b) {K : Nat → Nat → Prop} {h0 h : Hp} (H : CPI b b2 10 K h0 h) : ∃ h', fX4_become h b b2 = some h' ∧ CPI b b2 10 (fun c j => (c = 10 ∧ j < 60) ∨ (c = 9 ∧ (j = 1 ∨ j = 2)) ∨ K c j) h0 h' := by
  unfold fX4_become
  refine cp_a hd H 10 60 (by decide) (fun h1 H1 => ?_)
  refine cp_s hd H1 9 1 (by decide) (fun h2 H2 => ?_)
  refine cp_s hd H2 9 2 (by decide) (fun h3 H3 => ?_)
  refine ⟨h3, rfl, H3.mono (fun c j q => ?_)⟩
  rcases q with q | ⟨q1, q | q⟩ | q
  · exact Or.inr (Or.inr (Or.inl q))
  · exact Or.inr (Or.inl ⟨q1, q⟩)
  · exact Or.inl ⟨q1, q⟩
  · exact Or.inr (Or.inr (Or.inr q))
theorem become_x (h : Hp) (b b2 : Nat) (hd : b + 10 < b2 ∨ b2 + 10 < b) : ∃ h', fX7_become h b b2 = some h' ∧ CPI b b2 10 okc h h' := by
  have H0 : CPI b b2 10 (fun _ _ => False) h h := ⟨fun _ _ q => q.elim, FR.refl _ _⟩
  unfold fX7_become
  refine cp_a hd H0 1 16 (by decide) (fun h1 H1 => ?_)
  refine cp_a hd H1 2 16 (by decide) (fun h2 H2 => ?_)
  refine cp_a hd H2 3 16 (by decide) (fun h3 H3 => ?_)
  refine cp_a hd H3 4 16 (by decide) (fun h4 H4 => ?_)
  refine cp_s hd H4 0 4 (by decide) (fun h5 H5 => ?_)
  refine cp_s hd H5 0 5 (by decide) (fun h6 H6 => ?_)
  refine cp_c (f := fun h => fX0_become h b b2) (crew_b hd H6) (fun h7 H7 => ?_)
  refine cp_c (f := fun h => fX4_become h b b2) (log_b hd H7) (fun h9 H9 => ?_)
  refine cp_s hd H9 0 8 (by decide) (fun h11 H11 => ?_)
  refine cp_s hd H11 0 9 (by decide) (fun h12 H12 => ?_)
  refine cp_s hd H12 0 10 (by decide) (fun h13 H13 => ?_)
  refine cp_s hd H13 0 11 (by decide) (fun h14 H14 => ?_)
  refine cp_s hd H14 0 12 (by decide) (fun h15 H15 => ?_)
  refine cp_s hd H15 0 13 (by decide) (fun h16 H16 => ?_)
  refine cp_s hd H16 0 14 (by decide) (fun h17 H17 => ?_)
  refine cp_s hd H17 0 15 (by decide) (fun h18 H18 => ?_)
  refine cp_s hd H18 0 16 (by decide) (fun h19 H19 => ?_)
  refine ⟨h19, rfl, H19.mono (fun c j q => ?_)⟩
  unfold okc at q
  rcases q with ⟨rfl, q⟩ | ⟨q1, q⟩ | ⟨rfl, rfl⟩ | ⟨q1, q⟩ | ⟨rfl, q⟩ | ⟨rfl, q⟩
  · rcases q with rfl | rfl | q
    · simp
    · simp
    · rcases (show j = 8 ∨ j = 9 ∨ j = 10 ∨ j = 11 ∨ j = 12 ∨ j = 13 ∨ j = 14 ∨ j = 15 ∨ j = 16 by omega) with rfl | rfl | rfl | rfl | rfl | rfl | rfl | rfl | rfl <;> simp
  · rcases q1 with rfl | rfl | rfl | rfl <;> simp [q]
  · simp
  · rcases q1 with rfl | rfl | rfl <;> simp [q]
  · rcases q with rfl | rfl <;> simp
  · simp [q]
theorem CPI.sky {b b2 : Nat} {h h' : Hp} {w : Nat → Int32} (H : CPI b b2 10 okc h h') (S : SKY h b2 w) : SKY h' b w := by
  refine ⟨fun i hi h2 => ?_, S.2.1, ?_⟩
  · show h' (b + (loc i).1) (loc i).2 = _
    rw [H.1 _ _ (okc_loc hi h2)]
    exact S.1 i hi h2
  · obtain ⟨nx, m, h1, h2, h3, h4, h5⟩ := S.2.2
    refine ⟨nx, m, h1, h2, h3, ?_, fun j hj => ?_⟩
    · show h' (b + 9) 2 = _
      rw [H.1 9 2 (by unfold okc; omega)]; exact h4
    · obtain ⟨d, p, a, r, q1, q2, q3, q4, q5, q6⟩ := h5 j hj
      refine ⟨d, p, a, r, q1, q2, q3, q4, ?_, q6⟩
      show h' (b + 10) _ = _
      rw [H.1 10 _ (by unfold okc; have : (nx + 59 - j) % 60 < 60 := Nat.mod_lt _ (by decide); omega)]; exact q5
def okl (c j : Nat) : Prop := (c = 0 ∧ (j = 0 ∨ j = 5)) ∨ ((c = 1 ∨ c = 2 ∨ c = 3) ∧ j < 12) ∨ (c = 4 ∧ j < 400)
theorem lbecome_x (h : Hp) (b b2 : Nat) (hd : b + 4 < b2 ∨ b2 + 4 < b) : ∃ h', fX2_become h b b2 = some h' ∧ CPI b b2 4 okl h h' := by
  have H0 : CPI b b2 4 (fun _ _ => False) h h := ⟨fun _ _ q => q.elim, FR.refl _ _⟩
  unfold fX2_become
  refine cp_s hd H0 0 0 (by decide) (fun h1 H1 => ?_)
  refine cp_s hd H1 0 5 (by decide) (fun h2 H2 => ?_)
  refine cp_a hd H2 1 12 (by decide) (fun h3 H3 => ?_)
  refine cp_a hd H3 2 12 (by decide) (fun h4 H4 => ?_)
  refine cp_a hd H4 3 12 (by decide) (fun h5 H5 => ?_)
  refine cp_a hd H5 4 400 (by decide) (fun h6 H6 => ?_)
  refine ⟨h6, rfl, H6.mono (fun c j q => ?_)⟩
  unfold okl at q
  try dsimp only
  omega
theorem CPI.law {b b2 : Nat} {h h' : Hp} {w : Nat → Int32} (H : CPI b b2 4 okl h h') (M : lawM w) (S : lawC h b2 w) : lawC h' b w := by
  have e0 : h' b 0 = h b2 0 := H.1 0 0 (by unfold okl; omega)
  rcases S with ⟨q1, q2⟩ | ⟨q1, q2, q3⟩
  · exact Or.inl ⟨q1, by rw [e0]; exact q2⟩
  · rcases M with M | ⟨-, n, hn, h3, hl⟩
    · rw [q1] at M; cases M
    · refine Or.inr ⟨q1, by rw [e0]; exact q2, fun ln hln => ?_⟩
      obtain ⟨c0, c1, a1, a2, a3, a4, a5, a6, a7, a8⟩ := q3 ln hln
      rw [h3, nI_clamp (by omega)] at hln
      refine ⟨c0, c1, ?_, ?_, ?_, a4, ?_, a6, a7, fun E hE => ?_⟩
      · rw [H.1 1 ln (by unfold okl; omega)]; exact a1
      · rw [H.1 2 ln (by unfold okl; omega)]; exact a2
      · rw [H.1 3 ln (by unfold okl; omega)]; exact a3
      · intro q; rw [H.1 3 (ln - 1) (by unfold okl; omega)]; exact a5 q
      · rw [runC_cong E (f := h' (b + 4)) (g := h (b2 + 4)) _ _ _ (fun j h1 h2 => H.1 4 j (by unfold okl; omega))]; exact a8 E hE
/-! the log -/
def logW (w : Nat → Int32) (p a r : Int32) : Nat → Int32 := fun k => if k = 11 then jmin 60 (w 11 + 1) else if k = 93 then w 3 else if k = 94 then p else if k = 95 then a else if k = 96 then r else if 97 ≤ k ∧ k < 333 then w (k - 4) else w k
theorem tells_m {h : Hp} {w : Nat → Int32} (hw : h 209 = w) (p a r : Int32) : fX12_tells h p a r = some (upA h 209 (logW w p a r)) := by
  obtain ⟨x, e, q⟩ := loop0 (σ := Hp) (ρ := Hp) 236 (fun m i s => LX12_tells m s p a r (nI (239 - i))) (fun i s => s = upA h 209 (fun j => if 93 + (239 - i) < j ∧ j < 333 then w (j - 4) else w j)) (fun x => x = upA h 209 (logW w p a r)) h (by decide) (by
      rw [show (fun j => if 93 + (239 - 0) < j ∧ j < 333 then w (j - 4) else w j) = h 209 from by
        funext j
        rw [if_neg (by omega), hw], upA_id]) (by
    rintro m i s hi rfl
    left
    refine ⟨_, rfl, ?_⟩
    try dsimp only
    have e1 : (93 : Int32) + nI (239 - i) = nI (93 + (239 - i)) := by rw [i_93, nI_add]
    have e2 : nI (93 + (239 - i)) - 4 = nI (89 + (239 - i)) := by rw [i_4, nI_subN (by omega)]; congr 1; omega
    have e3 : nI (239 - i) + (-1) = nI (239 - (i + 1)) := by rw [show 239 - i = (239 - (i + 1)) + 1 by omega, nI_m1]
    rw [LX12_tells, BX12_tells_0, i_4, if_neg (nI_nlt (by omega) (by omega)), ← i_4, e1, e2, gd_in (by omega) (by decide), gd_in (by omega) (by decide), nI_clamp (by omega), nI_clamp (by omega), e3]
    simp only [lt9_e]
    congr 1
    unfold up2
    rw [upA_s, upA_upA]
    congr 1
    funext j
    by_cases c : j = 93 + (239 - i)
    · subst c
      rw [upd_s, if_neg (by omega), if_pos (by omega)]
      congr 1; omega
    · rw [upd_n _ _ c]
      by_cases c2 : 93 + (239 - i) < j ∧ j < 333
      · rw [if_pos c2, if_pos (by omega)]
      · rw [if_neg c2, if_neg (by omega)]) (by
    rintro m s rfl
    refine ⟨_, ?_, rfl⟩
    try dsimp only
    rw [LX12_tells, BX12_tells_0, if_pos (by decide)]
    simp only [i_93, i_94, i_95, i_96, i_11, gd_in (show 93 < 2031 by decide) (show 2031 < 2 ^ 31 by decide), gd_in (show 94 < 2031 by decide) (show 2031 < 2 ^ 31 by decide), gd_in (show 95 < 2031 by decide) (show 2031 < 2 ^ 31 by decide), gd_in (show 96 < 2031 by decide) (show 2031 < 2 ^ 31 by decide), gd_in (show 11 < 2031 by decide) (show 2031 < 2 ^ 31 by decide), nI_clamp (show 93 < 2 ^ 31 by decide), nI_clamp (show 94 < 2 ^ 31 by decide), nI_clamp (show 95 < 2 ^ 31 by decide), nI_clamp (show 96 < 2 ^ 31 by decide), nI_clamp (show 11 < 2 ^ 31 by decide), lt9]
    congr 1
    unfold up2
    simp only [upA_s, upA_upA]
    congr 1
    funext j
    unfold logW
    by_cases c0 : j = 11
    · subst c0
      rw [upd_s, if_pos rfl, upd_n _ _ (by decide), upd_n _ _ (by decide), upd_n _ _ (by decide), upd_n _ _ (by decide), if_neg (by omega)]
    · rw [upd_n _ _ c0, if_neg c0]
      by_cases c1 : j = 96
      · subst c1; rw [upd_s, if_neg (by decide), if_neg (by decide), if_neg (by decide), if_pos rfl]
      · rw [upd_n _ _ c1]
        by_cases c2 : j = 95
        · subst c2; rw [upd_s, if_neg (by decide), if_neg (by decide), if_pos rfl]
        · rw [upd_n _ _ c2]
          by_cases c3 : j = 94
          · subst c3; rw [upd_s, if_neg (by decide), if_pos rfl]
          · rw [upd_n _ _ c3]
            by_cases c4 : j = 93
            · subst c4; rw [upd_s, if_pos rfl, if_neg (by omega)]
            · rw [upd_n _ _ c4, if_neg c4, if_neg c3, if_neg c2, if_neg c1]
              by_cases c5 : 97 ≤ j ∧ j < 333
              · rw [if_pos c5, if_pos (by omega)]
              · rw [if_neg c5, if_neg (by omega)])
  rw [← q]
  exact e
theorem nI_or (a b : Nat) : nI a ||| nI b = nI (a ||| b) := by
  apply Int32.toBitVec_inj.mp
  rw [Int32.toBitVec_or]
  show BitVec.ofNat 32 a ||| BitVec.ofNat 32 b = BitVec.ofNat 32 (a ||| b)
  exact (BitVec.ofNat_or).symm
theorem lor_add {a b i : Nat} (h : b < 2 ^ i) : (a * 2 ^ i) ||| b = a * 2 ^ i + b := by
  rw [Nat.mul_comm, ← Nat.two_pow_add_eq_or_of_lt h a]
theorem pack9 {d p a r : Nat} (hd : d ≤ 9999) (hp : p < 16) (ha : a < 4) (hr : r ≤ 99) : (((nI d <<< ((16 : Int32) &&& 31)) ||| (nI p <<< ((12 : Int32) &&& 31))) ||| (nI a <<< ((8 : Int32) &&& 31))) ||| nI r = nI (d * 65536 + p * 4096 + a * 256 + r) := by
  rw [pk_shlN ((16 : Int32) &&& 31) 16 (by decide) (by omega), pk_shlN ((12 : Int32) &&& 31) 12 (by decide) (by omega), pk_shlN ((8 : Int32) &&& 31) 8 (by decide) (by omega), nI_or, nI_or, nI_or]
  congr 1
  rw [lor_add (a := d) (i := 16) (b := p * 2 ^ 12) (by omega)]
  rw [show d * 2 ^ 16 + p * 2 ^ 12 = (d * 16 + p) * 2 ^ 12 by omega, lor_add (b := a * 2 ^ 8) (by omega)]
  rw [show (d * 16 + p) * 2 ^ 12 + a * 2 ^ 8 = ((d * 16 + p) * 16 + a) * 2 ^ 8 by omega, lor_add (b := r) (by omega)]
  all_goals omega
theorem irem_n {a d : Nat} (ha : a < 2 ^ 31) (h0 : 0 < d) (hd : d < 2 ^ 31) : irem (nI a) (nI d) = nI (a % d) := pk_rem ha h0 hd
theorem loc_9 {i j : Nat} (hi : i < 93) (e : loc i = (9, j)) : i = 11 := by
  have : ∀ a : Fin 93, (loc a.val).1 = 9 → a.val = 11 := by decide +kernel
  exact this ⟨i, hi⟩ (by rw [e])
def SKL (h : Hp) (b : Nat) (w : Nat → Int32) : Prop := SKs (SV h b) w ∧ LG (SV h b) w
theorem SKL.up {h : Hp} {b : Nat} {w : Nat → Int32} (S : SKL h b w) {c j i : Nat} (e : loc i = (c, j)) (hi : i < 93) (h2 : i ≠ 2) (h11 : i ≠ 11) (v : Int32) : SKL (up2 h (b + c) j v) b (upd w i v) := by
  refine ⟨S.1.up e hi v, ?_⟩
  have hc : c ≤ 9 := by have := loc_c hi h2; rw [e] at this; exact this
  have hc9 : c ≠ 9 := fun q => h11 (loc_9 hi (by rw [e, q]))
  have L : LG (SV (up2 h (b + c) j v) b) w := by
    have e9 : SV (up2 h (b + c) j v) b 9 = SV h b 9 := up2_n _ _ _ (by omega)
    have e10 : SV (up2 h (b + c) j v) b 10 = SV h b 10 := up2_n _ _ _ (by omega)
    unfold LG
    rw [e9, e10]
    exact S.2
  exact L.out (fun k hk _ => upd_n _ _ (by omega))
theorem SKY.l {h : Hp} {b : Nat} {w : Nat → Int32} (S : SKY h b w) : SKL h b w := ⟨S.1, S.2.2⟩
theorem SKL.y {h : Hp} {b : Nat} {w : Nat → Int32} (S : SKL h b w) (G : GW w) : SKY h b w := ⟨S.1, G, S.2⟩
theorem SKY.up {h : Hp} {b : Nat} {w : Nat → Int32} (S : SKY h b w) {c j i : Nat} (e : loc i = (c, j)) (hi : i < 93) (h2 : i ≠ 2) (h11 : i ≠ 11) {v : Int32} (G : GW (upd w i v)) : SKY (up2 h (b + c) j v) b (upd w i v) := (S.l.up e hi h2 h11 v).y G
theorem logW_lt (w : Nat → Int32) (p a r : Int32) {k : Nat} (hk : k < 93) : logW w p a r k = upd w 11 (jmin 60 (w 11 + 1)) k := by
  unfold logW
  by_cases c : k = 11
  · subst c; rw [if_pos rfl, upd_s]
  · rw [if_neg c, if_neg (by omega), if_neg (by omega), if_neg (by omega), if_neg (by omega), if_neg (by omega), upd_n _ _ c]
theorem logW_GW {w : Nat → Int32} (G : GW w) (p a r : Int32) : GW (logW w p a r) := by
  obtain ⟨m, hm, em⟩ := G.n11
  have e : jmin 60 (w 11 + 1) = nI (min 60 (m + 1)) := by rw [em, nI_1, i_60, jmin_n (by decide) (by omega)]
  refine GW.out (w := upd w 11 (jmin 60 (w 11 + 1))) ?_ (fun i hi => logW_lt w p a r hi)
  rw [e]
  refine G.set (by decide) rfl ?_ (by decide) (fun q => by cases q) (fun q => by omega) (fun k _ => by omega)
  show min 60 (m + 1) ≤ 60
  omega
theorem add_x {h : Hp} {b : Nat} {w : Nat → Int32} (S : SKY h b w) {p a r : Nat} (hp : p < 16) (ha : a < 4) (hr : r ≤ 99) : ∃ h', fX4_add h b (w 3) (nI p) (nI a) (nI r) = some h' ∧ SKY h' b (logW w (nI p) (nI a) (nI r)) ∧ FR (fun k => k = b + 9 ∨ k = b + 10) h h' := by
  obtain ⟨S1, G, nx, m, hnx, hm, em, enx, hl⟩ := S
  have enx' : h (b + 9) 2 = nI nx := enx
  obtain ⟨d, hd, ed⟩ := G.n3
  have e11 : h (b + 9) 1 = nI m := by rw [← em]; exact S1.get (i := 11) (c := 9) rfl (by decide) (by decide)
  let R := nI (d * 65536 + p * 4096 + a * 256 + r)
  let h1 : Hp := up2 h (b + 10) nx R
  let h2 : Hp := up2 h1 (b + 9) 2 (nI ((nx + 1) % 60))
  let h3 : Hp := up2 h2 (b + 9) 1 (jmin 60 (w 11 + 1))
  have eR : fX4_add h b (w 3) (nI p) (nI a) (nI r) = some h3 := by
    unfold fX4_add
    rw [enx', if_neg (nI_pos (by omega)), i_60, if_pos (nI_lt hnx (by decide)), cl9_some]
    simp only [Bool.false_eq_true, if_false, cl9_some]
    rw [enx', gd_in hnx (by decide), nI_clamp (by omega), ed, pack9 hd hp ha hr]
    simp only [lt9_e]
    have e3 : up2 h (b + 10) nx R (b + 9) 2 = nI nx := by rw [up2_n _ _ _ (by omega)]; exact enx'
    have e4 : up2 h1 (b + 9) 2 (nI ((nx + 1) % 60)) (b + 9) 1 = nI m := by
      rw [up2_s, upd_n _ _ (by decide)]
      show up2 h (b + 10) nx R (b + 9) 1 = _
      rw [up2_n _ _ _ (by omega)]; exact e11
    show some (up2 (up2 h1 (b + 9) 2 (irem (h1 (b + 9) 2 + 1) (nI 60))) (b + 9) 1 (jmin (up2 h1 (b + 9) 2 (irem (h1 (b + 9) 2 + 1) (nI 60)) (b + 9) 1 + 1) (nI 60))) = some h3
    have e5 : h1 (b + 9) 2 = nI nx := e3
    rw [e5, nI_1, irem_n (by omega) (by decide) (by decide), e4, jmin_comm]
    show _ = some (up2 (up2 h1 (b + 9) 2 (nI ((nx + 1) % 60))) (b + 9) 1 (jmin 60 (w 11 + 1)))
    rw [em]
    rfl
  refine ⟨h3, eR, ⟨?_, logW_GW G _ _ _, ?_⟩, ((FR.up2 _ _ _ (Or.inr rfl)).trans (FR.up2 _ _ _ (Or.inl rfl))).trans (FR.up2 _ _ _ (Or.inl rfl))⟩
  · have A1 : SKs (SV h2 b) w := by
      intro i hi i2
      show up2 (up2 h (b + 10) nx R) (b + 9) 2 (nI ((nx + 1) % 60)) (b + (loc i).1) (loc i).2 = _
      have hc := loc_c hi i2
      by_cases c9 : (loc i).1 = 9
      · have : i = 11 := loc_9 hi (j := (loc i).2) (Prod.ext c9 rfl)
        subst this
        show up2 (up2 h (b + 10) nx R) (b + 9) 2 (nI ((nx + 1) % 60)) (b + 9) 1 = _
        rw [up2_s, upd_n _ _ (by decide), up2_n _ _ _ (by omega), e11, em]
      · rw [up2_n _ _ _ (by omega), up2_n _ _ _ (by omega)]; exact S1 i hi i2
    have A2 : SKs (SV h3 b) (upd w 11 (jmin 60 (w 11 + 1))) := A1.up (i := 11) (c := 9) rfl (by decide) _
    exact A2.out (fun i hi _ => logW_lt w _ _ _ hi)
  · have e9 : SV h3 b 9 2 = nI ((nx + 1) % 60) := by
      show up2 h2 (b + 9) 1 _ (b + 9) 2 = _
      rw [up2_s, upd_n _ _ (by decide)]
      show up2 h1 (b + 9) 2 _ (b + 9) 2 = _
      rw [up2_s, upd_s]
    have e10 : SV h3 b 10 = upd (h (b + 10)) nx R := by
      show up2 h2 (b + 9) 1 _ (b + 10) = _
      rw [up2_n _ _ _ (by omega)]
      show up2 h1 (b + 9) 2 _ (b + 10) = _
      rw [up2_n _ _ _ (by omega)]
      show up2 h (b + 10) nx R (b + 10) = _
      rw [up2_s]
    have ej : logW w (nI p) (nI a) (nI r) 11 = nI (min 60 (m + 1)) := by
      rw [logW_lt w _ _ _ (by decide), upd_s, em, nI_1, i_60, jmin_n (by decide) (by omega)]
    refine ⟨(nx + 1) % 60, min 60 (m + 1), Nat.mod_lt _ (by decide), by omega, ej, e9, fun j hj => ?_⟩
    rw [e10]
    by_cases c : j = 0
    · subst c
      refine ⟨d, p, a, r, hd, hp, ha, hr, ?_, ?_, rfl, rfl, rfl⟩
      · rw [show ((nx + 1) % 60 + 59 - 0) % 60 = nx by omega, upd_s]
      · show w 3 = _
        exact ed
    · obtain ⟨j, rfl⟩ : ∃ k, j = k + 1 := ⟨j - 1, by omega⟩
      obtain ⟨d', p', a', r', q1, q2, q3, q4, q5, q6, q7, q8, q9⟩ := hl j (by omega)
      have q5' : h (b + 10) ((nx + 59 - j) % 60) = nI (d' * 65536 + p' * 4096 + a' * 256 + r') := q5
      have lw : ∀ k, 97 ≤ k → k < 333 → logW w (nI p) (nI a) (nI r) k = w (k - 4) := by
        intro k h1 h2
        unfold logW
        rw [if_neg (by omega), if_neg (by omega), if_neg (by omega), if_neg (by omega), if_neg (by omega), if_pos ⟨h1, h2⟩]
      refine ⟨d', p', a', r', q1, q2, q3, q4, ?_, ?_, ?_, ?_, ?_⟩
      · rw [show ((nx + 1) % 60 + 59 - (j + 1)) % 60 = (nx + 59 - j) % 60 by omega, upd_n _ _ (by omega)]; exact q5'
      · rw [lw _ (by omega) (by omega), show 93 + 4 * (j + 1) - 4 = 93 + 4 * j by omega]; exact q6
      · rw [lw _ (by omega) (by omega), show 94 + 4 * (j + 1) - 4 = 94 + 4 * j by omega]; exact q7
      · rw [lw _ (by omega) (by omega), show 95 + 4 * (j + 1) - 4 = 95 + 4 * j by omega]; exact q8
      · rw [lw _ (by omega) (by omega), show 96 + 4 * (j + 1) - 4 = 96 + 4 * j by omega]; exact q9

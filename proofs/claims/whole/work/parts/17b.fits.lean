/-! seen, climb: the class's sets -/
def skS (w : Nat → Int32) (S p : Nat) : Nat := sky9 (hold9 w (w 7 &&& (nI S ^^^ (-1)))) (w 4).toNatClampNeg (w 5).toNatClampNeg (w (46 + p)).toNatClampNeg p
theorem skS_le {w : Nat → Int32} (G : GW w) (S p : Nat) : skS w S p ≤ 40 := by
  obtain ⟨A, hA, eA⟩ := G.n4
  have := sky9_le (hold9 w (w 7 &&& (nI S ^^^ (-1)))) (w 4).toNatClampNeg (w 5).toNatClampNeg (w (46 + p)).toNatClampNeg p
  unfold skS
  rw [eA, nI_clamp (by omega)] at this ⊢
  omega
def okP (w T : Nat → Int32) (S i : Nat) : Bool := decide (nI (skS w S (T (2 * i)).toNatClampNeg) = T (2 * i + 1) &&& 255)
def subP (w : Nat → Int32) (S : Nat) : Bool := decide (nI S &&& (w 7 ^^^ (-1)) = 0)
def fitS (w T : Nat → Int32) (m S : Nat) : Bool := subP w S && allB (okP w T S) m
def PLT (T : Nat → Int32) (m : Nat) : Prop := ∀ i, i < m → ∃ q, q < 16 ∧ T (2 * i) = nI q ∧ T (2 * i) &&& 255 = nI q
theorem nlt {a b : Nat} (h : b ≤ a) (ha : a < 2 ^ 31) : ¬ nI a < nI b := fun c => by
  have := (nI_ltI ha (by omega)).mp c
  omega
theorem skS_x {h : Hp} {w : Nat → Int32} (H : CS h 32 w) (S : Nat) {p : Nat} (hp : p < 16) : fX7_skyAt h 32 (nI p) (hold9 w (w 7 &&& (nI S ^^^ (-1)))) (h 32 8) (h 32 9) = some (nI (skS w S p)) := by
  have G := H.2.1
  obtain ⟨A, hA, eA⟩ := G.n4
  obtain ⟨B, hB, eB⟩ := G.n5
  obtain ⟨t, ht, et⟩ := G.tree hp
  unfold skS
  rw [show h 32 8 = nI A from H.f4.trans eA, show h 32 9 = nI B from H.f5.trans eB, eA, eB, et, nI_clamp (by omega), nI_clamp (by omega), nI_clamp (by omega)]
  exact skyAt_x h _ hp (by rw [H.tree hp, et]) hA hB ht
theorem explains_x {h : Hp} {w T : Nat → Int32} (H : CS h 32 w) (V : CV h w) {t m : Nat} (etm : t = 2 * m) (ht : t ≤ 400) (e2 : h 1 2 = nI t) (hb : ∀ j, j < t → h 2 j = T j ∧ byteR (T j)) (PL : PLT T m) (S : Nat) : ∃ h', fX11_explains h (nI S) = some (bI (allB (okP w T S) m), h') ∧ FR c45 h h' ∧ CV h' w := by
  unfold fX11_explains
  rw [show h 32 5 = w 7 from H.f7]
  obtain ⟨h1, e1, F1, V1⟩ := holdingWith_x H V (w 7 &&& (nI S ^^^ (-1)))
  have H1 := H.f45 F1
  have e2' : h1 1 2 = nI t := by rw [F1 1 (by unfold c45; omega)]; exact e2
  have hb' : ∀ j, j < t → h1 2 j = T j ∧ byteR (T j) := by rw [F1 2 (by unfold c45; omega)]; exact hb
  obtain ⟨r, e, er⟩ := loop0 (σ := Unit) (ρ := Int32 × Hp) m (fun n i _ => LX11_explains n h1 (hold9 w (w 7 &&& (nI S ^^^ (-1)))) (nI (2 * i))) (fun i _ => allB (okP w T S) i = true) (fun r => r = (bI (allB (okP w T S) m), h1)) () (by omega) rfl (by
    rintro n i - hi ha
    obtain ⟨q, hq, eq, eq2⟩ := PL i hi
    have st : okP w T S i = decide (nI (skS w S q) = T (2 * i + 1) &&& 255) := by unfold okP; rw [eq, nI_clamp (by omega)]
    have go : LX11_explains (n + 1) h1 (hold9 w (w 7 &&& (nI S ^^^ (-1)))) (nI (2 * i)) = if nI (skS w S q) = T (2 * i + 1) &&& 255 then LX11_explains n h1 (hold9 w (w 7 &&& (nI S ^^^ (-1)))) (nI (2 * (i + 1))) else some (0, h1) := by
      rw [LX11_explains, BX11_explains_0, e2', if_neg (nI_ge (by omega) (by omega)), byteAt_x e2' ht hb' (by omega), cl9_some, eq2, if_neg (nI_pos (by omega)), if_neg (by rw [i_15]; exact nlt (by omega) (by decide)), skS_x H1 S hq, cl9_some, nI_1, byteAt_x e2' ht hb' (by omega), cl9_some]
      simp only [lt9_e]
      rw [i_2, nI_add]
      rfl
    try dsimp only
    rw [go]
    by_cases c : nI (skS w S q) = T (2 * i + 1) &&& 255
    · left
      exact ⟨(), by rw [allB_s, st, decide_eq_true c, ha]; rfl, by rw [if_pos c]⟩
    · right
      exact ⟨_, by rw [if_neg c], by rw [allB_no hi (by rw [st]; exact decide_eq_false c)]; rfl⟩) (by
    rintro n - ha
    try dsimp only
    refine ⟨_, ?_, rfl⟩
    rw [LX11_explains, BX11_explains_0, e2', etm, if_pos (nI_le (Nat.le_refl _) (by omega)), ha]
    rfl)
  subst er
  exact ⟨h1, by rw [e1, cl2_some]; exact e, F1, V1⟩
/-- the told heights are well told -/
def toldB (T : Nat → Int32) (t : Nat) : Bool := decide (t ≤ 40) && (decide (t % 2 = 0) && allB (fun i => decide (fX12_noPlace (T (2 * i)) = 0)) (t / 2))
theorem tells_x {h : Hp} {t : Nat} {T : Nat → Int32} (e2 : h 1 2 = nI t) (ht : t ≤ 400) (hb : ∀ j, j < t → h 2 j = T j ∧ byteR (T j)) : fX11_tellsHeights h = some (bI (toldB T t)) := by
  unfold fX11_tellsHeights toldB
  rw [e2]
  by_cases c1 : t ≤ 40
  · rw [if_neg (by rw [i_40]; exact nlt c1 (by decide)), i_2, irem_n (by omega) (by decide) (by decide), decide_eq_true c1, Bool.true_and]
    by_cases c2 : t % 2 = 0
    · rw [c2, if_pos (show nI 0 = 0 from rfl), decide_eq_true rfl, Bool.true_and]
      obtain ⟨m, rfl⟩ : ∃ m, t = 2 * m := ⟨t / 2, by omega⟩
      rw [show 2 * m / 2 = m by omega]
      obtain ⟨r, e, er⟩ := loop0 (σ := Unit) (ρ := Int32) m (fun n i _ => LX11_tellsHeights h n (nI (2 * i))) (fun i _ => allB (fun i => decide (fX12_noPlace (T (2 * i)) = 0)) i = true) (fun r => r = bI (allB (fun i => decide (fX12_noPlace (T (2 * i)) = 0)) m)) () (by omega) rfl (by
        rintro n i - hi ha
        try dsimp only
        rw [LX11_tellsHeights, BX11_tellsHeights_0, e2, if_neg (nI_ge (by omega) (by omega)), byteAt_x e2 ht hb (by omega), cl9_some]
        rcases byte_cases (hb (2 * i) (by omega)).2 with ⟨q, hq, eq, eq2, np⟩ | ⟨np, nl, -⟩
        · left
          refine ⟨(), by rw [allB_s, decide_eq_true np, ha]; rfl, ?_⟩
          rw [eq2, i_15, if_pos (nI_le (by omega) (by decide)), i_2, nI_add]
          rfl
        · right
          exact ⟨_, by rw [if_neg nl], by rw [allB_no hi (decide_eq_false (by rw [np]; decide))]; rfl⟩) (by
        rintro n - ha
        try dsimp only
        refine ⟨_, ?_, rfl⟩
        rw [LX11_tellsHeights, BX11_tellsHeights_0, e2, if_pos (nI_le (Nat.le_refl _) (by omega)), ha]
        rfl)
      subst er
      exact e
    · rw [if_neg (nI_ne0 (by omega) (by omega)), decide_eq_false c2]
      rfl
  · rw [if_pos (by rw [i_40]; exact nI_lt (by omega) (by omega)), decide_eq_false c1]
    rfl
theorem isTold_m {h : Hp} {t : Nat} {T : Nat → Int32} (e11 : h 208 11 = nI t) (ht : t ≤ 400) (hT : ∀ j, j < t → h 214 j = T j) : fX12_isTold h = some (bI (toldB T t)) := by
  unfold fX12_isTold toldB
  have no : LX12_isTold h big 0 0 = some 0 := by
    show LX12_isTold h (999999 + 1) 0 0 = some 0
    rw [LX12_isTold, BX12_isTold_0]
    by_cases c : h 208 11 ≤ 0
    · rw [if_pos c]; rfl
    · rw [if_neg c, if_pos rfl]; rfl
  rw [e11, i_2, irem_n (by omega) (by decide) (by decide)]
  by_cases c2 : t % 2 = 0
  · rw [c2, if_pos (show nI 0 = 0 from rfl), decide_eq_true rfl, Bool.true_and]
    by_cases c1 : t ≤ 40
    · rw [if_neg (by rw [i_40]; exact nlt c1 (by decide)), decide_eq_true c1, Bool.true_and, cl9_some, if_pos rfl]
      obtain ⟨m, rfl⟩ : ∃ m, t = 2 * m := ⟨t / 2, by omega⟩
      rw [show 2 * m / 2 = m by omega]
      let ok : Nat → Bool := fun i => decide (fX12_noPlace (T (2 * i)) = 0)
      obtain ⟨r, e, er⟩ := loop0 (σ := Unit) (ρ := Int32) m (fun n i _ => LX12_isTold h n (bI (allB ok i)) (nI (2 * i))) (fun i _ => True) (fun r => r = bI (allB ok m)) () (by omega) trivial (by
        rintro n i - hi -
        try dsimp only
        rw [LX12_isTold, BX12_isTold_0, e11, if_neg (nI_ge (by omega) (by omega))]
        cases ha : allB ok i with
        | false =>
          right
          refine ⟨0, rfl, ?_⟩
          cases hm : allB ok m with
          | false => rfl
          | true => rw [allB_le hm (by omega)] at ha; cases ha
        | true =>
          left
          rw [if_neg (by decide), gd_in (show 2 * i < 400 by omega) (by decide), nI_clamp (by omega), hT _ (by omega), allB_s, ha, Bool.and_true]
          refine ⟨(), trivial, ?_⟩
          simp only [lt9_e]
          rw [i_2, nI_add]
          by_cases np : fX12_noPlace (T (2 * i)) = 0
          · rw [if_pos np, show ok i = true from decide_eq_true np]
            rfl
          · rw [if_neg np, show ok i = false from decide_eq_false np]
            rfl) (by
        rintro n - -
        try dsimp only
        refine ⟨_, ?_, rfl⟩
        rw [LX12_isTold, BX12_isTold_0, e11, if_pos (nI_le (Nat.le_refl _) (by omega)), gd_t (by cases allB ok m <;> decide)])
      subst er
      exact e
    · rw [if_pos (by rw [i_40]; exact nI_lt (by omega) (by omega)), decide_eq_false c1, cl9_some, if_neg (by decide), no]
      rfl
  · rw [if_neg (nI_ne0 (by omega) (by omega)), decide_eq_false c2, cl9_some, if_neg (by decide), no, Bool.false_and, Bool.and_false]
    rfl

/-! The world of cells out of the numbers. -/
def valsF (ad : Nat → Nat) (f : Nat → Int32) : List (Option Nat) → Nat → List Value
  | [], _ => []
  | some k :: r, j => .ref (ad k) :: valsF ad f r (j + 1)
  | none :: r, j => .int (f j) :: valsF ad f r (j + 1)
theorem valsF_int {ad : Nat → Nat} {f : Nat → Int32} : ∀ {fs : List (Option Nat)} {i j : Nat}, fs[i]? = some none → (valsF ad f fs j)[i]? = some (.int (f (j + i)))
  | [], i, j, h => by simp at h
  | some k :: r, 0, j, h => by simp at h
  | some k :: r, i + 1, j, h => by
    simp only [List.getElem?_cons_succ] at h
    simp only [valsF, List.getElem?_cons_succ]
    rw [valsF_int h, show j + 1 + i = j + (i + 1) by omega]
  | none :: r, 0, j, h => by simp [valsF]
  | none :: r, i + 1, j, h => by
    simp only [List.getElem?_cons_succ] at h
    simp only [valsF, List.getElem?_cons_succ]
    rw [valsF_int h, show j + 1 + i = j + (i + 1) by omega]
theorem valsF_ref {ad : Nat → Nat} {f : Nat → Int32} {k : Nat} : ∀ {fs : List (Option Nat)} {i j : Nat}, fs[i]? = some (some k) → (valsF ad f fs j)[i]? = some (.ref (ad k))
  | [], i, j, h => by simp at h
  | some k' :: r, 0, j, h => by simp at h; simp [valsF, h]
  | some k' :: r, i + 1, j, h => by
    simp only [List.getElem?_cons_succ] at h
    simp only [valsF, List.getElem?_cons_succ]
    exact valsF_ref h
  | none :: r, 0, j, h => by simp at h
  | none :: r, i + 1, j, h => by
    simp only [List.getElem?_cons_succ] at h
    simp only [valsF, List.getElem?_cons_succ]
    exact valsF_ref h
theorem valsF_len {ad : Nat → Nat} {f : Nat → Int32} : ∀ {fs : List (Option Nat)} {j : Nat}, (valsF ad f fs j).length = fs.length
  | [], j => rfl
  | some k' :: r, j => by simp [valsF, valsF_len (fs := r)]
  | none :: r, j => by simp [valsF, valsF_len (fs := r)]
theorem valsF_cong {ad : Nat → Nat} {f g : Nat → Int32} : ∀ {fs : List (Option Nat)} {j : Nat}, (∀ i, j ≤ i → f i = g i) → valsF ad f fs j = valsF ad g fs j
  | [], j, h => rfl
  | some k' :: r, j, h => by simp only [valsF]; rw [valsF_cong (fs := r) (fun i hi => h i (by omega))]
  | none :: r, j, h => by simp only [valsF]; rw [valsF_cong (fs := r) (fun i hi => h i (by omega)), h j (Nat.le_refl j)]
theorem valsF_set {ad : Nat → Nat} {f : Nat → Int32} {v : Int32} : ∀ {fs : List (Option Nat)} {i j : Nat}, fs[i]? = some none → (valsF ad f fs j).set i (.int v) = valsF ad (upd f (j + i) v) fs j
  | [], i, j, h => by simp at h
  | some k :: r, 0, j, h => by simp at h
  | some k :: r, i + 1, j, h => by
    simp only [List.getElem?_cons_succ] at h
    simp only [valsF, List.set_cons_succ]
    rw [valsF_set h, show j + 1 + i = j + (i + 1) by omega]
  | none :: r, 0, j, h => by
    simp only [valsF, List.set_cons_zero]
    rw [valsF_cong (f := upd f (j + 0) v) (g := f) (fs := r) (fun i hi => by unfold upd; rw [if_neg (by omega)])]
    simp [upd]
  | none :: r, i + 1, j, h => by
    simp only [List.getElem?_cons_succ] at h
    simp only [valsF, List.set_cons_succ]
    rw [valsF_set h, show j + 1 + i = j + (i + 1) by omega]
    simp [upd]
def arrC (t : Nat) (q : List Nat) (ad : Nat → Nat) (f : Nat → Int32) : (Nat → Int32) ⊕ (Nat → Int64) ⊕ (Nat → UInt32) ⊕ (Nat → UInt64) ⊕ (Nat → Option Nat) :=
  if t = 3 then .inr (.inr (.inr (.inr (fun j => (q[j]?).map ad)))) else if t = 2 then .inr (.inl (fun j => (f j).toInt64)) else .inl f
def cellE (cA : Nat → ClassId) (ad : Nat → Nat) (f : Nat → Int32) (d : Dsc) : va_E := match d with
  | .inl (ci, fs) => .inr (ci, valsF ad f fs 0)
  | .inr (t, n, q) => .inl (cA t, n, arrC t q ad f)
def wd (cA : Nat → ClassId) (ad : Nat → Nat) (h : Hp) : va_W := (List.range NC).map (fun k => (ad k, cellE cA ad (h k) (dsc k)))
theorem wd_get {cA : Nat → ClassId} {ad : Nat → Nat} {h : Hp} {k : Nat} (hk : k < NC) : (wd cA ad h)[k]? = some (ad k, cellE cA ad (h k) (dsc k)) := by
  unfold wd
  rw [List.getElem?_map, List.getElem?_range hk]; rfl
theorem wd_out {cA : Nat → ClassId} {ad : Nat → Nat} {h : Hp} {k : Nat} (hk : ¬ k < NC) : (wd cA ad h)[k]? = none := by
  unfold wd
  rw [List.getElem?_eq_none]
  simp; omega
theorem wd_len {cA : Nat → ClassId} {ad : Nat → Nat} {h : Hp} : (wd cA ad h).length = NC := by unfold wd; simp
theorem wd_set {cA : Nat → ClassId} {ad : Nat → Nat} {h : Hp} {k : Nat} {f : Nat → Int32} (hk : k < NC) : (wd cA ad h).set k (ad k, cellE cA ad f (dsc k)) = wd cA ad (upA h k f) := by
  apply List.ext_getElem?
  intro i
  rw [List.getElem?_set]
  by_cases hi : i < NC
  · rw [wd_get (h := upA h k f) hi]
    by_cases e : k = i
    · subst e
      rw [if_pos rfl, wd_len, if_pos hk]
      simp [upA]
    · rw [if_neg e, wd_get hi]
      have e2 : upA h k f i = h i := by unfold upA; rw [if_neg (fun h => e h.symm)]
      rw [e2]
  · rw [wd_out (h := upA h k f) hi, if_neg (by omega), wd_out hi]
theorem wd_D {A : Nat → Prop} {cA : Nat → ClassId} {ad : Nat → Nat} {h h' : Hp} (hD : va_D A (wd cA ad h)) : va_D A (wd cA ad h') := by
  have key : ∀ (i : Nat) (q : Nat × va_E), (wd cA ad h')[i]? = some q → i < NC ∧ q.1 = ad i := by
    intro i q hq
    by_cases hi : i < NC
    · rw [wd_get hi] at hq
      cases hq
      exact ⟨hi, rfl⟩
    · rw [wd_out hi] at hq; cases hq
  refine ⟨fun i j p q hp hq e => ?_, fun k q hq => ?_⟩
  · obtain ⟨hi, e1⟩ := key i p hp
    obtain ⟨hj, e2⟩ := key j q hq
    exact hD.1 i j _ _ (wd_get hi) (wd_get hj) (by rw [← e1, ← e2]; exact e)
  · obtain ⟨hi, e1⟩ := key k q hq
    rw [e1]
    exact hD.2 k _ (wd_get hi)
theorem cellE_obj {cA : Nat → ClassId} {ad : Nat → Nat} {f : Nat → Int32} {d : Dsc} {ci : Nat} {fs : List (Option Nat)} (h : d = .inl (ci, fs)) : cellE cA ad f d = .inr (ci, valsF ad f fs 0) := by subst h; rfl
theorem cellE_arr {cA : Nat → ClassId} {ad : Nat → Nat} {f : Nat → Int32} {d : Dsc} {t n : Nat} {q : List Nat} (h : d = .inr (t, n, q)) : cellE cA ad f d = .inl (cA t, n, arrC t q ad f) := by subst h; rfl
def isSky (b : Nat) : Prop := ∃ i : Nat, i < 16 ∧ b = 32 + 11 * i
def isLaw (b : Nat) : Prop := b = 6 ∨ b = 13 ∨ b = 24
theorem sky_dsc {b : Nat} (h : isSky b) (j : Nat) (hj : j < 11) : dsc (b + j) = skyD b j := by
  obtain ⟨i, hi, rfl⟩ := h
  unfold dsc
  rw [if_neg (by omega), if_pos (by omega), show (32 + 11 * i + j - 32) / 11 = i by omega, show (32 + 11 * i + j - 32) % 11 = j by omega]
theorem sky_lt {b : Nat} (h : isSky b) (j : Nat) (hj : j < 11) : b + j < NC := by
  obtain ⟨i, hi, rfl⟩ := h
  unfold NC; omega
theorem law_dsc {b : Nat} (h : isLaw b) (j : Nat) (hj : j < 5) : dsc (b + j) = lawD b j := by
  rcases h with rfl | rfl | rfl <;>
  · rcases (show j = 0 ∨ j = 1 ∨ j = 2 ∨ j = 3 ∨ j = 4 by omega) with rfl | rfl | rfl | rfl | rfl <;> rfl
theorem law_lt {b : Nat} (h : isLaw b) (j : Nat) (hj : j < 5) : b + j < NC := by
  rcases h with rfl | rfl | rfl <;> (unfold NC; omega)
/-- the words that every method has of the tables -/
def GT : List Cond := lw_tbl.filter goodWord
def isNest (w : Cond) : Bool := match w with
  | .fieldLinkNest _ _ _ _ _ _ => true
  | .methodLinkNest _ _ _ _ => true
  | .castable _ _ => true
  | .declares _ => true
  | _ => false
def NW : List Cond := lw_tbl.filter isNest
theorem gt_in (i : Nat) {w : Cond} (h : lw_tbl[i]? = some w) (hg : goodWord w = true) : w ∈ GT := List.mem_filter.mpr ⟨List.mem_of_getElem? h, hg⟩
theorem nw_in (i : Nat) {w : Cond} (h : lw_tbl[i]? = some w) (hg : isNest w = true) : w ∈ NW := List.mem_filter.mpr ⟨List.mem_of_getElem? h, hg⟩
theorem nw_warm {s U : State} (hW : s.WarmedH U.vm) (h : ∀ w ∈ NW, va_Nw w s) : ∀ w ∈ NW, va_Nw w U := by
  intro w hw
  have h1 := h w hw
  have h2 : isNest w = true := (List.mem_filter.mp hw).2
  cases w <;> first | exact va_Nw.warmF hW h1 | exact va_Nw.warmM hW h1 | exact va_Nw.warmC hW h1 | exact va_Nw.warmD hW h1 | (simp [isNest] at h2)
theorem nw_same {s U : State} (e : s.vm = U.vm) (h : ∀ w ∈ NW, va_Nw w s) : ∀ w ∈ NW, va_Nw w U := by
  intro w hw
  have h1 := h w hw
  have h2 : isNest w = true := (List.mem_filter.mp hw).2
  refine va_Nw.same ?_ e h1
  cases w <;> first | rfl | (simp [isNest] at h2)
theorem gt_good {w : Cond} (h : w ∈ GT) : (w.onTables && w.keeps) = true ∨ ∃ ty, w = .arrayClass ty := good_of_word (List.mem_filter.mp h).2
def wsy (y : MethodName) (cc : ByteArray) (maxL : Nat) (ret : Option FieldType) : List Cond := .code y cc maxL ret :: GT

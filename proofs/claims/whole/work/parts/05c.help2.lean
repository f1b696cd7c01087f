theorem sw_out2 {x : Int32} (lo hi : Int) (n : Nat) (e : hi = lo + n - 1) (h : ∀ k : Nat, k < n → ¬ x = Int32.ofInt (lo + k)) (h1 : -2147483648 ≤ lo) (h2 : lo + n ≤ 2147483648) : x.toInt < lo ∨ hi < x.toInt := by
  rcases Int.lt_or_le x.toInt lo with q | q
  · exact Or.inl q
  · right
    rcases Int.lt_or_le hi x.toInt with r | r
    · exact r
    · exfalso
      obtain ⟨k, hk⟩ : ∃ k : Nat, x.toInt = lo + k := ⟨(x.toInt - lo).toNat, by omega⟩
      refine h k (by omega) ?_
      have e : (Int32.ofInt (lo + k)).toInt = lo + k := by
        rw [Int32.toInt_ofInt, show (Int32.size : Nat) = 4294967296 from rfl]
        exact Int.bmod_eq_of_le (by omega) (by omega)
      exact Int32.toInt.inj (by rw [e]; exact hk)

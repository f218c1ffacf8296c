/-! the class side of least -/
theorem up_same {σ : mSt} {i k : Nat} {v : Int} (h : σ i k = v) : upS σ i k v = σ := by
  funext a b
  unfold upS
  by_cases h2 : a = i ∧ b = k
  · rw [if_pos h2, h2.1, h2.2, h]
  · rw [if_neg h2]

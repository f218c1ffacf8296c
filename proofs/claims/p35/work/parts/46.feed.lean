/-! the class side of feed -/
def gB (t : Nat) (a b c d e : Int) (k : Nat) : Int := if k < t + 4 then wB (oShr a (24 - 8 * ((k : Int) - t))) else if k < t + 8 then wB (oShr b (24 - 8 * ((k : Int) - (t + 4 : Nat)))) else if k < t + 12 then wB (oShr c (24 - 8 * ((k : Int) - (t + 8 : Nat)))) else if k < t + 16 then wB (oShr d (24 - 8 * ((k : Int) - (t + 12 : Nat)))) else wB (oShr e (24 - 8 * ((k : Int) - (t + 16 : Nat))))
def put5 (σ : mSt) (x o z t : Nat) (a b c d e : Int) : mSt := put4 (put4 (put4 (put4 (put4 σ x o z t a) x o z (t + 4) b) x o z (t + 8) c) x o z (t + 12) d) x o z (t + 16) e
theorem put4_size {σ : mSt} {a o z t : Nat} {v : Int} (h : a ≠ o) : put4 σ a o z t v o z = ((t + 4 : Nat) : Int) := by
  unfold put4
  rw [if_neg (by omega), if_pos ⟨rfl, rfl⟩]
  omega
theorem put4_old {σ : mSt} {a o z t i k : Nat} {v : Int} (h : i ≠ a) (h2 : ¬ (i = o ∧ k = z)) : put4 σ a o z t v i k = σ i k := by
  unfold put4
  rw [if_neg (by omega), if_neg h2]
theorem put5_old {σ : mSt} {x o z t i k : Nat} {a b c d e : Int} (h : i ≠ x) (h2 : ¬ (i = o ∧ k = z)) : put5 σ x o z t a b c d e i k = σ i k := by
  unfold put5
  rw [put4_old h h2, put4_old h h2, put4_old h h2, put4_old h h2, put4_old h h2]
theorem put5_size {σ : mSt} {x o z t : Nat} {a b c d e : Int} (h : x ≠ o) : put5 σ x o z t a b c d e o z = ((t + 20 : Nat) : Int) := put4_size h
theorem put5_arr {σ : mSt} {x o z t k : Nat} {a b c d e : Int} (h : x ≠ o) : put5 σ x o z t a b c d e x k = if t ≤ k ∧ k < t + 20 then gB t a b c d e k else σ x k := by
  unfold put5 gB
  by_cases h0 : k < t
  · rw [if_neg (by omega)]
    unfold put4
    rw [if_neg (by omega), if_neg (by omega), if_neg (by omega), if_neg (by omega), if_neg (by omega), if_neg (by omega), if_neg (by omega), if_neg (by omega), if_neg (by omega), if_neg (by omega)]
  · by_cases h6 : t + 20 ≤ k
    · rw [if_neg (by omega)]
      unfold put4
      rw [if_neg (by omega), if_neg (by omega), if_neg (by omega), if_neg (by omega), if_neg (by omega), if_neg (by omega), if_neg (by omega), if_neg (by omega), if_neg (by omega), if_neg (by omega)]
    · rw [if_pos (by omega)]
      unfold put4
      by_cases h1 : k < t + 4
      · rw [if_neg (by omega), if_neg (by omega), if_neg (by omega), if_neg (by omega), if_neg (by omega), if_neg (by omega), if_neg (by omega), if_neg (by omega), if_pos (by omega), if_pos h1]
      · rw [if_neg h1]
        by_cases h2 : k < t + 8
        · rw [if_neg (by omega), if_neg (by omega), if_neg (by omega), if_neg (by omega), if_neg (by omega), if_neg (by omega), if_pos (by omega), if_pos h2]
        · rw [if_neg h2]
          by_cases h3 : k < t + 12
          · rw [if_neg (by omega), if_neg (by omega), if_neg (by omega), if_neg (by omega), if_pos (by omega), if_pos h3]
          · rw [if_neg h3]
            by_cases h4 : k < t + 16
            · rw [if_neg (by omega), if_neg (by omega), if_pos (by omega), if_pos h4]
            · rw [if_neg h4, if_pos (by omega)]
theorem gB_rng (t : Nat) (a b c d e : Int) (k : Nat) : -128 ≤ gB t a b c d e k ∧ gB t a b c d e k < 128 := by
  unfold gB
  split
  · exact wB_rng _
  · split
    · exact wB_rng _
    · split
      · exact wB_rng _
      · split <;> exact wB_rng _

/-! the class side of text -/
def bG (σ : mSt) (D j : Nat) : Int := σ (D + 24 + j / 4) (j % 4)
def bP (σ : mSt) (D j : Nat) : Int := σ (D + 15 + j / 4) (j % 4)
theorem bG_at (σ : mSt) (D k i : Nat) (h : i < 4) : bG σ D (4 * k + i) = σ (D + 24 + k) i := by
  unfold bG
  rw [show (4 * k + i) / 4 = k by omega, show (4 * k + i) % 4 = i by omega]
theorem bP_at (σ : mSt) (D k i : Nat) (h : i < 4) : bP σ D (4 * k + i) = σ (D + 15 + k) i := by
  unfold bP
  rw [show (4 * k + i) / 4 = k by omega, show (4 * k + i) % 4 = i by omega]

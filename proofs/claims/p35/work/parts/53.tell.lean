/-! the class side of tell -/
/-- four numbers of an array -/
def st4 (σ : mSt) (r : Nat) (a b c d : Int) : mSt := upS (upS (upS (upS σ r 0 a) r 1 b) r 2 c) r 3 d
theorem st4_at {σ : mSt} {r i j : Nat} {a b c d : Int} (h : i ≠ r) : st4 σ r a b c d i j = σ i j := by
  unfold st4
  rw [upS_ne (by omega), upS_ne (by omega), upS_ne (by omega), upS_ne (by omega)]

/-! pairs still owed -/
theorem thrown_e (s : mSt) : mX12_thrown 253 s = some (s 253 0, s) := by
  unfold mX12_thrown
  rw [mG_pos (by decide)]


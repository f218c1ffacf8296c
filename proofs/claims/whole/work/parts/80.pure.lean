theorem pure_all (xs : Nat → Int32) (L : Nat) (hL : L ≤ 3584) : ∃ σ, mL_law_L23 xs L 0 253 275 (fun zσ => mL_law_B1663 xs L zσ) mF 0 mS0 = some (1, σ) := by
  obtain ⟨b, s, e, rfl⟩ := glue_loop hL mF 0 mS0 (by unfold mF; omega) (by unfold mF; omega) (by omega) inv_start
  exact ⟨s, e⟩

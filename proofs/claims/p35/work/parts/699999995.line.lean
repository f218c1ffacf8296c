/-! the class side of line -/
def cXl (D i j : Nat) : Prop := cR i j ∨ (i = D ∧ j = 0) ∨ ∃ m, m < 8 ∧ cL D m i j
theorem cXl_fix {D i j : Nat} (hD : D = 37 ∨ D = 69) (h : cXl D i j) : fixR i j = false := by
  rcases h with h | ⟨rfl, rfl⟩ | ⟨m, hm, h⟩
  · exact cR_fix h
  · rcases hD with rfl | rfl <;> decide +kernel
  · exact cL_fix hD hm h

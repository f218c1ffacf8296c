/-! the class side of body -/
/-- a cyclic algebra's field -/
def fldP (v : Int) : Prop := v = 7 ∨ v = 13 ∨ v = 19 ∨ v = 31 ∨ v = 37 ∨ v = 43
theorem isField_e {c : Int} {σ : mSt} (hc : 0 ≤ c ∧ c ≤ 1000000) : mX8_isField 2 c σ = some (b2 (fldP c), σ) := by
  have wc : wL c = c := wL_id (x := c) (by omega)
  unfold mX8_isField fldP
  rw [gc2, wc]
  by_cases c1 : c = 7
  · rw [if_pos c1, b2_t (by omega)]; rfl
  · rw [if_neg c1]
    by_cases c2 : c = 13
    · rw [if_pos c2, b2_t (by omega)]; rfl
    · rw [if_neg c2]
      by_cases c3 : c = 19
      · rw [if_pos c3, b2_t (by omega)]; rfl
      · rw [if_neg c3]
        by_cases c4 : c = 31
        · rw [if_pos c4, b2_t (by omega)]; rfl
        · rw [if_neg c4]
          by_cases c5 : c = 37
          · rw [if_pos c5, b2_t (by omega)]; rfl
          · rw [if_neg c5]
            by_cases c6 : c = 43
            · rw [if_pos c6, b2_t (by omega)]; rfl
            · rw [if_neg c6, b2_f (by omega)]

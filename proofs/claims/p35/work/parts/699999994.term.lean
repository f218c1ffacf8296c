/-! the class side of term -/
theorem sgC {σ : mSt} {w : Nat → Int} {n s : Nat} (hL : Lay σ) (h : cA σ w n s) : mX8_isSign 2 σ = some (b2 (tC w n s = 3 ∨ tC w n s = 4), σ) := by
  unfold mX8_isSign
  rw [gc2, gr' (l20 hL) (by omega), is_tc h (by omega), mCall_some]
  by_cases c : tC w n s = 3
  · rw [b2_t c, if_neg (by decide), b2_t (Or.inl c)]
    rfl
  · rw [b2_f c, if_pos (by decide), gr' (l20 hL) (by omega), is_tc h (by omega), mCall_some]
    by_cases d : tC w n s = 4
    · rw [b2_t d, if_neg (by decide), b2_t (Or.inr d)]
      rfl
    · rw [b2_f d, if_pos (by decide), b2_f (fun z => z.elim c d)]

theorem scr164 {σ : mSt} {j : Nat} {v : Int} : scr 164 j := ⟨fixR_data (by decide) j, Or.inl (by unfold sObj; omega)⟩
theorem scr264 {j : Nat} : scr 264 j := ⟨fixR_data (by decide) j, Or.inl (by unfold sObj; omega)⟩
/-- four numbers of an array -/
def st4 (σ : mSt) (r : Nat) (a b c d : Int) : mSt := upS (upS (upS (upS σ r 0 a) r 1 b) r 2 c) r 3 d
theorem st4_at {σ : mSt} {r i j : Nat} {a b c d : Int} (h : i ≠ r) : st4 σ r a b c d i j = σ i j := by
  unfold st4
  rw [upS_ne (by omega), upS_ne (by omega), upS_ne (by omega), upS_ne (by omega)]
theorem st4_0 {σ : mSt} {r : Nat} {a b c d : Int} : st4 σ r a b c d r 0 = a ∧ st4 σ r a b c d r 1 = b ∧ st4 σ r a b c d r 2 = c ∧ st4 σ r a b c d r 3 = d := by
  unfold st4
  refine ⟨?_, ?_, ?_, ?_⟩ <;> simp [upS]

/-! the class side of pairs5 -/
theorem quatF {σ : mSt} {B n al : Nat} (hB : iBook σ B n) (ha : al < n) (h : σ 257 al = 0) : (σ (B + 2) al = σ 258 al ∧ σ (B + 3) al = σ 259 al) ∧ (σ 258 al ≠ 0 ∧ -60 ≤ σ 258 al ∧ σ 258 al ≤ 60 ∧ sqf (σ 258 al)) ∧ σ 259 al ≠ 0 ∧ -60 ≤ σ 259 al ∧ σ 259 al ≤ 60 ∧ sqf (σ 259 al) := by
  obtain ⟨q1, q2, q3, q4, q5, q6, q7⟩ := hB
  obtain ⟨g1, g2, g3, g4, g5⟩ := q7 al ha
  rw [Nat.zero_add] at g1 g2 g3 g5
  rcases g5 with g | g | g
  · exact ⟨⟨g2, g3⟩, g.2⟩
  · omega
  · omega

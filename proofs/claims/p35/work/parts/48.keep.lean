/-! the class side of keep -/
theorem iBook_congr {σ σ' : mSt} {B n : Nat} (h : iBook σ B n) (h3 : σ' 0 3 = σ 0 3) (h4 : σ' 0 4 = σ 0 4) (o : ∀ i, (37 ≤ i ∧ i ≤ 100) ∨ (257 ≤ i ∧ i ≤ 261) → σ' i = σ i) : iBook σ' B n := by
  obtain ⟨q1, q2, q3, q4, q5, q6, q7⟩ := h
  exact ⟨q1, q2, h3.trans q3, h4.trans q4, by rw [o B (by omega)]; exact q5, q6, fun k hk => iAlg_congr (fun i h1 h2 => o i (by omega)) (fun i h1 h2 => o i (by omega)) (by omega) (q7 k hk)⟩
theorem iPlaces_congr {σ σ' : mSt} {n s : Nat} (h : iPlaces σ n s) (hn : n ≤ 8) (o : ∀ i, (101 ≤ i ∧ i ≤ 111) ∨ (257 ≤ i ∧ i ≤ 261) → σ' i = σ i) : iPlaces σ' n s := by
  obtain ⟨p2, p3, p4, p5, p6, p7⟩ := h
  have lc : ∀ k p, loc σ' k p = loc σ k p := loc_congr (fun i h1 h2 => o i (by omega))
  have o2 := o 102 (by omega)
  refine ⟨p2, by rw [o 101 (by omega)]; exact p3, by rw [o2]; exact p4, by rw [o2]; exact p5, fun k i hk hi => ?_, fun k p hk hp hn => ?_⟩
  · rw [o (104 + k) (by omega), o2, lc]; exact p6 k i hk hi
  · rw [lc]; rw [o2] at hn; exact p7 k p hk hp hn

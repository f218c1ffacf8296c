/-! the class side of matrix -/
theorem scr145 {k : Nat} (hk : k < 5) : scr 145 k := by
  refine ⟨?_, Or.inl (by unfold sObj; omega)⟩
  rcases (show k = 0 ∨ k = 1 ∨ k = 2 ∨ k = 3 ∨ k = 4 by omega) with rfl | rfl | rfl | rfl | rfl <;> decide +kernel
theorem frm_spS {σ : mSt} {a b x y z : Int} : frm scr σ (spS σ a b x y z) :=
  frm.put (frm.put (frm.put (frm.put (frm.one (scr145 (by omega))) (scr145 (by omega))) (scr145 (by omega))) (scr145 (by omega))) (scr145 (by omega))
theorem lx_congr {σ τ : mSt} (o : ∀ i, (101 ≤ i ∧ i ≤ 111) ∨ (257 ≤ i ∧ i ≤ 261) → τ i = σ i) (k : Nat) : lx τ k = lx σ k := by
  funext i
  unfold lx
  rw [loc_congr (fun i h1 h2 => o i (by omega)), o 102 (by omega)]
theorem isSplit_c {σ : mSt} {B n s k : Nat} (hL : Lay σ) (hB : iBook σ B n) (hP : iPlaces σ n s) (hk : k < n) (hq : σ 257 k = 0) : (∃ t, 6 / gdF (lx σ k) s 0 6 = 1 ∧ soZ (σ 258 k) (σ 259 k) 8 0 = some t ∧ mX11_isSplit 0 (k : Int) σ = some (1, spS σ (σ 258 k) (σ 259 k) t.1 t.2.1 t.2.2)) ∨ (¬ (6 / gdF (lx σ k) s 0 6 = 1 ∧ soZ (σ 258 k) (σ 259 k) 8 0 ≠ none) ∧ ∃ s', mX11_isSplit 0 (k : Int) σ = some (0, s') ∧ frm scr σ s' ∧ ∀ i, i ≠ 145 → s' i = σ i) := by
  obtain ⟨⟨ab1, ab2⟩, ⟨-, ra1, ra2, -⟩, -, rb1, rb2, -⟩ := quatF hB hk hq
  obtain ⟨q1, hn, q3, q4, q5, q6, q7⟩ := hB
  have gi := gdF_in (lx σ k) (lx_in σ k) s 0 6 (by decide)
  have g6 : 0 ≤ 6 / gdF (lx σ k) s 0 6 ∧ 6 / gdF (lx σ k) s 0 6 ≤ 6 := by simp at gi; rcases gi with h | h | h | h <;> rw [h] <;> decide
  unfold mX11_isSplit mX11_isSplit_B44
  rw [gc0, gr' (lay0 hL).2.2.1 (by omega), indexOf_c hL hP hn hk, mCall_some, wI_id (by omega)]
  by_cases h1 : 6 / gdF (lx σ k) s 0 6 = 1
  · rw [if_pos h1, gr' (lay0 hL).2.2.2.2.2.2.1 (by omega), gr' q3 (by omega), first_c hL q1 (by omega), mCall_some, gr' q3 (by omega), second_c hL q1 (by omega), mCall_some, ab1, ab2, wI_id (by omega), wI_id (by omega)]
    rcases solve_c (σ := σ) ⟨ra1, ra2⟩ ⟨rb1, rb2⟩ with ⟨t, e1, e2⟩ | ⟨e1, x', y', z', e2⟩
    · refine Or.inl ⟨t, h1, e1, ?_⟩
      rw [e2, mCall_some, if_neg (by decide)]
    · refine Or.inr ⟨fun z => z.2 e1, spS σ (σ 258 k) (σ 259 k) x' y' z', ?_, frm_spS, fun i hi => funext fun j => spS_ne _ _ _ _ _ _ _ _ hi⟩
      rw [e2, mCall_some, if_pos (by decide)]
  · rw [if_neg h1]
    exact Or.inr ⟨fun z => h1 z.1, σ, rfl, frm.rf σ, fun _ _ => rfl⟩

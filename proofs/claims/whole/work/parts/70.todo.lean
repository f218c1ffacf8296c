/-! pairs still owed -/
theorem thrown_e (s : mSt) : mX12_thrown 253 s = some (s 253 0, s) := by
  unfold mX12_thrown
  rw [mG_pos (by decide)]
theorem pr_text (σ : mSt) (h : Inv σ) (a1 : Int) (h1 : i32 a1) : ∃ b s b2 s2, mX11_text 0 a1 σ = some (b, s) ∧ mX12_text 253 a1 s = some (b2, s2) ∧ wI b = wI b2 ∧ Inv s2 := by
  sorry
theorem pr_local (σ : mSt) (h : Inv σ) (a1 : Int) (h1 : i32 a1) (a2 : Int) (h2 : i32 a2) : ∃ b s b2 s2, mX11_local 0 a1 a2 σ = some (b, s) ∧ mX12_local 253 a1 a2 s = some (b2, s2) ∧ wI b = wI b2 ∧ Inv s2 := by
  sorry
theorem pr_place (σ : mSt) (h : Inv σ) (a1 : Int) (h1 : i32 a1) (a2 : Int) (h2 : i32 a2) : ∃ b s b2 s2, mX11_place 0 a1 a2 σ = some (b, s) ∧ mX12_place 253 a1 a2 s = some (b2, s2) ∧ wI b = wI b2 ∧ Inv s2 := by
  sorry
theorem pr_index (σ : mSt) (h : Inv σ) (a1 : Int) (h1 : i32 a1) : ∃ b s b2 s2, mX11_index 0 a1 σ = some (b, s) ∧ mX12_index 253 a1 s = some (b2, s2) ∧ wI b = wI b2 ∧ Inv s2 := by
  sorry
theorem pr_alike (σ : mSt) (h : Inv σ) (a1 : Int) (h1 : i32 a1) (a2 : Int) (h2 : i32 a2) : ∃ b s b2 s2, mX11_alike 0 a1 a2 σ = some (b, s) ∧ mX12_alike 253 a1 a2 s = some (b2, s2) ∧ wI b = wI b2 ∧ Inv s2 := by
  sorry
theorem pr_classes (σ : mSt) (h : Inv σ) : ∃ b s b2 s2, mX11_classes 0 σ = some (b, s) ∧ mX12_classes 253 s = some (b2, s2) ∧ wI b = wI b2 ∧ Inv s2 := by
  sorry
theorem pr_over (σ : mSt) (h : Inv σ) (a1 : Int) (h1 : i32 a1) (a2 : Int) (h2 : i32 a2) : ∃ b s b2 s2, mX11_over 0 a1 a2 σ = some (b, s) ∧ mX12_over 253 a1 a2 s = some (b2, s2) ∧ wI b = wI b2 ∧ Inv s2 := by
  sorry
theorem pr_element (σ : mSt) (h : Inv σ) (a1 : Int) (h1 : i32 a1) (a2 : Int) (h2 : i32 a2) : ∃ b s, mX11_element 0 a1 a2 σ = some (b, s) ∧ Inv s ∧ ((b = mThrow ∧ ∃ b2 s2, mX12_element 253 a1 a2 s = some (b2, s2) ∧ s2 253 0 = 1 ∧ Inv s2) ∨ (b ≠ mThrow ∧ ∀ s1, Inv s1 → frm (fun i _ => i = 275) s s1 → ∃ b2 s2, mX12_element 253 a1 a2 s1 = some (b2, s2) ∧ s2 253 0 = 0 ∧ s2 275 0 = s1 275 0 ∧ wI b = wI b2 ∧ Inv s2)) := by
  sorry
theorem pr_times (σ : mSt) (h : Inv σ) (a1 : Int) (h1 : i32 a1) (a2 : Int) (h2 : i32 a2) (a3 : Int) (h3 : i32 a3) : ∃ b s b2 s2, mX11_times 0 a1 a2 a3 σ = some (b, s) ∧ mX12_times 253 a1 a2 a3 s = some (b2, s2) ∧ wI b = wI b2 ∧ Inv s2 := by
  sorry
theorem pr_plus (σ : mSt) (h : Inv σ) (a1 : Int) (h1 : i32 a1) (a2 : Int) (h2 : i32 a2) (a3 : Int) (h3 : i32 a3) (a4 : Int) (h4 : i32 a4) : ∃ b s b2 s2, mX11_plus 0 a1 a2 a3 a4 σ = some (b, s) ∧ mX12_plus 253 a1 a2 a3 a4 s = some (b2, s2) ∧ wI b = wI b2 ∧ Inv s2 := by
  sorry
theorem pr_mirror (σ : mSt) (h : Inv σ) (a1 : Int) (h1 : i32 a1) (a2 : Int) (h2 : i32 a2) : ∃ b s b2 s2, mX11_mirror 0 a1 a2 σ = some (b, s) ∧ mX12_mirror 253 a1 a2 s = some (b2, s2) ∧ wI b = wI b2 ∧ Inv s2 := by
  sorry
theorem pr_inverse (σ : mSt) (h : Inv σ) (a1 : Int) (h1 : i32 a1) (a2 : Int) (h2 : i32 a2) : ∃ b s b2 s2, mX11_inverse 0 a1 a2 σ = some (b, s) ∧ mX12_inverse 253 a1 a2 s = some (b2, s2) ∧ wI b = wI b2 ∧ Inv s2 := by
  sorry
theorem pr_norm (σ : mSt) (h : Inv σ) (a1 : Int) (h1 : i32 a1) (a2 : Int) (h2 : i32 a2) : ∃ b s, mX11_norm 0 a1 a2 σ = some (b, s) ∧ Inv s ∧ ((b = mThrow ∧ ∃ b2 s2, mX12_norm 253 a1 a2 s = some (b2, s2) ∧ s2 253 0 = 1 ∧ Inv s2) ∨ (b ≠ mThrow ∧ ∀ s1, Inv s1 → frm (fun i _ => i = 275) s s1 → ∃ b2 s2, mX12_norm 253 a1 a2 s1 = some (b2, s2) ∧ s2 253 0 = 0 ∧ s2 275 0 = s1 275 0 ∧ wL b = wL b2 ∧ Inv s2)) := by
  sorry
theorem pr_trace (σ : mSt) (h : Inv σ) (a1 : Int) (h1 : i32 a1) (a2 : Int) (h2 : i32 a2) : ∃ b s, mX11_trace 0 a1 a2 σ = some (b, s) ∧ Inv s ∧ ((b = mThrow ∧ ∃ b2 s2, mX12_trace 253 a1 a2 s = some (b2, s2) ∧ s2 253 0 = 1 ∧ Inv s2) ∨ (b ≠ mThrow ∧ ∀ s1, Inv s1 → frm (fun i _ => i = 275) s s1 → ∃ b2 s2, mX12_trace 253 a1 a2 s1 = some (b2, s2) ∧ s2 253 0 = 0 ∧ s2 275 0 = s1 275 0 ∧ wL b = wL b2 ∧ Inv s2)) := by
  sorry
theorem pr_solution (σ : mSt) (h : Inv σ) (a1 : Int) (h1 : i32 a1) (a2 : Int) (h2 : i32 a2) : ∃ b s b2 s2, mX11_solution 0 a1 a2 σ = some (b, s) ∧ mX12_solution 253 a1 a2 s = some (b2, s2) ∧ wI b = wI b2 ∧ Inv s2 := by
  sorry
theorem pr_matrix (σ : mSt) (h : Inv σ) (a1 : Int) (h1 : i32 a1) (a2 : Int) (h2 : i32 a2) (a3 : Int) (h3 : i32 a3) (a4 : Int) (h4 : i32 a4) : ∃ b s, mX11_matrix 0 a1 a2 a3 a4 σ = some (b, s) ∧ Inv s ∧ ((b = mThrow ∧ ∃ b2 s2, mX12_matrix 253 a1 a2 a3 a4 s = some (b2, s2) ∧ s2 253 0 = 1 ∧ Inv s2) ∨ (b ≠ mThrow ∧ ∀ s1, Inv s1 → frm (fun i _ => i = 275) s s1 → ∃ b2 s2, mX12_matrix 253 a1 a2 a3 a4 s1 = some (b2, s2) ∧ s2 253 0 = 0 ∧ s2 275 0 = s1 275 0 ∧ wL b = wL b2 ∧ Inv s2)) := by
  sorry
theorem pr_disc (σ : mSt) (h : Inv σ) (a1 : Int) (h1 : i32 a1) : ∃ b s b2 s2, mX11_disc 0 a1 σ = some (b, s) ∧ mX12_disc 253 a1 s = some (b2, s2) ∧ wI b = wI b2 ∧ Inv s2 := by
  sorry
theorem pr_due (σ : mSt) (h : Inv σ) (a1 : Int) (h1 : i32 a1) : ∃ b s b2 s2, mX11_due 0 a1 σ = some (b, s) ∧ mX12_due 253 a1 s = some (b2, s2) ∧ wI b = wI b2 ∧ Inv s2 := by
  sorry
theorem pr_row (σ : mSt) (h : Inv σ) (a1 : Int) (h1 : i32 a1) (a2 : Int) (h2 : i32 a2) (a3 : Int) (h3 : i32 a3) : ∃ b s, mX11_row 0 a1 a2 a3 σ = some (b, s) ∧ Inv s ∧ ((b = mThrow ∧ ∃ b2 s2, mX12_row 253 a1 a2 a3 s = some (b2, s2) ∧ s2 253 0 = 1 ∧ Inv s2) ∨ (b ≠ mThrow ∧ ∀ s1, Inv s1 → frm (fun i _ => i = 275) s s1 → ∃ b2 s2, mX12_row 253 a1 a2 a3 s1 = some (b2, s2) ∧ s2 253 0 = 0 ∧ s2 275 0 = s1 275 0 ∧ wI b = wI b2 ∧ Inv s2)) := by
  sorry
theorem pr_enlarge (σ : mSt) (h : Inv σ) (a1 : Int) (h1 : i32 a1) (a2 : Int) (h2 : i32 a2) : ∃ b s b2 s2, mX11_enlarge 0 a1 a2 σ = some (b, s) ∧ mX12_enlarge 253 a1 a2 s = some (b2, s2) ∧ wI b = wI b2 ∧ Inv s2 := by
  sorry
theorem pr_greatest (σ : mSt) (h : Inv σ) (a1 : Int) (h1 : i32 a1) : ∃ b s b2 s2, mX11_greatest 0 a1 σ = some (b, s) ∧ mX12_greatest 253 a1 s = some (b2, s2) ∧ wI b = wI b2 ∧ Inv s2 := by
  sorry
theorem pr_plain (σ : mSt) (h : Inv σ) (a1 : Int) (h1 : i32 a1) : ∃ b s b2 s2, mX11_plain 0 a1 σ = some (b, s) ∧ mX12_plain 253 a1 s = some (b2, s2) ∧ wI b = wI b2 ∧ Inv s2 := by
  sorry
theorem pr_table (σ : mSt) (h : Inv σ) (a1 : Int) (h1 : i32 a1) (a2 : Int) (h2 : i32 a2) (a3 : Int) (h3 : i32 a3) (a4 : Int) (h4 : i32 a4) : ∃ b s, mX11_table 0 a1 a2 a3 a4 σ = some (b, s) ∧ Inv s ∧ ((b = mThrow ∧ ∃ b2 s2, mX12_table 253 a1 a2 a3 a4 s = some (b2, s2) ∧ s2 253 0 = 1 ∧ Inv s2) ∨ (b ≠ mThrow ∧ ∀ s1, Inv s1 → frm (fun i _ => i = 275) s s1 → ∃ b2 s2, mX12_table 253 a1 a2 a3 a4 s1 = some (b2, s2) ∧ s2 253 0 = 0 ∧ s2 275 0 = s1 275 0 ∧ wI b = wI b2 ∧ Inv s2)) := by
  sorry
theorem pr_isIn (σ : mSt) (h : Inv σ) (a1 : Int) (h1 : i32 a1) : ∃ b s b2 s2, mX11_isIn 0 a1 σ = some (b, s) ∧ mX12_isIn 253 a1 s = some (b2, s2) ∧ wI b = wI b2 ∧ Inv s2 := by
  sorry
theorem pr_ideal (σ : mSt) (h : Inv σ) (a1 : Int) (h1 : i32 a1) (a2 : Int) (h2 : i32 a2) : ∃ b s b2 s2, mX11_ideal 0 a1 a2 σ = some (b, s) ∧ mX12_ideal 253 a1 a2 s = some (b2, s2) ∧ wL b = wL b2 ∧ Inv s2 := by
  sorry
theorem pr_isInIdeal (σ : mSt) (h : Inv σ) (a1 : Int) (h1 : i32 a1) (a2 : Int) (h2 : i32 a2) (a3 : Int) (h3 : i32 a3) : ∃ b s b2 s2, mX11_isInIdeal 0 a1 a2 a3 σ = some (b, s) ∧ mX12_isInIdeal 253 a1 a2 a3 s = some (b2, s2) ∧ wI b = wI b2 ∧ Inv s2 := by
  sorry
theorem pr_isTwoSided (σ : mSt) (h : Inv σ) (a1 : Int) (h1 : i32 a1) (a2 : Int) (h2 : i32 a2) : ∃ b s b2 s2, mX11_isTwoSided 0 a1 a2 σ = some (b, s) ∧ mX12_isTwoSided 253 a1 a2 s = some (b2, s2) ∧ wI b = wI b2 ∧ Inv s2 := by
  sorry
theorem pr_many (σ : mSt) (h : Inv σ) (a1 : Int) (h1 : i32 a1) (a2 : Int) (h2 : i32 a2) : ∃ b s b2 s2, mX11_many 0 a1 a2 σ = some (b, s) ∧ mX12_many 253 a1 a2 s = some (b2, s2) ∧ wI b = wI b2 ∧ Inv s2 := by
  sorry

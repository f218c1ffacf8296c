/-! the class side of tokr -/
theorem nvF_rng {f : Nat → Int} {s : Nat} : ∀ m, (∀ j, j < m → 48 ≤ f (s + j) ∧ f (s + j) ≤ 57) → 0 ≤ nvF f s m ∧ nvF f s m ≤ 999999 := by
  intro m
  induction m with
  | zero => intro _; exact ⟨Int.le_refl _, by show (0 : Int) ≤ 999999; decide⟩
  | succ m ih =>
    intro h
    obtain ⟨h1, h2⟩ := ih (fun j hj => h j (by omega))
    have := h m (by omega)
    show 0 ≤ (if 100000 ≤ nvF f s m then nvF f s m else 10 * nvF f s m + f (s + m) - 48) ∧ (if 100000 ≤ nvF f s m then nvF f s m else 10 * nvF f s m + f (s + m) - 48) ≤ 999999
    by_cases c : 100000 ≤ nvF f s m
    · rw [if_pos c]; omega
    · rw [if_neg c]; omega

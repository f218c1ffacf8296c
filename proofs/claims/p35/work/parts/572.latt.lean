/-! the class side of latt -/
theorem vext {x y : V4} (h0 : x.1 = y.1) (h1 : x.2.1 = y.2.1) (h2 : x.2.2.1 = y.2.2.1) (h3 : x.2.2.2 = y.2.2.2) : x = y := by
  obtain ⟨a, b, c, d⟩ := x
  obtain ⟨e, f, g, i⟩ := y
  simp only at h0 h1 h2 h3
  subst h0 h1 h2 h3
  rfl

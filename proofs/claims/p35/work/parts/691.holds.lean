/-! the class side of holds -/
theorem Lay.stV {σ : mSt} (h : Lay σ) {r : Nat} {v : V4} (hr : shp r = (21, 4)) : Lay (stV σ r v) :=
  h.frm (W := fun i _ => i = r) (frm.stV (frm.rf σ) (fun _ => rfl)) (fun i j z => by rw [z]; exact fixR_data (by rw [hr]; exact Or.inr (Or.inl rfl)) j)

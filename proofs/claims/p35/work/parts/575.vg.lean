/-! the class side of vg -/
def vg : Nat → V4 → Int
  | 0, x => x.1
  | 1, x => x.2.1
  | 2, x => x.2.2.1
  | _, x => x.2.2.2
theorem lt4 {p : Nat → Prop} (h0 : p 0) (h1 : p 1) (h2 : p 2) (h3 : p 3) {i : Nat} (hi : i < 4) : p i := by
  rcases (show i = 0 ∨ i = 1 ∨ i = 2 ∨ i = 3 by omega) with rfl | rfl | rfl | rfl
  · exact h0
  · exact h1
  · exact h2
  · exact h3
theorem vg_ext {x y : V4} (h : ∀ i, i < 4 → vg i x = vg i y) : x = y := vext (h 0 (by omega)) (h 1 (by omega)) (h 2 (by omega)) (h 3 (by omega))
theorem vg_vS (k : Int) (x : V4) {i : Nat} (hi : i < 4) : vg i (vS k x) = k * vg i x := lt4 (p := fun i => vg i (vS k x) = k * vg i x) rfl rfl rfl rfl hi
theorem vg_rowV (σ : mSt) (r : Nat) {i : Nat} (hi : i < 4) : vg i (rowV σ r) = σ r i := lt4 (p := fun i => vg i (rowV σ r) = σ r i) rfl rfl rfl rfl hi

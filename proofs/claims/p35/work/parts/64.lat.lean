/-! the class side of lat -/
theorem gr' {x : Int} {r : Nat} {f : Nat → Option (Int × mSt)} (h : x = (r : Int)) (h0 : r ≠ 0) : mRef x f = f r := mRef_e h h0 f
def latIds : List Nat := [182, 191, 200, 209, 218, 227, 236, 245, 124, 131, 156]
theorem lat_lay {σ : mSt} (hL : Lay σ) {o : Nat} (ho : o ∈ latIds) : shp o = (3, 0) ∧ shp (o + 1) = (27, 4) ∧ shp (o + 6) = (21, 4) ∧ σ o 0 = ((o + 1 : Nat) : Int) ∧ σ o 1 = ((o + 6 : Nat) : Int) ∧ ∀ r, r < 4 → shp (o + 2 + r) = (21, 4) ∧ σ (o + 1) r = ((o + 2 + r : Nat) : Int) := by
  have k : ∀ o ∈ latIds, shp o = (3, 0) ∧ shp (o + 1) = (27, 4) ∧ shp (o + 6) = (21, 4) ∧ (fixR o 0 = true ∧ mS0 o 0 = ((o + 1 : Nat) : Int)) ∧ (fixR o 1 = true ∧ mS0 o 1 = ((o + 6 : Nat) : Int)) ∧ ∀ r, r < 4 → shp (o + 2 + r) = (21, 4) ∧ fixR (o + 1) r = true ∧ mS0 (o + 1) r = ((o + 2 + r : Nat) : Int) := by decide +kernel
  obtain ⟨k1, k2, k3, k4, k5, k6⟩ := k o ho
  exact ⟨k1, k2, k3, hL.get _ _ k4.1 k4.2, hL.get _ _ k5.1 k5.2, fun r hr => ⟨(k6 r hr).1, hL.get _ _ (k6 r hr).2.1 (k6 r hr).2.2⟩⟩
theorem ord_lay {σ : mSt} (hL : Lay σ) {k : Nat} (hk : k < 8) : shp (181 + 9 * k) = (5, 0) ∧ shp (189 + 9 * k) = (21, 4) ∧ 182 + 9 * k ∈ latIds ∧ σ 113 k = ((181 + 9 * k : Nat) : Int) ∧ σ (181 + 9 * k) 2 = ((182 + 9 * k : Nat) : Int) ∧ σ (181 + 9 * k) 3 = ((189 + 9 * k : Nat) : Int) := by
  have h : ∀ k, k < 8 → shp (181 + 9 * k) = (5, 0) ∧ shp (189 + 9 * k) = (21, 4) ∧ 182 + 9 * k ∈ latIds ∧ (fixR 113 k = true ∧ mS0 113 k = ((181 + 9 * k : Nat) : Int)) ∧ (fixR (181 + 9 * k) 2 = true ∧ mS0 (181 + 9 * k) 2 = ((182 + 9 * k : Nat) : Int)) ∧ (fixR (181 + 9 * k) 3 = true ∧ mS0 (181 + 9 * k) 3 = ((189 + 9 * k : Nat) : Int)) := by decide +kernel
  obtain ⟨k1, k2, k3, k4, k5, k6⟩ := h k hk
  exact ⟨k1, k2, k3, hL.get _ _ k4.1 k4.2, hL.get _ _ k5.1 k5.2, hL.get _ _ k6.1 k6.2⟩
def rwC (σ : mSt) (o : Nat) : Nat → V4 := fun r => rowV σ (o + 2 + r)
theorem rwC_at (σ : mSt) (o : Nat) {r c : Nat} (hc : c < 4) : σ (o + 2 + r) c = vg c (rwC σ o r) := (vg_rowV σ _ hc).symm
def ordW (k i j : Nat) : Prop := scr i j ∨ (i = 181 + 9 * k ∧ j < 2) ∨ (i = 182 + 9 * k ∧ j = 2) ∨ (184 + 9 * k ≤ i ∧ i ≤ 187 + 9 * k) ∨ (i = 269 ∧ 16 * k ≤ j ∧ j < 16 * k + 16) ∨ ((i = 270 ∨ i = 271) ∧ j = k) ∨ (i = 114 ∧ (j = 3 ∨ j = 4))
theorem ordW_fix {k i j : Nat} (hk : k < 8) (h : ordW k i j) : fixR i j = false := by
  rcases h with h | ⟨rfl, h⟩ | ⟨rfl, rfl⟩ | ⟨h1, h2⟩ | ⟨rfl, h⟩ | ⟨h, rfl⟩ | ⟨rfl, h⟩
  · exact h.1
  · have : ∀ k, k < 8 → fixR (181 + 9 * k) 0 = false ∧ fixR (181 + 9 * k) 1 = false := by decide +kernel
    rcases (show j = 0 ∨ j = 1 by omega) with rfl | rfl
    · exact (this k hk).1
    · exact (this k hk).2
  · have : ∀ k, k < 8 → fixR (182 + 9 * k) 2 = false := by decide +kernel
    exact this k hk
  · have : ∀ k, k < 8 → ∀ r, r < 4 → (shp (184 + 9 * k + r)).1 = 21 := by decide +kernel
    have := this k hk (i - (184 + 9 * k)) (by omega)
    rw [show 184 + 9 * k + (i - (184 + 9 * k)) = i by omega] at this
    exact fixR_data (by omega) j
  · exact fixR_data (by decide) j
  · rcases h with rfl | rfl
    · exact fixR_data (by decide) j
    · exact fixR_data (by decide) j
  · rcases h with rfl | rfl <;> decide +kernel

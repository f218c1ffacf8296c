/-! the class side of told -/
theorem book_lay {σ : mSt} (hL : Lay σ) {B : Nat} (h : B = 37 ∨ B = 69) : shp B = (0, 0) ∧ σ B 1 = ((B + 1 : Nat) : Int) ∧ σ B 2 = ((B + 2 : Nat) : Int) ∧ σ B 3 = ((B + 3 : Nat) : Int) ∧ σ B 4 = ((B + 4 : Nat) : Int) ∧ σ B 5 = ((B + 5 : Nat) : Int) ∧ σ B 6 = ((B + 14 : Nat) : Int) ∧ σ B 7 = ((B + 23 : Nat) : Int) ∧ shp (B + 1) = (20, 8) ∧ shp (B + 2) = (20, 8) ∧ shp (B + 3) = (20, 8) ∧ shp (B + 4) = (20, 8) ∧ shp (B + 5) = (25, 8) ∧ shp (B + 14) = (26, 8) ∧ shp (B + 23) = (26, 8) ∧ ∀ k, k < 8 → σ (B + 5) k = ((B + 6 + k : Nat) : Int) ∧ σ (B + 14) k = ((B + 15 + k : Nat) : Int) ∧ σ (B + 23) k = ((B + 24 + k : Nat) : Int) ∧ shp (B + 6 + k) = (22, 10) ∧ shp (B + 15 + k) = (20, 4) ∧ shp (B + 24 + k) = (20, 4) := by
  have k1 : ∀ k, k < 8 → (fixR 42 k = true ∧ mS0 42 k = ((37 + 6 + k : Nat) : Int) ∧ fixR 51 k = true ∧ mS0 51 k = ((37 + 15 + k : Nat) : Int) ∧ fixR 60 k = true ∧ mS0 60 k = ((37 + 24 + k : Nat) : Int) ∧ shp (37 + 6 + k) = (22, 10) ∧ shp (37 + 15 + k) = (20, 4) ∧ shp (37 + 24 + k) = (20, 4)) ∧ (fixR 74 k = true ∧ mS0 74 k = ((69 + 6 + k : Nat) : Int) ∧ fixR 83 k = true ∧ mS0 83 k = ((69 + 15 + k : Nat) : Int) ∧ fixR 92 k = true ∧ mS0 92 k = ((69 + 24 + k : Nat) : Int) ∧ shp (69 + 6 + k) = (22, 10) ∧ shp (69 + 15 + k) = (20, 4) ∧ shp (69 + 24 + k) = (20, 4)) := by decide +kernel
  rcases h with rfl | rfl
  · refine ⟨by decide, hL.get _ _ (by decide +kernel) (by decide +kernel), hL.get _ _ (by decide +kernel) (by decide +kernel), hL.get _ _ (by decide +kernel) (by decide +kernel), hL.get _ _ (by decide +kernel) (by decide +kernel), hL.get _ _ (by decide +kernel) (by decide +kernel), hL.get _ _ (by decide +kernel) (by decide +kernel), hL.get _ _ (by decide +kernel) (by decide +kernel), by decide, by decide, by decide, by decide, by decide, by decide, by decide, fun k hk => ?_⟩
    obtain ⟨⟨a1, a2, a3, a4, a5, a6, a7⟩, -⟩ := k1 k hk
    exact ⟨hL.get _ _ a1 a2, hL.get _ _ a3 a4, hL.get _ _ a5 a6, a7⟩
  · refine ⟨by decide, hL.get _ _ (by decide +kernel) (by decide +kernel), hL.get _ _ (by decide +kernel) (by decide +kernel), hL.get _ _ (by decide +kernel) (by decide +kernel), hL.get _ _ (by decide +kernel) (by decide +kernel), hL.get _ _ (by decide +kernel) (by decide +kernel), hL.get _ _ (by decide +kernel) (by decide +kernel), hL.get _ _ (by decide +kernel) (by decide +kernel), by decide, by decide, by decide, by decide, by decide, by decide, by decide, fun k hk => ?_⟩
    obtain ⟨-, ⟨a1, a2, a3, a4, a5, a6, a7⟩⟩ := k1 k hk
    exact ⟨hL.get _ _ a1 a2, hL.get _ _ a3 a4, hL.get _ _ a5 a6, a7⟩
theorem kind_c {σ : mSt} (hL : Lay σ) {B k : Nat} (h : B = 37 ∨ B = 69) (hk : k < 8) : mX0_kind B (k : Int) σ = some (σ (B + 1) k, σ) := by
  obtain ⟨l0, l1, l2, l3, l4, l5, l6, l7, m1, m2, m3, m4, m5, m6, m7, -⟩ := book_lay hL h
  unfold mX0_kind
  refine mR_eq (mR_G (isC_of l0) (mR_ref l1 (by omega) (mR_G (ixOK_of m1 (by omega) (by omega) (by omega)) (mR_ret ⟨by rw [wI_nat (by omega)], rfl⟩))))
theorem first_c {σ : mSt} (hL : Lay σ) {B k : Nat} (h : B = 37 ∨ B = 69) (hk : k < 8) : mX0_first B (k : Int) σ = some (σ (B + 2) k, σ) := by
  obtain ⟨l0, l1, l2, l3, l4, l5, l6, l7, m1, m2, m3, m4, m5, m6, m7, -⟩ := book_lay hL h
  unfold mX0_first
  refine mR_eq (mR_G (isC_of l0) (mR_ref l2 (by omega) (mR_G (ixOK_of m2 (by omega) (by omega) (by omega)) (mR_ret ⟨by rw [wI_nat (by omega)], rfl⟩))))
theorem second_c {σ : mSt} (hL : Lay σ) {B k : Nat} (h : B = 37 ∨ B = 69) (hk : k < 8) : mX0_second B (k : Int) σ = some (σ (B + 3) k, σ) := by
  obtain ⟨l0, l1, l2, l3, l4, l5, l6, l7, m1, m2, m3, m4, m5, m6, m7, -⟩ := book_lay hL h
  unfold mX0_second
  refine mR_eq (mR_G (isC_of l0) (mR_ref l3 (by omega) (mR_G (ixOK_of m3 (by omega) (by omega) (by omega)) (mR_ret ⟨by rw [wI_nat (by omega)], rfl⟩))))
theorem iAlg.rng {σ : mSt} {B o k : Nat} (h : iAlg σ B o k) (hk : k < 8) : 0 ≤ σ 257 (o + k) ∧ σ 257 (o + k) ≤ 2 ∧ -999 ≤ σ 258 (o + k) ∧ σ 258 (o + k) ≤ 999 ∧ -999 ≤ σ 259 (o + k) ∧ σ 259 (o + k) ≤ 999 := by
  have := h.2.2.2.2
  omega

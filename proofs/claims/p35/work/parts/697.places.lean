/-! the class side of places -/
theorem places_lay {σ : mSt} (hL : Lay σ) : shp 101 = (6, 0) ∧ shp 102 = (20, 64) ∧ shp 103 = (26, 8) ∧ σ 101 2 = ((102 : Nat) : Int) ∧ σ 101 3 = ((103 : Nat) : Int) ∧ ∀ k, k < 8 → shp (104 + k) = (20, 64) ∧ σ 103 k = ((104 + k : Nat) : Int) := by
  have h : ∀ k, k < 8 → shp (104 + k) = (20, 64) ∧ fixR 103 k = true ∧ mS0 103 k = ((104 + k : Nat) : Int) := by decide +kernel
  exact ⟨by decide, by decide, by decide, hL.get _ _ (by decide +kernel) (by decide +kernel), hL.get _ _ (by decide +kernel) (by decide +kernel), fun k hk => ⟨(h k hk).1, hL.get _ _ (h k hk).2.1 (h k hk).2.2⟩⟩
theorem loc_rng (σ : mSt) (k : Nat) (p : Int) : 0 ≤ loc σ k p ∧ loc σ k p ≤ 5 := locF_rng _ _ _ _ _ 9 k p
theorem place_rng {p : Int} (h : place p) : 0 ≤ p ∧ p < 1000 := by
  rcases h with rfl | ⟨h, h2⟩
  · omega
  · have := h.1
    omega
theorem sixL2 {σ : mSt} {n s k : Nat} {p : Int} (hL : Lay σ) (hP : iPlaces σ n s) (hn : n ≤ 8) (hk : k < n) (hp : -2147483648 ≤ p ∧ p < 2147483648) : ∀ (m i N : Nat), i + m = s → m < N → (∀ j, j < i → σ 102 j ≠ p) → mX7_sixthsAt_L2 101 (k : Int) p (fun zσ => mX7_sixthsAt_B35 101 (k : Int) p zσ) N (i : Int) σ = some ((if ∃ j, j < s ∧ σ 102 j = p then loc σ k p else 0), σ) := by
  obtain ⟨s64, p2, p3, p4, p5, p6⟩ := hP
  obtain ⟨k1, k2, k3, k4, k5, k6⟩ := places_lay hL
  intro m
  induction m with
  | zero =>
    intro i N h1 h2 h3
    obtain ⟨N, rfl⟩ : ∃ q, N = q + 1 := ⟨N - 1, by omega⟩
    rw [mX7_sixthsAt_L2.eq_2, p2, if_pos (by rw [wI_id (by omega), wI_id (by omega)]; omega), if_neg (fun ⟨j, j1, j2⟩ => h3 j (by omega) j2)]
    rfl
  | succ m ih =>
    intro i N h1 h2 h3
    obtain ⟨N, rfl⟩ : ∃ q, N = q + 1 := ⟨N - 1, by omega⟩
    have pr := place_rng (p4 i (by omega))
    rw [mX7_sixthsAt_L2.eq_2, p2, if_neg (by rw [wI_id (by omega), wI_id (by omega)]; omega), gr' k4 (by omega), gx k2 _ (by omega), wI_nat (by omega), wI_id (x := σ 102 i) (by omega), wI_id (x := p) hp]
    by_cases he : σ 102 i = p
    · rw [if_pos he, gr' k5 (by omega), gx k3 _ (by omega), wI_nat (by omega), gr' (k6 k (by omega)).2 (by omega), gx (k6 k (by omega)).1 _ (by omega), if_pos ⟨i, by omega, he⟩, p5 k i hk (by omega), he]
    · rw [if_neg he, bnd_eq, show (i : Int) + 1 = ((i + 1 : Nat) : Int) by omega]
      exact ih (i + 1) N (by omega) (by omega) (fun j hj => by
        by_cases hji : j = i
        · rw [hji]; exact he
        · exact h3 j (by omega))
theorem sixthsAt_e {σ : mSt} {n s k : Nat} {p : Int} (hL : Lay σ) (hP : iPlaces σ n s) (hn : n ≤ 8) (hk : k < n) (hp : place p ∨ (1000 ≤ p ∧ p < 2147483648)) : mX7_sixthsAt 101 (k : Int) p σ = some ((if p < 1000 then loc σ k p else 0), σ) := by
  have pr : 0 ≤ p ∧ p < 2147483648 := by
    rcases hp with h | h
    · have := place_rng h; omega
    · omega
  unfold mX7_sixthsAt
  have := sixL2 (p := p) hL hP hn hk (by omega) s 0 mF (by omega) (by have := hP.1; unfold mF; omega) (fun j hj => by omega)
  rw [gc101]
  refine this.trans ?_
  obtain ⟨s64, p2, p3, p4, p5, p6⟩ := hP
  by_cases h : p < 1000
  · rw [if_pos h]
    have hpl : place p := hp.resolve_right (by omega)
    by_cases he : ∃ j, j < s ∧ σ 102 j = p
    · rw [if_pos he]
    · rw [if_neg he, p6 k p hk hpl (fun i hi z => he ⟨i, hi, z⟩)]
  · rw [if_neg h, if_neg (fun ⟨j, j1, j2⟩ => by have := place_rng (p4 j j1); omega)]
noncomputable def lx (σ : mSt) (k : Nat) : Nat → Int := fun i => loc σ k (σ 102 i)
theorem told_t {σ : mSt} {B n k : Nat} (hB : iBook σ B n) (hk : k < n) : mX11_isTold 0 (k : Int) σ = some (1, σ) := by
  have := hB.2.1
  rw [told_c hB (by unfold i32; omega), b2_t ⟨by omega, by omega⟩]

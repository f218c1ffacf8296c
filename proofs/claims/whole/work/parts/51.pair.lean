theorem gk_rk {f c : Nat → Int} {d sg : Int} (hs : sg = 1 ∨ sg = -1) (hf : ∀ i, i < 4 → f i = sg * c i) (hd : d = sg * c 4) (h0 : 0 < d) : gk f d = rk c := by
  have sd : ∀ {e x : Int}, e ∣ sg * x ↔ e ∣ x := by
    intro e x
    rcases hs with rfl | rfl
    · rw [Int.one_mul]
    · rw [Int.neg_mul, Int.one_mul, Int.dvd_neg]
  have g := gk_dvd (f := f) (d := d)
  have gp := gk_pos (f := f) h0
  have hr : rk c ∣ c 0 ∧ rk c ∣ c 1 ∧ rk c ∣ c 2 ∧ rk c ∣ c 3 ∧ rk c ∣ c 4 := by
    unfold rk
    have a := Int.gcd_dvd_left (Int.gcd (Int.gcd (c 0) (c 1)) (Int.gcd (c 2) (c 3)) : Int) (c 4)
    have a4 := Int.gcd_dvd_right (Int.gcd (Int.gcd (c 0) (c 1)) (Int.gcd (c 2) (c 3)) : Int) (c 4)
    have b1 := Int.dvd_trans a (Int.gcd_dvd_left (Int.gcd (c 0) (c 1) : Int) (Int.gcd (c 2) (c 3) : Int))
    have b2 := Int.dvd_trans a (Int.gcd_dvd_right (Int.gcd (c 0) (c 1) : Int) (Int.gcd (c 2) (c 3) : Int))
    exact ⟨Int.dvd_trans b1 (Int.gcd_dvd_left _ _), Int.dvd_trans b1 (Int.gcd_dvd_right _ _), Int.dvd_trans b2 (Int.gcd_dvd_left _ _), Int.dvd_trans b2 (Int.gcd_dvd_right _ _), a4⟩
  have h1 : rk c ∣ gk f d := by
    refine gk_max (by rw [hd, sd]; exact hr.2.2.2.2) (fun i hi => ?_)
    rw [hf i hi, sd]
    rcases (show i = 0 ∨ i = 1 ∨ i = 2 ∨ i = 3 by omega) with rfl | rfl | rfl | rfl
    · exact hr.1
    · exact hr.2.1
    · exact hr.2.2.1
    · exact hr.2.2.2.1
  have h2 : gk f d ∣ rk c := by
    have gi : ∀ i, i < 4 → gk f d ∣ c i := fun i hi => by
      have := g.2 i hi
      rw [hf i hi, sd] at this
      exact this
    have g4 : gk f d ∣ c 4 := by
      have := g.1
      rw [hd, sd] at this
      rw [hd]
      exact this
    unfold rk
    exact Int.dvd_coe_gcd (Int.dvd_coe_gcd (Int.dvd_coe_gcd (gi 0 (by omega)) (gi 1 (by omega))) (Int.dvd_coe_gcd (gi 2 (by omega)) (gi 3 (by omega)))) g4
  have h3 : 0 ≤ rk c := by unfold rk; omega
  exact Int.dvd_antisymm (by omega) h3 h2 h1
theorem rq_eq {f c : Nat → Int} {d sg : Int} (hs : sg = 1 ∨ sg = -1) (hf : ∀ i, i < 4 → f i = sg * c i) (hd : d = sg * c 4) (h0 : 0 < d) : rq c 4 = d / gk f d ∧ ∀ i, i < 4 → rq c i = f i / gk f d := by
  have e := gk_rk hs hf hd h0
  have g := gk_dvd (f := f) (d := d)
  have gp := gk_pos (f := f) h0
  have ex : ∀ x y : Int, y = sg * x → gk f d ∣ y → x.tdiv (rg c) = y / gk f d := by
    intro x y hxy hdv
    obtain ⟨m, hm⟩ := hdv
    rw [hm, Int.mul_ediv_cancel_left _ (by omega)]
    rcases hs with rfl | rfl
    · rw [show rg c = gk f d by unfold rg; rw [if_pos (by omega), e], show x = gk f d * m by omega, Int.mul_tdiv_cancel_left _ (by omega)]
    · rw [show rg c = -(gk f d) by unfold rg; rw [if_neg (by omega), e], show x = -(gk f d) * m by rw [Int.neg_mul]; omega, Int.mul_tdiv_cancel_left _ (by omega)]
  exact ⟨ex _ _ hd g.1, fun i hi => ex _ _ (hf i hi) (g.2 i hi)⟩
theorem fit_eq {f c : Nat → Int} {d sg : Int} (hs : sg = 1 ∨ sg = -1) (hf : ∀ i, i < 4 → f i = sg * c i) (hd : d = sg * c 4) (h0 : 0 < d) : fitR c ↔ fitK f d := by
  obtain ⟨e4, e⟩ := rq_eq hs hf hd h0
  have gp := gk_pos (f := f) h0
  have hq : 0 ≤ d / gk f d := Int.ediv_nonneg (by omega) (by omega)
  refine ⟨fun h => ⟨by rw [← e4]; exact (h 4 (by omega)).2, fun i hi => by rw [← e i hi]; exact h i (by omega)⟩, fun h j hj => ?_⟩
  by_cases hj4 : j = 4
  · subst hj4
    rw [e4]
    exact ⟨by omega, h.1⟩
  · rw [e j (by omega)]
    exact h.2 j (by omega)
theorem dig_eq {a b : Nat} (h : a % 2 = 1 ↔ b % 2 = 1) : a % 2 = b % 2 := by omega
theorem bits_ext {x y : Nat} (hx : x < 256) (hy : y < 256) (h : ∀ k, k < 8 → (x / 2 ^ k % 2 = 1 ↔ y / 2 ^ k % 2 = 1)) : x = y := by
  have h0 := dig_eq (h 0 (by omega))
  have h1 := dig_eq (h 1 (by omega))
  have h2 := dig_eq (h 2 (by omega))
  have h3 := dig_eq (h 3 (by omega))
  have h4 := dig_eq (h 4 (by omega))
  have h5 := dig_eq (h 5 (by omega))
  have h6 := dig_eq (h 6 (by omega))
  have h7 := dig_eq (h 7 (by omega))
  clear h
  simp only [Nat.reducePow] at h0 h1 h2 h3 h4 h5 h6 h7
  have e : ∀ z : Nat, z < 256 → z = z / 1 % 2 + 2 * (z / 2 % 2) + 4 * (z / 4 % 2) + 8 * (z / 8 % 2) + 16 * (z / 16 % 2) + 32 * (z / 32 % 2) + 64 * (z / 64 % 2) + 128 * (z / 128 % 2) := by
    intro z hz
    omega
  rw [e x hx, e y hy, h0, h1, h2, h3, h4, h5, h6, h7]

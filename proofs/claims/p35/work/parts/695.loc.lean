/-! the class side of loc -/
def witF : Nat → Int → Int → Int
  | 0, _, n => n
  | f + 1, p, n => if n % p = 0 then witF f p (n / p) else n
/-- a number without squares, once less by a prime -/
def su (a p : Int) : Int := if p ∣ a then a / p else a
theorem sq_free {a p : Int} (h0 : a ≠ 0) (h1 : -60 ≤ a ∧ a ≤ 60) (hs : sqf a) (hp : 2 ≤ p) : ¬ p * p ∣ a := by
  intro h
  by_cases h8 : p < 8
  · exact hs p hp h8 (Int.emod_eq_zero_of_dvd h)
  · have := sq_mono (show (0 : Int) ≤ 8 by omega) (show 8 ≤ p by omega)
    have h2 := Int.le_of_dvd (by omega) (Int.dvd_natAbs.mpr h)
    omega
theorem ord_sqf {a p : Int} (h0 : a ≠ 0) (h1 : -60 ≤ a ∧ a ≤ 60) (hs : sqf a) (hp : 2 ≤ p) (f : Nat) : ordF (f + 2) p a = (if p ∣ a then 1 else 0) ∧ witF (f + 2) p a = su a p := by
  have nd := sq_free h0 h1 hs hp
  unfold su
  show (if a % p = 0 then (if a / p % p = 0 then ordF f p (a / p / p) + 1 else 0) + 1 else 0) = _ ∧ (if a % p = 0 then (if a / p % p = 0 then witF f p (a / p / p) else a / p) else a) = _
  by_cases hd : p ∣ a
  · rw [if_pos (Int.emod_eq_zero_of_dvd hd), if_pos hd, if_pos hd, if_pos (Int.emod_eq_zero_of_dvd hd)]
    obtain ⟨y, rfl⟩ := hd
    rw [Int.mul_ediv_cancel_left _ (by omega)]
    have ny : ¬ y % p = 0 := fun z => nd (by
      obtain ⟨w, rfl⟩ := Int.dvd_of_emod_eq_zero z
      exact ⟨w, by rw [Int.mul_assoc]⟩)
    rw [if_neg ny, if_neg ny]
    exact ⟨rfl, rfl⟩
  · rw [if_neg (fun z => hd (Int.dvd_of_emod_eq_zero z)), if_neg hd, if_neg hd, if_neg (fun z => hd (Int.dvd_of_emod_eq_zero z))]
    exact ⟨rfl, rfl⟩
theorem su_rng {a p : Int} (h0 : a ≠ 0) (h1 : -60 ≤ a ∧ a ≤ 60) (hs : sqf a) (hp : 2 ≤ p) : -60 ≤ su a p ∧ su a p ≤ 60 ∧ ¬ p ∣ su a p := by
  have nd := sq_free h0 h1 hs hp
  unfold su
  by_cases hd : p ∣ a
  · rw [if_pos hd]
    obtain ⟨y, rfl⟩ := hd
    rw [Int.mul_ediv_cancel_left _ (by omega)]
    have ya : 2 * y.natAbs ≤ (p * y).natAbs := by
      rw [Int.natAbs_mul]
      exact Nat.mul_le_mul_right _ (by omega)
    refine ⟨by omega, by omega, fun ⟨w, hw⟩ => nd ⟨w, ?_⟩⟩
    rw [hw, Int.mul_assoc]
  · rw [if_neg hd]
    exact ⟨h1.1, h1.2, hd⟩
theorem sq8 {u : Int} (ho : ¬ 2 ∣ u) : (8 : Int) ∣ u * u - 1 := by
  obtain ⟨k, rfl⟩ : ∃ k, u = 2 * k + 1 := ⟨u / 2, by omega⟩
  have h2 : (2 : Int) ∣ k * (k + 1) := by
    rcases (show k % 2 = 0 ∨ (k + 1) % 2 = 0 by omega) with h | h
    · obtain ⟨w, hw⟩ := Int.dvd_of_emod_eq_zero h
      exact ⟨w * (k + 1), by rw [hw]; grind⟩
    · obtain ⟨w, hw⟩ := Int.dvd_of_emod_eq_zero h
      exact ⟨k * w, by rw [hw]; grind⟩
  obtain ⟨w, hw⟩ := h2
  exact ⟨w, by grind⟩

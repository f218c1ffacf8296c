/-! the class side of num -/
theorem mul63 {x y : Int} (hx : 0 ≤ x) (hy : 0 ≤ y) (h1 : x < 9223372036854775808) (h2 : y < 9223372036854775808) : x * y < 2 ^ 126 := by
  have h3 : x * y ≤ x * 9223372036854775807 := Int.mul_le_mul_of_nonneg_left (by omega) hx
  have h4 : x * 9223372036854775807 ≤ 9223372036854775807 * 9223372036854775807 := Int.mul_le_mul_of_nonneg_right (by omega) (by omega)
  exact Int.lt_of_le_of_lt (Int.le_trans h3 h4) (by decide)
theorem gcd_e (a b : Int) (σ : mSt) (ha : -9223372036854775808 < a ∧ a < 9223372036854775808) (hb : -9223372036854775808 < b ∧ b < 9223372036854775808) : mX5_greatestDivisor a b σ = some ((Int.gcd a b : Int), σ) := by
  unfold mX5_greatestDivisor
  rw [abs_e a σ ha, mCall_some, abs_e b σ hb, mCall_some, show Int.gcd a b = Int.gcd (a.natAbs : Int) (b.natAbs : Int) by simp [Int.gcd]]
  have h1 : (0 : Int) ≤ a.natAbs ∧ (a.natAbs : Int) < 9223372036854775808 := by omega
  have h2 : (0 : Int) ≤ b.natAbs ∧ (b.natAbs : Int) < 9223372036854775808 := by omega
  revert h1 h2
  generalize (a.natAbs : Int) = x
  generalize (b.natAbs : Int) = y
  intro h1 h2
  rw [show mF = 999999999999 + 1 from rfl, mX5_greatestDivisor_L15.eq_2]
  simp (disch := omega) only [wI_id, wL_id, wI_wI, wL_wL, wL_wI]
  rw [if_neg (by omega)]
  by_cases hy : y = 0
  · subst hy
    rw [if_pos rfl]
    simp [mX5_greatestDivisor_B51, Int.gcd, show (x.natAbs : Int) = x by omega]
  · rw [if_neg hy, mG_pos hy, bnd_eq, bnd_eq, Int.tmod_eq_emod_of_nonneg h1.1]
    have h8 : 0 ≤ x % y := Int.emod_nonneg _ hy
    have h9 : x % y < y := Int.emod_lt_of_pos _ (by omega)
    rw [gcdL_e a b σ _ 126 y (x % y) (0 + 1) 999999999999 h9 h8 h2.2 (mul63 h2.1 h8 h2.2 (by omega)) (by omega) (by omega) (by omega), gcd_step]
    rfl
theorem neg_msb (z : Int64) : z.toInt < 0 ↔ z.toBitVec.msb = true := by
  rw [BitVec.msb_eq_toInt, decide_eq_true_iff, Int64.toInt_toBitVec]
theorem xor_sgn {a b : Int} (ha : -9223372036854775808 ≤ a ∧ a < 9223372036854775808) (hb : -9223372036854775808 ≤ b ∧ b < 9223372036854775808) : 0 ≤ wL (oXorL a b) ↔ (0 ≤ a ↔ 0 ≤ b) := by
  have e : wL (oXorL a b) = oXorL a b := wL_id ⟨Int64.le_toInt _, Int64.toInt_lt _⟩
  have h1 := neg_msb (Int64.ofInt a ^^^ Int64.ofInt b)
  have h2 := neg_msb (Int64.ofInt a)
  have h3 := neg_msb (Int64.ofInt b)
  rw [Int64.toBitVec_xor, BitVec.msb_xor] at h1
  rw [show (Int64.ofInt a).toInt = a from wL_id ha] at h2
  rw [show (Int64.ofInt b).toInt = b from wL_id hb] at h3
  rw [e]
  unfold oXorL
  revert h1 h2 h3
  cases (Int64.ofInt a).toBitVec.msb <;> cases (Int64.ofInt b).toBitVec.msb <;> simp <;> omega
theorem fdiv_e (a b : Int) (σ : mSt) (hb : 0 < b) (h1 : -9223372036854775808 ≤ a ∧ a < 9223372036854775808) (h2 : b < 9223372036854775808) : mJ9_floorDiv_f86c9 a b σ = some (a / b, σ) := by
  have h3 : b * (a / b) + a % b = a := Int.mul_ediv_add_emod a b
  have h4 : 0 ≤ a % b := Int.emod_nonneg _ (by omega)
  have h5 : a % b < b := Int.emod_lt_of_pos _ hb
  unfold mJ9_floorDiv_f86c9
  rw [wL_id h1, wL_id (x := b) (by omega), mG_pos (by omega), bnd_eq]
  by_cases ha : 0 ≤ a
  · rw [if_pos ((xor_sgn h1 (by omega)).mpr (by omega)), Int.tdiv_eq_ediv_of_nonneg ha]
  · rw [if_neg (fun h => by have := (xor_sgn h1 (by omega)).mp h; omega)]
    have h6 : a / b ≤ -1 := by
      have := Int.ediv_lt_of_lt_mul hb (show a < 0 * b by omega)
      omega
    have hs : b.sign = 1 := Int.sign_eq_one_of_pos hb
    by_cases hd : b ∣ a
    · rw [Int.tdiv_eq_ediv, if_pos (Or.inr hd), Int.add_zero]
      have h7 : a / b * b = a := Int.ediv_mul_cancel hd
      rw [h7, wL_id h1, if_pos rfl]
    · rw [Int.tdiv_eq_ediv, if_neg (show ¬ (0 ≤ a ∨ _ ∣ a) from fun h => h.elim ha hd), hs]
      have h7 : a % b ≠ 0 := fun h => hd (Int.dvd_of_emod_eq_zero h)
      have h8 : (a / b + 1) * b = a - a % b + b := by
        rw [Int.add_mul, Int.one_mul, Int.mul_comm (a / b) b]; omega
      have h9 : (a / b + 1) * b ≤ 0 * b := Int.mul_le_mul_of_nonneg_right (by omega) (by omega)
      rw [h8] at h9 ⊢
      rw [wL_id (by omega), if_neg (by omega), show a / b + 1 - 1 = a / b by omega]
theorem quot_e (a b : Int) (σ : mSt) (hb : 0 < b) (h1 : -9223372036854775808 ≤ a ∧ a < 9223372036854775808) (h2 : b < 9223372036854775808) : mX5_quotient a b σ = some (a / b, σ) := by
  unfold mX5_quotient
  rw [wL_id (x := b) (by omega), if_neg (by omega), fdiv_e a b σ hb h1 h2]
  rfl
theorem fmod_e (a b : Int) (σ : mSt) (hb : 0 < b) (h1 : -9223372036854775808 ≤ a ∧ a < 9223372036854775808) (h2 : b < 9223372036854775808) : mJ9_floorMod_f86c9 a b σ = some (a % b, σ) := by
  have h4 : 0 ≤ a % b := Int.emod_nonneg _ (by omega)
  have h5 : a % b < b := Int.emod_lt_of_pos _ hb
  unfold mJ9_floorMod_f86c9
  rw [wL_id h1, wL_id (x := b) (by omega), mG_pos (by omega), bnd_eq]
  by_cases ha : 0 ≤ a
  · rw [if_pos ((xor_sgn h1 (by omega)).mpr (by omega)), Int.tmod_eq_emod_of_nonneg ha]
  · rw [if_neg (fun h => by have := (xor_sgn h1 (by omega)).mp h; omega)]
    by_cases hd : b ∣ a
    · have h7 : a % b = 0 := Int.emod_eq_zero_of_dvd hd
      rw [Int.tmod_eq_emod, if_pos (Or.inr hd), h7, if_pos (by decide)]
      rfl
    · have h7 : a % b ≠ 0 := fun h => hd (Int.dvd_of_emod_eq_zero h)
      rw [Int.tmod_eq_emod, if_neg (show ¬ (0 ≤ a ∨ _ ∣ a) from fun h => h.elim ha hd), wL_id (by omega), if_neg (by omega), show a % b - (b.natAbs : Int) + b = a % b by omega]
theorem rest_e (a b : Int) (σ : mSt) (hb : 0 < b) (h1 : -9223372036854775808 ≤ a ∧ a < 9223372036854775808) (h2 : b < 9223372036854775808) : mX5_rest a b σ = some (a % b, σ) := by
  unfold mX5_rest
  rw [wL_id (x := b) (by omega), if_neg (by omega), fmod_e a b σ hb h1 h2]
  rfl
noncomputable def b2 (p : Prop) : Int := @ite Int p (Classical.propDecidable p) 1 0
theorem b2_t {p : Prop} (h : p) : b2 p = 1 := by unfold b2; rw [if_pos h]
theorem b2_f {p : Prop} (h : ¬ p) : b2 p = 0 := by unfold b2; rw [if_neg h]
theorem b2_iff {p q : Prop} (h : p ↔ q) : b2 p = b2 q := by rw [propext h]
theorem b2_z {p : Prop} : b2 p = 0 ↔ ¬ p := by
  by_cases h : p
  · rw [b2_t h]; simp [h]
  · rw [b2_f h]; simp [h]
theorem b2_01 (p : Prop) : b2 p = 0 ∨ b2 p = 1 := by
  by_cases h : p
  · exact Or.inr (b2_t h)
  · exact Or.inl (b2_f h)
theorem wI_b2 (p : Prop) : wI (b2 p) = b2 p := wI_id (by rcases b2_01 p with h | h <;> rw [h] <;> decide)
def prm (n : Int) : Prop := 2 ≤ n ∧ ∀ k : Int, 2 ≤ k → k * k ≤ n → n % k ≠ 0
theorem sq_mono {a b : Int} (h0 : 0 ≤ a) (h : a ≤ b) : a * a ≤ b * b := Int.mul_le_mul h h h0 (by omega)
theorem primeL_e (n : Int) (hn : 2 ≤ n) (h6 : n ≤ 60000) (σ : mSt) : ∀ (m : Nat) (v : Int) (f : Nat), 2 ≤ v → v ≤ 246 → v + m = 247 → m ≤ f → (∀ k : Int, 2 ≤ k → k < v → n % k ≠ 0 ∨ n < k * k) → mX5_isPrime_L15 n (fun zσ => mX5_isPrime_B36 n zσ) f v σ = some (b2 (prm n), σ) := by
  intro m
  induction m with
  | zero => intro v f h1 h2 h3; omega
  | succ m ih =>
    intro v f h1 h2 h3 h4 h5
    obtain ⟨f, rfl⟩ : ∃ q, f = q + 1 := ⟨f - 1, by omega⟩
    have hv := sq_mono (by omega) h2
    have hv0 := sq_mono (show (0 : Int) ≤ 2 by omega) h1
    rw [mX5_isPrime_L15.eq_2, wI_id (x := n) (by omega), wI_id (x := v) (by omega), wI_id (x := v * v) (by omega)]
    by_cases hc : n < v * v
    · rw [if_pos hc]
      unfold mX5_isPrime_B36
      rw [b2_t]
      refine ⟨hn, fun k k1 k2 => ?_⟩
      rcases Int.lt_or_le k v with h | h
      · rcases h5 k k1 h with h | h
        · exact h
        · omega
      · have := sq_mono (by omega) h
        omega
    · rw [if_neg hc, mG_pos (by omega), Int.tmod_eq_emod_of_nonneg (by omega)]
      have e1 : 0 ≤ n % v := Int.emod_nonneg _ (by omega)
      have e2 : n % v < v := Int.emod_lt_of_pos _ (by omega)
      rw [wI_id (x := n % v) (by omega)]
      by_cases hz : n % v = 0
      · rw [if_pos hz, b2_f (fun h => h.2 v h1 (by omega) hz)]
      · rw [if_neg hz, bnd_eq]
        refine ih (v + 1) f (by omega) ?_ (by omega) (by omega) (fun k k1 k2 => ?_)
        · rcases Int.lt_or_le v 246 with h | h
          · omega
          · have := sq_mono (show (0 : Int) ≤ 246 by omega) h
            omega
        · rcases Int.lt_or_le k v with h | h
          · exact h5 k k1 h
          · rw [show k = v by omega]
            exact Or.inl hz
theorem prime_e (n : Int) (hr : -2147483648 ≤ n ∧ n < 2147483648) (σ : mSt) : mX5_isPrime n σ = some (b2 (prm n ∧ n ≤ 60000), σ) := by
  unfold mX5_isPrime
  rw [wI_id hr]
  by_cases h1 : n < 2
  · rw [if_pos h1, b2_f (fun h => by have := h.1.1; omega)]
  · rw [if_neg h1]
    by_cases h2 : n ≤ 60000
    · rw [if_pos h2, primeL_e n (by omega) h2 σ 245 2 mF (by omega) (by omega) (by omega) (by unfold mF; omega) (fun k k1 k2 => by omega), b2_iff (q := prm n ∧ n ≤ 60000) (by simp [h2])]
    · rw [if_neg h2, b2_f (fun h => h2 h.2)]

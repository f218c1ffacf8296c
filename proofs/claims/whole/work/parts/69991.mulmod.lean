/-! the reference: products by a modulus -/
theorem and1 {x : Int} (h : 0 ≤ x ∧ x < 9223372036854775808) : oAndL x 1 = x % 2 := by
  unfold oAndL
  have e : (Int64.ofInt x &&& Int64.ofInt 1).toBitVec.toNat = x.toNat % 2 := by
    rw [Int64.toBitVec_and, BitVec.toNat_and, Int64.toBitVec_ofInt, Int64.toBitVec_ofInt, BitVec.toNat_ofInt, BitVec.toNat_ofInt]
    rw [show ((1 : Int) % ((2 ^ 64 : Nat) : Int)).toNat = 1 by decide, Nat.and_one_is_mod, Int.emod_eq_of_lt (by omega) (by omega)]
  rw [← Int64.toInt_toBitVec, BitVec.toInt_eq_toNat_of_lt (by rw [e]; omega), e]
  omega
theorem mmL19 {a b m P : Int} {σ : mSt} {x : Int → mSt → Option (Int × mSt)} (hm : 0 < m ∧ m ≤ 4000000000000000000) : ∀ (n : Nat) (acc d t : Int) (N : Nat), 0 ≤ acc ∧ acc < m → 0 ≤ d ∧ d < m → 0 ≤ t ∧ t < 2 ^ n → t < 4611686018427387904 → n < N → (acc + d * t) % m = P → mX12_mulMod_L19 a b m x N acc d t σ = x P σ := by
  intro n
  induction n with
  | zero =>
    intro acc d t N h1 h2 h3 h4 h5 h6
    obtain ⟨N, rfl⟩ : ∃ q, N = q + 1 := ⟨N - 1, by omega⟩
    obtain rfl : t = 0 := by have := h3.2; simp at this; omega
    rw [mX12_mulMod_L19.eq_2, if_pos (by decide), ← h6, Int.mul_zero, Int.add_zero, Int.emod_eq_of_lt h1.1 h1.2]
  | succ n ih =>
    intro acc d t N h1 h2 h3 h4 h5 h6
    obtain ⟨N, rfl⟩ : ∃ q, N = q + 1 := ⟨N - 1, by omega⟩
    rw [mX12_mulMod_L19.eq_2, wL_id (x := t) (by omega)]
    by_cases t0 : t ≤ 0
    · obtain rfl : t = 0 := by omega
      rw [if_pos t0, ← h6, Int.mul_zero, Int.add_zero, Int.emod_eq_of_lt h1.1 h1.2]
    · have sh : oShrL t 1 = t / 2 := shr1 (by omega)
      have tail : ∀ acc', 0 ≤ acc' ∧ acc' < m → (acc' + 2 * d * (t / 2)) % m = P → mX12_mulMod_B45 a b m (mX12_mulMod_L19 a b m x N) x acc' d t σ = x P σ := by
        intro acc' q1 q2
        unfold mX12_mulMod_B45
        rw [wL_id (x := m) (by omega), wL_id (x := d + d) (by omega), mG_pos (by omega), bnd_eq, bnd_eq, sh, Int.tmod_eq_emod_of_nonneg (by omega)]
        have pn : (2 : Int) ^ (n + 1) = 2 * 2 ^ n := by rw [Int.pow_succ, Int.mul_comm]
        refine ih _ _ _ N q1 ⟨Int.emod_nonneg _ (by omega), Int.emod_lt_of_pos _ hm.1⟩ (by omega) (by omega) (by omega) ?_
        rw [← q2, show 2 * d = d + d by omega, Int.add_emod, Int.mul_emod, Int.emod_emod, ← Int.mul_emod, ← Int.add_emod]
      have em := Int.mul_ediv_add_emod t 2
      rw [if_neg t0, and1 (by omega), wL_id (x := t % 2) (by omega)]
      by_cases c : t % 2 = 1
      · rw [if_pos c, wL_id (x := m) (by omega), wL_id (x := acc + d) (by omega), mG_pos (by omega), bnd_eq, Int.tmod_eq_emod_of_nonneg (by omega)]
        refine tail _ ⟨Int.emod_nonneg _ (by omega), Int.emod_lt_of_pos _ hm.1⟩ ?_
        rw [← h6, Int.emod_add_emod]
        congr 1
        have : d * t = d * (2 * (t / 2)) + d * 1 := by rw [← Int.mul_add]; congr 1; omega
        rw [this, Int.mul_one, ← Int.mul_assoc, Int.mul_comm d 2]
        omega
      · rw [if_neg c]
        refine tail _ h1 ?_
        rw [← h6]
        congr 1
        have : d * t = d * (2 * (t / 2)) := by congr 1; omega
        rw [this, ← Int.mul_assoc, Int.mul_comm d 2]
theorem mulMod_e (a b m : Int) (σ : mSt) (hm : 0 < m ∧ m ≤ 4000000000000000000) (ha : -9223372036854775808 ≤ a ∧ a < 9223372036854775808) (hb : -9223372036854775808 ≤ b ∧ b < 9223372036854775808) : mX12_mulMod a b m σ = some (a * b % m, σ) := by
  have ra := Int.emod_nonneg a (show m ≠ 0 by omega)
  have ra2 := Int.emod_lt_of_pos a hm.1
  have rb := Int.emod_nonneg b (show m ≠ 0 by omega)
  have rb2 := Int.emod_lt_of_pos b hm.1
  unfold mX12_mulMod
  rw [mod_e _ _ _ hm.1 hb (by omega), mCall_some, mod_e _ _ _ hm.1 ha (by omega), mCall_some]
  have p62 : (2 : Int) ^ 62 = 4611686018427387904 := by decide
  refine (mmL19 (P := a * b % m) hm 62 0 (b % m) (a % m) mF ⟨by omega, hm.1⟩ ⟨rb, rb2⟩ ⟨ra, by rw [p62]; omega⟩ (by omega) (by unfold mF; omega) ?_).trans rfl
  rw [Int.zero_add, ← Int.mul_emod, Int.mul_comm]

/-! the class side of pbase -/
def mR (o : Option (Int × mSt)) (Q : Int → mSt → Prop) : Prop := ∃ b s, o = some (b, s) ∧ Q b s
theorem mR_ret {b : Int} {s : mSt} {Q : Int → mSt → Prop} (h : Q b s) : mR (some (b, s)) Q := ⟨b, s, rfl, h⟩
theorem mR_G {c : Prop} [inst : Decidable c] {o : Option (Int × mSt)} {Q : Int → mSt → Prop} (h : c) (k : mR o Q) : mR (mG c o) Q := by
  unfold mG; rwa [if_pos h]
theorem mR_bnd {α : Type} {v : α} {f : α → Option (Int × mSt)} {Q : Int → mSt → Prop} (k : mR (f v) Q) : mR (bnd v f) Q := k
theorem mR_ref {x : Int} {r : Nat} {f : Nat → Option (Int × mSt)} {Q : Int → mSt → Prop} (h : x = (r : Int)) (h0 : r ≠ 0) (k : mR (f r) Q) : mR (mRef x f) Q := by
  subst h
  unfold mRef
  rw [if_neg (by omega), Int.toNat_natCast]
  exact k
theorem mR_callE {o : Option (Int × mSt)} {b : Int} {s : mSt} {f : Int → mSt → Option (Int × mSt)} {Q : Int → mSt → Prop} (h : o = some (b, s)) (k : mR (f b s) Q) : mR (mCall o f) Q := by
  subst h
  exact k
theorem mR_if {c : Prop} [inst : Decidable c] {a b : Option (Int × mSt)} {Q : Int → mSt → Prop} (h1 : c → mR a Q) (h2 : ¬ c → mR b Q) : mR (if c then a else b) Q := by
  by_cases h : c
  · rw [if_pos h]; exact h1 h
  · rw [if_neg h]; exact h2 h
theorem mR_pos {c : Prop} [inst : Decidable c] {a b : Option (Int × mSt)} {Q : Int → mSt → Prop} (h : c) (k : mR a Q) : mR (if c then a else b) Q := by
  rw [if_pos h]; exact k
theorem mR_neg {c : Prop} [inst : Decidable c] {a b : Option (Int × mSt)} {Q : Int → mSt → Prop} (h : ¬ c) (k : mR b Q) : mR (if c then a else b) Q := by
  rw [if_neg h]; exact k
theorem mR_eq {o : Option (Int × mSt)} {b : Int} {s : mSt} (h : mR o (fun b' s' => b' = b ∧ s' = s)) : o = some (b, s) := by
  obtain ⟨b', s', e, rfl, rfl⟩ := h
  exact e
theorem mCall_some (b : Int) (s : mSt) (f : Int → mSt → Option (Int × mSt)) : mCall (some (b, s)) f = f b s := rfl
theorem mG_pos {c : Prop} [inst : Decidable c] (h : c) (o : Option (Int × mSt)) : mG c o = o := by unfold mG; rw [if_pos h]
theorem bnd_eq {α β : Type} (v : α) (f : α → β) : bnd v f = f v := rfl
theorem wI_id {x : Int} (h : -2147483648 ≤ x ∧ x < 2147483648) : wI x = x := wI_eq h.1 h.2
theorem wL_id {x : Int} (h : -9223372036854775808 ≤ x ∧ x < 9223372036854775808) : wL x = x := by
  exact wL_eq h.1 h.2
theorem wI_rng (x : Int) : -2147483648 ≤ wI x ∧ wI x < 2147483648 := by
  unfold wI
  exact ⟨Int32.le_toInt _, Int32.toInt_lt _⟩
theorem wL_rng (x : Int) : -9223372036854775808 ≤ wL x ∧ wL x < 9223372036854775808 := by
  unfold wL
  exact ⟨Int64.le_toInt _, Int64.toInt_lt _⟩
theorem wI_wI (x : Int) : wI (wI x) = wI x := wI_id (wI_rng x)
theorem wL_wL (x : Int) : wL (wL x) = wL x := wL_id (wL_rng x)
theorem wL_wI (x : Int) : wL (wI x) = wI x := wL_id (by have := wI_rng x; omega)
theorem upS_ne {σ : mSt} {i k a b : Nat} {v : Int} (h : ¬ (a = i ∧ b = k)) : upS σ i k v a b = σ a b := by
  simp only [upS]; rw [if_neg h]
theorem abs_e (v : Int) (σ : mSt) (h : -9223372036854775808 < v ∧ v < 9223372036854775808) : mJ9_abs_067f4 v σ = some ((v.natAbs : Int), σ) := by
  unfold mJ9_abs_067f4
  simp (disch := omega) only [wI_id, wL_id, wI_wI, wL_wL, wL_wI]
  by_cases h0 : 0 ≤ v
  · rw [if_pos h0, show (v.natAbs : Int) = v by omega]
  · rw [if_neg h0, show (v.natAbs : Int) = -v by omega]
theorem absI_e (v : Int) (σ : mSt) (h : -2147483648 < v ∧ v < 2147483648) : mJ9_abs_0f7a4 v σ = some ((v.natAbs : Int), σ) := by
  unfold mJ9_abs_0f7a4
  simp (disch := omega) only [wI_id, wL_id, wI_wI, wL_wL, wL_wI]
  by_cases h0 : 0 ≤ v
  · rw [if_pos h0, show (v.natAbs : Int) = v by omega]
  · rw [if_neg h0, show (v.natAbs : Int) = -v by omega]
theorem half_step {x y B : Int} (hx : y < x) (hy : 0 < y) (hB : x * y < 2 * B) : y * (x % y) < B := by
  have h1 : 0 ≤ x % y := Int.emod_nonneg _ (by omega)
  have h2 : x % y < y := Int.emod_lt_of_pos _ hy
  have h3 : y * (x / y) + x % y = x := Int.mul_ediv_add_emod x y
  have h4 : 1 ≤ x / y := (Int.le_ediv_iff_mul_le hy).mpr (by omega)
  have h5 : y * 1 ≤ y * (x / y) := Int.mul_le_mul_of_nonneg_left h4 (by omega)
  have h6 : y * (2 * (x % y)) ≤ y * x := Int.mul_le_mul_of_nonneg_left (by omega) (by omega)
  have h7 : y * (2 * (x % y)) = 2 * (y * (x % y)) := by rw [Int.mul_left_comm]
  rw [Int.mul_comm y x] at h6
  omega
theorem gcd_step (x y : Int) : Int.gcd y (x % y) = Int.gcd x y := by
  have h := Int.gcd_add_mul_left_right y (x % y) (x / y)
  rw [Int.emod_add_mul_ediv] at h
  rw [← h]
  exact Int.gcd_comm _ _
theorem gcdL_e (a b : Int) (σ : mSt) (xx : Int → mSt → Option (Int × mSt)) : ∀ (k : Nat) (x y c : Int) (n : Nat), y < x → 0 ≤ y → x < 9223372036854775808 → x * y < 2 ^ k → 0 ≤ c → c + k + 1 < 200 → k + 2 ≤ n → mX5_greatestDivisor_L15 a b xx n x y c σ = xx (Int.gcd x y) σ := by
  intro k
  induction k with
  | zero =>
    intro x y c n h1 h2 h3 h4 h5 h6 h7
    obtain ⟨m, rfl⟩ : ∃ m, n = m + 1 := ⟨n - 1, by omega⟩
    have hy : y = 0 := by
      rcases Int.lt_or_eq_of_le h2 with h | h
      · have := Int.mul_le_mul_of_nonneg_left (show (1 : Int) ≤ y by omega) (show 0 ≤ x by omega)
        omega
      · exact h.symm
    subst hy
    rw [mX5_greatestDivisor_L15.eq_2]
    simp (disch := omega) only [wI_id, wL_id, wI_wI, wL_wL, wL_wI]
    rw [if_neg (by omega), if_pos trivial]
    simp [Int.gcd, show (x.natAbs : Int) = x by omega]
  | succ k ih =>
    intro x y c n h1 h2 h3 h4 h5 h6 h7
    obtain ⟨m, rfl⟩ : ∃ m, n = m + 1 := ⟨n - 1, by omega⟩
    rw [mX5_greatestDivisor_L15.eq_2]
    simp (disch := omega) only [wI_id, wL_id, wI_wI, wL_wL, wL_wI]
    rw [if_neg (by omega)]
    by_cases hy : y = 0
    · subst hy
      rw [if_pos rfl]
      simp [Int.gcd, show (x.natAbs : Int) = x by omega]
    · rw [if_neg hy, mG_pos hy, bnd_eq, bnd_eq, Int.tmod_eq_emod_of_nonneg (by omega)]
      have h8 : 0 ≤ x % y := Int.emod_nonneg _ hy
      have h9 : x % y < y := Int.emod_lt_of_pos _ (by omega)
      rw [ih y (x % y) (c + 1) m h9 h8 (by omega) (half_step h1 (by omega) (by rw [show (2 : Int) * 2 ^ k = 2 ^ (k + 1) by rw [Int.pow_succ]; omega]; exact h4)) (by omega) (by omega) (by omega)]
      rw [gcd_step]

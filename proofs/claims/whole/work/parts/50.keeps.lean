def rk (c : Nat → Int) : Int := Int.gcd (Int.gcd (Int.gcd (c 0) (c 1)) (Int.gcd (c 2) (c 3))) (c 4)
def rg (c : Nat → Int) : Int := if 0 ≤ c 4 then rk c else -(rk c)
def rq (c : Nat → Int) (i : Nat) : Int := (c i).tdiv (rg c)
def dvR (τ : mSt) (i : Nat) : mSt := fun a b => if a = 264 ∧ b < i then rq (τ 264) b else τ a b
def cpR (τ : mSt) (k i : Nat) : mSt := fun a b => if a = 263 ∧ 5 * k ≤ b ∧ b < 5 * k + i then τ 264 (b - 5 * k) else τ a b
theorem tdiv_rng {a b : Int} (h : i62 a) : i62 (a.tdiv b) := by
  have h1 : (a.tdiv b).natAbs ≤ a.natAbs := by
    rw [Int.natAbs_tdiv]
    exact Nat.div_le_self _ _
  unfold i62 at h ⊢
  omega
theorem kpL60 {τ : mSt} {k al : Int} {x : mSt → Option (Int × mSt)} (l : τ 253 24 = 264) (hc : ∀ i, i < 5 → i62 (τ 264 i)) (hg : rg (τ 264) ≠ 0) (hg2 : i62 (rg (τ 264))) : ∀ (m i n : Nat), i + m = 5 → m < n → mX12_keeps_L60 253 k al (rg (τ 264)) x n (i : Int) (dvR τ i) = x (dvR τ 5) := by
  intro m
  induction m with
  | zero =>
    intro i n h1 h2
    obtain ⟨n, rfl⟩ : ∃ q, n = q + 1 := ⟨n - 1, by omega⟩
    rw [mX12_keeps_L60.eq_2, if_pos (by rw [wI_id (by omega)]; omega), show i = 5 by omega]
  | succ m ih =>
    intro i n h1 h2
    obtain ⟨n, rfl⟩ : ∃ q, n = q + 1 := ⟨n - 1, by omega⟩
    have hz := hc i (by omega)
    unfold i62 at hz hg2
    have l2 : dvR τ i 253 24 = 264 := by unfold dvR; rw [if_neg (by omega)]; exact l
    have l3 : dvR τ i 264 i = τ 264 i := by unfold dvR; rw [if_neg (by omega)]
    rw [mX12_keeps_L60.eq_2, if_neg (by rw [wI_id (by omega)]; omega), mRef_e (r := 264) l2 (by omega), mG_pos (ixOK_of (n := 5) (by decide) (by omega) (by omega) (by omega)), mG_pos (by rw [wL_id (by omega)]; exact hg), bnd_eq, bnd_eq, wI_nat (by omega), l3, wL_id (by omega), wL_id (by omega)]
    rw [show upS (dvR τ i) 264 i ((τ 264 i).tdiv (rg (τ 264))) = dvR τ (i + 1) by
      funext a b
      unfold upS dvR
      by_cases h5 : a = 264 ∧ b = i
      · rw [if_pos h5, if_pos (by omega), h5.2]; rfl
      · rw [if_neg h5]
        by_cases h6 : a = 264 ∧ b < i
        · rw [if_pos h6, if_pos (by omega)]
        · rw [if_neg h6, if_neg (by omega)], show (i : Int) + 1 = ((i + 1 : Nat) : Int) by omega]
    exact ih (i + 1) n (by omega) (by omega)
theorem kpL86t {τ : mSt} {k al : Int} {x : mSt → Option (Int × mSt)} (l : τ 253 24 = 264) : ∀ (m i n : Nat), i + m = 5 → m < n → (∀ j, i ≤ j → j < 5 → -1000000 ≤ τ 264 j ∧ τ 264 j ≤ 1000000) → mX12_keeps_L86 253 k al x n (i : Int) τ = x τ := by
  intro m
  induction m with
  | zero =>
    intro i n h1 h2 h3
    obtain ⟨n, rfl⟩ : ∃ q, n = q + 1 := ⟨n - 1, by omega⟩
    rw [mX12_keeps_L86.eq_2, if_pos (by rw [wI_id (by omega)]; omega)]
  | succ m ih =>
    intro i n h1 h2 h3
    obtain ⟨n, rfl⟩ : ∃ q, n = q + 1 := ⟨n - 1, by omega⟩
    have hz := h3 i (by omega) (by omega)
    rw [mX12_keeps_L86.eq_2, if_neg (by rw [wI_id (by omega)]; omega), mRef_e (r := 264) l (by omega), mG_pos (ixOK_of (n := 5) (by decide) (by omega) (by omega) (by omega)), wI_nat (by omega), within_e _ _ _ τ (by omega) (by omega) (by omega), mCall_some, if_neg (by rw [wI_b2, b2_t hz]; decide), bnd_eq, show (i : Int) + 1 = ((i + 1 : Nat) : Int) by omega]
    exact ih (i + 1) n (by omega) (by omega) (fun j h4 h5 => h3 j (by omega) h5)
theorem kpL86f {τ : mSt} {k al : Int} {x : mSt → Option (Int × mSt)} (l : τ 253 24 = 264) (hc : ∀ i, i < 5 → i62 (τ 264 i)) : ∀ (m i n : Nat), i + m = 5 → m < n → ¬ (∀ j, i ≤ j → j < 5 → -1000000 ≤ τ 264 j ∧ τ 264 j ≤ 1000000) → mX12_keeps_L86 253 k al x n (i : Int) τ = some (-3, τ) := by
  intro m
  induction m with
  | zero =>
    intro i n h1 h2 h3
    exact absurd (fun j h4 h5 => by omega) h3
  | succ m ih =>
    intro i n h1 h2 h3
    obtain ⟨n, rfl⟩ : ∃ q, n = q + 1 := ⟨n - 1, by omega⟩
    have hz := hc i (by omega)
    unfold i62 at hz
    rw [mX12_keeps_L86.eq_2, if_neg (by rw [wI_id (by omega)]; omega), mRef_e (r := 264) l (by omega), mG_pos (ixOK_of (n := 5) (by decide) (by omega) (by omega) (by omega)), wI_nat (by omega), within_e _ _ _ τ (by omega) (by omega) (by omega), mCall_some]
    by_cases hw : -1000000 ≤ τ 264 i ∧ τ 264 i ≤ 1000000
    · rw [if_neg (by rw [wI_b2, b2_t hw]; decide), bnd_eq, show (i : Int) + 1 = ((i + 1 : Nat) : Int) by omega]
      refine ih (i + 1) n (by omega) (by omega) (fun z => h3 (fun j h4 h5 => ?_))
      by_cases hj : j = i
      · subst hj; exact hw
      · exact z j (by omega) h5
    · rw [if_pos (by rw [wI_b2, b2_f hw])]
theorem kpL123 {τ : mSt} {k : Nat} {al : Int} {x : mSt → Option (Int × mSt)} (hk : k < 8) (l : τ 253 24 = 264) (l1 : τ 253 23 = 263) : ∀ (m i n : Nat), i + m = 5 → m < n → mX12_keeps_L123 253 (k : Int) al x n (i : Int) (cpR τ k i) = x (cpR τ k 5) := by
  intro m
  induction m with
  | zero =>
    intro i n h1 h2
    obtain ⟨n, rfl⟩ : ∃ q, n = q + 1 := ⟨n - 1, by omega⟩
    rw [mX12_keeps_L123.eq_2, if_pos (by rw [wI_id (by omega)]; omega), show i = 5 by omega]
  | succ m ih =>
    intro i n h1 h2
    obtain ⟨n, rfl⟩ : ∃ q, n = q + 1 := ⟨n - 1, by omega⟩
    have l2 : cpR τ k i 253 24 = 264 := by unfold cpR; rw [if_neg (by omega)]; exact l
    have l3 : cpR τ k i 253 23 = 263 := by unfold cpR; rw [if_neg (by omega)]; exact l1
    have l4 : cpR τ k i 264 i = τ 264 i := by unfold cpR; rw [if_neg (by omega)]
    rw [mX12_keeps_L123.eq_2, if_neg (by rw [wI_id (by omega)]; omega), mRef_e (r := 263) l3 (by omega), mRef_e (r := 264) l2 (by omega), mG_pos (ixOK_of (n := 5) (by decide) (by omega) (by omega) (by omega)), show (5 : Int) * (k : Int) + (i : Int) = ((5 * k + i : Nat) : Int) by omega, mG_pos (ixOK_of (n := 40) (by decide) (by omega) (by omega) (by omega)), bnd_eq, bnd_eq, wI_nat (by omega), wI_nat (by omega), l4]
    rw [show upS (cpR τ k i) 263 (5 * k + i) (τ 264 i) = cpR τ k (i + 1) by
      funext a b
      unfold upS cpR
      by_cases h5 : a = 263 ∧ b = 5 * k + i
      · rw [if_pos h5, if_pos (by omega), h5.2, show 5 * k + i - 5 * k = i by omega]
      · rw [if_neg h5]
        by_cases h6 : a = 263 ∧ 5 * k ≤ b ∧ b < 5 * k + i
        · rw [if_pos h6, if_pos (by omega)]
        · rw [if_neg h6, if_neg (by omega)], show (i : Int) + 1 = ((i + 1 : Nat) : Int) by omega]
    exact ih (i + 1) n (by omega) (by omega)

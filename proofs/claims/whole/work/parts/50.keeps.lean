def rk (c : Nat → Int) : Int := Int.gcd (Int.gcd (Int.gcd (c 0) (c 1)) (Int.gcd (c 2) (c 3))) (c 4)
def rg (c : Nat → Int) : Int := if 0 ≤ c 4 then rk c else -(rk c)
def rq (c : Nat → Int) (i : Nat) : Int := (c i).tdiv (rg c)
def dvR (τ : mSt) (i : Nat) : mSt := fun a b => if a = 264 ∧ b < i then rq (τ 264) b else τ a b
def cpR (τ : mSt) (k i : Nat) : mSt := fun a b => if a = 263 ∧ 5 * k ≤ b ∧ b < 5 * k + i then τ 264 (b - 5 * k) else τ a b
theorem tdiv_rng {a b : Int} (h : i62 a) : i62 (a.tdiv b) := by
  have h1 : (a.tdiv b).natAbs ≤ a.natAbs := by
    rw [Int.natAbs_tdiv]
    exact Nat.div_le_self _ _
  unfold i62 at h ⊢
  omega
theorem kpL60 {τ : mSt} {k al : Int} {x : mSt → Option (Int × mSt)} (l : τ 253 24 = 264) (hc : ∀ i, i < 5 → i62 (τ 264 i)) (hg : rg (τ 264) ≠ 0) (hg2 : i62 (rg (τ 264))) : ∀ (m i n : Nat), i + m = 5 → m < n → mX12_keeps_L60 253 k al (rg (τ 264)) x n (i : Int) (dvR τ i) = x (dvR τ 5) := by
  intro m
  induction m with
  | zero =>
    intro i n h1 h2
    obtain ⟨n, rfl⟩ : ∃ q, n = q + 1 := ⟨n - 1, by omega⟩
    rw [mX12_keeps_L60.eq_2, if_pos (by rw [wI_id (by omega)]; omega), show i = 5 by omega]
  | succ m ih =>
    intro i n h1 h2
    obtain ⟨n, rfl⟩ : ∃ q, n = q + 1 := ⟨n - 1, by omega⟩
    have hz := hc i (by omega)
    unfold i62 at hz hg2
    have l2 : dvR τ i 253 24 = 264 := by unfold dvR; rw [if_neg (by omega)]; exact l
    have l3 : dvR τ i 264 i = τ 264 i := by unfold dvR; rw [if_neg (by omega)]
    rw [mX12_keeps_L60.eq_2, if_neg (by rw [wI_id (by omega)]; omega), mRef_e (r := 264) l2 (by omega), mG_pos (ixOK_of (n := 5) (by decide) (by omega) (by omega) (by omega)), mG_pos (by rw [wL_id (by omega)]; exact hg), bnd_eq, bnd_eq, wI_nat (by omega), l3, wL_id (by omega), wL_id (by omega)]
    rw [show upS (dvR τ i) 264 i ((τ 264 i).tdiv (rg (τ 264))) = dvR τ (i + 1) by
      funext a b
      unfold upS dvR
      by_cases h5 : a = 264 ∧ b = i
      · rw [if_pos h5, if_pos (by omega), h5.2]; rfl
      · rw [if_neg h5]
        by_cases h6 : a = 264 ∧ b < i
        · rw [if_pos h6, if_pos (by omega)]
        · rw [if_neg h6, if_neg (by omega)], show (i : Int) + 1 = ((i + 1 : Nat) : Int) by omega]
    exact ih (i + 1) n (by omega) (by omega)
theorem kpL86t {τ : mSt} {k al : Int} {x : mSt → Option (Int × mSt)} (l : τ 253 24 = 264) : ∀ (m i n : Nat), i + m = 5 → m < n → (∀ j, i ≤ j → j < 5 → -1000000 ≤ τ 264 j ∧ τ 264 j ≤ 1000000) → mX12_keeps_L86 253 k al x n (i : Int) τ = x τ := by
  intro m
  induction m with
  | zero =>
    intro i n h1 h2 h3
    obtain ⟨n, rfl⟩ : ∃ q, n = q + 1 := ⟨n - 1, by omega⟩
    rw [mX12_keeps_L86.eq_2, if_pos (by rw [wI_id (by omega)]; omega)]
  | succ m ih =>
    intro i n h1 h2 h3
    obtain ⟨n, rfl⟩ : ∃ q, n = q + 1 := ⟨n - 1, by omega⟩
    have hz := h3 i (by omega) (by omega)
    rw [mX12_keeps_L86.eq_2, if_neg (by rw [wI_id (by omega)]; omega), mRef_e (r := 264) l (by omega), mG_pos (ixOK_of (n := 5) (by decide) (by omega) (by omega) (by omega)), wI_nat (by omega), within_e _ _ _ τ (by omega) (by omega) (by omega), mCall_some, if_neg (by rw [wI_b2, b2_t hz]; decide), bnd_eq, show (i : Int) + 1 = ((i + 1 : Nat) : Int) by omega]
    exact ih (i + 1) n (by omega) (by omega) (fun j h4 h5 => h3 j (by omega) h5)
theorem kpL86f {τ : mSt} {k al : Int} {x : mSt → Option (Int × mSt)} (l : τ 253 24 = 264) (hc : ∀ i, i < 5 → i62 (τ 264 i)) : ∀ (m i n : Nat), i + m = 5 → m < n → ¬ (∀ j, i ≤ j → j < 5 → -1000000 ≤ τ 264 j ∧ τ 264 j ≤ 1000000) → mX12_keeps_L86 253 k al x n (i : Int) τ = some (-3, τ) := by
  intro m
  induction m with
  | zero =>
    intro i n h1 h2 h3
    exact absurd (fun j h4 h5 => by omega) h3
  | succ m ih =>
    intro i n h1 h2 h3
    obtain ⟨n, rfl⟩ : ∃ q, n = q + 1 := ⟨n - 1, by omega⟩
    have hz := hc i (by omega)
    unfold i62 at hz
    rw [mX12_keeps_L86.eq_2, if_neg (by rw [wI_id (by omega)]; omega), mRef_e (r := 264) l (by omega), mG_pos (ixOK_of (n := 5) (by decide) (by omega) (by omega) (by omega)), wI_nat (by omega), within_e _ _ _ τ (by omega) (by omega) (by omega), mCall_some]
    by_cases hw : -1000000 ≤ τ 264 i ∧ τ 264 i ≤ 1000000
    · rw [if_neg (by rw [wI_b2, b2_t hw]; decide), bnd_eq, show (i : Int) + 1 = ((i + 1 : Nat) : Int) by omega]
      refine ih (i + 1) n (by omega) (by omega) (fun z => h3 (fun j h4 h5 => ?_))
      by_cases hj : j = i
      · subst hj; exact hw
      · exact z j (by omega) h5
    · rw [if_pos (by rw [wI_b2, b2_f hw])]
theorem kpL123 {τ : mSt} {k : Nat} {al : Int} {x : mSt → Option (Int × mSt)} (hk : k < 8) (l : τ 253 24 = 264) (l1 : τ 253 23 = 263) : ∀ (m i n : Nat), i + m = 5 → m < n → mX12_keeps_L123 253 (k : Int) al x n (i : Int) (cpR τ k i) = x (cpR τ k 5) := by
  intro m
  induction m with
  | zero =>
    intro i n h1 h2
    obtain ⟨n, rfl⟩ : ∃ q, n = q + 1 := ⟨n - 1, by omega⟩
    rw [mX12_keeps_L123.eq_2, if_pos (by rw [wI_id (by omega)]; omega), show i = 5 by omega]
  | succ m ih =>
    intro i n h1 h2
    obtain ⟨n, rfl⟩ : ∃ q, n = q + 1 := ⟨n - 1, by omega⟩
    have l2 : cpR τ k i 253 24 = 264 := by unfold cpR; rw [if_neg (by omega)]; exact l
    have l3 : cpR τ k i 253 23 = 263 := by unfold cpR; rw [if_neg (by omega)]; exact l1
    have l4 : cpR τ k i 264 i = τ 264 i := by unfold cpR; rw [if_neg (by omega)]
    rw [mX12_keeps_L123.eq_2, if_neg (by rw [wI_id (by omega)]; omega), mRef_e (r := 263) l3 (by omega), mRef_e (r := 264) l2 (by omega), mG_pos (ixOK_of (n := 5) (by decide) (by omega) (by omega) (by omega)), show (5 : Int) * (k : Int) + (i : Int) = ((5 * k + i : Nat) : Int) by omega, mG_pos (ixOK_of (n := 40) (by decide) (by omega) (by omega) (by omega)), bnd_eq, bnd_eq, wI_nat (by omega), wI_nat (by omega), l4]
    rw [show upS (cpR τ k i) 263 (5 * k + i) (τ 264 i) = cpR τ k (i + 1) by
      funext a b
      unfold upS cpR
      by_cases h5 : a = 263 ∧ b = 5 * k + i
      · rw [if_pos h5, if_pos (by omega), h5.2, show 5 * k + i - 5 * k = i by omega]
      · rw [if_neg h5]
        by_cases h6 : a = 263 ∧ 5 * k ≤ b ∧ b < 5 * k + i
        · rw [if_pos h6, if_pos (by omega)]
        · rw [if_neg h6, if_neg (by omega)], show (i : Int) + 1 = ((i + 1 : Nat) : Int) by omega]
    exact ih (i + 1) n (by omega) (by omega)
theorem gcd_rng {a b : Int} (ha : i62 a) (hb : i62 b) : i62 (Int.gcd a b : Int) ∧ 0 ≤ (Int.gcd a b : Int) := by
  unfold i62 at ha hb ⊢
  by_cases h : a = 0
  · subst h
    rw [Int.zero_gcd]
    omega
  · have h1 : Int.gcd a b ≤ a.natAbs := Nat.le_of_dvd (by omega) (Nat.gcd_dvd_left _ _)
    omega
def fitR (c : Nat → Int) : Prop := ∀ j, j < 5 → -1000000 ≤ rq c j ∧ rq c j ≤ 1000000
def kpR (τ : mSt) (k : Nat) (al : Int) : mSt := upS (upS (cpR (dvR τ 5) k 5) 253 21 (oOr (τ 253 21) (oShl 1 (k : Int)))) 262 k al
theorem keeps_s {τ : mSt} {k : Nat} {al : Int} {Q : Int → mSt → Prop} (l : τ 253 24 = 264) (hc : ∀ i, i < 5 → i62 (τ 264 i)) (h : mR (mX12_keeps_B57 253 (k : Int) al (rg (τ 264)) τ) Q) : mR (mX12_keeps 253 (k : Int) al τ) Q := by
  have g1 := gcd_rng (hc 0 (by omega)) (hc 1 (by omega))
  have g2 := gcd_rng (hc 2 (by omega)) (hc 3 (by omega))
  have g3 := gcd_rng g1.1 g2.1
  have g4 := gcd_rng g3.1 (hc 4 (by omega))
  have c0 := hc 0 (by omega)
  have c1 := hc 1 (by omega)
  have c2 := hc 2 (by omega)
  have c3 := hc 3 (by omega)
  have c4 := hc 4 (by omega)
  unfold i62 at g1 g2 g3 g4 c0 c1 c2 c3 c4
  have ix : ∀ i : Int, 0 ≤ i → i < 5 → ixOK 264 21 i := fun i h0 h1 => ixOK_of (n := 5) (by decide) h0 (by omega) (by omega)
  unfold mX12_keeps
  refine mR_G (by decide) (mR_ref (r := 264) l (by omega) (mR_G (ix _ (by omega) (by omega)) (mR_ref (r := 264) l (by omega) (mR_G (ix _ (by omega) (by omega)) (mR_callE (com_e _ _ τ (by omega) (by omega)) ?_)))))
  refine mR_ref (r := 264) l (by omega) (mR_G (ix _ (by omega) (by omega)) (mR_ref (r := 264) l (by omega) (mR_G (ix _ (by omega) (by omega)) (mR_callE (com_e _ _ τ (by omega) (by omega)) (mR_callE (com_e _ _ τ (by omega) (by omega)) ?_)))))
  refine mR_ref (r := 264) l (by omega) (mR_G (ix _ (by omega) (by omega)) (mR_callE (com_e _ _ τ (by omega) (by omega)) (mR_ref (r := 264) l (by omega) (mR_G (ix _ (by omega) (by omega)) ?_))))
  refine mR_if (fun z => ?_) (fun z => mR_bnd ?_)
  · rw [wL_id (by omega)] at z
    rw [show rg (τ 264) = rk (τ 264) from if_pos z] at h
    exact h
  · rw [wL_id (by omega)] at z
    rw [show rg (τ 264) = -(rk (τ 264)) from if_neg z] at h
    exact h
theorem rg_rng {c : Nat → Int} (hc : ∀ i, i < 5 → i62 (c i)) (h4 : c 4 ≠ 0) : rg c ≠ 0 ∧ i62 (rg c) := by
  have g1 := gcd_rng (hc 0 (by omega)) (hc 1 (by omega))
  have g2 := gcd_rng (hc 2 (by omega)) (hc 3 (by omega))
  have g3 := gcd_rng g1.1 g2.1
  have g4 := gcd_rng g3.1 (hc 4 (by omega))
  have h0 : rk c ≠ 0 := fun z => h4 (Int.zero_dvd.mp (by rw [← z]; exact Int.gcd_dvd_right _ _))
  have e : i62 (rk c) ∧ 0 ≤ rk c := g4
  unfold i62 at e ⊢
  unfold rg
  split <;> omega
theorem keeps_m {τ : mSt} {k : Nat} {al : Int} {Q : Int → mSt → Prop} (l : τ 253 24 = 264) (hc : ∀ i, i < 5 → i62 (τ 264 i)) (h4 : τ 264 4 ≠ 0) (h : mR (mX12_keeps_B83 253 (k : Int) al (dvR τ 5)) Q) : mR (mX12_keeps 253 (k : Int) al τ) Q := by
  obtain ⟨g1, g2⟩ := rg_rng hc h4
  refine keeps_s l hc ?_
  unfold mX12_keeps_B57
  have h0 : τ = dvR τ 0 := by
    funext a b
    unfold dvR
    rw [if_neg (by omega)]
  have := kpL60 (k := (k : Int)) (al := al) (x := fun zσ => mX12_keeps_B83 253 (k : Int) al zσ) l hc g1 g2 5 0 mF (by omega) (by unfold mF; omega)
  rw [← h0, show ((0 : Nat) : Int) = 0 from rfl] at this
  rw [this]
  exact h
theorem keeps_f {τ : mSt} {k : Nat} {al : Int} (l : τ 253 24 = 264) (hc : ∀ i, i < 5 → i62 (τ 264 i)) (h4 : τ 264 4 ≠ 0) (hfit : ¬ fitR (τ 264)) : mX12_keeps 253 (k : Int) al τ = some (-3, dvR τ 5) := by
  refine mR_eq (keeps_m l hc h4 ?_)
  have e : ∀ j, j < 5 → dvR τ 5 264 j = rq (τ 264) j := fun j hj => by unfold dvR; rw [if_pos ⟨rfl, hj⟩]
  unfold mX12_keeps_B83
  refine mR_of (kpL86f (by unfold dvR; rw [if_neg (by omega)]; exact l) (fun i hi => by rw [e i hi]; exact tdiv_rng (hc i hi)) 5 0 mF (by omega) (by unfold mF; omega) (fun z => hfit (fun j hj => by rw [← e j hj]; exact z j (by omega) hj))) ⟨rfl, rfl⟩
theorem keeps_t {τ : mSt} {k : Nat} {al : Int} (hk : k < 8) (l : τ 253 24 = 264) (l1 : τ 253 23 = 263) (l2 : τ 253 22 = 262) (hc : ∀ i, i < 5 → i62 (τ 264 i)) (h4 : τ 264 4 ≠ 0) (hfit : fitR (τ 264)) : mX12_keeps 253 (k : Int) al τ = some (0, kpR τ k al) := by
  refine mR_eq (keeps_m l hc h4 ?_)
  have e : ∀ j, j < 5 → dvR τ 5 264 j = rq (τ 264) j := fun j hj => by unfold dvR; rw [if_pos ⟨rfl, hj⟩]
  have d : ∀ j, dvR τ 5 253 j = τ 253 j := fun j => by unfold dvR; rw [if_neg (by omega)]
  unfold mX12_keeps_B83
  rw [show (0 : Int) = ((0 : Nat) : Int) from rfl, kpL86t (by rw [d]; exact l) 5 0 mF (by omega) (by unfold mF; omega) (fun j _ hj => by rw [e j hj]; exact hfit j hj)]
  unfold mX12_keeps_B120
  have h0 : dvR τ 5 = cpR (dvR τ 5) k 0 := by
    funext a b
    unfold cpR
    rw [if_neg (by omega)]
  have := kpL123 (τ := dvR τ 5) (al := al) (x := fun zσ => mX12_keeps_B153 253 (k : Int) al zσ) hk (by rw [d]; exact l) (by rw [d]; exact l1) 5 0 mF (by omega) (by unfold mF; omega)
  rw [← h0, show ((0 : Nat) : Int) = 0 from rfl] at this
  rw [this]
  have c : ∀ j, cpR (dvR τ 5) k 5 253 j = τ 253 j := fun j => by unfold cpR; rw [if_neg (by omega)]; exact d j
  unfold mX12_keeps_B153
  refine mR_bnd (mR_ref (r := 262) (by rw [upS_ne (by omega), c]; exact l2) (by omega) (mR_G (ixOK_of (n := 8) (by decide) (by omega) (by omega) (by omega)) (mR_bnd (mR_ret ⟨rfl, ?_⟩))))
  rw [c, wI_nat (by omega)]
  rfl

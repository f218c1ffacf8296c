theorem up_same {σ : mSt} {i k : Nat} {v : Int} (h : σ i k = v) : upS σ i k v = σ := by
  funext a b
  unfold upS
  by_cases h2 : a = i ∧ b = k
  · rw [if_pos h2, h2.1, h2.2, h]
  · rw [if_neg h2]
theorem rl_up (τ : mSt) (l : Nat) (F : Nat → V4) (w : V4) (i k : Nat) (v : Int) (h : i ≠ 269 ∧ i ≠ 272) : rl (upS τ i k v) l F w = upS (rl τ l F w) i k v := by
  funext a b
  simp only [rl, stV, st4, stP, upS]
  grind
theorem rl_eq {τ : mSt} {l : Nat} {E : Nat → V4} {u : V4} (hE : ∀ r, r < 4 → rowL τ l r = E r) (hu : rowV τ 272 = u) : rl τ l E u = τ := by
  rw [rl_congr τ l u (fun r hr => (hE r hr).symm), ← hu, rl_self]
theorem rl_rl (τ : mSt) (l : Nat) (E F : Nat → V4) (u w : V4) : rl (rl τ l E u) l F w = rl τ l F w := by
  funext a b
  simp only [rl, stV, st4, stP, upS]
  grind
/-- where a lattice of the reference stands: rows, below, modulus, vector -/
def atR (τ : mSt) (l : Nat) (E : Nat → V4) (B m : Int) (u : V4) : Prop := rL3 τ ∧ (∀ r, r < 4 → rowL τ l r = E r) ∧ τ 270 l = B ∧ τ 271 l = m ∧ rowV τ 272 = u
def sR4 (τ : mSt) (l : Nat) (E : Nat → V4) (B m : Int) (u : V4) : mSt := upS (upS (rl τ l E u) 270 l B) 271 l m
theorem sR4_at {τ : mSt} (h3 : rL3 τ) (l : Nat) (E : Nat → V4) (B m : Int) (u : V4) : atR (sR4 τ l E B m u) l E B m u := by
  unfold sR4
  refine ⟨?_, fun r hr => ?_, ?_, ?_, ?_⟩
  · have := rL3_rl h3 l E u
    unfold rL3 at this ⊢
    rw [upS_ne (by omega), upS_ne (by omega), upS_ne (by omega), upS_ne (by omega), upS_ne (by omega), upS_ne (by omega), upS_ne (by omega), upS_ne (by omega)]
    exact this
  · refine vg_ext (fun c hc => ?_)
    rw [← rowL_at _ l hr hc, upS_ne (by omega), upS_ne (by omega), rl_r _ _ _ _ hr hc]
  · rw [upS_ne (by omega), upS_same]
  · rw [upS_same]
  · refine vg_ext (fun c hc => ?_)
    rw [vg_rowV _ _ hc, upS_ne (by omega), upS_ne (by omega), rl_v _ _ _ _ hc]
theorem sR4_self {τ : mSt} {l : Nat} {E : Nat → V4} {B m : Int} {u : V4} (h : atR τ l E B m u) : sR4 τ l E B m u = τ := by
  obtain ⟨h1, h2, h3, h4, h5⟩ := h
  unfold sR4
  rw [rl_eq h2 h5, up_same h3, up_same h4]
theorem sR4_sR4 (τ : mSt) (l : Nat) (E F : Nat → V4) (B C m n : Int) (u w : V4) : sR4 (sR4 τ l E B m u) l F C n w = sR4 τ l F C n w := by
  unfold sR4
  rw [rl_up _ _ _ _ _ _ _ (by omega), rl_up _ _ _ _ _ _ _ (by omega), rl_rl]
  funext a b
  simp only [upS]
  grind
theorem core_at {τ : mSt} {l : Nat} {m den B : Int} {E : Nat → V4} {u : V4} (ha : atR τ l E B m u) (hl : l < 10) (hm0 : 0 < m ∧ m ≤ 4000000000000000) (hE : rOK m E) (hd : 0 < den ∧ den ≤ 4000000000000000000) (hB : 0 ≤ B ∧ B ≤ 4000000000000000000) (hu : ∀ i, i < 4 → -9223372036854775808 ≤ vg i u ∧ vg i u < 9223372036854775808) : ∃ F G, addS m E (vS (B / den) u) F ∧ setS F G ∧ mX12_puts__B47 253 (l : Int) den B τ = some (1 - b2 (spn E (vS (B / den) u)), sR4 τ l G B m v0) := by
  obtain ⟨F, G, g1, g2, g3⟩ := puts_core (u := u) ha.1 hl ha.2.2.2.1 hm0 hE hd hB rfl hu
  refine ⟨F, G, g1, g2, ?_⟩
  rw [rl_eq ha.2.1 ha.2.2.2.2] at g3
  rw [g3]
  unfold sR4
  rw [up_same (σ := rl τ l G v0) (i := 270) (k := l) (v := B) (by rw [rl_ne _ _ _ _ _ _ (by omega)]; exact ha.2.2.1), up_same (by rw [rl_ne _ _ _ _ _ _ (by omega)]; exact ha.2.2.2.1)]
theorem scales_at {τ : mSt} {l : Nat} {m B k : Int} {E : Nat → V4} {u : V4} (ha : atR τ l E B m u) (hl : l < 10) : mX12_scales 253 (l : Int) k τ = some (0, sR4 τ l (fun r => vS k (E r)) (B * k) (m * k) u) := by
  obtain ⟨h1, h2, h3, h4, h5⟩ := ha
  rw [scales_e h1 hl, h3, h4]
  unfold sR4 rl
  congr 4
  funext a b
  by_cases h6 : a = 272
  · rw [stP_ne _ _ _ _ _ _ (by omega)]
    by_cases h7 : b < 4
    · rw [h6, vg_stV _ _ _ h7, ← h5, vg_rowV _ _ h7]
    · unfold stV st4
      simp only [upS]
      rw [if_neg (by omega), if_neg (by omega), if_neg (by omega), if_neg (by omega), stP_ne _ _ _ _ _ _ (by omega)]
  · rw [stV_ne _ _ _ _ _ h6]
    unfold stP
    by_cases h7 : a = 269 ∧ 16 * l ≤ b ∧ b < 16 * l + 16
    · rw [if_pos h7, if_pos h7, vg_vk _ (by omega), vg_vS _ _ (by omega), h2 _ (by omega), Int.mul_comm]
    · rw [if_neg h7, if_neg h7]
theorem lcm_facts {B den : Int} (hB : 0 < B) (hd : 0 < den) : 0 < B / (Int.gcd B den : Int) * den ∧ B ∣ B / (Int.gcd B den : Int) * den ∧ den ∣ B / (Int.gcd B den : Int) * den ∧ B * (B / (Int.gcd B den : Int) * den / B) = B / (Int.gcd B den : Int) * den ∧ 0 < B / (Int.gcd B den : Int) * den / B ∧ (den ∣ B → B / (Int.gcd B den : Int) * den = B) ∧ ∀ x, B ∣ x → den ∣ x → B / (Int.gcd B den : Int) * den ∣ x := by
  have g0 : (0 : Int) < Int.gcd B den := by
    have := Int.gcd_pos_of_ne_zero_left den (show B ≠ 0 by omega)
    omega
  obtain ⟨p, hp⟩ := Int.gcd_dvd_left B den
  obtain ⟨q, hq⟩ := Int.gcd_dvd_right B den
  have cop : ∀ x, (Int.gcd B den : Int) * p ∣ x → den ∣ x → p * den ∣ x := by
    intro x h1 h2
    have h3 : (Int.lcm B den : Int) ∣ x := Int.coe_lcm_dvd (show B ∣ x by rw [hp]; exact h1) h2
    have e : (Int.gcd B den : Int) * (Int.lcm B den : Int) = B * den := by
      rw [← Int.natCast_mul, Int.gcd_mul_lcm, Int.natCast_mul, Int.natAbs_of_nonneg (show 0 ≤ B by omega), Int.natAbs_of_nonneg (show 0 ≤ den by omega)]
    have e2 : (Int.lcm B den : Int) = p * den := Int.eq_of_mul_eq_mul_left (show (Int.gcd B den : Int) ≠ 0 by omega) (by rw [e, ← Int.mul_assoc, ← hp])
    rw [← e2]
    exact h3
  obtain ⟨g, hg⟩ : ∃ g : Int, g = (Int.gcd B den : Int) := ⟨_, rfl⟩
  rw [← hg] at g0 hp hq cop ⊢
  have e1 : B / g = p := by rw [hp, Int.mul_ediv_cancel_left _ (by omega)]
  rw [e1]
  have p0 : 0 < p := by
    rcases Int.lt_or_le 0 p with h | h
    · exact h
    · have := Int.mul_le_mul_of_nonneg_left h (show 0 ≤ g by omega); omega
  have q0 : 0 < q := by
    rcases Int.lt_or_le 0 q with h | h
    · exact h
    · have := Int.mul_le_mul_of_nonneg_left h (show 0 ≤ g by omega); omega
  have e2 : p * den = B * q := by
    have a1 : p * den = p * (g * q) := by rw [← hq]
    have a2 : B * q = g * p * q := by rw [← hp]
    rw [a1, a2]; grind
  have e3 : p * den / B = q := by rw [e2, Int.mul_ediv_cancel_left _ (by omega)]
  refine ⟨Int.mul_pos p0 hd, ⟨q, e2⟩, ⟨p, Int.mul_comm _ _⟩, by rw [e3, e2], by rw [e3]; exact q0, fun h => ?_, fun x h1 h2 => cop x (by rw [← hp]; exact h1) h2⟩
  have : g = den := by
    rw [hg, Int.gcd_comm]
    exact Int.gcd_eq_left (by omega) h
  rw [← this, Int.mul_comm, ← hp]
theorem puts_e {τ : mSt} {l : Nat} {m den B L k : Int} {E : Nat → V4} {u : V4} (ha : atR τ l E B m u) (hl : l < 10) (hB : 0 < B ∧ B ≤ 1000000000) (hd : 0 < den ∧ den ≤ 1000000000) (hm : -9223372036854775808 ≤ m ∧ m < 9223372036854775808) (hLe : L = B / (Int.gcd B den : Int) * den) (hk : k = L / B) (hm0 : 0 < m * k ∧ m * k ≤ 4000000000000000) (hE : rOK (m * k) (fun r => vS k (E r))) (hu : ∀ i, i < 4 → -9223372036854775808 ≤ vg i u ∧ vg i u < 9223372036854775808) : ∃ F G, addS (m * k) (fun r => vS k (E r)) (vS (L / den) u) F ∧ setS F G ∧ mX12_puts_ 253 (l : Int) den τ = some (1 - b2 (spn (fun r => vS k (E r)) (vS (L / den) u)), sR4 τ l G L (m * k) v0) := by
  obtain ⟨L0, c1, c2, c3, c4, c5, c6⟩ := lcm_facts hB.1 hd.1
  rw [← hLe] at L0 c1 c2 c3 c4 c5 c6
  rw [← hk] at c3 c4
  have LB : L ≤ 1000000000000000000 := by
    rw [hLe]
    have a1 : B / (Int.gcd B den : Int) ≤ 1000000000 := by have := Int.ediv_le_self (Int.gcd B den : Int) (show 0 ≤ B by omega); omega
    have a2 := Int.ediv_nonneg (show 0 ≤ B by omega) (show 0 ≤ (Int.gcd B den : Int) by omega)
    have := mul_rng (x := B / (Int.gcd B den : Int)) (y := den) (A := 1000000000) (B := 1000000000) (by omega) (by omega) (by omega)
    omega
  have g0 : (0 : Int) < Int.gcd B den := by
    have := Int.gcd_pos_of_ne_zero_left den (show B ≠ 0 by omega)
    omega
  have gB : (Int.gcd B den : Int) ≤ B := Int.le_of_dvd hB.1 (Int.gcd_dvd_left _ _)
  have at2 := sR4_at ha.1 l (fun r => vS k (E r)) L (m * k) u
  obtain ⟨F, G, g1, g2, g3⟩ := core_at at2 hl hm0 hE (den := den) (by omega) (by omega) hu
  refine ⟨F, G, g1, g2, ?_⟩
  rw [sR4_sR4] at g3
  have h270 := ha.2.2.1
  have l30 := ha.1.2.1
  unfold mX12_puts_
  rw [gc253, gr' l30 (by omega), gx270 _ (by omega), gr' l30 (by omega), gx270 _ (by omega), wI_nat (by omega), h270, com_e _ _ _ (by omega) (by omega), mCall_some, wL_id (x := (Int.gcd B den : Int)) (by omega), mG_pos (by omega), wL_id (x := B) (by omega), Int.tdiv_eq_ediv_of_nonneg (by omega), ← hLe, bnd_eq, gr' l30 (by omega), gx270 _ (by omega), h270, wL_id (x := L) (by omega), wL_id (x := B) (by omega)]
  by_cases hLB : L = B
  · have k1 : k = 1 := by rw [hk, hLB, Int.ediv_self (by omega)]
    rw [if_pos hLB]
    have e : sR4 τ l (fun r => vS k (E r)) L (m * k) u = τ := by
      refine sR4_self ⟨ha.1, fun r hr => ?_, by rw [hLB]; exact h270, by rw [k1, Int.mul_one]; exact ha.2.2.2.1, ha.2.2.2.2⟩
      show rowL τ l r = vS k (E r)
      rw [k1, vS_one]
      exact ha.2.1 r hr
    rw [e] at g3
    exact g3
  · rw [if_neg hLB, gr' l30 (by omega), gx270 _ (by omega), h270, wL_id (x := B) (by omega), mG_pos (by omega), Int.tdiv_eq_ediv_of_nonneg (by omega), ← hk, scales_at ha hl, c3, mCall_some]
    exact g3
/-! putsLeast -/
theorem pleL5 {τ : mSt} {den : Int} {u : V4} {x : Int → mSt → Option (Int × mSt)} (h3 : rL3 τ) (hu : rowV τ 272 = u) (hd : 0 < den ∧ den ≤ 1000000000000000000) (hb : ∀ i, i < 4 → -9223372036854775807 ≤ vg i u ∧ vg i u < 9223372036854775808) : ∀ (m i N : Nat) (g : Int), i + m = 4 → m < N → gcP den (fun _ => u) i g → ∃ g', gcP den (fun _ => u) 4 g' ∧ mX12_putsLeast_L5 253 den x N g (i : Int) τ = x g' τ := by
  intro m
  induction m with
  | zero =>
    intro i N g h1 h2 h4
    obtain ⟨N, rfl⟩ : ∃ q, N = q + 1 := ⟨N - 1, by omega⟩
    obtain rfl : i = 4 := by omega
    exact ⟨g, h4, by rw [mX12_putsLeast_L5.eq_2, if_pos (by decide)]⟩
  | succ m ih =>
    intro i N g h1 h2 h4
    obtain ⟨N, rfl⟩ : ∃ q, N = q + 1 := ⟨N - 1, by omega⟩
    have hi : i < 4 := by omega
    have st := gcP_step (M := den) (E := fun _ => u) (g := g) (r := 0) (c := i) (by omega) hi (by rw [Nat.mul_zero, Nat.zero_add]; exact h4)
    rw [Nat.mul_zero, Nat.zero_add] at st
    obtain ⟨g', g1, g2⟩ := ih (i + 1) N _ (by omega) (by omega) st
    refine ⟨g', g1, ?_⟩
    have gM := Int.le_of_dvd hd.1 h4.2.1
    have g0 := h4.1
    have b := hb i hi
    rw [mX12_putsLeast_L5.eq_2, if_neg (by rw [wI_id (by omega)]; omega), gr' h3.2.2.2 (by omega), gx272 _ (by omega), wI_nat (by omega), ← vg_rowV τ 272 hi, hu, com_e _ _ _ (by omega) (by omega), mCall_some, bnd_eq, show (i : Int) + 1 = ((i + 1 : Nat) : Int) by omega]
    exact g2
theorem pleL32 {τ : mSt} {den g : Int} {u : V4} {x : mSt → Option (Int × mSt)} (h3 : rL3 τ) (hg : 0 < g ∧ g ≤ 1000000000000000000) (hdv : ∀ i, i < 4 → g ∣ vg i u) (hb : ∀ i, i < 4 → -9223372036854775807 ≤ vg i u ∧ vg i u < 9223372036854775808) : ∀ (m i N : Nat), i + m = 4 → m < N → mX12_putsLeast_L32 253 den g x N (i : Int) (stV τ 272 (vMix i (vk (fun c => vg c u / g)) u)) = x (stV τ 272 (vk (fun c => vg c u / g))) := by
  intro m
  induction m with
  | zero =>
    intro i N h1 h2
    obtain ⟨N, rfl⟩ : ∃ q, N = q + 1 := ⟨N - 1, by omega⟩
    rw [mX12_putsLeast_L32.eq_2, if_pos (by rw [wI_id (by omega)]; omega), show i = 4 by omega, vMix_4]
  | succ m ih =>
    intro i N h1 h2
    obtain ⟨N, rfl⟩ : ∃ q, N = q + 1 := ⟨N - 1, by omega⟩
    have hi : i < 4 := by omega
    have b := hb i hi
    rw [mX12_putsLeast_L32.eq_2, if_neg (by rw [wI_id (by omega)]; omega), gr' (r := 272) (by rw [stV_ne _ _ _ _ _ (by omega)]; exact h3.2.2.2) (by omega), gx272 _ (by omega), wI_nat (by omega), wL_id (x := g) (by omega), mG_pos (by omega), vg_stV _ _ _ hi, vMix_i hi, wL_id (x := vg i u) (by omega), bnd_eq, bnd_eq, stV_up _ _ _ _ hi, vMix_s (by rw [vg_vk _ hi, Int.tdiv_eq_ediv_of_dvd (hdv i hi)]), show (i : Int) + 1 = ((i + 1 : Nat) : Int) by omega]
    exact ih (i + 1) N (by omega) (by omega)
def ltV (g : Int) (u : V4) : V4 := vk (fun c => vg c u / g)
theorem putsLeast_e {τ : mSt} {den B : Int} {E : Nat → V4} {u : V4} (ha : atR τ 8 E B B u) (hB : 0 < B ∧ B ≤ 1000000000) (hd : 0 < den ∧ den ≤ 1000000000) (hb : ∀ i, i < 4 → -9223372036854775807 ≤ vg i u ∧ vg i u < 9223372036854775808) (hE : rOK B E) : ∃ g, gcP den (fun _ => u) 4 g ∧ ∀ L k, L = B / (Int.gcd B (den / g) : Int) * (den / g) → k = L / B → L ≤ 1000000000 → ∃ F G, rOK L (fun r => vS k (E r)) ∧ addS L (fun r => vS k (E r)) (vS (L / (den / g)) (ltV g u)) F ∧ setS F G ∧ mX12_putsLeast 253 den τ = some (1 - b2 (spn (fun r => vS k (E r)) (vS (L / (den / g)) (ltV g u))), sR4 τ 8 G L L v0) := by
  obtain ⟨g, g1, g2⟩ := pleL5 (x := fun z3 zσ => mX12_putsLeast_B29 253 den z3 zσ) ha.1 ha.2.2.2.2 (by omega) hb 4 0 mF den (by omega) (by unfold mF; omega) (gcP_0 hd.1)
  refine ⟨g, g1, fun L k hLe hk hL9 => ?_⟩
  have gM := Int.le_of_dvd hd.1 g1.2.1
  have g0 := g1.1
  have dg : g * (den / g) = den := Int.mul_ediv_cancel' g1.2.1
  have d1 : 0 < den / g := by
    rcases Int.lt_or_le 0 (den / g) with h | h
    · exact h
    · have := Int.mul_le_mul_of_nonneg_left h (show 0 ≤ g by omega); omega
  have d2 : den / g ≤ den := Int.ediv_le_self _ (by omega)
  have hdv : ∀ i, i < 4 → g ∣ vg i u := fun i hi => g1.2.2.1 0 i (by omega) hi (by omega)
  have ub : ∀ i, i < 4 → -9223372036854775808 ≤ vg i (ltV g u) ∧ vg i (ltV g u) < 9223372036854775808 := fun i hi => by
    unfold ltV
    rw [vg_vk _ hi]
    have := div_rng (a := vg i u) (d := g) (A := 9223372036854775807) (by have := hb i hi; omega) (by omega)
    omega
  obtain ⟨L0, c1, c2, c3, c4, c5, c6⟩ := lcm_facts hB.1 d1
  rw [← hLe] at L0 c1 c2 c3 c4 c5 c6
  rw [← hk] at c3 c4
  have hEk : rOK L (fun r => vS k (E r)) := by
    obtain ⟨e0, e1, e2, e3⟩ := hE
    refine ⟨L0, tri_mk (fun r hr => ?_) (fun r i hi hr => ?_), fun r i h1 h2 => ?_, fun i hi => ?_⟩
    · rw [vg_vS _ _ hr]; exact Int.mul_pos c4 (tri_d e1 r hr)
    · rw [vg_vS _ _ (by omega), tri_z e1 r i hi hr, Int.mul_zero]
    · rw [vg_vS _ _ h2, ← c3]
      have := e2 r i h1 h2
      refine ⟨Int.mul_nonneg (by omega) this.1, ?_⟩
      rw [Int.mul_comm B]
      exact Int.mul_lt_mul_of_pos_left this.2 c4
    · obtain ⟨c, hc⟩ := e3 i hi
      refine ⟨c, ?_⟩
      rw [← c3, Int.mul_comm B, ← vS_vS, hc]
      unfold vC
      simp only [vS_vA]
      rw [vS_comm k c.1, vS_comm k c.2.1, vS_comm k c.2.2.1, vS_comm k c.2.2.2]
  have e1 : sR4 τ 8 E B B (ltV g u) = stV τ 272 (ltV g u) := by
    unfold sR4
    have e : rl τ 8 E (ltV g u) = stV τ 272 (ltV g u) := by
      rw [rl_congr τ 8 (ltV g u) (fun r hr => (ha.2.1 r hr).symm)]
      funext a b
      by_cases h1 : a = 272
      · by_cases h2 : b < 4
        · unfold rl
          rw [h1, vg_stV _ _ _ h2, vg_stV _ _ _ h2]
        · unfold rl stV st4
          simp only [upS]
          rw [if_neg (by omega), if_neg (by omega), if_neg (by omega), if_neg (by omega), if_neg (by omega), if_neg (by omega), if_neg (by omega), if_neg (by omega), stP_ne _ _ _ _ _ _ (by omega)]
      · have := congrFun (congrFun (rl_self τ 8) a) b
        unfold rl at this ⊢
        rw [stV_ne _ _ _ _ _ h1] at this ⊢
        rw [stV_ne _ _ _ _ _ h1]
        exact this
    rw [e, up_same (σ := stV τ 272 (ltV g u)) (i := 270) (k := 8) (v := B) (by rw [stV_ne _ _ _ _ _ (by omega)]; exact ha.2.2.1), up_same (by rw [stV_ne _ _ _ _ _ (by omega)]; exact ha.2.2.2.1)]
  have at1 := sR4_at ha.1 8 E B B (ltV g u)
  have at2 := sR4_at ha.1 8 (fun r => vS k (E r)) L L (ltV g u)
  have Lg : L / (Int.gcd L (den / g) : Int) * (den / g) = L := (lcm_facts L0 d1).2.2.2.2.2.1 c2
  obtain ⟨F, G, i1, i2, i3⟩ := puts_e (k := 1) at2 (by omega) ⟨L0, hL9⟩ ⟨d1, by omega⟩ (by omega) Lg.symm (by rw [Int.ediv_self (by omega)]) (by omega) (by simp only [vS_one, Int.mul_one]; exact hEk) ub
  simp only [vS_one, Int.mul_one] at i1 i3
  rw [sR4_sR4] at i3
  refine ⟨F, G, hEk, i1, i2, ?_⟩
  have l32 := pleL32 (den := den) (x := fun zσ => mX12_putsLeast_B55 253 den g zσ) ha.1 ⟨g0, by omega⟩ hdv hb 4 0 mF (by omega) (by unfold mF; omega)
  have eu := ha.2.2.2.2
  rw [vMix_c (fun i hi _ => by omega), ← eu, stV_self, eu] at l32
  unfold mX12_putsLeast
  rw [gc253]
  refine g2.trans ?_
  unfold mX12_putsLeast_B29
  refine l32.trans ?_
  rw [show vk (fun c => vg c u / g) = ltV g u from rfl, ← e1]
  have h270 := at1.2.2.1
  have l30 := at1.1.2.1
  have gd0 : (0 : Int) < Int.gcd B (den / g) := by
    have := Int.gcd_pos_of_ne_zero_left (den / g) (show B ≠ 0 by omega)
    omega
  have gB : (Int.gcd B (den / g) : Int) ≤ B := Int.le_of_dvd hB.1 (Int.gcd_dvd_left _ _)
  have B114 : ∀ s, s = sR4 τ 8 (fun r => vS k (E r)) L L (ltV g u) → mX12_putsLeast_B114 253 den (den / g) s = some (1 - b2 (spn (fun r => vS k (E r)) (vS (L / (den / g)) (ltV g u))), sR4 τ 8 G L L v0) := by
    intro s hs
    subst hs
    unfold mX12_putsLeast_B114
    rw [show (8 : Int) = ((8 : Nat) : Int) from rfl, i3, mCall_some]
    by_cases hsp : spn (fun r => vS k (E r)) (vS (L / (den / g)) (ltV g u))
    · rw [b2_t hsp, mG_pos (by decide)]
    · rw [b2_f hsp, mG_pos (by decide)]
  unfold mX12_putsLeast_B55
  rw [wL_id (x := g) (by omega), mG_pos (by omega), wL_id (x := den) (by omega), bnd_eq, Int.tdiv_eq_ediv_of_nonneg (by omega), gr' l30 (by omega), gx270 _ (by omega), gr' l30 (by omega), gx270 _ (by omega), h270, com_e _ _ _ (by omega) (by omega), mCall_some, wL_id (x := (Int.gcd B (den / g) : Int)) (by omega), mG_pos (by omega), wL_id (x := B) (by omega), Int.tdiv_eq_ediv_of_nonneg (by omega), ← hLe, bnd_eq, gr' l30 (by omega), gx270 _ (by omega), h270, wL_id (x := L) (by omega), wL_id (x := B) (by omega)]
  by_cases hLB : L = B
  · have k1 : k = 1 := by rw [hk, hLB, Int.ediv_self (by omega)]
    rw [if_pos hLB]
    refine B114 _ ?_
    rw [k1, hLB]
    simp only [vS_one]
  · rw [if_neg hLB, gr' l30 (by omega), gx270 _ (by omega), h270, wL_id (x := B) (by omega), mG_pos (by omega), Int.tdiv_eq_ediv_of_nonneg (by omega), ← hk, show (8 : Int) = ((8 : Nat) : Int) from rfl, scales_at at1 (by omega), c3, mCall_some]
    exact B114 _ (sR4_sR4 _ _ _ _ _ _ _ _ _ _)

/-! the reference's lattices: larger moduli -/
theorem euF_110 {M : Int} {c : Nat} {r w : V4} (hM : 0 < M) (hc : c < 4) (h : euP M c r w) (h1 : vg c r ≤ 4000000000000000) (h2 : vg c w ≤ 4000000000000000) : vg c (euF M c 110 r w).2 = 0 := by
  have p1 := h.1
  have p2 := h.2.1
  by_cases h0 : vg c w = 0
  · rw [euF_z _ _ _ _ _ h0]; exact h0
  · rw [euF_s _ _ _ _ _ h0]
    have lt := Int.emod_lt_of_pos (vg c r) (show 0 < vg c w by omega)
    have nn := Int.emod_nonneg (vg c r) h0
    have m := mul_rng (x := vg c w) (y := vg c r % vg c w) (A := 4000000000000000) (B := 4000000000000000) (by omega) (by omega) (by omega)
    exact euF_end hM hc 109 _ _ (euP_step hM hc h h0) (by rw [stp_c hc]; omega) (by rw [stp_c hc]; omega)
/-! the reference's lattice: rows, vector -/
def rl (τ : mSt) (l : Nat) (F : Nat → V4) (w : V4) : mSt := stV (stP τ l F 16) 272 w
theorem rl_row (τ : mSt) (l : Nat) (F : Nat → V4) (w : V4) {c i : Nat} (u : Int) (hc : c < 4) (hi : i < 4) : upS (rl τ l F w) 269 (16 * l + 4 * c + i) u = rl τ l (sRow F c (vU (F c) i u)) w := by
  unfold rl
  rw [← stP_up τ l F u hc hi]
  funext a b
  unfold stV st4
  simp only [upS]
  grind
theorem rl_vec (τ : mSt) (l : Nat) (F : Nat → V4) (w : V4) {i : Nat} (u : Int) (hi : i < 4) : upS (rl τ l F w) 272 i u = rl τ l F (vU w i u) := stV_up _ _ _ _ hi
theorem rl_ne (τ : mSt) (l : Nat) (F : Nat → V4) (w : V4) (i j : Nat) (h : i ≠ 269 ∧ i ≠ 272) : rl τ l F w i j = τ i j := by
  unfold rl
  rw [stV_ne _ _ _ _ _ h.2, stP_ne _ _ _ _ _ _ h.1]
theorem rl_r (τ : mSt) (l : Nat) (F : Nat → V4) (w : V4) {c i : Nat} (hc : c < 4) (hi : i < 4) : rl τ l F w 269 (16 * l + 4 * c + i) = vg i (F c) := by
  unfold rl
  rw [stV_ne _ _ _ _ _ (by omega), rowL_at (stP τ l F 16) l hc hi, rowL_stP τ l F hc]
theorem rl_v (τ : mSt) (l : Nat) (F : Nat → V4) (w : V4) {i : Nat} (hi : i < 4) : rl τ l F w 272 i = vg i w := vg_stV _ _ _ hi
theorem rl_congr (τ : mSt) (l : Nat) {E F : Nat → V4} (w : V4) (h : ∀ r, r < 4 → E r = F r) : rl τ l E w = rl τ l F w := by
  unfold rl
  congr 1
  funext a b
  unfold stP
  by_cases h2 : a = 269 ∧ 16 * l ≤ b ∧ b < 16 * l + 16
  · rw [if_pos h2, if_pos h2, h _ (by omega)]
  · rw [if_neg h2, if_neg h2]
theorem rl_self (τ : mSt) (l : Nat) : rl τ l (rowL τ l) (rowV τ 272) = τ := by
  funext a b
  unfold rl
  by_cases h1 : a = 272
  · by_cases h2 : b < 4
    · rw [h1, vg_stV _ _ _ h2, vg_rowV _ _ h2]
    · unfold stV st4
      simp only [upS]
      rw [if_neg (by omega), if_neg (by omega), if_neg (by omega), if_neg (by omega), stP_ne _ _ _ _ _ _ (by omega)]
  · rw [stV_ne _ _ _ _ _ h1]
    unfold stP
    by_cases h2 : a = 269 ∧ 16 * l ≤ b ∧ b < 16 * l + 16
    · rw [if_pos h2, ← rowL_at τ l (show (b - 16 * l) / 4 < 4 by omega) (show (b - 16 * l) % 4 < 4 by omega), h2.1, show 16 * l + 4 * ((b - 16 * l) / 4) + (b - 16 * l) % 4 = b by omega]
    · rw [if_neg h2]
def rL3 (τ : mSt) : Prop := τ 253 29 = ((269 : Nat) : Int) ∧ τ 253 30 = ((270 : Nat) : Int) ∧ τ 253 31 = ((271 : Nat) : Int) ∧ τ 253 32 = ((272 : Nat) : Int)
theorem lay_rL3 {τ : mSt} (hL : Lay τ) : rL3 τ := by
  have l := lay253 hL
  exact ⟨l.2.2.2.2.2.2.2.2.2.2.2.2.2.2.2.1, l.2.2.2.2.2.2.2.2.2.2.2.2.2.2.2.2.1, l.2.2.2.2.2.2.2.2.2.2.2.2.2.2.2.2.2.1, l.2.2.2.2.2.2.2.2.2.2.2.2.2.2.2.2.2.2.1⟩
theorem rL3_rl {τ : mSt} (h : rL3 τ) (l : Nat) (F : Nat → V4) (w : V4) : rL3 (rl τ l F w) := by
  unfold rL3
  rw [rl_ne _ _ _ _ _ _ (by omega), rl_ne _ _ _ _ _ _ (by omega), rl_ne _ _ _ _ _ _ (by omega), rl_ne _ _ _ _ _ _ (by omega)]
  exact h
theorem rl_get {τ : mSt} {l r c : Nat} {F : Nat → V4} {w : V4} (h : rL3 τ) (hl : l < 10) (hr : r < 4) (hc : c < 4) : mX12_get 253 (l : Int) (r : Int) (c : Int) (rl τ l F w) = some (vg c (F r), rl τ l F w) := by
  rw [get_e (rL3_rl h l F w).1 ⟨hl, by omega, by omega, by omega, by omega⟩, Int.toNat_natCast, Int.toNat_natCast, rl_r _ _ _ _ hr hc]
theorem rl_set {τ : mSt} {l r c : Nat} {F : Nat → V4} {w : V4} (u : Int) (h : rL3 τ) (hl : l < 10) (hr : r < 4) (hc : c < 4) : mX12_set 253 (l : Int) (r : Int) (c : Int) u (rl τ l F w) = some (0, rl τ l (sRow F r (vU (F r) c u)) w) := by
  rw [set_e (rL3_rl h l F w).1 ⟨hl, by omega, by omega, by omega, by omega⟩, Int.toNat_natCast, Int.toNat_natCast, rl_row _ _ _ _ _ hr hc]
theorem sub_mm (a b m : Int) : (a - b % m) % m = (a - b) % m := by
  rw [Int.sub_emod, Int.emod_emod, ← Int.sub_emod]
theorem meetL29 {τ : mSt} {l c : Nat} {q m : Int} {F : Nat → V4} {r w : V4} {x : mSt → Option (Int × mSt)} (h3 : rL3 τ) (hl : l < 10) (hc : c < 4) (hm : τ 271 l = m) (hm0 : 0 < m ∧ m ≤ 4000000000000000) (hp : euP m c r w) (hw : 0 < vg c w) (hq : q = vg c r / vg c w) (hr : vg c r ≤ 4000000000000000) : ∀ (k i N : Nat), i + k = 4 → c ≤ i → k < N → mX12_meets_L29 253 (l : Int) (c : Int) q x N (i : Int) (rl τ l (sRow F c (vMix i w r)) (vMix i (stp m c r w) w)) = x (rl τ l (sRow F c w) (stp m c r w)) := by
  intro k
  induction k with
  | zero =>
    intro i N h1 h2 h4
    obtain ⟨N, rfl⟩ : ∃ q, N = q + 1 := ⟨N - 1, by omega⟩
    rw [mX12_meets_L29.eq_2, if_pos (by rw [wI_id (by omega)]; omega), show i = 4 by omega, vMix_4, vMix_4]
  | succ k ih =>
    intro i N h1 h2 h4
    obtain ⟨N, rfl⟩ : ∃ q, N = q + 1 := ⟨N - 1, by omega⟩
    have hi : i < 4 := by omega
    obtain ⟨p1, p2, p3, p4⟩ := hp
    have q0 : 0 ≤ q ∧ q ≤ 4000000000000000 := by
      have := Int.ediv_le_self (vg c w) (show 0 ≤ vg c r by omega)
      have := Int.ediv_nonneg (show 0 ≤ vg c r by omega) (show 0 ≤ vg c w by omega)
      omega
    have stv : vg i (stp m c r w) = if i < c then 0 else if i = c then vg c r - (vg c r / vg c w) * vg c w else (vg i r - (vg c r / vg c w) * vg i w) % m := by unfold stp; rw [vg_vk _ hi]
    rw [if_neg (by omega), ← hq] at stv
    have B95 : ∀ t0, t0 = vg i (stp m c r w) → mX12_meets_B95 253 (l : Int) (c : Int) q (mX12_meets_L29 253 (l : Int) (c : Int) q x N) x (i : Int) t0 (rl τ l (sRow F c (vMix i w r)) (vMix i (stp m c r w) w)) = x (rl τ l (sRow F c w) (stp m c r w)) := by
      intro t0 ht
      unfold mX12_meets_B95
      rw [gr' (rL3_rl h3 l _ _).2.2.2 (by omega), gx272 _ (by omega), wI_nat (by omega), rl_v _ _ _ _ hi, vMix_i hi, rl_set _ h3 hl hc hi, mCall_some, sRow_c, sRow_sRow, vMix_s rfl, gr' (rL3_rl h3 l _ _).2.2.2 (by omega), gx272 _ (by omega), bnd_eq, bnd_eq, rl_vec _ _ _ _ _ hi, vMix_s ht, show (i : Int) + 1 = ((i + 1 : Nat) : Int) by omega]
      exact ih (i + 1) N (by omega) (by omega) (by omega)
    rw [mX12_meets_L29.eq_2, if_neg (by rw [wI_id (by omega)]; omega)]
    by_cases hic : i = c
    · have e : ((i : Nat) : Int) = (c : Int) := by omega
      rw [if_pos (by rw [e]), rl_get h3 hl hc hc, mCall_some, gr' (rL3_rl h3 l _ _).2.2.2 (by omega), gx272 _ (by omega), sRow_c, wI_nat (by omega), rl_v _ _ _ _ hc, ← hic, vMix_i hi, vMix_i hi, hic]
      rw [hic] at B95
      exact B95 _ (by rw [hic, if_pos rfl] at stv; exact stv.symm)
    · have p := p4 i (by omega) hi
      have mr := mul_rng (x := q) (y := vg i w) (A := 4000000000000000) (B := 4000000000000000) (by omega) (by omega) (by omega)
      have e1 := Int.emod_nonneg (q * vg i w) (show m ≠ 0 by omega)
      have e2 := Int.emod_lt_of_pos (q * vg i w) hm0.1
      have em : rl τ l (sRow F c (vMix i w r)) (vMix i (stp m c r w) w) 271 l = m := by rw [rl_ne _ _ _ _ _ _ (by omega)]; exact hm
      rw [if_neg (by rw [wI_id (x := (i : Int)) (by omega), wI_id (x := (c : Int)) (by omega)]; omega), rl_get h3 hl hc hi, mCall_some, sRow_c, vMix_i hi, gr' (rL3_rl h3 l _ _).2.2.2 (by omega), gx272 _ (by omega), gr' (rL3_rl h3 l _ _).2.2.1 (by omega), gx271 _ (by omega), wI_nat (by omega), wI_nat (by omega), rl_v _ _ _ _ hi, vMix_i hi, em, mulMod_e _ _ _ _ (by omega) (by omega) (by omega), mCall_some, gr' (rL3_rl h3 l _ _).2.2.1 (by omega), gx271 _ (by omega), em, mod_e _ _ _ hm0.1 (by omega) (by omega), mCall_some]
      exact B95 _ (by rw [stv, if_neg hic, sub_mm])
theorem meetL0 {τ : mSt} {l c : Nat} {m : Int} {F : Nat → V4} {x : mSt → Option (Int × mSt)} (h3 : rL3 τ) (hl : l < 10) (hc : c < 4) (hm : τ 271 l = m) (hm0 : 0 < m ∧ m ≤ 4000000000000000) : ∀ (n : Nat) (r w : V4) (N : Nat), euP m c r w → vg c r ≤ 4000000000000000 → vg c w ≤ 4000000000000000 → vg c (euF m c n r w).2 = 0 → n < N → mX12_meets_L0 253 (l : Int) (c : Int) x N (rl τ l (sRow F c r) w) = x (rl τ l (sRow F c (euF m c n r w).1) (euF m c n r w).2) := by
  intro n
  induction n with
  | zero =>
    intro r w N hp hr hw h0 hN
    obtain ⟨N, rfl⟩ : ∃ q, N = q + 1 := ⟨N - 1, by omega⟩
    rw [mX12_meets_L0.eq_2, gr' (rL3_rl h3 l _ _).2.2.2 (by omega), gx272 _ (by omega), wI_nat (by omega), rl_v _ _ _ _ hc, wL_id (x := vg c w) (by have := hp.2.1; omega), if_pos (show vg c w = 0 from h0)]
    rfl
  | succ n ih =>
    intro r w N hp hr hw h0 hN
    obtain ⟨N, rfl⟩ : ∃ q, N = q + 1 := ⟨N - 1, by omega⟩
    have p1 := hp.1
    have p2 := hp.2.1
    rw [mX12_meets_L0.eq_2, gr' (rL3_rl h3 l _ _).2.2.2 (by omega), gx272 _ (by omega), wI_nat (by omega), rl_v _ _ _ _ hc, wL_id (x := vg c w) (by omega)]
    by_cases hz : vg c w = 0
    · rw [if_pos hz, euF_z _ _ _ _ _ hz]
    · rw [euF_s _ _ _ _ _ hz] at h0 ⊢
      have lt := Int.emod_lt_of_pos (vg c r) (show 0 < vg c w by omega)
      have l29 := meetL29 (F := F) (x := fun zσ => mX12_meets_B127 253 (l : Int) (c : Int) (mX12_meets_L0 253 (l : Int) (c : Int) x N) x zσ) h3 hl hc hm hm0 hp (by omega) rfl hr (4 - c) c mF (by omega) (by omega) (by unfold mF; omega)
      rw [vMix_c (fun i hi hi4 => by rw [(hp.2.2.1 i hi).1, (hp.2.2.1 i hi).2]), vMix_c (fun i hi hi4 => by unfold stp; rw [vg_vk _ hi4, if_pos hi, (hp.2.2.1 i hi).2])] at l29
      rw [if_neg hz, rl_get h3 hl hc hc, mCall_some, gr' (rL3_rl h3 l _ _).2.2.2 (by omega), gx272 _ (by omega), rl_v _ _ _ _ hc, wL_id (x := vg c w) (by omega), mG_pos hz, sRow_c, wL_id (x := vg c r) (by omega), Int.tdiv_eq_ediv_of_nonneg (by omega), bnd_eq]
      refine l29.trans ?_
      unfold mX12_meets_B127
      exact ih _ _ N (euP_step hm0.1 hc hp hz) hw (by rw [stp_c hc]; omega) h0 (by omega)
theorem meets_e {τ : mSt} {l c : Nat} {m : Int} {F : Nat → V4} {w : V4} (h3 : rL3 τ) (hl : l < 10) (hc : c < 4) (hm : τ 271 l = m) (hm0 : 0 < m ∧ m ≤ 4000000000000000) (hp : euP m c (F c) w) (hr : vg c (F c) ≤ 4000000000000000) (hw : vg c w ≤ 4000000000000000) : mX12_meets 253 (l : Int) (c : Int) (rl τ l F w) = some (0, rl τ l (sRow F c (euF m c 110 (F c) w).1) (euF m c 110 (F c) w).2) := by
  have he := euF_110 hm0.1 hc hp hr hw
  have l0 := meetL0 (F := F) (x := fun zσ => mX12_meets_B130 253 (l : Int) (c : Int) zσ) h3 hl hc hm hm0 110 _ _ mF hp hr hw he (by unfold mF; omega)
  rw [sRow_self] at l0
  unfold mX12_meets
  rw [gc253]
  exact l0
/-! the reference's settles -/
def rdR (m : Int) (F : Nat → V4) (r c : Nat) : V4 := vk (fun i => if i < c then vg i (F r) else if i = c then vg c (F r) - vg c (F r) / vg c (F c) * vg c (F c) else (vg i (F r) - vg c (F r) / vg c (F c) * vg i (F c)) % m)
theorem rdR_S {m : Int} {F : Nat → V4} {r c : Nat} (hr : r < c) (hc : c < 4) : rdS m F r c (rdR m F r c) := by
  refine ⟨hr, hc, fun i hi => ?_, ?_, fun i h1 h2 => ⟨-((vg i (F r) - vg c (F r) / vg c (F c) * vg i (F c)) / m), ?_⟩⟩
  · unfold rdR
    rw [vg_vk _ (by omega), if_pos hi]
  · unfold rdR
    have em := Int.mul_ediv_add_emod (vg c (F r)) (vg c (F c))
    rw [vg_vk _ hc, if_neg (by omega), if_pos rfl, Int.mul_comm (vg c (F r) / vg c (F c))]
    omega
  · unfold rdR
    rw [vg_vk _ h2, if_neg (by omega), if_neg (by omega)]
    have em := Int.mul_ediv_add_emod (vg i (F r) - vg c (F r) / vg c (F c) * vg i (F c)) m
    rw [Int.neg_mul, Int.mul_comm _ m]
    omega
theorem dia_dvd {M : Int} {F : Nat → V4} (tF : Tri F) (hu : uSp M F) {j : Nat} (hj : j < 4) : vg j (F j) ∣ M := by
  have hU : Uni (latS M F) := fun i hi => by
    obtain ⟨c, hc⟩ := hu i hi
    exact ⟨c, by rw [hc, vS_one]⟩
  obtain ⟨d0, d1, d2, d3⟩ := uni_dvd tF hU
  exact lt4 (p := fun j => vg j (F j) ∣ M) d0 d1 d2 d3 hj
theorem setlL63 {τ : mSt} {l r c : Nat} {q m : Int} {F : Nat → V4} {w : V4} {x : mSt → Option (Int × mSt)} (h3 : rL3 τ) (hl : l < 10) (hrc : r < c) (hc : c < 4) (hm : τ 271 l = m) (hm0 : 0 < m ∧ m ≤ 4000000000000000) (hq : q = vg c (F r) / vg c (F c)) (hq0 : 0 ≤ q ∧ q ≤ 4000000000000000) (hF : rIn m F) : ∀ (k i N : Nat), i + k = 4 → c < i → k < N → mX12_settles_L63 253 (l : Int) (c : Int) (r : Int) q x N (i : Int) (rl τ l (sRow F r (vMix i (rdR m F r c) (F r))) w) = x (rl τ l (sRow F r (rdR m F r c)) w) := by
  intro k
  induction k with
  | zero =>
    intro i N h1 h2 h4
    obtain ⟨N, rfl⟩ : ∃ q, N = q + 1 := ⟨N - 1, by omega⟩
    rw [mX12_settles_L63.eq_2, if_pos (by rw [wI_id (by omega)]; omega), show i = 4 by omega, vMix_4]
  | succ k ih =>
    intro i N h1 h2 h4
    obtain ⟨N, rfl⟩ : ∃ q, N = q + 1 := ⟨N - 1, by omega⟩
    have hi : i < 4 := by omega
    have hr4 : r < 4 := by omega
    have f1 := hF r i (by omega) hi
    have f2 := hF c i (by omega) hi
    have mr := mul_rng (x := q) (y := vg i (F c)) (A := 4000000000000000) (B := 4000000000000000) (by omega) (by omega) (by omega)
    have e1 := Int.emod_nonneg (q * vg i (F c)) (show m ≠ 0 by omega)
    have e2 := Int.emod_lt_of_pos (q * vg i (F c)) hm0.1
    have em : ∀ w', rl τ l (sRow F r (vMix i (rdR m F r c) (F r))) w' 271 l = m := fun w' => by rw [rl_ne _ _ _ _ _ _ (by omega)]; exact hm
    have sv : (vg i (F r) - q * vg i (F c) % m) % m = vg i (rdR m F r c) := by
      unfold rdR
      rw [vg_vk _ hi, if_neg (by omega), if_neg (by omega), sub_mm, hq]
    rw [mX12_settles_L63.eq_2, if_neg (by rw [wI_id (by omega)]; omega), rl_get h3 hl hr4 hi, mCall_some, sRow_c, vMix_i hi, rl_get h3 hl hc hi, mCall_some, sRow_n _ _ _ (show c ≠ r by omega), gr' (rL3_rl h3 l _ _).2.2.1 (by omega), gx271 _ (by omega), wI_nat (by omega), em, mulMod_e _ _ _ _ (by omega) (by omega) (by omega), mCall_some, gr' (rL3_rl h3 l _ _).2.2.1 (by omega), gx271 _ (by omega), em, mod_e _ _ _ hm0.1 (by omega) (by omega), mCall_some, rl_set _ h3 hl hr4 hi, mCall_some, bnd_eq, sRow_c, sRow_sRow, vMix_s sv, show (i : Int) + 1 = ((i + 1 : Nat) : Int) by omega]
    exact ih (i + 1) N (by omega) (by omega) (by omega)
def redB (F : Nat → V4) (r c : Nat) : Prop := ∀ r' i, r' < i → i < 4 → (i < c ∨ (i = c ∧ r' < r)) → redAt F r' i
theorem setlL9 {τ : mSt} {l c : Nat} {m : Int} {E : Nat → V4} {w : V4} {x : mSt → Option (Int × mSt)} (h3 : rL3 τ) (hl : l < 10) (hc : c < 4) (hc0 : 0 < c) (hm : τ 271 l = m) (hm0 : 0 < m ∧ m ≤ 4000000000000000) (hE : rOK m E) : ∀ (k r N : Nat) (F : Nat → V4), r + k = c → k < N → stS E F → rIn m F → redB F r c → ∃ F', stS E F' ∧ rIn m F' ∧ redB F' c c ∧ mX12_settles_L9 253 (l : Int) (c : Int) x N (r : Int) (rl τ l F w) = x (rl τ l F' w) := by
  intro k
  induction k with
  | zero =>
    intro r N F h1 h2 h4 h5 h6
    obtain ⟨N, rfl⟩ : ∃ q, N = q + 1 := ⟨N - 1, by omega⟩
    obtain rfl : r = c := by omega
    exact ⟨F, h4, h5, h6, by rw [mX12_settles_L9.eq_2, if_pos (by omega)]⟩
  | succ k ih =>
    intro r N F h1 h2 h4 h5 h6
    obtain ⟨N, rfl⟩ : ∃ q, N = q + 1 := ⟨N - 1, by omega⟩
    have hrc : r < c := by omega
    have hr4 : r < 4 := by omega
    have tF := h4.1
    have dc := tri_d tF c hc
    have s := rdR_S (m := m) (F := F) hrc hc
    have f1 := h5 r c hrc hc
    have dm : vg c (F c) ≤ m := by rw [h4.2.2 c hc]; exact Int.le_of_dvd hm0.1 (dia_dvd hE.2.1 hE.2.2.2 hc)
    have q0 : 0 ≤ vg c (F r) / vg c (F c) ∧ vg c (F r) / vg c (F c) ≤ 4000000000000000 := by
      have := Int.ediv_le_self (vg c (F c)) f1.1
      have := Int.ediv_nonneg f1.1 (show 0 ≤ vg c (F c) by omega)
      omega
    have rin : rIn m (sRow F r (rdR m F r c)) := by
      intro r' i p1 p2
      by_cases hrr : r' = r
      · rw [hrr, sRow_c]
        rcases (show i < c ∨ i = c ∨ c < i by omega) with h | h | h
        · rw [s.2.2.1 i h]; exact h5 r i (by omega) p2
        · rw [h, s.2.2.2.1]
          have := Int.emod_nonneg (vg c (F r)) (show vg c (F c) ≠ 0 by omega)
          have := Int.emod_lt_of_pos (vg c (F r)) dc
          omega
        · unfold rdR
          rw [vg_vk _ p2, if_neg (by omega), if_neg (by omega)]
          exact ⟨Int.emod_nonneg _ (by omega), Int.emod_lt_of_pos _ hm0.1⟩
      · rw [sRow_n _ _ _ hrr]; exact h5 r' i p1 p2
    have rb : redB (sRow F r (rdR m F r c)) (r + 1) c := by
      intro r' i p1 p2 p3
      by_cases hh : r' = r ∧ i = c
      · rw [hh.1, hh.2]; exact rdS_at tF s
      · exact rdS_ne s (h6 r' i p1 p2 (by omega)) (by omega)
    obtain ⟨F', g1, g2, g3, g4⟩ := ih (r + 1) N (sRow F r (rdR m F r c)) (by omega) (by omega) (rdS_step hE.2.2.2 h4 s) rin rb
    refine ⟨F', g1, g2, g3, ?_⟩
    have l63 := setlL63 (F := F) (w := w) (x := fun zσ => mX12_settles_B120 253 (l : Int) (c : Int) (mX12_settles_L9 253 (l : Int) (c : Int) x N) x (r : Int) zσ) h3 hl hrc hc hm hm0 rfl q0 h5 (4 - (c + 1)) (c + 1) mF (by omega) (by omega) (by unfold mF; omega)
    have mx : vMix (c + 1) (rdR m F r c) (F r) = vU (F r) c (vg c (F r) - vg c (F r) / vg c (F c) * vg c (F c)) := by
      refine vg_ext (fun i hi => ?_)
      unfold vMix rdR
      rw [vg_vk _ hi, vg_vU _ _ _ hi, vg_vk _ hi]
      rcases (show i < c ∨ i = c ∨ c < i by omega) with h | h | h
      · rw [if_pos (by omega), if_pos h, if_neg (by omega)]
      · rw [if_pos (by omega), if_neg (by omega), if_pos h, if_pos h]
      · rw [if_neg (by omega), if_neg (by omega)]
    rw [mx] at l63
    rw [mX12_settles_L9.eq_2, if_neg (by rw [wI_id (x := (c : Int)) (by omega), wI_id (x := (r : Int)) (by omega)]; omega), rl_get h3 hl hr4 hc, mCall_some, rl_get h3 hl hc hc, mCall_some, fdiv_e _ _ _ dc (by omega) (by omega), mCall_some, rl_get h3 hl hr4 hc, mCall_some, rl_get h3 hl hc hc, mCall_some, rl_set _ h3 hl hr4 hc, mCall_some, bnd_eq, show (c : Int) + 1 = ((c + 1 : Nat) : Int) by omega]
    refine l63.trans ?_
    unfold mX12_settles_B120
    rw [bnd_eq, show (r : Int) + 1 = ((r + 1 : Nat) : Int) by omega]
    exact g4
theorem setlL2 {τ : mSt} {l : Nat} {m : Int} {E : Nat → V4} {w : V4} {x : mSt → Option (Int × mSt)} (h3 : rL3 τ) (hl : l < 10) (hm : τ 271 l = m) (hm0 : 0 < m ∧ m ≤ 4000000000000000) (hE : rOK m E) : ∀ (k c N : Nat) (F : Nat → V4), c + k = 4 → 0 < c → k < N → stS E F → rIn m F → redB F 0 c → ∃ F', setS E F' ∧ mX12_settles_L2 253 (l : Int) x N (c : Int) (rl τ l F w) = x (rl τ l F' w) := by
  intro k
  induction k with
  | zero =>
    intro c N F h1 h0 h2 h4 h5 h6
    obtain ⟨N, rfl⟩ : ∃ q, N = q + 1 := ⟨N - 1, by omega⟩
    obtain rfl : c = 4 := by omega
    exact ⟨F, ⟨h4.1, red_mk (fun r i p1 p2 => h6 r i p1 p2 (Or.inl p2)), h4.2.1, h4.2.2⟩, by rw [mX12_settles_L2.eq_2, if_pos (by decide)]⟩
  | succ k ih =>
    intro c N F h1 h0 h2 h4 h5 h6
    obtain ⟨N, rfl⟩ : ∃ q, N = q + 1 := ⟨N - 1, by omega⟩
    obtain ⟨F', g1, g2, g3, g4⟩ := setlL9 (w := w) (x := fun zσ => mX12_settles_B126 253 (l : Int) (mX12_settles_L2 253 (l : Int) x N) x (c : Int) zσ) h3 hl (show c < 4 by omega) h0 hm hm0 hE c 0 mF F (by omega) (by unfold mF; omega) h4 h5 h6
    obtain ⟨F'', i1, i2⟩ := ih (c + 1) N F' (by omega) (by omega) (by omega) g1 g2 (fun r' i p1 p2 p3 => g3 r' i p1 p2 (by omega))
    refine ⟨F'', i1, ?_⟩
    rw [mX12_settles_L2.eq_2, if_neg (by rw [wI_id (by omega)]; omega)]
    refine g4.trans ?_
    unfold mX12_settles_B126
    rw [bnd_eq, show (c : Int) + 1 = ((c + 1 : Nat) : Int) by omega]
    exact i2
theorem settles_e {τ : mSt} {l : Nat} {m : Int} {E : Nat → V4} {w : V4} (h3 : rL3 τ) (hl : l < 10) (hm : τ 271 l = m) (hm0 : 0 < m ∧ m ≤ 4000000000000000) (hE : rOK m E) : ∃ F, setS E F ∧ mX12_settles 253 (l : Int) (rl τ l E w) = some (0, rl τ l F w) := by
  obtain ⟨F, g1, g2⟩ := setlL2 (w := w) (x := fun zσ => mX12_settles_B132 253 (l : Int) zσ) h3 hl hm hm0 hE 3 1 mF E (by omega) (by omega) (by unfold mF; omega) (stS_rf hE.2.1) hE.2.2.1 (fun r i p1 p2 p3 => by omega)
  refine ⟨F, g1, ?_⟩
  unfold mX12_settles
  rw [gc253]
  exact g2

/-! the reference: a four is put -/
theorem dg_all {E F : Nat → V4} {c : Nat} : (∀ j, j < c + 1 → vg j (F j) = vg j (E j)) ↔ ((∀ j, j < c → vg j (F j) = vg j (E j)) ∧ vg c (F c) = vg c (E c)) :=
  ⟨fun h => ⟨fun j hj => h j (by omega), h c (by omega)⟩, fun h j hj => by
    by_cases hjc : j = c
    · rw [hjc]; exact h.2
    · exact h.1 j (by omega)⟩
noncomputable def gro (E F : Nat → V4) (c : Nat) : Int := 1 - b2 (∀ j, j < c → vg j (F j) = vg j (E j))
theorem gro_0 (E F : Nat → V4) : gro E F 0 = 0 := by
  unfold gro
  rw [b2_t (fun j hj => by omega)]
  decide
theorem putL95 {τ : mSt} {l : Nat} {m den : Int} {E : Nat → V4} {y : V4} {x : Int → mSt → Option (Int × mSt)} (h3 : rL3 τ) (hl : l < 10) (hm : τ 271 l = m) (hm0 : 0 < m ∧ m ≤ 4000000000000000) (hE : rOK m E) (hd : ∀ j, j < 4 → vg j (E j) ≤ 4000000000000000) : ∀ (k c : Nat) (F : Nat → V4) (w : V4) (N : Nat), c + k = 4 → k < N → cInv m E y c F w → ∃ F' w', cInv m E y 4 F' w' ∧ mX12_puts__L95 253 (l : Int) den x N (gro E F c) (c : Int) (rl τ l F w) = x (gro E F' 4) (rl τ l F' w') := by
  intro k
  induction k with
  | zero =>
    intro c F w N h1 h2 h4
    obtain ⟨N, rfl⟩ : ∃ q, N = q + 1 := ⟨N - 1, by omega⟩
    obtain rfl : c = 4 := by omega
    exact ⟨F, w, h4, by rw [mX12_puts__L95.eq_2, if_pos (by decide)]⟩
  | succ k ih =>
    intro c F w N h1 h2 h4
    obtain ⟨N, rfl⟩ : ∃ q, N = q + 1 := ⟨N - 1, by omega⟩
    have hc : c < 4 := by omega
    have hp := cInv_pre hc h4
    have ec : F c = E c := h4.1 c (by omega) hc
    have rb : vg c (F c) ≤ 4000000000000000 := by rw [ec]; exact hd c hc
    have wb : vg c w ≤ 4000000000000000 := by have := (h4.2.2.2.2.1 c hc).2; omega
    have he := euF_110 hm0.1 hc hp rb wb
    have hs := euF_S hm0.1 hc 110 _ _ hp he
    obtain ⟨F', w', g1, g2⟩ := ih (c + 1) (sRow F c (euF m c 110 (F c) w).1) (euF m c 110 (F c) w).2 N (by omega) (by omega) (cInv_step hE hc h4 hs)
    refine ⟨F', w', g1, ?_⟩
    have r1 := hs.1.1
    have r2 : vg c (euF m c 110 (F c) w).1 ≤ vg c (F c) := by
      rw [hs.2.2.1]
      exact Int.le_of_dvd hp.1 (Int.gcd_dvd_left _ _)
    have lw : (∀ j, j < c → vg j (sRow F c (euF m c 110 (F c) w).1 j) = vg j (E j)) ↔ ∀ j, j < c → vg j (F j) = vg j (E j) :=
      ⟨fun h j hj => by have := h j hj; rwa [sRow_n _ _ _ (by omega)] at this, fun h j hj => by rw [sRow_n _ _ _ (by omega)]; exact h j hj⟩
    have gs := (dg_all (E := E) (F := sRow F c (euF m c 110 (F c) w).1) (c := c)).trans (and_congr_left' lw)
    rw [sRow_c] at gs
    rw [mX12_puts__L95.eq_2, if_neg (by rw [wI_id (by omega)]; omega), rl_get h3 hl hc hc, mCall_some, meets_e h3 hl hc hm hm0 hp rb wb, mCall_some, rl_get h3 hl hc hc, mCall_some, sRow_c, wL_id (x := vg c (euF m c 110 (F c) w).1) (by omega), wL_id (x := vg c (F c)) (by omega)]
    have fin : ∀ v, v = gro E (sRow F c (euF m c 110 (F c) w).1) (c + 1) → mX12_puts__L95 253 (l : Int) den x N v ((c : Int) + 1) (rl τ l (sRow F c (euF m c 110 (F c) w).1) (euF m c 110 (F c) w).2) = x (gro E F' 4) (rl τ l F' w') := fun v hv => by
      rw [hv, show (c : Int) + 1 = ((c + 1 : Nat) : Int) by omega]
      exact g2
    by_cases hg : vg c (euF m c 110 (F c) w).1 = vg c (F c)
    · rw [if_pos hg, bnd_eq, bnd_eq]
      refine fin _ ?_
      by_cases ha : ∀ j, j < c → vg j (F j) = vg j (E j)
      · unfold gro
        rw [b2_t ha, b2_t (gs.mpr ⟨ha, by rw [hg, ec]⟩)]
        decide
      · unfold gro
        rw [b2_f ha, b2_f (fun z => ha (gs.mp z).1)]
        decide
    · rw [if_neg hg, bnd_eq, bnd_eq]
      refine fin _ ?_
      have ng : ¬ ∀ j, j < c + 1 → vg j (sRow F c (euF m c 110 (F c) w).1 j) = vg j (E j) := fun z => hg ((gs.mp z).2.trans (by rw [ec]))
      unfold gro
      rw [b2_f ng]
      by_cases ha : ∀ j, j < c → vg j (F j) = vg j (E j)
      · rw [b2_t ha]; decide
      · rw [b2_f ha]; decide
theorem putL50 {τ : mSt} {l : Nat} {m den B f : Int} {F : Nat → V4} {u : V4} {x : mSt → Option (Int × mSt)} (h3 : rL3 τ) (hl : l < 10) (hm : τ 271 l = m) (hm0 : 0 < m ∧ m ≤ 4000000000000000) (hd : 0 < den ∧ den ≤ 4000000000000000000) (hB : 0 ≤ B ∧ B ≤ 4000000000000000000) (hf : f = B / den) (hu : ∀ i, i < 4 → -9223372036854775808 ≤ vg i u ∧ vg i u < 9223372036854775808) : ∀ (k i N : Nat), i + k = 4 → k < N → mX12_puts__L50 253 (l : Int) den B x N (i : Int) (rl τ l F (vMix i (vk (fun j => vg j u * f % m)) u)) = x (rl τ l F (vk (fun j => vg j u * f % m))) := by
  intro k
  induction k with
  | zero =>
    intro i N h1 h2
    obtain ⟨N, rfl⟩ : ∃ q, N = q + 1 := ⟨N - 1, by omega⟩
    rw [mX12_puts__L50.eq_2, if_pos (by rw [wI_id (by omega)]; omega), show i = 4 by omega, vMix_4]
  | succ k ih =>
    intro i N h1 h2
    obtain ⟨N, rfl⟩ : ∃ q, N = q + 1 := ⟨N - 1, by omega⟩
    have hi : i < 4 := by omega
    have f0 := Int.ediv_nonneg hB.1 (show 0 ≤ den by omega)
    have f1 := Int.ediv_le_self den hB.1
    have em : rl τ l F (vMix i (vk (fun j => vg j u * f % m)) u) 271 l = m := by rw [rl_ne _ _ _ _ _ _ (by omega)]; exact hm
    rw [mX12_puts__L50.eq_2, if_neg (by rw [wI_id (by omega)]; omega), gr' (rL3_rl h3 l _ _).2.2.2 (by omega), gr' (rL3_rl h3 l _ _).2.2.2 (by omega), gx272 _ (by omega), wL_id (x := den) (by omega), wL_id (x := B) (by omega), mG_pos (by omega), gr' (rL3_rl h3 l _ _).2.2.1 (by omega), gx271 _ (by omega), wI_nat (by omega), wI_nat (by omega), rl_v _ _ _ _ hi, vMix_i hi, em, Int.tdiv_eq_ediv_of_nonneg hB.1, ← hf, mulMod_e _ _ _ _ (by omega) (hu i hi) (by omega), mCall_some, gx272 _ (by omega), bnd_eq, bnd_eq, rl_vec _ _ _ _ _ hi, vMix_s (by rw [vg_vk _ hi]), show (i : Int) + 1 = ((i + 1 : Nat) : Int) by omega]
    exact ih (i + 1) N (by omega) (by omega)
theorem puts_core {τ : mSt} {l : Nat} {m den B f : Int} {E : Nat → V4} {u : V4} (h3 : rL3 τ) (hl : l < 10) (hm : τ 271 l = m) (hm0 : 0 < m ∧ m ≤ 4000000000000000) (hE : rOK m E) (hd : 0 < den ∧ den ≤ 4000000000000000000) (hB : 0 ≤ B ∧ B ≤ 4000000000000000000) (hf : f = B / den) (hu : ∀ i, i < 4 → -9223372036854775808 ≤ vg i u ∧ vg i u < 9223372036854775808) : ∃ F G, addS m E (vS f u) F ∧ setS F G ∧ mX12_puts__B47 253 (l : Int) den B (rl τ l E u) = some (1 - b2 (spn E (vS f u)), rl τ l G v0) := by
  have dd : ∀ j, j < 4 → vg j (E j) ≤ 4000000000000000 := fun j hj => by
    have := Int.le_of_dvd hm0.1 (dia_dvd hE.2.1 hE.2.2.2 hj)
    omega
  have c0 : cInv m E (vS f u) 0 E (vk (fun j => vg j u * f % m)) := cInv_start hE (fun i hi => by rw [vg_vk _ hi, vg_vS _ _ hi, Int.mul_comm])
  obtain ⟨F, w', g1, g2⟩ := putL95 (den := den) (x := fun z6 zσ => mX12_puts__B150 253 (l : Int) den z6 zσ) h3 hl hm hm0 hE dd 4 0 E _ mF (by omega) (by unfold mF; omega) c0
  have w0 : w' = v0 := vg_ext fun i hi => by rw [g1.2.2.2.1 i hi hi, vg_v0 hi]
  have ad := cInv_end hE g1
  obtain ⟨G, i1, i2⟩ := settles_e (w := v0) h3 hl hm hm0 ad.1
  refine ⟨F, G, ad, i1, ?_⟩
  have l50 := putL50 (F := E) (x := fun zσ => mX12_puts__B89 253 (l : Int) den zσ) h3 hl hm hm0 hd hB hf hu 4 0 mF (by omega) (by unfold mF; omega)
  rw [vMix_c (fun i hi _ => by omega)] at l50
  unfold mX12_puts__B47
  refine l50.trans ?_
  unfold mX12_puts__B89
  rw [gro_0] at g2
  refine g2.trans ?_
  unfold mX12_puts__B150
  rw [w0, i2, mCall_some]
  unfold gro
  have ag := add_grown hE ad
  by_cases hs : spn E (vS f u)
  · rw [b2_t hs, b2_t (ag.mpr hs), mG_pos (by decide)]
  · rw [b2_f hs, b2_f (fun z => hs (ag.mp z)), mG_pos (by decide)]
/-! scales, copies, lessens -/
theorem scaL3 {τ : mSt} {l : Nat} {k : Int} {x : mSt → Option (Int × mSt)} (l29 : τ 253 29 = ((269 : Nat) : Int)) (hl : l < 10) : ∀ (m i N : Nat), i + m = 16 → m < N → mX12_scales_L3 253 (l : Int) k x N (i : Int) (stP τ l (fun r => vk (fun c => vg c (rowL τ l r) * k)) i) = x (stP τ l (fun r => vk (fun c => vg c (rowL τ l r) * k)) 16) := by
  intro m
  induction m with
  | zero =>
    intro i N h1 h2
    obtain ⟨N, rfl⟩ : ∃ q, N = q + 1 := ⟨N - 1, by omega⟩
    rw [mX12_scales_L3.eq_2, if_pos (by rw [wI_id (by omega)]; omega), show i = 16 by omega]
  | succ m ih =>
    intro i N h1 h2
    obtain ⟨N, rfl⟩ : ∃ q, N = q + 1 := ⟨N - 1, by omega⟩
    have rd : stP τ l (fun r => vk (fun c => vg c (rowL τ l r) * k)) i 269 (16 * l + i) = vg (i % 4) (rowL τ l (i / 4)) := by
      rw [stP_out _ _ _ _ _ (by omega), ← rowL_at τ l (show i / 4 < 4 by omega) (show i % 4 < 4 by omega), show 16 * l + 4 * (i / 4) + i % 4 = 16 * l + i by omega]
    rw [mX12_scales_L3.eq_2, if_neg (by rw [wI_id (by omega)]; omega), gr' (by rw [stP_ne _ _ _ _ _ _ (by omega)]; exact l29) (by omega), gx269 _ (by omega), show 16 * (l : Int) + (i : Int) = ((16 * l + i : Nat) : Int) by omega, wI_nat (by omega), rd, bnd_eq, bnd_eq, stP_step _ _ _ _ (by rw [vg_vk _ (by omega)]), show (i : Int) + 1 = ((i + 1 : Nat) : Int) by omega]
    exact ih (i + 1) N (by omega) (by omega)
theorem scales_e {τ : mSt} {l : Nat} {k : Int} (h3 : rL3 τ) (hl : l < 10) : mX12_scales 253 (l : Int) k τ = some (0, upS (upS (stP τ l (fun r => vk (fun c => vg c (rowL τ l r) * k)) 16) 270 l (τ 270 l * k)) 271 l (τ 271 l * k)) := by
  have l3 := scaL3 (k := k) (x := fun zσ => mX12_scales_B32 253 (l : Int) k zσ) h3.1 hl 16 0 mF (by omega) (by unfold mF; omega)
  rw [stP_0] at l3
  unfold mX12_scales
  rw [gc253]
  refine l3.trans ?_
  unfold mX12_scales_B32
  rw [gr' (r := 270) (by rw [stP_ne _ _ _ _ _ _ (by omega)]; exact h3.2.1) (by omega), gx270 _ (by omega), wI_nat (by omega), stP_ne _ _ _ _ _ _ (by omega), bnd_eq, gr' (r := 271) (by rw [upS_ne (by omega), stP_ne _ _ _ _ _ _ (by omega)]; exact h3.2.2.1) (by omega), gx271 _ (by omega), upS_ne (by omega), stP_ne _ _ _ _ _ _ (by omega), bnd_eq]
theorem copL2 {τ : mSt} {a b : Nat} {x : mSt → Option (Int × mSt)} (l29 : τ 253 29 = ((269 : Nat) : Int)) (ha : a < 10) (hb : b < 10) (hab : a ≠ b) : ∀ (m i N : Nat), i + m = 16 → m < N → mX12_copies_L2 253 (a : Int) (b : Int) x N (i : Int) (stP τ b (rowL τ a) i) = x (stP τ b (rowL τ a) 16) := by
  intro m
  induction m with
  | zero =>
    intro i N h1 h2
    obtain ⟨N, rfl⟩ : ∃ q, N = q + 1 := ⟨N - 1, by omega⟩
    rw [mX12_copies_L2.eq_2, if_pos (by rw [wI_id (by omega)]; omega), show i = 16 by omega]
  | succ m ih =>
    intro i N h1 h2
    obtain ⟨N, rfl⟩ : ∃ q, N = q + 1 := ⟨N - 1, by omega⟩
    have rd : stP τ b (rowL τ a) i 269 (16 * a + i) = vg (i % 4) (rowL τ a (i / 4)) := by
      rw [stP_out _ _ _ _ _ (by omega), ← rowL_at τ a (show i / 4 < 4 by omega) (show i % 4 < 4 by omega), show 16 * a + 4 * (i / 4) + i % 4 = 16 * a + i by omega]
    have l2 : stP τ b (rowL τ a) i 253 29 = ((269 : Nat) : Int) := by rw [stP_ne _ _ _ _ _ _ (by omega)]; exact l29
    rw [mX12_copies_L2.eq_2, if_neg (by rw [wI_id (by omega)]; omega), gr' l2 (by omega), gr' l2 (by omega), gx269 _ (by omega), gx269 _ (by omega), show 16 * (a : Int) + (i : Int) = ((16 * a + i : Nat) : Int) by omega, show 16 * (b : Int) + (i : Int) = ((16 * b + i : Nat) : Int) by omega, wI_nat (by omega), wI_nat (by omega), rd, bnd_eq, bnd_eq, stP_step _ _ _ _ rfl, show (i : Int) + 1 = ((i + 1 : Nat) : Int) by omega]
    exact ih (i + 1) N (by omega) (by omega)
theorem copies_e {τ : mSt} {a b : Nat} (h3 : rL3 τ) (ha : a < 10) (hb : b < 10) (hab : a ≠ b) : mX12_copies 253 (a : Int) (b : Int) τ = some (0, upS (upS (stP τ b (rowL τ a) 16) 270 b (τ 270 a)) 271 b (τ 271 a)) := by
  have l3 := copL2 (x := fun zσ => mX12_copies_B36 253 (a : Int) (b : Int) zσ) h3.1 ha hb hab 16 0 mF (by omega) (by unfold mF; omega)
  rw [stP_0] at l3
  unfold mX12_copies
  rw [gc253]
  refine l3.trans ?_
  unfold mX12_copies_B36
  rw [gr' (r := 270) (by rw [stP_ne _ _ _ _ _ _ (by omega)]; exact h3.2.1) (by omega), gr' (r := 270) (by rw [stP_ne _ _ _ _ _ _ (by omega)]; exact h3.2.1) (by omega), gx270 _ (by omega), gx270 _ (by omega), wI_nat (by omega), wI_nat (by omega), stP_ne _ _ _ _ _ _ (by omega), bnd_eq, gr' (r := 271) (by rw [upS_ne (by omega), stP_ne _ _ _ _ _ _ (by omega)]; exact h3.2.2.1) (by omega), gr' (r := 271) (by rw [upS_ne (by omega), stP_ne _ _ _ _ _ _ (by omega)]; exact h3.2.2.1) (by omega), gx271 _ (by omega), gx271 _ (by omega), upS_ne (by omega), stP_ne _ _ _ _ _ _ (by omega), bnd_eq]
theorem lesL10 {τ : mSt} {l : Nat} {M : Int} {x : Int → mSt → Option (Int × mSt)} {E : Nat → V4} (l29 : τ 253 29 = ((269 : Nat) : Int)) (hl : l < 10) (hE : ∀ r, r < 4 → rowL τ l r = E r) (hM0 : 0 < M ∧ M ≤ 1000000000) (hb : ∀ r c, r < 4 → c < 4 → -1000000000 ≤ vg c (E r) ∧ vg c (E r) ≤ 1000000000) : ∀ (m i N : Nat) (g : Int), i + m = 16 → m < N → gcP M E i g → ∃ g', gcP M E 16 g' ∧ mX12_lessens_L10 253 (l : Int) x N g (i : Int) τ = x g' τ := by
  intro m
  induction m with
  | zero =>
    intro i N g h1 h2 h3
    obtain ⟨N, rfl⟩ : ∃ q, N = q + 1 := ⟨N - 1, by omega⟩
    obtain rfl : i = 16 := by omega
    exact ⟨g, h3, by rw [mX12_lessens_L10.eq_2, if_pos (by decide)]⟩
  | succ m ih =>
    intro i N g h1 h2 h3
    obtain ⟨N, rfl⟩ : ∃ q, N = q + 1 := ⟨N - 1, by omega⟩
    have hr : i / 4 < 4 := by omega
    have hc : i % 4 < 4 := by omega
    have e4 : 4 * (i / 4) + i % 4 = i := by omega
    have st := gcP_step (M := M) (E := E) (g := g) hr hc (by rw [e4]; exact h3)
    rw [show 4 * (i / 4) + (i % 4 + 1) = i + 1 by omega] at st
    obtain ⟨g', g1, g2⟩ := ih (i + 1) N _ (by omega) (by omega) st
    refine ⟨g', g1, ?_⟩
    have gM := Int.le_of_dvd hM0.1 h3.2.1
    have g0 := h3.1
    have b := hb _ _ hr hc
    have rd : τ 269 (16 * l + i) = vg (i % 4) (E (i / 4)) := by
      rw [← hE _ hr, ← rowL_at τ l hr hc, show 16 * l + 4 * (i / 4) + i % 4 = 16 * l + i by omega]
    rw [mX12_lessens_L10.eq_2, if_neg (by rw [wI_id (by omega)]; omega), gr' l29 (by omega), gx269 _ (by omega), show 16 * (l : Int) + (i : Int) = ((16 * l + i : Nat) : Int) by omega, wI_nat (by omega), rd, com_e _ _ _ (by omega) (by omega), mCall_some, bnd_eq, show (i : Int) + 1 = ((i + 1 : Nat) : Int) by omega]
    exact g2
theorem lesL43 {τ : mSt} {l : Nat} {M g : Int} {x : mSt → Option (Int × mSt)} {E : Nat → V4} (l29 : τ 253 29 = ((269 : Nat) : Int)) (hl : l < 10) (hE : ∀ r, r < 4 → rowL τ l r = E r) (hM0 : 0 < M ∧ M ≤ 1000000000) (hg : gcP M E 16 g) (hb : ∀ r c, r < 4 → c < 4 → -1000000000 ≤ vg c (E r) ∧ vg c (E r) ≤ 1000000000) : ∀ (m i N : Nat), i + m = 16 → m < N → mX12_lessens_L43 253 (l : Int) g x N (i : Int) (stP τ l (lwr g E) i) = x (stP τ l (lwr g E) 16) := by
  intro m
  induction m with
  | zero =>
    intro i N h1 h2
    obtain ⟨N, rfl⟩ : ∃ q, N = q + 1 := ⟨N - 1, by omega⟩
    rw [mX12_lessens_L43.eq_2, if_pos (by rw [wI_id (by omega)]; omega), show i = 16 by omega]
  | succ m ih =>
    intro i N h1 h2
    obtain ⟨N, rfl⟩ : ∃ q, N = q + 1 := ⟨N - 1, by omega⟩
    have hr : i / 4 < 4 := by omega
    have hc : i % 4 < 4 := by omega
    have gM := Int.le_of_dvd hM0.1 hg.2.1
    have g0 := hg.1
    have b := hb _ _ hr hc
    have rd : stP τ l (lwr g E) i 269 (16 * l + i) = vg (i % 4) (E (i / 4)) := by
      rw [stP_out _ _ _ _ _ (by omega), ← hE _ hr, ← rowL_at τ l hr hc, show 16 * l + 4 * (i / 4) + i % 4 = 16 * l + i by omega]
    rw [mX12_lessens_L43.eq_2, if_neg (by rw [wI_id (by omega)]; omega), gr' (by rw [stP_ne _ _ _ _ _ _ (by omega)]; exact l29) (by omega), gx269 _ (by omega), show 16 * (l : Int) + (i : Int) = ((16 * l + i : Nat) : Int) by omega, wI_nat (by omega), wL_id (x := g) (by omega), mG_pos (by omega), rd, wL_id (by omega), bnd_eq, bnd_eq, stP_step _ _ _ _ (by rw [lwr_at _ _ hc, Int.tdiv_eq_ediv_of_dvd (hg.2.2.1 _ _ hr hc (by omega))]), show (i : Int) + 1 = ((i + 1 : Nat) : Int) by omega]
    exact ih (i + 1) N (by omega) (by omega)
theorem lessens_e {τ : mSt} {l : Nat} {M m : Int} {E : Nat → V4} (h3 : rL3 τ) (hl : l < 10) (hE : ∀ r, r < 4 → rowL τ l r = E r) (hM : τ 270 l = M) (hm : τ 271 l = m) (hM0 : 0 < M ∧ M ≤ 1000000000) (hm0 : 0 < m ∧ m ≤ 1000000000) (hb : ∀ r c, r < 4 → c < 4 → -1000000000 ≤ vg c (E r) ∧ vg c (E r) ≤ 1000000000) : ∃ g, gcP M E 16 g ∧ mX12_lessens 253 (l : Int) τ = some (0, upS (upS (stP τ l (lwr g E) 16) 270 l (M / g)) 271 l (m / g)) := by
  obtain ⟨g, g1, g2⟩ := lesL10 (x := fun z2 zσ => mX12_lessens_B40 253 (l : Int) z2 zσ) h3.1 hl hE hM0 hb 16 0 mF M (by omega) (by unfold mF; omega) (gcP_0 hM0.1)
  refine ⟨g, g1, ?_⟩
  have gM := Int.le_of_dvd hM0.1 g1.2.1
  have g0 := g1.1
  have l43 := lesL43 (x := fun zσ => mX12_lessens_B72 253 (l : Int) g zσ) h3.1 hl hE hM0 g1 hb 16 0 mF (by omega) (by unfold mF; omega)
  rw [stP_0] at l43
  unfold mX12_lessens
  rw [gc253, gr' h3.2.1 (by omega), gx270 _ (by omega), wI_nat (by omega), hM, bnd_eq]
  refine g2.trans ?_
  unfold mX12_lessens_B40
  refine l43.trans ?_
  unfold mX12_lessens_B72
  rw [gr' (r := 270) (by rw [stP_ne _ _ _ _ _ _ (by omega)]; exact h3.2.1) (by omega), gx270 _ (by omega), wI_nat (by omega), wL_id (x := g) (by omega), mG_pos (by omega), stP_ne _ _ _ _ 270 _ (by omega), hM, wL_id (x := M) (by omega), bnd_eq, gr' (r := 271) (by rw [upS_ne (by omega), stP_ne _ _ _ _ _ _ (by omega)]; exact h3.2.2.1) (by omega), gr' (r := 271) (by rw [upS_ne (by omega), stP_ne _ _ _ _ _ _ (by omega)]; exact h3.2.2.1) (by omega), gx271 _ (by omega), gx271 _ (by omega), upS_ne (by omega), stP_ne _ _ _ _ 271 _ (by omega), hm, wL_id (x := m) (by omega), bnd_eq, Int.tdiv_eq_ediv_of_nonneg (by omega), Int.tdiv_eq_ediv_of_nonneg (by omega)]

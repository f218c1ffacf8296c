/-! lowest terms -/
def gcP (M : Int) (E : Nat → V4) (n : Nat) (g : Int) : Prop := 0 < g ∧ g ∣ M ∧ (∀ r c, r < 4 → c < 4 → 4 * r + c < n → g ∣ vg c (E r)) ∧ ∀ d, d ∣ M → (∀ r c, r < 4 → c < 4 → d ∣ vg c (E r)) → d ∣ g
theorem gcP_0 {M : Int} {E : Nat → V4} (hM : 0 < M) : gcP M E 0 M := ⟨hM, Int.dvd_refl _, fun _ _ _ _ h => by omega, fun _ h _ => h⟩
theorem gcP_step {M g : Int} {E : Nat → V4} {r c : Nat} (hr : r < 4) (hc : c < 4) (h : gcP M E (4 * r + c) g) : gcP M E (4 * r + (c + 1)) (Int.gcd g (vg c (E r))) := by
  obtain ⟨h1, h2, h3, h4⟩ := h
  have gl : (Int.gcd g (vg c (E r)) : Int) ∣ g := Int.gcd_dvd_left _ _
  refine ⟨?_, Int.dvd_trans gl h2, fun r' c' p1 p2 p3 => ?_, fun d p1 p2 => ?_⟩
  · have := Int.gcd_pos_of_ne_zero_left (vg c (E r)) (show g ≠ 0 by omega)
    omega
  · by_cases h : r' = r ∧ c' = c
    · rw [h.1, h.2]; exact Int.gcd_dvd_right _ _
    · exact Int.dvd_trans gl (h3 r' c' p1 p2 (by omega))
  · exact Int.dvd_coe_gcd (h4 d p1 p2) (p2 r c hr hc)
theorem gcP_skip {M g : Int} {E : Nat → V4} {r : Nat} (tE : Tri E) (hr : r < 4) (h : gcP M E (4 * r) g) : gcP M E (4 * r + r) g := by
  obtain ⟨h1, h2, h3, h4⟩ := h
  refine ⟨h1, h2, fun r' c' p1 p2 p3 => ?_, h4⟩
  by_cases h : r' = r
  · rw [h, tri_z tE r c' (by omega) hr]
    exact ⟨0, by simp⟩
  · exact h3 r' c' p1 p2 (by omega)
def lwr (g : Int) (E : Nat → V4) : Nat → V4 := fun r => vk (fun c => vg c (E r) / g)
theorem lwr_at (g : Int) (E : Nat → V4) {r c : Nat} (hc : c < 4) : vg c (lwr g E r) = vg c (E r) / g := vg_vk _ hc
theorem lwr_mul {M g : Int} {E : Nat → V4} (h : gcP M E 16 g) {r c : Nat} (hr : r < 4) (hc : c < 4) : vg c (E r) = g * vg c (lwr g E r) := by
  rw [lwr_at _ _ hc, Int.mul_ediv_cancel' (h.2.2.1 r c hr hc (by omega))]
theorem lwr_low {M g : Int} {E : Nat → V4} (h : gcP M E 16 g) : Low (M / g) (lwr g E) := by
  intro d hd h1 h2
  have g0 := h.1
  have e : g * (M / g) = M := Int.mul_ediv_cancel' h.2.1
  have k1 : g * d ∣ M := by rw [← e]; exact Int.mul_dvd_mul_left g h1
  have k2 : ∀ r c, r < 4 → c < 4 → g * d ∣ vg c (E r) := fun r c hr hc => by
    rw [lwr_mul h hr hc]
    obtain ⟨a0, a1, a2, a3⟩ := h2 r hr
    exact Int.mul_dvd_mul_left g (lt4 (p := fun c => d ∣ vg c (lwr g E r)) a0 a1 a2 a3 hc)
  obtain ⟨q, hq⟩ := h.2.2.2 _ k1 k2
  have : (1 : Int) = d * q := Int.eq_of_mul_eq_mul_left (show g ≠ 0 by omega) (by rw [Int.mul_one, ← Int.mul_assoc]; exact hq)
  have := Int.le_of_dvd (show (0 : Int) < 1 by decide) ⟨q, this⟩
  omega
theorem lwr_lat {M g : Int} {E : Nat → V4} (h : gcP M E 16 g) (x : V4) (N : Int) : latS (M / g) (lwr g E) x N ↔ latS M E x N := by
  have g0 := h.1
  have e : g * (M / g) = M := Int.mul_ediv_cancel' h.2.1
  have eE : ∀ r, r < 4 → E r = vS g (lwr g E r) := fun r hr => vg_ext fun c hc => by rw [vg_vS _ _ hc]; exact lwr_mul h hr hc
  have eC : ∀ c, vC E c = vS g (vC (lwr g E) c) := fun c => by
    unfold vC
    rw [eE 0 (by omega), eE 1 (by omega), eE 2 (by omega), eE 3 (by omega)]
    simp only [vS_vA, vS_comm]
  constructor
  · rintro ⟨c, hc⟩
    refine ⟨c, ?_⟩
    rw [eC, vS_comm N, ← hc, vS_vS, e]
  · rintro ⟨c, hc⟩
    refine ⟨c, vS_cancel (show g ≠ 0 by omega) ?_⟩
    rw [vS_vS, e, hc, eC, vS_comm]
theorem lwr_tri {M g : Int} {E : Nat → V4} (h : gcP M E 16 g) (tE : Tri E) : Tri (lwr g E) := by
  have g0 := h.1
  refine tri_mk (fun r hr => ?_) (fun r i hi hr => ?_)
  · have := tri_d tE r hr
    have e := lwr_mul h hr hr
    rcases Int.lt_or_le 0 (vg r (lwr g E r)) with h1 | h1
    · exact h1
    · have := Int.mul_le_mul_of_nonneg_left h1 (show 0 ≤ g by omega)
      omega
  · rw [lwr_at _ _ (by omega), tri_z tE r i hi hr, Int.zero_ediv]
theorem lwr_red {M g : Int} {E : Nat → V4} (h : gcP M E 16 g) (rE : Red E) : Red (lwr g E) := by
  have g0 := h.1
  refine red_mk (fun r i h1 h2 => ?_)
  have k := red_le rE r i h1 h2
  have e1 := lwr_mul h (show r < 4 by omega) h2
  have e2 := lwr_mul h h2 h2
  unfold redAt
  constructor
  · rw [lwr_at _ _ h2]
    exact Int.ediv_nonneg k.1 (by omega)
  · exact Int.lt_of_mul_lt_mul_left (a := g) (by omega) (by omega)
theorem lowL15 {σ : mSt} {o r : Nat} {M : Int} {x : Int → mSt → Option (Int × mSt)} {E : Nat → V4} (hL : Lay σ) (ho : o ∈ latIds) (hr : r < 4) (hE : ∀ r, r < 4 → rwC σ o r = E r) (hM0 : 0 < M ∧ M ≤ 1000000000) (hb : ∀ r c, r < 4 → c < 4 → -1000000000 ≤ vg c (E r) ∧ vg c (E r) ≤ 1000000000) : ∀ (m c N : Nat) (g : Int), c + m = 4 → m < N → gcP M E (4 * r + c) g → ∃ g', gcP M E (4 * r + 4) g' ∧ mX3_lower_L15 o (r : Int) x N g (c : Int) σ = x g' σ := by
  obtain ⟨k1, k2, k3, k4, k5, k6⟩ := lat_lay hL ho
  intro m
  induction m with
  | zero =>
    intro c N g h1 h2 h3
    obtain ⟨N, rfl⟩ : ∃ q, N = q + 1 := ⟨N - 1, by omega⟩
    obtain rfl : c = 4 := by omega
    exact ⟨g, h3, by rw [mX3_lower_L15.eq_2, if_pos (by decide)]⟩
  | succ m ih =>
    intro c N g h1 h2 h3
    obtain ⟨N, rfl⟩ : ∃ q, N = q + 1 := ⟨N - 1, by omega⟩
    have hc : c < 4 := by omega
    obtain ⟨g', g1, g2⟩ := ih (c + 1) N _ (by omega) (by omega) (gcP_step hr hc h3)
    refine ⟨g', g1, ?_⟩
    have gM := Int.le_of_dvd hM0.1 h3.2.1
    have g0 := h3.1
    have b := hb r c hr hc
    rw [mX3_lower_L15.eq_2, if_neg (by rw [wI_id (by omega)]; omega), gr' k4 (by omega), gx k2 _ (by omega), wI_nat (by omega), gr' (k6 r hr).2 (by omega), gx (k6 r hr).1 _ (by omega), wI_nat (by omega), rwC_at σ o hc, hE r hr, gcd_e _ _ _ (by omega) (by omega), mCall_some, bnd_eq, show (c : Int) + 1 = ((c + 1 : Nat) : Int) by omega]
    exact g2
theorem lowL7 {σ : mSt} {o : Nat} {M : Int} {x : Int → mSt → Option (Int × mSt)} {E : Nat → V4} (hL : Lay σ) (ho : o ∈ latIds) (tE : Tri E) (hE : ∀ r, r < 4 → rwC σ o r = E r) (hM0 : 0 < M ∧ M ≤ 1000000000) (hb : ∀ r c, r < 4 → c < 4 → -1000000000 ≤ vg c (E r) ∧ vg c (E r) ≤ 1000000000) : ∀ (m r N : Nat) (g : Int), r + m = 4 → m < N → gcP M E (4 * r) g → ∃ g', gcP M E 16 g' ∧ mX3_lower_L7 o x N g (r : Int) σ = x g' σ := by
  intro m
  induction m with
  | zero =>
    intro r N g h1 h2 h3
    obtain ⟨N, rfl⟩ : ∃ q, N = q + 1 := ⟨N - 1, by omega⟩
    obtain rfl : r = 4 := by omega
    exact ⟨g, h3, by rw [mX3_lower_L7.eq_2, if_pos (by decide)]⟩
  | succ m ih =>
    intro r N g h1 h2 h3
    obtain ⟨N, rfl⟩ : ∃ q, N = q + 1 := ⟨N - 1, by omega⟩
    have hr : r < 4 := by omega
    obtain ⟨g', g1, g2⟩ := lowL15 (x := fun z1 zσ => mX3_lower_B41 o (mX3_lower_L7 o x N) x z1 (r : Int) zσ) hL ho hr hE hM0 hb (4 - r) r mF g (by omega) (by unfold mF; omega) (gcP_skip tE hr h3)
    obtain ⟨g'', i1, i2⟩ := ih (r + 1) N g' (by omega) (by omega) g1
    refine ⟨g'', i1, ?_⟩
    rw [mX3_lower_L7.eq_2, if_neg (by rw [wI_id (by omega)]; omega)]
    refine g2.trans ?_
    unfold mX3_lower_B41
    rw [bnd_eq, show (r : Int) + 1 = ((r + 1 : Nat) : Int) by omega]
    exact i2
theorem stQ_up2 (σ : mSt) (o : Nat) (F : Nat → V4) {c i : Nat} {u : Int} (hc : c < 4) (hi : i < 4) {v : V4} (h : vU (F c) i u = v) : upS (stQ σ o F 16) (o + 2 + c) i u = stQ σ o (sRow F c v) 16 := by rw [stQ_up σ o F u hc hi, h]
theorem lowL57 {σ : mSt} {o r : Nat} {g : Int} {x : mSt → Option (Int × mSt)} {F : Nat → V4} {u : V4} (hL : Lay σ) (ho : o ∈ latIds) (hr : r < 4) (hg : 0 < g ∧ g ≤ 1000000000) (hu : ∀ c, c < 4 → vg c u = vg c (F r) / g) (hb : ∀ c, c < 4 → -1000000000 ≤ vg c (F r) ∧ vg c (F r) ≤ 1000000000) : ∀ (m c N : Nat), c + m = 4 → m < N → mX3_lower_L57 o g (r : Int) x N (c : Int) (stQ σ o (sRow F r (vMix c u (F r))) 16) = x (stQ σ o (sRow F r u) 16) := by
  obtain ⟨k1, k2, k3, k4, k5, k6⟩ := lat_lay hL ho
  intro m
  induction m with
  | zero =>
    intro c N h1 h2
    obtain ⟨N, rfl⟩ : ∃ q, N = q + 1 := ⟨N - 1, by omega⟩
    obtain rfl : c = 4 := by omega
    rw [mX3_lower_L57.eq_2, if_pos (by decide), vMix_4]
  | succ m ih =>
    intro c N h1 h2
    obtain ⟨N, rfl⟩ : ∃ q, N = q + 1 := ⟨N - 1, by omega⟩
    have hc : c < 4 := by omega
    obtain ⟨l0, l1, l2, l3⟩ := stQ_lay (E := sRow F r (vMix c u (F r))) (n := 16) hL ho ho
    have rd := stQ_at σ o (sRow F r (vMix c u (F r))) hr hc
    rw [sRow_c, vMix_i hc] at rd
    have b := hb c hc
    have up := stQ_up2 σ o (sRow F r (vMix c u (F r))) (u := vg c (F r) / g) (v := vMix (c + 1) u (F r)) hr hc (by rw [sRow_c]; exact vMix_s (hu c hc).symm)
    rw [sRow_sRow] at up
    rw [mX3_lower_L57.eq_2, if_neg (by rw [wI_id (by omega)]; omega), gr' l0 (by omega), gx k2 _ (by omega), wI_nat (by omega), gr' (l2 r hr) (by omega), gr' l0 (by omega), gx k2 _ (by omega), gr' (l2 r hr) (by omega), gx (k6 r hr).1 _ (by omega), wI_nat (by omega), rd, quot_e _ _ _ hg.1 (by omega) (by omega), mCall_some, gx (k6 r hr).1 _ (by omega), bnd_eq, bnd_eq, up, show (c : Int) + 1 = ((c + 1 : Nat) : Int) by omega]
    exact ih (c + 1) N (by omega) (by omega)
def rMix (r : Nat) (A B : Nat → V4) : Nat → V4 := fun j => if j < r then A j else B j
theorem rMix_s (r : Nat) (A B : Nat → V4) : sRow (rMix r A B) r (A r) = rMix (r + 1) A B := by
  funext j
  unfold sRow rMix
  by_cases h : j = r
  · rw [if_pos h, if_pos (by omega), h]
  · rw [if_neg h]
    by_cases h2 : j < r
    · rw [if_pos h2, if_pos (by omega)]
    · rw [if_neg h2, if_neg (by omega)]
theorem stQ_congr (σ : mSt) (o : Nat) {E F : Nat → V4} (h : ∀ r, r < 4 → E r = F r) : stQ σ o E 16 = stQ σ o F 16 := by
  funext a b
  unfold stQ
  by_cases h2 : o + 2 ≤ a ∧ a < o + 6 ∧ b < 4 ∧ 4 * (a - (o + 2)) + b < 16
  · rw [if_pos h2, if_pos h2, h _ (by omega)]
  · rw [if_neg h2, if_neg h2]
theorem lowL49 {σ : mSt} {o : Nat} {g : Int} {x : mSt → Option (Int × mSt)} {E : Nat → V4} (hL : Lay σ) (ho : o ∈ latIds) (tE : Tri E) (hg : 0 < g ∧ g ≤ 1000000000) (hb : ∀ r c, r < 4 → c < 4 → -1000000000 ≤ vg c (E r) ∧ vg c (E r) ≤ 1000000000) : ∀ (m r N : Nat), r + m = 4 → m < N → mX3_lower_L49 o g x N (r : Int) (stQ σ o (rMix r (lwr g E) E) 16) = x (stQ σ o (lwr g E) 16) := by
  intro m
  induction m with
  | zero =>
    intro r N h1 h2
    obtain ⟨N, rfl⟩ : ∃ q, N = q + 1 := ⟨N - 1, by omega⟩
    obtain rfl : r = 4 := by omega
    rw [mX3_lower_L49.eq_2, if_pos (by decide), stQ_congr σ o (fun r hr => by show (if r < 4 then _ else _) = _; rw [if_pos hr])]
  | succ m ih =>
    intro r N h1 h2
    obtain ⟨N, rfl⟩ : ∃ q, N = q + 1 := ⟨N - 1, by omega⟩
    have hr : r < 4 := by omega
    have er : rMix r (lwr g E) E r = E r := if_neg (by omega)
    have l57 := lowL57 (F := rMix r (lwr g E) E) (u := lwr g E r) (x := fun zσ => mX3_lower_B91 o g (mX3_lower_L49 o g x N) x (r : Int) zσ) hL ho hr hg (fun c hc => by rw [er, lwr_at _ _ hc]) (fun c hc => by rw [er]; exact hb r c hr hc) (4 - r) r mF (by omega) (by unfold mF; omega)
    rw [vMix_c (fun i hi hi4 => by rw [er, lwr_at _ _ hi4, tri_z tE r i hi hr, Int.zero_ediv]), sRow_self, rMix_s] at l57
    rw [mX3_lower_L49.eq_2, if_neg (by rw [wI_id (by omega)]; omega)]
    refine l57.trans ?_
    unfold mX3_lower_B91
    rw [bnd_eq, show (r : Int) + 1 = ((r + 1 : Nat) : Int) by omega]
    exact ih (r + 1) N (by omega) (by omega)
theorem lower_e {σ : mSt} {o : Nat} {M : Int} {E : Nat → V4} (hL : Lay σ) (ho : o ∈ latIds) (hM : σ o 2 = M) (hM0 : 0 < M ∧ M ≤ 1000000000) (hr : ∀ r, r < 4 → rwC σ o r = E r) (tE : Tri E) (hb : ∀ r c, r < 4 → c < 4 → -1000000000 ≤ vg c (E r) ∧ vg c (E r) ≤ 1000000000) : ∃ g, gcP M E 16 g ∧ mX3_lower o σ = some (0, upS (stQ σ o (lwr g E) 16) o 2 (M / g)) := by
  have k1 := (lat_lay hL ho).1
  obtain ⟨g, g1, g2⟩ := lowL7 (x := fun z1 zσ => mX3_lower_B47 o z1 zσ) hL ho tE hr hM0 hb 4 0 mF M (by omega) (by unfold mF; omega) (gcP_0 hM0.1)
  refine ⟨g, g1, ?_⟩
  have gM := Int.le_of_dvd hM0.1 g1.2.1
  have g0 := g1.1
  unfold mX3_lower
  rw [gc k1, bnd_eq, hM]
  refine g2.trans ?_
  unfold mX3_lower_B47
  have l49 := lowL49 (σ := σ) (x := fun zσ => mX3_lower_B97 o g zσ) hL ho tE ⟨g0, by omega⟩ hb 4 0 mF (by omega) (by unfold mF; omega)
  have e : stQ σ o (rMix 0 (lwr g E) E) 16 = σ := by
    funext a b
    unfold stQ
    by_cases h : o + 2 ≤ a ∧ a < o + 6 ∧ b < 4 ∧ 4 * (a - (o + 2)) + b < 16
    · rw [if_pos h]
      show vg b (if a - (o + 2) < 0 then _ else E (a - (o + 2))) = _
      rw [if_neg (by omega), ← hr _ (by omega), ← rwC_at σ o h.2.2.1, show o + 2 + (a - (o + 2)) = a by omega]
    · rw [if_neg h]
  rw [e] at l49
  refine l49.trans ?_
  unfold mX3_lower_B97
  rw [stQ_ne _ _ _ _ _ _ (by omega), hM, quot_e _ _ _ g0 (by omega) (by omega), mCall_some, bnd_eq]

/-! one column, step by step -/
def euF (M : Int) (c : Nat) : Nat → V4 → V4 → V4 × V4
  | 0, r, w => (r, w)
  | n + 1, r, w => if vg c w = 0 then (r, w) else euF M c n w (stp M c r w)
theorem euF_z (M : Int) (c n : Nat) (r w : V4) (h : vg c w = 0) : euF M c n r w = (r, w) := by
  cases n with
  | zero => rfl
  | succ n => show (if vg c w = 0 then (r, w) else _) = _; rw [if_pos h]
theorem euF_s (M : Int) (c n : Nat) (r w : V4) (h : vg c w ≠ 0) : euF M c (n + 1) r w = euF M c n w (stp M c r w) := by
  show (if vg c w = 0 then (r, w) else _) = _
  rw [if_neg h]
theorem euF_end {M : Int} {c : Nat} (hM : 0 < M) (hc : c < 4) : ∀ (n : Nat) (r w : V4), euP M c r w → vg c w ≤ vg c r → vg c r * vg c w < 2 ^ n → vg c (euF M c n r w).2 = 0 := by
  intro n
  induction n with
  | zero =>
    intro r w h h1 h2
    obtain ⟨p1, p2, -⟩ := h
    show vg c w = 0
    rcases Int.lt_or_le 0 (vg c w) with h3 | h3
    · have := Int.mul_le_mul_of_nonneg_left (show 1 ≤ vg c w by omega) (show 0 ≤ vg c r by omega)
      omega
    · omega
  | succ n ih =>
    intro r w h h1 h2
    by_cases h0 : vg c w = 0
    · rw [euF_z _ _ _ _ _ h0]; exact h0
    · rw [euF_s _ _ _ _ _ h0]
      have p := h.2.1
      have lt := Int.emod_lt_of_pos (vg c r) (show 0 < vg c w by omega)
      refine ih _ _ (euP_step hM hc h h0) (by rw [stp_c hc]; omega) ?_
      rw [stp_c hc]
      by_cases he : vg c w = vg c r
      · rw [he, Int.emod_self, Int.mul_zero]
        exact Int.pow_pos (by decide)
      · exact half_step (by omega) (by omega) (by rw [Int.pow_succ] at h2; omega)
theorem euF_62 {M : Int} {c : Nat} {r w : V4} (hM : 0 < M) (hc : c < 4) (h : euP M c r w) (h1 : vg c r ≤ 1000000000) (h2 : vg c w ≤ 1000000000) : vg c (euF M c 62 r w).2 = 0 := by
  have p1 := h.1
  have p2 := h.2.1
  by_cases h0 : vg c w = 0
  · rw [euF_z _ _ _ _ _ h0]; exact h0
  · rw [euF_s _ _ _ _ _ h0]
    have lt := Int.emod_lt_of_pos (vg c r) (show 0 < vg c w by omega)
    have nn := Int.emod_nonneg (vg c r) h0
    have m := mul_rng (x := vg c w) (y := vg c r % vg c w) (A := 1000000000) (B := 1000000000) (by omega) (by omega) (by omega)
    exact euF_end hM hc 61 _ _ (euP_step hM hc h h0) (by rw [stp_c hc]; omega) (by rw [stp_c hc]; omega)
theorem euF_S {M : Int} {c : Nat} (hM : 0 < M) (hc : c < 4) : ∀ (n : Nat) (r w : V4), euP M c r w → vg c (euF M c n r w).2 = 0 → euS M c r w (euF M c n r w).1 (euF M c n r w).2 := by
  intro n
  induction n with
  | zero => intro r w h h0; exact euS_stop h h0
  | succ n ih =>
    intro r w h h1
    by_cases h0 : vg c w = 0
    · rw [euF_z _ _ _ _ _ h0]
      exact euS_stop h h0
    · rw [euF_s _ _ _ _ _ h0] at h1 ⊢
      exact euS_step hM hc h h0 (ih _ _ (euP_step hM hc h h0) h1)
def vMix (i : Nat) (a b : V4) : V4 := vk (fun j => if j < i then vg j a else vg j b)
theorem vMix_4 (a b : V4) : vMix 4 a b = a := vg_ext fun i hi => by unfold vMix; rw [vg_vk _ hi, if_pos hi]
theorem vMix_c {c : Nat} {a b : V4} (h : ∀ i, i < c → i < 4 → vg i a = vg i b) : vMix c a b = b := vg_ext fun i hi => by
  unfold vMix
  rw [vg_vk _ hi]
  by_cases hic : i < c
  · rw [if_pos hic, h i hic hi]
  · rw [if_neg hic]
theorem vMix_s {i : Nat} {a b : V4} {u : Int} (hu : u = vg i a) : vU (vMix i a b) i u = vMix (i + 1) a b := vg_ext fun j hj => by
  unfold vMix
  rw [vg_vU _ _ _ hj, vg_vk _ hj, vg_vk _ hj]
  by_cases hji : j = i
  · rw [if_pos hji, if_pos (by omega), hu, hji]
  · rw [if_neg hji]
    by_cases h2 : j < i
    · rw [if_pos h2, if_pos (by omega)]
    · rw [if_neg h2, if_neg (by omega)]
theorem vMix_i {i : Nat} {a b : V4} (hi : i < 4) : vg i (vMix i a b) = vg i b := by
  unfold vMix
  rw [vg_vk _ hi, if_neg (by omega)]
theorem sRow_sRow (F : Nat → V4) (c : Nat) (a b : V4) : sRow (sRow F c a) c b = sRow F c b := by
  funext j
  unfold sRow
  by_cases h : j = c
  · rw [if_pos h, if_pos h]
  · rw [if_neg h, if_neg h, if_neg h]
theorem sRow_self (F : Nat → V4) (c : Nat) : sRow F c (F c) = F := by
  funext j
  unfold sRow
  by_cases h : j = c
  · rw [if_pos h, h]
  · rw [if_neg h]
theorem stQ_up (σ : mSt) (o : Nat) (F : Nat → V4) {c i : Nat} (u : Int) (hc : c < 4) (hi : i < 4) : upS (stQ σ o F 16) (o + 2 + c) i u = stQ σ o (sRow F c (vU (F c) i u)) 16 := by
  funext a b
  unfold upS stQ
  by_cases h1 : a = o + 2 + c ∧ b = i
  · rw [if_pos h1, if_pos (by omega), show a - (o + 2) = c by omega, h1.2, sRow_c, vg_vU _ _ _ hi, if_pos rfl]
  · rw [if_neg h1]
    by_cases h2 : o + 2 ≤ a ∧ a < o + 6 ∧ b < 4 ∧ 4 * (a - (o + 2)) + b < 16
    · rw [if_pos h2, if_pos h2]
      by_cases h3 : a - (o + 2) = c
      · rw [h3, sRow_c, vg_vU _ _ _ (by omega), if_neg (by omega)]
      · rw [sRow_n _ _ _ h3]
    · rw [if_neg h2, if_neg h2]
theorem stQ_at (σ : mSt) (o : Nat) (F : Nat → V4) {c i : Nat} (hc : c < 4) (hi : i < 4) : stQ σ o F 16 (o + 2 + c) i = vg i (F c) := by
  rw [rwC_at (stQ σ o F 16) o hi, rwC_stQ σ o F hc]
theorem stP_up (τ : mSt) (l : Nat) (F : Nat → V4) {c i : Nat} (u : Int) (hc : c < 4) (hi : i < 4) : upS (stP τ l F 16) 269 (16 * l + 4 * c + i) u = stP τ l (sRow F c (vU (F c) i u)) 16 := by
  funext a b
  unfold upS stP
  by_cases h1 : a = 269 ∧ b = 16 * l + 4 * c + i
  · rw [if_pos h1, if_pos (by omega), show (b - 16 * l) / 4 = c by omega, show (b - 16 * l) % 4 = i by omega, sRow_c, vg_vU _ _ _ hi, if_pos rfl]
  · rw [if_neg h1]
    by_cases h2 : a = 269 ∧ 16 * l ≤ b ∧ b < 16 * l + 16
    · rw [if_pos h2, if_pos h2]
      by_cases h3 : (b - 16 * l) / 4 = c
      · rw [h3, sRow_c, vg_vU _ _ _ (by omega), if_neg (by omega)]
      · rw [sRow_n _ _ _ h3]
    · rw [if_neg h2, if_neg h2]
/-- a lattice's store: rows, work -/
def cl (σ : mSt) (o : Nat) (F : Nat → V4) (w : V4) : mSt := stV (stQ σ o F 16) (o + 6) w
theorem cl_row (σ : mSt) (o : Nat) (F : Nat → V4) (w : V4) {c i : Nat} (u : Int) (hc : c < 4) (hi : i < 4) : upS (cl σ o F w) (o + 2 + c) i u = cl σ o (sRow F c (vU (F c) i u)) w := by
  unfold cl
  rw [← stQ_up σ o F u hc hi]
  funext a b
  unfold stV st4
  simp only [upS]
  grind
theorem cl_work (σ : mSt) (o : Nat) (F : Nat → V4) (w : V4) {i : Nat} (u : Int) (hi : i < 4) : upS (cl σ o F w) (o + 6) i u = cl σ o F (vU w i u) := stV_up _ _ _ _ hi
theorem cl_ne (σ : mSt) (o : Nat) (F : Nat → V4) (w : V4) (i j : Nat) (h : i < o + 2 ∨ o + 7 ≤ i) : cl σ o F w i j = σ i j := by
  unfold cl
  rw [stV_ne _ _ _ _ _ (by omega), stQ_ne _ _ _ _ _ _ (by omega)]
theorem cl_r (σ : mSt) (o : Nat) (F : Nat → V4) (w : V4) {c i : Nat} (hc : c < 4) (hi : i < 4) : cl σ o F w (o + 2 + c) i = vg i (F c) := by
  unfold cl
  rw [stV_ne _ _ _ _ _ (by omega), stQ_at _ _ _ hc hi]
theorem cl_w (σ : mSt) (o : Nat) (F : Nat → V4) (w : V4) {i : Nat} (hi : i < 4) : cl σ o F w (o + 6) i = vg i w := vg_stV _ _ _ hi
theorem cl_lay {σ : mSt} {o : Nat} (F : Nat → V4) (w : V4) (hL : Lay σ) (ho : o ∈ latIds) : shp o = (3, 0) ∧ shp (o + 1) = (27, 4) ∧ shp (o + 6) = (21, 4) ∧ cl σ o F w o 0 = ((o + 1 : Nat) : Int) ∧ cl σ o F w o 1 = ((o + 6 : Nat) : Int) ∧ cl σ o F w o 2 = σ o 2 ∧ ∀ r, r < 4 → shp (o + 2 + r) = (21, 4) ∧ cl σ o F w (o + 1) r = ((o + 2 + r : Nat) : Int) := by
  obtain ⟨k1, k2, k3, k4, k5, k6⟩ := lat_lay hL ho
  exact ⟨k1, k2, k3, by rw [cl_ne _ _ _ _ _ _ (by omega)]; exact k4, by rw [cl_ne _ _ _ _ _ _ (by omega)]; exact k5, cl_ne _ _ _ _ _ _ (by omega), fun r hr => ⟨(k6 r hr).1, by rw [cl_ne _ _ _ _ _ _ (by omega)]; exact (k6 r hr).2⟩⟩
theorem cl_self (σ : mSt) (o : Nat) : cl σ o (rwC σ o) (rowV σ (o + 6)) = σ := by
  funext a b
  unfold cl
  by_cases h1 : a = o + 6
  · by_cases h2 : b < 4
    · rw [h1, vg_stV _ _ _ h2, vg_rowV _ _ h2]
    · unfold stV st4
      simp only [upS]
      rw [if_neg (by omega), if_neg (by omega), if_neg (by omega), if_neg (by omega), stQ_ne _ _ _ _ _ _ (by omega)]
  · rw [stV_ne _ _ _ _ _ h1]
    unfold stQ
    by_cases h2 : o + 2 ≤ a ∧ a < o + 6 ∧ b < 4 ∧ 4 * (a - (o + 2)) + b < 16
    · rw [if_pos h2, ← rwC_at σ o h2.2.2.1, show o + 2 + (a - (o + 2)) = a by omega]
    · rw [if_neg h2]
theorem rest_e' {a m : Int} {σ : mSt} (hm : 0 < m) (h1 : -9223372036854775808 ≤ a ∧ a < 9223372036854775808) (h2 : m < 9223372036854775808) : mX5_rest a m σ = some (a % m, σ) := rest_e _ _ _ hm h1 h2
theorem addL80 {σ : mSt} {o v c : Nat} {k q M : Int} {F : Nat → V4} {r w : V4} {x : mSt → Option (Int × mSt)} (hL : Lay σ) (ho : o ∈ latIds) (hc : c < 4) (hM : σ o 2 = M) (hM0 : 0 < M ∧ M ≤ 1000000000) (hp : euP M c r w) (hw : 0 < vg c w) (hq : q = vg c r / vg c w) (hr : vg c r ≤ 1000000000) : ∀ (m i N : Nat), i + m = 4 → c ≤ i → m < N → mX3_add_L80 o v (c : Int) (o + 2 + c) k q x N (i : Int) (cl σ o (sRow F c (vMix i w r)) (vMix i (stp M c r w) w)) = x (cl σ o (sRow F c w) (stp M c r w)) := by
  intro m
  induction m with
  | zero =>
    intro i N h1 h2 h3
    obtain ⟨N, rfl⟩ : ∃ q, N = q + 1 := ⟨N - 1, by omega⟩
    rw [mX3_add_L80.eq_2, if_pos (by rw [wI_id (by omega)]; omega), show i = 4 by omega, vMix_4, vMix_4]
  | succ m ih =>
    intro i N h1 h2 h3
    obtain ⟨N, rfl⟩ : ∃ q, N = q + 1 := ⟨N - 1, by omega⟩
    obtain ⟨k1, k2, k3, k4, k5, k6, k7⟩ := cl_lay (sRow F c (vMix i w r)) (vMix i (stp M c r w) w) hL ho
    obtain ⟨p1, p2, p3, p4⟩ := hp
    have hi : i < 4 := by omega
    have rd1 := cl_r σ o (sRow F c (vMix i w r)) (vMix i (stp M c r w) w) hc hi
    rw [sRow_c, vMix_i hi] at rd1
    have rd2 := cl_w σ o (sRow F c (vMix i w r)) (vMix i (stp M c r w) w) hi
    rw [vMix_i hi] at rd2
    have q0 : 0 ≤ q ∧ q ≤ 1000000000 := by
      have := Int.ediv_le_self (vg c w) (show 0 ≤ vg c r by omega)
      have := Int.ediv_nonneg (show 0 ≤ vg c r by omega) (show 0 ≤ vg c w by omega)
      omega
    have up1 := cl_row σ o (sRow F c (vMix i w r)) (vMix i (stp M c r w) w) (vg i w) hc hi
    rw [sRow_c, sRow_sRow, vMix_s rfl] at up1
    obtain ⟨-, -, -, -, j5, j6, -⟩ := cl_lay (sRow F c (vMix (i + 1) w r)) (vMix i (stp M c r w) w) hL ho
    have stv : vg i (stp M c r w) = if i < c then 0 else if i = c then vg c r - (vg c r / vg c w) * vg c w else (vg i r - (vg c r / vg c w) * vg i w) % M := by unfold stp; rw [vg_vk _ hi]
    rw [if_neg (by omega), ← hq] at stv
    rw [mX3_add_L80.eq_2, if_neg (by rw [wI_id (by omega)]; omega), gx (k7 c hc).1 _ (by omega), gr' k5 (by omega), gx k3 _ (by omega), wI_nat (by omega), rd1, rd2, bnd_eq, gr' k5 (by omega), gx k3 _ (by omega), rd2, up1, bnd_eq, gr' j5 (by omega)]
    by_cases hic : i = c
    · rw [if_pos (by rw [hic]), gx k3 _ (by omega), bnd_eq, bnd_eq, cl_work _ _ _ _ _ hi, vMix_s (by rw [stv, if_pos hic, hic]), show (i : Int) + 1 = ((i + 1 : Nat) : Int) by omega]
      exact ih (i + 1) N (by omega) (by omega) (by omega)
    · have p := p4 i (by omega) hi
      have mr := mul_rng (x := q) (y := vg i w) (A := 1000000000) (B := 1000000000) (by omega) (by omega) (by omega)
      rw [if_neg (by rw [wI_id (x := (i : Int)) (by omega), wI_id (x := (c : Int)) (by omega)]; omega), j6, hM, rest_e' hM0.1 (by omega) (by omega), mCall_some, gx k3 _ (by omega), bnd_eq, bnd_eq, cl_work _ _ _ _ _ hi, vMix_s (by rw [stv, if_neg hic]), show (i : Int) + 1 = ((i + 1 : Nat) : Int) by omega]
      exact ih (i + 1) N (by omega) (by omega) (by omega)
theorem addL46 {σ : mSt} {o v c : Nat} {M : Int} {F : Nat → V4} {x : mSt → Option (Int × mSt)} (hL : Lay σ) (ho : o ∈ latIds) (hc : c < 4) (hM : σ o 2 = M) (hM0 : 0 < M ∧ M ≤ 1000000000) : ∀ (n j : Nat) (r w : V4) (N : Nat), euP M c r w → vg c r ≤ 1000000000 → vg c w ≤ 1000000000 → vg c (euF M c n r w).2 = 0 → j + n ≤ 199 → n < N → mX3_add_L46 o v (c : Int) (o + 2 + c) x N (j : Int) (cl σ o (sRow F c r) w) = x (cl σ o (sRow F c (euF M c n r w).1) (euF M c n r w).2) := by
  intro n
  induction n with
  | zero =>
    intro j r w N hp hr hw h0 hj hN
    obtain ⟨N, rfl⟩ : ∃ q, N = q + 1 := ⟨N - 1, by omega⟩
    obtain ⟨k1, k2, k3, k4, k5, k6, k7⟩ := cl_lay (sRow F c r) w hL ho
    rw [mX3_add_L46.eq_2, if_neg (by rw [wI_id (by omega)]; omega), gr' k5 (by omega), gx k3 _ (by omega), wI_nat (by omega), cl_w _ _ _ _ hc, wL_id (x := vg c w) (by have := hp.2.1; omega), if_pos (show vg c w = 0 from h0)]
    rfl
  | succ n ih =>
    intro j r w N hp hr hw h0 hj hN
    obtain ⟨N, rfl⟩ : ∃ q, N = q + 1 := ⟨N - 1, by omega⟩
    obtain ⟨k1, k2, k3, k4, k5, k6, k7⟩ := cl_lay (sRow F c r) w hL ho
    have p1 := hp.1
    have p2 := hp.2.1
    rw [mX3_add_L46.eq_2, if_neg (by rw [wI_id (by omega)]; omega), gr' k5 (by omega), gx k3 _ (by omega), wI_nat (by omega), cl_w _ _ _ _ hc, wL_id (x := vg c w) (by omega)]
    by_cases hz : vg c w = 0
    · rw [if_pos hz, euF_z _ _ _ _ _ hz]
    · rw [euF_s _ _ _ _ _ hz] at h0 ⊢
      have lt := Int.emod_lt_of_pos (vg c r) (show 0 < vg c w by omega)
      have l80 := addL80 (v := v) (k := (j : Int)) (F := F) (x := fun zσ => mX3_add_B147 o v (c : Int) (o + 2 + c) (mX3_add_L46 o v (c : Int) (o + 2 + c) x N) x (j : Int) zσ) hL ho hc hM hM0 hp (by omega) rfl hr (4 - c) c mF (by omega) (by omega) (by unfold mF; omega)
      rw [vMix_c (fun i hi hi4 => by rw [(hp.2.2.1 i hi).1, (hp.2.2.1 i hi).2]), vMix_c (fun i hi hi4 => by unfold stp; rw [vg_vk _ hi4, if_pos hi, (hp.2.2.1 i hi).2])] at l80
      rw [if_neg hz, gx (k7 c hc).1 _ (by omega), gr' k5 (by omega), gx k3 _ (by omega), cl_w _ _ _ _ hc, wL_id (x := vg c w) (by omega), mG_pos hz, cl_r _ _ _ _ hc hc, sRow_c, wL_id (x := vg c r) (by omega), Int.tdiv_eq_ediv_of_nonneg (by omega), bnd_eq]
      refine l80.trans ?_
      unfold mX3_add_B147
      rw [bnd_eq, show (j : Int) + 1 = ((j + 1 : Nat) : Int) by omega]
      exact ih (j + 1) _ _ N (euP_step hM0.1 hc hp hz) hw (by rw [stp_c hc]; omega) h0 (by omega) (by omega)
theorem addL31 {σ : mSt} {o v : Nat} {M : Int} {E : Nat → V4} {y : V4} {x : mSt → Option (Int × mSt)} (hL : Lay σ) (ho : o ∈ latIds) (hM : σ o 2 = M) (hM0 : 0 < M ∧ M ≤ 1000000000) (hE : rOK M E) (hd : ∀ j, j < 4 → vg j (E j) ≤ 1000000000) : ∀ (m c : Nat) (F : Nat → V4) (w : V4) (N : Nat), c + m = 4 → m < N → cInv M E y c F w → ∃ F' w', cInv M E y 4 F' w' ∧ mX3_add_L31 o v x N (c : Int) (cl σ o F w) = x (cl σ o F' w') := by
  intro m
  induction m with
  | zero =>
    intro c F w N h1 h2 h3
    obtain ⟨N, rfl⟩ : ∃ q, N = q + 1 := ⟨N - 1, by omega⟩
    obtain rfl : c = 4 := by omega
    exact ⟨F, w, h3, by rw [mX3_add_L31.eq_2, if_pos (by decide)]⟩
  | succ m ih =>
    intro c F w N h1 h2 h3
    obtain ⟨N, rfl⟩ : ∃ q, N = q + 1 := ⟨N - 1, by omega⟩
    have hc : c < 4 := by omega
    have hp := cInv_pre hc h3
    have rb : vg c (F c) ≤ 1000000000 := by rw [h3.1 c (by omega) hc]; exact hd c hc
    have wb : vg c w ≤ 1000000000 := by have := (h3.2.2.2.2.1 c hc).2; omega
    have he := euF_62 hM0.1 hc hp rb wb
    obtain ⟨F', w', g1, g2⟩ := ih (c + 1) (sRow F c (euF M c 62 (F c) w).1) (euF M c 62 (F c) w).2 N (by omega) (by omega) (cInv_step hE hc h3 (euF_S hM0.1 hc 62 _ _ hp he))
    refine ⟨F', w', g1, ?_⟩
    obtain ⟨k1, k2, k3, k4, k5, k6, k7⟩ := cl_lay F w hL ho
    have l46 := addL46 (v := v) (F := F) (x := fun zσ => mX3_add_B153 o v (mX3_add_L31 o v x N) x (c : Int) zσ) hL ho hc hM hM0 62 0 (F c) w mF hp rb wb he (by omega) (by unfold mF; omega)
    rw [sRow_self] at l46
    rw [mX3_add_L31.eq_2, if_neg (by rw [wI_id (by omega)]; omega), gr' k4 (by omega), gx k2 _ (by omega), wI_nat (by omega), gr' (k7 c hc).2 (by omega)]
    refine l46.trans ?_
    unfold mX3_add_B153
    rw [bnd_eq, show (c : Int) + 1 = ((c + 1 : Nat) : Int) by omega]
    exact g2
theorem addL2 {σ : mSt} {o v : Nat} {M : Int} {F : Nat → V4} {y w : V4} {x : mSt → Option (Int × mSt)} (hL : Lay σ) (ho : o ∈ latIds) (hM : σ o 2 = M) (hM0 : 0 < M ∧ M ≤ 1000000000) (hv : shp v = (21, 4)) (hvo : v < o + 2 ∨ o + 7 ≤ v) (hy : rowV σ v = y) (hyr : ∀ i, i < 4 → -9223372036854775808 ≤ vg i y ∧ vg i y < 9223372036854775808) : ∀ (m i N : Nat), i + m = 4 → m < N → mX3_add_L2 o v x N (i : Int) (cl σ o F (vMix i (vk (fun j => vg j y % M)) w)) = x (cl σ o F (vk (fun j => vg j y % M))) := by
  intro m
  induction m with
  | zero =>
    intro i N h1 h2
    obtain ⟨N, rfl⟩ : ∃ q, N = q + 1 := ⟨N - 1, by omega⟩
    rw [mX3_add_L2.eq_2, if_pos (by rw [wI_id (by omega)]; omega), show i = 4 by omega, vMix_4]
  | succ m ih =>
    intro i N h1 h2
    obtain ⟨N, rfl⟩ : ∃ q, N = q + 1 := ⟨N - 1, by omega⟩
    have hi : i < 4 := by omega
    obtain ⟨k1, k2, k3, k4, k5, k6, k7⟩ := cl_lay F (vMix i (vk (fun j => vg j y % M)) w) hL ho
    have rv : cl σ o F (vMix i (vk (fun j => vg j y % M)) w) v i = vg i y := by
      rw [cl_ne _ _ _ _ _ _ hvo, ← hy, vg_rowV _ _ hi]
    rw [mX3_add_L2.eq_2, if_neg (by rw [wI_id (by omega)]; omega), gr' k5 (by omega), gx hv _ (by omega), wI_nat (by omega), rv, k6, hM, rest_e' hM0.1 (hyr i hi) (by omega), mCall_some, gx k3 _ (by omega), bnd_eq, bnd_eq, cl_work _ _ _ _ _ hi, vMix_s (by rw [vg_vk _ hi]), show (i : Int) + 1 = ((i + 1 : Nat) : Int) by omega]
    exact ih (i + 1) N (by omega) (by omega)
theorem add_e {σ : mSt} {o v : Nat} {M : Int} {E : Nat → V4} {y : V4} (hL : Lay σ) (ho : o ∈ latIds) (hM : σ o 2 = M) (hM0 : 0 < M ∧ M ≤ 1000000000) (hv : shp v = (21, 4)) (hvo : v < o + 2 ∨ o + 7 ≤ v) (hy : rowV σ v = y) (hyr : ∀ i, i < 4 → -9223372036854775808 ≤ vg i y ∧ vg i y < 9223372036854775808) (hr : ∀ r, r < 4 → rwC σ o r = E r) (hE : rOK M E) (hd : ∀ j, j < 4 → vg j (E j) ≤ 1000000000) : ∃ F, addS M E y F ∧ mX3_add o v σ = some (0, cl σ o F v0) := by
  have k1 := (lat_lay hL ho).1
  have l2 := addL2 (F := rwC σ o) (w := rowV σ (o + 6)) (x := fun zσ => mX3_add_B29 o v zσ) hL ho hM hM0 hv hvo hy hyr 4 0 mF (by omega) (by unfold mF; omega)
  rw [vMix_c (fun i hi _ => by omega), cl_self] at l2
  have c0 : cInv M E y 0 E (vk (fun j => vg j y % M)) := cInv_start hE (fun i hi => vg_vk _ hi)
  obtain ⟨F', w', g1, g2⟩ := addL31 (v := v) (x := fun zσ => mX3_add_B159 o v zσ) hL ho hM hM0 hE hd 4 0 E _ mF (by omega) (by unfold mF; omega) c0
  have w0 : w' = v0 := vg_ext fun i hi => by rw [g1.2.2.2.1 i hi hi, vg_v0 hi]
  refine ⟨F', cInv_end hE g1, ?_⟩
  unfold mX3_add
  rw [gc k1]
  refine l2.trans ?_
  unfold mX3_add_B29
  have e : cl σ o (rwC σ o) (vk (fun j => vg j y % M)) = cl σ o E (vk (fun j => vg j y % M)) := by
    unfold cl
    congr 1
    funext a b
    unfold stQ
    by_cases h : o + 2 ≤ a ∧ a < o + 6 ∧ b < 4 ∧ 4 * (a - (o + 2)) + b < 16
    · rw [if_pos h, if_pos h, hr _ (by omega)]
    · rw [if_neg h, if_neg h]
  rw [e]
  refine g2.trans ?_
  rw [w0]
  rfl

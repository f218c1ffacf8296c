/-! rows of a set, written one number behind the other -/
def stP (τ : mSt) (l : Nat) (E : Nat → V4) (n : Nat) : mSt := fun a b => if a = 269 ∧ 16 * l ≤ b ∧ b < 16 * l + n then vg ((b - 16 * l) % 4) (E ((b - 16 * l) / 4)) else τ a b
def stQ (σ : mSt) (o : Nat) (E : Nat → V4) (n : Nat) : mSt := fun a b => if o + 2 ≤ a ∧ a < o + 6 ∧ b < 4 ∧ 4 * (a - (o + 2)) + b < n then vg b (E (a - (o + 2))) else σ a b
theorem stP_0 (τ : mSt) (l : Nat) (E : Nat → V4) : stP τ l E 0 = τ := by
  funext a b
  unfold stP
  rw [if_neg (by omega)]
theorem stQ_0 (σ : mSt) (o : Nat) (E : Nat → V4) : stQ σ o E 0 = σ := by
  funext a b
  unfold stQ
  rw [if_neg (by omega)]
theorem stP_step (τ : mSt) (l : Nat) (E : Nat → V4) (n : Nat) {v : Int} (hv : v = vg (n % 4) (E (n / 4))) : upS (stP τ l E n) 269 (16 * l + n) v = stP τ l E (n + 1) := by
  funext a b
  unfold upS stP
  by_cases h1 : a = 269 ∧ b = 16 * l + n
  · rw [if_pos h1, if_pos (by omega), hv, show b - 16 * l = n by omega]
  · rw [if_neg h1]
    by_cases h2 : a = 269 ∧ 16 * l ≤ b ∧ b < 16 * l + n
    · rw [if_pos h2, if_pos (by omega)]
    · rw [if_neg h2, if_neg (by omega)]
theorem stQ_step (σ : mSt) (o : Nat) (E : Nat → V4) {r c : Nat} (hr : r < 4) (hc : c < 4) {v : Int} (hv : v = vg c (E r)) : upS (stQ σ o E (4 * r + c)) (o + 2 + r) c v = stQ σ o E (4 * r + (c + 1)) := by
  funext a b
  unfold upS stQ
  by_cases h1 : a = o + 2 + r ∧ b = c
  · rw [if_pos h1, if_pos (by omega), hv, show a - (o + 2) = r by omega, h1.2]
  · rw [if_neg h1]
    by_cases h2 : o + 2 ≤ a ∧ a < o + 6 ∧ b < 4 ∧ 4 * (a - (o + 2)) + b < 4 * r + c
    · rw [if_pos h2, if_pos (by omega)]
    · rw [if_neg h2, if_neg (by omega)]
theorem stP_ne (τ : mSt) (l : Nat) (E : Nat → V4) (n i j : Nat) (h : i ≠ 269) : stP τ l E n i j = τ i j := by
  unfold stP
  rw [if_neg (by omega)]
theorem stP_out (τ : mSt) (l : Nat) (E : Nat → V4) (n j : Nat) (h : j < 16 * l ∨ 16 * l + n ≤ j) : stP τ l E n 269 j = τ 269 j := by
  unfold stP
  rw [if_neg (by omega)]
theorem stQ_ne (σ : mSt) (o : Nat) (E : Nat → V4) (n i j : Nat) (h : i < o + 2 ∨ o + 6 ≤ i) : stQ σ o E n i j = σ i j := by
  unfold stQ
  rw [if_neg (by omega)]
theorem rowL_stP (τ : mSt) (l : Nat) (E : Nat → V4) {r : Nat} (hr : r < 4) : rowL (stP τ l E 16) l r = E r := by
  refine vg_ext (fun c hc => ?_)
  rw [← rowL_at _ _ hr hc]
  unfold stP
  rw [if_pos (by omega), show 16 * l + 4 * r + c - 16 * l = 4 * r + c by omega, show (4 * r + c) % 4 = c by omega, show (4 * r + c) / 4 = r by omega]
theorem rowL_stP_ne (τ : mSt) (l l' : Nat) (E : Nat → V4) (r n : Nat) (hn : n ≤ 16) (h : l' ≠ l) : rowL (stP τ l E n) l' r = rowL τ l' r := by
  by_cases hr : 4 ≤ r
  · unfold rowL
    rw [if_pos hr, if_pos hr]
  · refine vg_ext (fun c hc => ?_)
    rw [← rowL_at _ _ (by omega) hc, ← rowL_at _ _ (by omega) hc, stP_out _ _ _ _ _ (by omega)]
theorem rwC_stQ (σ : mSt) (o : Nat) (E : Nat → V4) {r : Nat} (hr : r < 4) : rwC (stQ σ o E 16) o r = E r := by
  refine vg_ext (fun c hc => ?_)
  rw [← rwC_at _ _ hc]
  unfold stQ
  rw [if_pos (by omega), show o + 2 + r - (o + 2) = r by omega]
theorem frm_stP {W : Nat → Nat → Prop} {σ σ' : mSt} {l n : Nat} {E : Nat → V4} (h : frm W σ σ') (hW : ∀ j, 16 * l ≤ j → j < 16 * l + n → W 269 j) : frm W σ (stP σ' l E n) := fun i j z => by
  unfold stP
  rw [if_neg (fun q => z (by rw [q.1]; exact hW j q.2.1 q.2.2))]
  exact h i j z
theorem frm_stQ {W : Nat → Nat → Prop} {σ σ' : mSt} {o n : Nat} {E : Nat → V4} (h : frm W σ σ') (hW : ∀ i j, o + 2 ≤ i → i < o + 6 → W i j) : frm W σ (stQ σ' o E n) := fun i j z => by
  unfold stQ
  rw [if_neg (fun q => z (hW i j q.1 q.2.1))]
  exact h i j z
theorem stQ_lay {σ : mSt} {o n : Nat} {E : Nat → V4} {o2 : Nat} (hL : Lay σ) (ho : o2 ∈ latIds) (ho1 : o ∈ latIds) : (stQ σ o E n) o2 0 = ((o2 + 1 : Nat) : Int) ∧ (stQ σ o E n) o2 1 = ((o2 + 6 : Nat) : Int) ∧ (∀ r, r < 4 → (stQ σ o E n) (o2 + 1) r = ((o2 + 2 + r : Nat) : Int)) ∧ (stQ σ o E n) o2 2 = σ o2 2 := by
  have d : ∀ a ∈ latIds, ∀ b ∈ latIds, (a < b + 2 ∨ b + 6 ≤ a) ∧ (a + 1 < b + 2 ∨ b + 6 ≤ a + 1) := by decide
  have d2 := d o2 ho o ho1
  obtain ⟨k1, k2, k3, k4, k5, k6⟩ := lat_lay hL ho
  exact ⟨by rw [stQ_ne _ _ _ _ _ _ d2.1]; exact k4, by rw [stQ_ne _ _ _ _ _ _ d2.1]; exact k5, fun r hr => by rw [stQ_ne _ _ _ _ _ _ d2.2]; exact (k6 r hr).2, stQ_ne _ _ _ _ _ _ d2.1⟩
/-! begin, copy -/
theorem beginL15 {σ : mSt} {o r : Nat} {v : Int} {x : mSt → Option (Int × mSt)} {E : Nat → V4} (hL : Lay σ) (ho : o ∈ latIds) (hr : r < 4) (hE : ∀ c, c < 4 → vg c (E r) = if r = c then v else 0) : ∀ (m c n : Nat), c + m = 4 → m < n → mX3_begin_L15 o v (r : Int) x n (c : Int) (stQ σ o E (4 * r + c)) = x (stQ σ o E (4 * r + 4)) := by
  obtain ⟨k1, k2, k3, k4, k5, k6⟩ := lat_lay hL ho
  intro m
  induction m with
  | zero =>
    intro c n h1 h2
    obtain ⟨n, rfl⟩ : ∃ q, n = q + 1 := ⟨n - 1, by omega⟩
    rw [mX3_begin_L15.eq_2, if_pos (by rw [wI_id (by omega)]; omega), show c = 4 by omega]
  | succ m ih =>
    intro c n h1 h2
    obtain ⟨n, rfl⟩ : ∃ q, n = q + 1 := ⟨n - 1, by omega⟩
    obtain ⟨l0, l1, l2, l3⟩ := stQ_lay (E := E) (n := 4 * r + c) hL ho ho
    have hv := hE c (by omega)
    rw [mX3_begin_L15.eq_2]
    by_cases hrc : r = c
    · rw [if_pos hrc] at hv
      simp (disch := omega) only [gr, bnd_eq, up_ne, upS_same, stV_ne, mCall_some, wI_id, wL_id, cLtF, cLtT, cLeF, cLeT, cEqF, cEqT, ↓reduceIte, Int.toNat_natCast, Int.reduceToNat, l0, gx k2, l2 r hr, gx (k6 r hr).1]
      rw [stQ_step σ o E hr (by omega) hv.symm, show (c : Int) + 1 = ((c + 1 : Nat) : Int) by omega]
      exact ih (c + 1) n (by omega) (by omega)
    · rw [if_neg hrc] at hv
      simp (disch := omega) only [gr, bnd_eq, up_ne, upS_same, stV_ne, mCall_some, wI_id, wL_id, cLtF, cLtT, cLeF, cLeT, cEqF, cEqT, ↓reduceIte, Int.toNat_natCast, Int.reduceToNat, l0, gx k2, l2 r hr, gx (k6 r hr).1]
      rw [stQ_step σ o E hr (by omega) hv.symm, show (c : Int) + 1 = ((c + 1 : Nat) : Int) by omega]
      exact ih (c + 1) n (by omega) (by omega)
theorem beginL7 {σ : mSt} {o : Nat} {v : Int} {x : mSt → Option (Int × mSt)} {E : Nat → V4} (hL : Lay σ) (ho : o ∈ latIds) (hE : ∀ r c, r < 4 → c < 4 → vg c (E r) = if r = c then v else 0) : ∀ (m r n : Nat), r + m = 4 → m < n → mX3_begin_L7 o v x n (r : Int) (stQ σ o E (4 * r)) = x (stQ σ o E 16) := by
  intro m
  induction m with
  | zero =>
    intro r n h1 h2
    obtain ⟨n, rfl⟩ : ∃ q, n = q + 1 := ⟨n - 1, by omega⟩
    rw [mX3_begin_L7.eq_2, if_pos (by rw [wI_id (by omega)]; omega), show r = 4 by omega]
  | succ m ih =>
    intro r n h1 h2
    obtain ⟨n, rfl⟩ : ∃ q, n = q + 1 := ⟨n - 1, by omega⟩
    rw [mX3_begin_L7.eq_2, if_neg (by rw [wI_id (by omega)]; omega)]
    have := beginL15 (x := fun zσ => mX3_begin_B47 o v (mX3_begin_L7 o v x n) x (r : Int) zσ) hL ho (show r < 4 by omega) (fun c hc => hE r c (by omega) hc) 4 0 mF (by omega) (by unfold mF; omega)
    rw [show ((0 : Nat) : Int) = 0 from rfl, Nat.add_zero] at this
    rw [this]
    unfold mX3_begin_B47
    rw [bnd_eq, show (r : Int) + 1 = ((r + 1 : Nat) : Int) by omega, show 4 * r + 4 = 4 * (r + 1) by omega]
    exact ih (r + 1) n (by omega) (by omega)
def idR (v : Int) : Nat → V4 := fun r => vS v (vE r)
theorem idR_at (v : Int) {r c : Nat} (hr : r < 4) (hc : c < 4) : vg c (idR v r) = if r = c then v else 0 := by
  refine lt4 (p := fun r => vg c (idR v r) = if r = c then v else 0) ?_ ?_ ?_ ?_ hr <;> (unfold idR; rw [vg_vS _ _ hc]; refine lt4 (p := fun c => v * vg c (vE _) = if _ = c then v else 0) ?_ ?_ ?_ ?_ hc <;> simp [vg, vE])
theorem Lay.up {σ : mSt} (h : Lay σ) {i k : Nat} {v : Int} (hf : fixR i k = false) : Lay (upS σ i k v) := h.frm (W := fun a b => fixR a b = false) (frm.one hf) (fun _ _ z => z)
theorem lat_fix {o : Nat} (ho : o ∈ latIds) : fixR o 2 = false ∧ ∀ r, r < 4 → (shp (o + 2 + r)).1 = 21 := by
  have : ∀ o ∈ latIds, fixR o 2 = false ∧ ∀ r, r < 4 → (shp (o + 2 + r)).1 = 21 := by decide +kernel
  exact this o ho
theorem begin_e {σ : mSt} {o : Nat} {v : Int} (hL : Lay σ) (ho : o ∈ latIds) : mX3_begin o v σ = some (0, stQ (upS σ o 2 v) o (idR v) 16) := by
  obtain ⟨k1, k2, k3, k4, k5, k6⟩ := lat_lay hL ho
  have hL2 : Lay (upS σ o 2 v) := hL.up (lat_fix ho).1
  unfold mX3_begin
  rw [gc k1, bnd_eq]
  have := beginL7 (x := fun zσ => mX3_begin_B53 o v zσ) (E := idR v) hL2 ho (fun r c hr hc => idR_at v hr hc) 4 0 mF (by omega) (by unfold mF; omega)
  rw [show ((0 : Nat) : Int) = 0 from rfl, Nat.mul_zero, stQ_0] at this
  rw [this]
  rfl
theorem copyL22 {σ : mSt} {o p r : Nat} {f : Int} {x : mSt → Option (Int × mSt)} {E : Nat → V4} (hL : Lay σ) (ho : o ∈ latIds) (hp : p ∈ latIds) (hop : o ≠ p) (hr : r < 4) (hE : ∀ c, c < 4 → vg c (E r) = vg c (rwC σ p r) * f) : ∀ (m c n : Nat), c + m = 4 → m < n → mX3_copy_L22 o p f (r : Int) x n (c : Int) (stQ σ o E (4 * r + c)) = x (stQ σ o E (4 * r + 4)) := by
  obtain ⟨k1, k2, k3, k4, k5, k6⟩ := lat_lay hL ho
  obtain ⟨j1, j2, j3, j4, j5, j6⟩ := lat_lay hL hp
  have far : ∀ a ∈ latIds, ∀ b ∈ latIds, a ≠ b → a + 7 ≤ b ∨ b + 7 ≤ a := by decide
  have hfar := far o ho p hp hop
  intro m
  induction m with
  | zero =>
    intro c n h1 h2
    obtain ⟨n, rfl⟩ : ∃ q, n = q + 1 := ⟨n - 1, by omega⟩
    rw [mX3_copy_L22.eq_2, if_pos (by rw [wI_id (by omega)]; omega), show c = 4 by omega]
  | succ m ih =>
    intro c n h1 h2
    obtain ⟨n, rfl⟩ : ∃ q, n = q + 1 := ⟨n - 1, by omega⟩
    obtain ⟨l0, l1, l2, l3⟩ := stQ_lay (E := E) (n := 4 * r + c) hL ho ho
    obtain ⟨i0, i1, i2, i3⟩ := stQ_lay (E := E) (n := 4 * r + c) hL hp ho
    have hv := hE c (by omega)
    have rd : stQ σ o E (4 * r + c) (p + 2 + r) c = vg c (rwC σ p r) := by
      rw [stQ_ne _ _ _ _ _ _ (by omega), rwC_at σ p (by omega)]
    rw [mX3_copy_L22.eq_2]
    simp (disch := omega) only [gr, bnd_eq, up_ne, upS_same, stV_ne, mCall_some, wI_id, wL_id, cLtF, cLtT, cLeF, cLeT, cEqF, cEqT, ↓reduceIte, Int.toNat_natCast, Int.reduceToNat, l0, gx k2, l2 r hr, gx (k6 r hr).1, gc j1, i0, gx j2, i2 r hr, gx (j6 r hr).1, rd]
    rw [stQ_step σ o E hr (by omega) hv.symm, show (c : Int) + 1 = ((c + 1 : Nat) : Int) by omega]
    exact ih (c + 1) n (by omega) (by omega)
theorem copyL13 {σ : mSt} {o p : Nat} {f : Int} {x : mSt → Option (Int × mSt)} {E : Nat → V4} (hL : Lay σ) (ho : o ∈ latIds) (hp : p ∈ latIds) (hop : o ≠ p) (hE : ∀ r c, r < 4 → c < 4 → vg c (E r) = vg c (rwC σ p r) * f) : ∀ (m r n : Nat), r + m = 4 → m < n → mX3_copy_L13 o p f x n (r : Int) (stQ σ o E (4 * r)) = x (stQ σ o E 16) := by
  intro m
  induction m with
  | zero =>
    intro r n h1 h2
    obtain ⟨n, rfl⟩ : ∃ q, n = q + 1 := ⟨n - 1, by omega⟩
    rw [mX3_copy_L13.eq_2, if_pos (by rw [wI_id (by omega)]; omega), show r = 4 by omega]
  | succ m ih =>
    intro r n h1 h2
    obtain ⟨n, rfl⟩ : ∃ q, n = q + 1 := ⟨n - 1, by omega⟩
    rw [mX3_copy_L13.eq_2, if_neg (by rw [wI_id (by omega)]; omega)]
    have := copyL22 (x := fun zσ => mX3_copy_B56 o p f (mX3_copy_L13 o p f x n) x (r : Int) zσ) hL ho hp hop (show r < 4 by omega) (fun c hc => hE r c (by omega) hc) 4 0 mF (by omega) (by unfold mF; omega)
    rw [show ((0 : Nat) : Int) = 0 from rfl, Nat.add_zero] at this
    rw [this]
    unfold mX3_copy_B56
    rw [bnd_eq, show (r : Int) + 1 = ((r + 1 : Nat) : Int) by omega, show 4 * r + 4 = 4 * (r + 1) by omega]
    exact ih (r + 1) n (by omega) (by omega)
theorem rwC_up (σ : mSt) (o : Nat) (i k : Nat) (v : Int) (h : i < o + 2 ∨ o + 6 ≤ i) {r : Nat} (hr : r < 4) : rwC (upS σ i k v) o r = rwC σ o r := by
  unfold rwC
  exact rowV_up _ _ _ _ _ (by omega)
theorem copy_e {σ : mSt} {o p : Nat} {f : Int} (hL : Lay σ) (ho : o ∈ latIds) (hp : p ∈ latIds) (hop : o ≠ p) : mX3_copy o p f σ = some (0, stQ (upS σ o 2 (σ p 2 * f)) o (fun r => vS f (rwC σ p r)) 16) := by
  obtain ⟨k1, k2, k3, k4, k5, k6⟩ := lat_lay hL ho
  obtain ⟨j1, j2, j3, j4, j5, j6⟩ := lat_lay hL hp
  have far : ∀ a ∈ latIds, ∀ b ∈ latIds, a ≠ b → a + 7 ≤ b ∨ b + 7 ≤ a := by decide
  have hfar := far o ho p hp hop
  have hL2 : Lay (upS σ o 2 (σ p 2 * f)) := hL.up (lat_fix ho).1
  unfold mX3_copy
  rw [gc k1, gc j1, bnd_eq]
  have := copyL13 (x := fun zσ => mX3_copy_B62 o p f zσ) (f := f) (E := fun r => vS f (rwC σ p r)) hL2 ho hp hop (fun r c hr hc => by
    rw [vg_vS _ _ hc, rwC_up _ _ _ _ _ (by omega) hr, Int.mul_comm]) 4 0 mF (by omega) (by unfold mF; omega)
  rw [show ((0 : Nat) : Int) = 0 from rfl, Nat.mul_zero, stQ_0] at this
  rw [this]
  rfl
/-! the reference: laysPlain, copies, scales -/
theorem playL9 {τ : mSt} {l r : Nat} {x : mSt → Option (Int × mSt)} (l29 : τ 253 29 = ((269 : Nat) : Int)) (hl : l < 10) (hr : r < 4) : ∀ (m c n : Nat), c + m = 4 → m < n → mX12_laysPlain_L9 253 (l : Int) (r : Int) x n (c : Int) (stP τ l (idR 1) (4 * r + c)) = x (stP τ l (idR 1) (4 * r + 4)) := by
  intro m
  induction m with
  | zero =>
    intro c n h1 h2
    obtain ⟨n, rfl⟩ : ∃ q, n = q + 1 := ⟨n - 1, by omega⟩
    rw [mX12_laysPlain_L9.eq_2, if_pos (by rw [wI_id (by omega)]; omega), show c = 4 by omega]
  | succ m ih =>
    intro c n h1 h2
    obtain ⟨n, rfl⟩ : ∃ q, n = q + 1 := ⟨n - 1, by omega⟩
    have l2 : stP τ l (idR 1) (4 * r + c) 253 29 = ((269 : Nat) : Int) := by rw [stP_ne _ _ _ _ _ _ (by omega)]; exact l29
    have hv := idR_at 1 hr (show c < 4 by omega)
    rw [mX12_laysPlain_L9.eq_2, if_neg (by rw [wI_id (by omega)]; omega), wI_id (by omega), wI_id (by omega)]
    have st : ∀ v, v = vg c (idR 1 r) → mX12_laysPlain_B28 253 (l : Int) (r : Int) (mX12_laysPlain_L9 253 (l : Int) (r : Int) x n) x (c : Int) 253 (l : Int) (r : Int) (c : Int) v (stP τ l (idR 1) (4 * r + c)) = x (stP τ l (idR 1) (4 * r + 4)) := by
      intro v hv
      unfold mX12_laysPlain_B28
      rw [set_e l2 ⟨hl, by omega, by omega, by omega, by omega⟩, mCall_some, bnd_eq, Int.toNat_natCast, Int.toNat_natCast, show 16 * l + 4 * r + c = 16 * l + (4 * r + c) by omega, stP_step τ l (idR 1) (4 * r + c) (by rw [hv, show (4 * r + c) % 4 = c by omega, show (4 * r + c) / 4 = r by omega]), show (c : Int) + 1 = ((c + 1 : Nat) : Int) by omega]
      exact ih (c + 1) n (by omega) (by omega)
    by_cases hrc : r = c
    · rw [if_pos hrc] at hv
      rw [if_pos (by omega)]
      exact st 1 hv.symm
    · rw [if_neg hrc] at hv
      rw [if_neg (by omega)]
      exact st 0 hv.symm
theorem playL2 {τ : mSt} {l : Nat} {x : mSt → Option (Int × mSt)} (l29 : τ 253 29 = ((269 : Nat) : Int)) (hl : l < 10) : ∀ (m r n : Nat), r + m = 4 → m < n → mX12_laysPlain_L2 253 (l : Int) x n (r : Int) (stP τ l (idR 1) (4 * r)) = x (stP τ l (idR 1) 16) := by
  intro m
  induction m with
  | zero =>
    intro r n h1 h2
    obtain ⟨n, rfl⟩ : ∃ q, n = q + 1 := ⟨n - 1, by omega⟩
    rw [mX12_laysPlain_L2.eq_2, if_pos (by rw [wI_id (by omega)]; omega), show r = 4 by omega]
  | succ m ih =>
    intro r n h1 h2
    obtain ⟨n, rfl⟩ : ∃ q, n = q + 1 := ⟨n - 1, by omega⟩
    rw [mX12_laysPlain_L2.eq_2, if_neg (by rw [wI_id (by omega)]; omega)]
    have := playL9 (x := fun zσ => mX12_laysPlain_B37 253 (l : Int) (mX12_laysPlain_L2 253 (l : Int) x n) x (r : Int) zσ) l29 hl (show r < 4 by omega) 4 0 mF (by omega) (by unfold mF; omega)
    rw [show ((0 : Nat) : Int) = 0 from rfl, Nat.add_zero] at this
    rw [this]
    unfold mX12_laysPlain_B37
    rw [bnd_eq, show (r : Int) + 1 = ((r + 1 : Nat) : Int) by omega, show 4 * r + 4 = 4 * (r + 1) by omega]
    exact ih (r + 1) n (by omega) (by omega)
theorem laysPlain_e {τ : mSt} {l : Nat} (l29 : τ 253 29 = ((269 : Nat) : Int)) (l30 : τ 253 30 = ((270 : Nat) : Int)) (l31 : τ 253 31 = ((271 : Nat) : Int)) (hl : l < 10) : mX12_laysPlain 253 (l : Int) τ = some (0, upS (upS (stP τ l (idR 1) 16) 270 l 1) 271 l 1) := by
  unfold mX12_laysPlain
  have := playL2 (x := fun zσ => mX12_laysPlain_B43 253 (l : Int) zσ) l29 hl 4 0 mF (by omega) (by unfold mF; omega)
  rw [show ((0 : Nat) : Int) = 0 from rfl, Nat.mul_zero, stP_0] at this
  rw [gc253, this]
  unfold mX12_laysPlain_B43
  simp (disch := omega) only [gr, bnd_eq, up_ne, upS_same, stV_ne, mCall_some, wI_id, wL_id, cLtF, cLtT, cLeF, cLeT, cEqF, cEqT, ↓reduceIte, Int.toNat_natCast, Int.reduceToNat, stP_ne, l30, l31, gx270, gx271, wI_nat]

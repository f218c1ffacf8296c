/-! the class side of fill -/
def stQ (σ : mSt) (o : Nat) (E : Nat → V4) (n : Nat) : mSt := fun a b => if o + 2 ≤ a ∧ a < o + 6 ∧ b < 4 ∧ 4 * (a - (o + 2)) + b < n then vg b (E (a - (o + 2))) else σ a b
theorem stQ_0 (σ : mSt) (o : Nat) (E : Nat → V4) : stQ σ o E 0 = σ := by
  funext a b
  unfold stQ
  rw [if_neg (by omega)]
theorem stQ_step (σ : mSt) (o : Nat) (E : Nat → V4) {r c : Nat} (hr : r < 4) (hc : c < 4) {v : Int} (hv : v = vg c (E r)) : upS (stQ σ o E (4 * r + c)) (o + 2 + r) c v = stQ σ o E (4 * r + (c + 1)) := by
  funext a b
  unfold upS stQ
  by_cases h1 : a = o + 2 + r ∧ b = c
  · rw [if_pos h1, if_pos (by omega), hv, show a - (o + 2) = r by omega, h1.2]
  · rw [if_neg h1]
    by_cases h2 : o + 2 ≤ a ∧ a < o + 6 ∧ b < 4 ∧ 4 * (a - (o + 2)) + b < 4 * r + c
    · rw [if_pos h2, if_pos (by omega)]
    · rw [if_neg h2, if_neg (by omega)]
theorem stQ_ne (σ : mSt) (o : Nat) (E : Nat → V4) (n i j : Nat) (h : i < o + 2 ∨ o + 6 ≤ i) : stQ σ o E n i j = σ i j := by
  unfold stQ
  rw [if_neg (by omega)]
theorem rwC_stQ (σ : mSt) (o : Nat) (E : Nat → V4) {r : Nat} (hr : r < 4) : rwC (stQ σ o E 16) o r = E r := by
  refine vg_ext (fun c hc => ?_)
  rw [← rwC_at _ _ hc]
  unfold stQ
  rw [if_pos (by omega), show o + 2 + r - (o + 2) = r by omega]
theorem frm_stQ {W : Nat → Nat → Prop} {σ σ' : mSt} {o n : Nat} {E : Nat → V4} (h : frm W σ σ') (hW : ∀ i j, o + 2 ≤ i → i < o + 6 → W i j) : frm W σ (stQ σ' o E n) := fun i j z => by
  unfold stQ
  rw [if_neg (fun q => z (hW i j q.1 q.2.1))]
  exact h i j z
theorem stQ_lay {σ : mSt} {o n : Nat} {E : Nat → V4} {o2 : Nat} (hL : Lay σ) (ho : o2 ∈ latIds) (ho1 : o ∈ latIds) : (stQ σ o E n) o2 0 = ((o2 + 1 : Nat) : Int) ∧ (stQ σ o E n) o2 1 = ((o2 + 6 : Nat) : Int) ∧ (∀ r, r < 4 → (stQ σ o E n) (o2 + 1) r = ((o2 + 2 + r : Nat) : Int)) ∧ (stQ σ o E n) o2 2 = σ o2 2 := by
  have d : ∀ a ∈ latIds, ∀ b ∈ latIds, (a < b + 2 ∨ b + 6 ≤ a) ∧ (a + 1 < b + 2 ∨ b + 6 ≤ a + 1) := by decide
  have d2 := d o2 ho o ho1
  obtain ⟨k1, k2, k3, k4, k5, k6⟩ := lat_lay hL ho
  exact ⟨by rw [stQ_ne _ _ _ _ _ _ d2.1]; exact k4, by rw [stQ_ne _ _ _ _ _ _ d2.1]; exact k5, fun r hr => by rw [stQ_ne _ _ _ _ _ _ d2.2]; exact (k6 r hr).2, stQ_ne _ _ _ _ _ _ d2.1⟩
theorem beginL15 {σ : mSt} {o r : Nat} {v : Int} {x : mSt → Option (Int × mSt)} {E : Nat → V4} (hL : Lay σ) (ho : o ∈ latIds) (hr : r < 4) (hE : ∀ c, c < 4 → vg c (E r) = if r = c then v else 0) : ∀ (m c n : Nat), c + m = 4 → m < n → mX3_begin_L15 o v (r : Int) x n (c : Int) (stQ σ o E (4 * r + c)) = x (stQ σ o E (4 * r + 4)) := by
  obtain ⟨k1, k2, k3, k4, k5, k6⟩ := lat_lay hL ho
  intro m
  induction m with
  | zero =>
    intro c n h1 h2
    obtain ⟨n, rfl⟩ : ∃ q, n = q + 1 := ⟨n - 1, by omega⟩
    rw [mX3_begin_L15.eq_2, if_pos (by rw [wI_id (by omega)]; omega), show c = 4 by omega]
  | succ m ih =>
    intro c n h1 h2
    obtain ⟨n, rfl⟩ : ∃ q, n = q + 1 := ⟨n - 1, by omega⟩
    obtain ⟨l0, l1, l2, l3⟩ := stQ_lay (E := E) (n := 4 * r + c) hL ho ho
    have hv := hE c (by omega)
    rw [mX3_begin_L15.eq_2]
    by_cases hrc : r = c
    · rw [if_pos hrc] at hv
      simp (disch := omega) only [gr, bnd_eq, up_ne, upS_same, stV_ne, mCall_some, wI_id, wL_id, cLtF, cLtT, cLeF, cLeT, cEqF, cEqT, ↓reduceIte, Int.toNat_natCast, Int.reduceToNat, l0, gx k2, l2 r hr, gx (k6 r hr).1]
      rw [stQ_step σ o E hr (by omega) hv.symm, show (c : Int) + 1 = ((c + 1 : Nat) : Int) by omega]
      exact ih (c + 1) n (by omega) (by omega)
    · rw [if_neg hrc] at hv
      simp (disch := omega) only [gr, bnd_eq, up_ne, upS_same, stV_ne, mCall_some, wI_id, wL_id, cLtF, cLtT, cLeF, cLeT, cEqF, cEqT, ↓reduceIte, Int.toNat_natCast, Int.reduceToNat, l0, gx k2, l2 r hr, gx (k6 r hr).1]
      rw [stQ_step σ o E hr (by omega) hv.symm, show (c : Int) + 1 = ((c + 1 : Nat) : Int) by omega]
      exact ih (c + 1) n (by omega) (by omega)
theorem beginL7 {σ : mSt} {o : Nat} {v : Int} {x : mSt → Option (Int × mSt)} {E : Nat → V4} (hL : Lay σ) (ho : o ∈ latIds) (hE : ∀ r c, r < 4 → c < 4 → vg c (E r) = if r = c then v else 0) : ∀ (m r n : Nat), r + m = 4 → m < n → mX3_begin_L7 o v x n (r : Int) (stQ σ o E (4 * r)) = x (stQ σ o E 16) := by
  intro m
  induction m with
  | zero =>
    intro r n h1 h2
    obtain ⟨n, rfl⟩ : ∃ q, n = q + 1 := ⟨n - 1, by omega⟩
    rw [mX3_begin_L7.eq_2, if_pos (by rw [wI_id (by omega)]; omega), show r = 4 by omega]
  | succ m ih =>
    intro r n h1 h2
    obtain ⟨n, rfl⟩ : ∃ q, n = q + 1 := ⟨n - 1, by omega⟩
    rw [mX3_begin_L7.eq_2, if_neg (by rw [wI_id (by omega)]; omega)]
    have := beginL15 (x := fun zσ => mX3_begin_B47 o v (mX3_begin_L7 o v x n) x (r : Int) zσ) hL ho (show r < 4 by omega) (fun c hc => hE r c (by omega) hc) 4 0 mF (by omega) (by unfold mF; omega)
    rw [show ((0 : Nat) : Int) = 0 from rfl, Nat.add_zero] at this
    rw [this]
    unfold mX3_begin_B47
    rw [bnd_eq, show (r : Int) + 1 = ((r + 1 : Nat) : Int) by omega, show 4 * r + 4 = 4 * (r + 1) by omega]
    exact ih (r + 1) n (by omega) (by omega)
def idR (v : Int) : Nat → V4 := fun r => vS v (vE r)
theorem idR_at (v : Int) {r c : Nat} (hr : r < 4) (hc : c < 4) : vg c (idR v r) = if r = c then v else 0 := by
  refine lt4 (p := fun r => vg c (idR v r) = if r = c then v else 0) ?_ ?_ ?_ ?_ hr <;> (unfold idR; rw [vg_vS _ _ hc]; refine lt4 (p := fun c => v * vg c (vE _) = if _ = c then v else 0) ?_ ?_ ?_ ?_ hc <;> simp [vg, vE])
theorem Lay.up {σ : mSt} (h : Lay σ) {i k : Nat} {v : Int} (hf : fixR i k = false) : Lay (upS σ i k v) := h.frm (W := fun a b => fixR a b = false) (frm.one hf) (fun _ _ z => z)
theorem lat_fix {o : Nat} (ho : o ∈ latIds) : fixR o 2 = false ∧ ∀ r, r < 4 → (shp (o + 2 + r)).1 = 21 := by
  have : ∀ o ∈ latIds, fixR o 2 = false ∧ ∀ r, r < 4 → (shp (o + 2 + r)).1 = 21 := by decide +kernel
  exact this o ho
theorem begin_e {σ : mSt} {o : Nat} {v : Int} (hL : Lay σ) (ho : o ∈ latIds) : mX3_begin o v σ = some (0, stQ (upS σ o 2 v) o (idR v) 16) := by
  obtain ⟨k1, k2, k3, k4, k5, k6⟩ := lat_lay hL ho
  have hL2 : Lay (upS σ o 2 v) := hL.up (lat_fix ho).1
  unfold mX3_begin
  rw [gc k1, bnd_eq]
  have := beginL7 (x := fun zσ => mX3_begin_B53 o v zσ) (E := idR v) hL2 ho (fun r c hr hc => idR_at v hr hc) 4 0 mF (by omega) (by unfold mF; omega)
  rw [show ((0 : Nat) : Int) = 0 from rfl, Nat.mul_zero, stQ_0] at this
  rw [this]
  rfl

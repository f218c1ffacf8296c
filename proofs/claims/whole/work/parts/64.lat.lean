/-! where the rows of a set lie: class, reference -/
theorem gr' {x : Int} {r : Nat} {f : Nat → Option (Int × mSt)} (h : x = (r : Int)) (h0 : r ≠ 0) : mRef x f = f r := mRef_e h h0 f
def latIds : List Nat := [182, 191, 200, 209, 218, 227, 236, 245, 124, 131, 156]
theorem lat_lay {σ : mSt} (hL : Lay σ) {o : Nat} (ho : o ∈ latIds) : shp o = (3, 0) ∧ shp (o + 1) = (27, 4) ∧ shp (o + 6) = (21, 4) ∧ σ o 0 = ((o + 1 : Nat) : Int) ∧ σ o 1 = ((o + 6 : Nat) : Int) ∧ ∀ r, r < 4 → shp (o + 2 + r) = (21, 4) ∧ σ (o + 1) r = ((o + 2 + r : Nat) : Int) := by
  have k : ∀ o ∈ latIds, shp o = (3, 0) ∧ shp (o + 1) = (27, 4) ∧ shp (o + 6) = (21, 4) ∧ (fixR o 0 = true ∧ mS0 o 0 = ((o + 1 : Nat) : Int)) ∧ (fixR o 1 = true ∧ mS0 o 1 = ((o + 6 : Nat) : Int)) ∧ ∀ r, r < 4 → shp (o + 2 + r) = (21, 4) ∧ fixR (o + 1) r = true ∧ mS0 (o + 1) r = ((o + 2 + r : Nat) : Int) := by decide +kernel
  obtain ⟨k1, k2, k3, k4, k5, k6⟩ := k o ho
  exact ⟨k1, k2, k3, hL.get _ _ k4.1 k4.2, hL.get _ _ k5.1 k5.2, fun r hr => ⟨(k6 r hr).1, hL.get _ _ (k6 r hr).2.1 (k6 r hr).2.2⟩⟩
theorem ord_lay {σ : mSt} (hL : Lay σ) {k : Nat} (hk : k < 8) : shp (181 + 9 * k) = (5, 0) ∧ shp (189 + 9 * k) = (21, 4) ∧ 182 + 9 * k ∈ latIds ∧ σ 113 k = ((181 + 9 * k : Nat) : Int) ∧ σ (181 + 9 * k) 2 = ((182 + 9 * k : Nat) : Int) ∧ σ (181 + 9 * k) 3 = ((189 + 9 * k : Nat) : Int) := by
  have h : ∀ k, k < 8 → shp (181 + 9 * k) = (5, 0) ∧ shp (189 + 9 * k) = (21, 4) ∧ 182 + 9 * k ∈ latIds ∧ (fixR 113 k = true ∧ mS0 113 k = ((181 + 9 * k : Nat) : Int)) ∧ (fixR (181 + 9 * k) 2 = true ∧ mS0 (181 + 9 * k) 2 = ((182 + 9 * k : Nat) : Int)) ∧ (fixR (181 + 9 * k) 3 = true ∧ mS0 (181 + 9 * k) 3 = ((189 + 9 * k : Nat) : Int)) := by decide +kernel
  obtain ⟨k1, k2, k3, k4, k5, k6⟩ := h k hk
  exact ⟨k1, k2, k3, hL.get _ _ k4.1 k4.2, hL.get _ _ k5.1 k5.2, hL.get _ _ k6.1 k6.2⟩
def rwC (σ : mSt) (o : Nat) : Nat → V4 := fun r => rowV σ (o + 2 + r)
theorem rwC_at (σ : mSt) (o : Nat) {r c : Nat} (hc : c < 4) : σ (o + 2 + r) c = vg c (rwC σ o r) := (vg_rowV σ _ hc).symm
theorem modulus_e {σ : mSt} {o : Nat} (hL : Lay σ) (ho : o ∈ latIds) : mX3_modulus o σ = some (σ o 2, σ) := by
  unfold mX3_modulus
  rw [gc (lat_lay hL ho).1]
theorem numbers_e {σ : mSt} {o r : Nat} (hL : Lay σ) (ho : o ∈ latIds) (hr : r < 4) : mX3_numbersOf o (r : Int) σ = some (((o + 2 + r : Nat) : Int), σ) := by
  obtain ⟨k1, k2, k3, k4, k5, k6⟩ := lat_lay hL ho
  unfold mX3_numbersOf
  simp (disch := omega) only [gc k1, k4, gr, gx k2, gr, bnd_eq, up_ne, upS_same, stV_ne, mCall_some, wI_id, wL_id, cLtF, cLtT, cLeF, cLeT, cEqF, cEqT, ↓reduceIte, Int.toNat_natCast, Int.reduceToNat, (k6 r hr).2]
theorem below_e {σ : mSt} {k : Nat} (hL : Lay σ) (hk : k < 8) : mX6_below (181 + 9 * k) σ = some (σ (182 + 9 * k) 2, σ) := by
  obtain ⟨k1, k2, k3, k4, k5, k6⟩ := ord_lay hL hk
  unfold mX6_below
  simp (disch := omega) only [gc k1, k5, gr, modulus_e hL k3, gr, bnd_eq, up_ne, upS_same, stV_ne, mCall_some, wI_id, wL_id, cLtF, cLtT, cLeF, cLeT, cEqF, cEqT, ↓reduceIte, Int.toNat_natCast, Int.reduceToNat]
theorem numbersOf_e {σ : mSt} {k r : Nat} (hL : Lay σ) (hk : k < 8) (hr : r < 4) : mX6_numbersOf (181 + 9 * k) (r : Int) σ = some (((184 + 9 * k + r : Nat) : Int), σ) := by
  obtain ⟨k1, k2, k3, k4, k5, k6⟩ := ord_lay hL hk
  unfold mX6_numbersOf
  simp (disch := omega) only [gc k1, k5, gr, numbers_e hL k3 hr, gr, bnd_eq, up_ne, upS_same, stV_ne, mCall_some, wI_id, wL_id, cLtF, cLtT, cLeF, cLeT, cEqF, cEqT, ↓reduceIte, Int.toNat_natCast, Int.reduceToNat]
  rw [show 182 + 9 * k + 2 + r = 184 + 9 * k + r by omega]
theorem get_e {τ : mSt} {l : Nat} {r c : Int} (l29 : τ 253 29 = ((269 : Nat) : Int)) (h : l < 10 ∧ 0 ≤ r ∧ r < 4 ∧ 0 ≤ c ∧ c < 4) : mX12_get 253 (l : Int) r c τ = some (τ 269 (16 * l + 4 * r.toNat + c.toNat), τ) := by
  unfold mX12_get
  rw [show 16 * (l : Int) + 4 * r + c = ((16 * l + 4 * r.toNat + c.toNat : Nat) : Int) by omega]
  simp (disch := omega) only [gc253, l29, gr, gx269, wI_nat]
theorem set_e {τ : mSt} {l : Nat} {r c v : Int} (l29 : τ 253 29 = ((269 : Nat) : Int)) (h : l < 10 ∧ 0 ≤ r ∧ r < 4 ∧ 0 ≤ c ∧ c < 4) : mX12_set 253 (l : Int) r c v τ = some (0, upS τ 269 (16 * l + 4 * r.toNat + c.toNat) v) := by
  unfold mX12_set
  rw [show 16 * (l : Int) + 4 * r + c = ((16 * l + 4 * r.toNat + c.toNat : Nat) : Int) by omega]
  simp (disch := omega) only [gc253, l29, gr, gx269, wI_nat, bnd_eq]
theorem rowL_at (τ : mSt) (l : Nat) {r c : Nat} (hr : r < 4) (hc : c < 4) : τ 269 (16 * l + 4 * r + c) = vg c (rowL τ l r) := by
  unfold rowL
  rw [if_neg (by omega)]
  exact lt4 (p := fun c => τ 269 (16 * l + 4 * r + c) = vg c (τ 269 (16 * l + 4 * r), τ 269 (16 * l + 4 * r + 1), τ 269 (16 * l + 4 * r + 2), τ 269 (16 * l + 4 * r + 3))) rfl rfl rfl rfl hc
/-! what may change when an ORDER does -/
def ordW (k i j : Nat) : Prop := scr i j ∨ (i = 181 + 9 * k ∧ j < 2) ∨ (i = 182 + 9 * k ∧ j = 2) ∨ (184 + 9 * k ≤ i ∧ i ≤ 187 + 9 * k) ∨ (i = 269 ∧ 16 * k ≤ j ∧ j < 16 * k + 16) ∨ ((i = 270 ∨ i = 271) ∧ j = k) ∨ (i = 114 ∧ (j = 3 ∨ j = 4))
theorem ordW_fix {k i j : Nat} (hk : k < 8) (h : ordW k i j) : fixR i j = false := by
  rcases h with h | ⟨rfl, h⟩ | ⟨rfl, rfl⟩ | ⟨h1, h2⟩ | ⟨rfl, h⟩ | ⟨h, rfl⟩ | ⟨rfl, h⟩
  · exact h.1
  · have : ∀ k, k < 8 → fixR (181 + 9 * k) 0 = false ∧ fixR (181 + 9 * k) 1 = false := by decide +kernel
    rcases (show j = 0 ∨ j = 1 by omega) with rfl | rfl
    · exact (this k hk).1
    · exact (this k hk).2
  · have : ∀ k, k < 8 → fixR (182 + 9 * k) 2 = false := by decide +kernel
    exact this k hk
  · have : ∀ k, k < 8 → ∀ r, r < 4 → (shp (184 + 9 * k + r)).1 = 21 := by decide +kernel
    have := this k hk (i - (184 + 9 * k)) (by omega)
    rw [show 184 + 9 * k + (i - (184 + 9 * k)) = i by omega] at this
    exact fixR_data (by omega) j
  · exact fixR_data (by decide) j
  · rcases h with rfl | rfl
    · exact fixR_data (by decide) j
    · exact fixR_data (by decide) j
  · rcases h with rfl | rfl <;> decide +kernel
theorem Inv.ord {σ τ : mSt} (h : Inv σ) {k : Nat} (hk : k < 8) (hf : frm (ordW k) σ τ) (hn : iOrd τ k) (ht : (τ 114 3 = 124 ∧ τ 114 4 = 131) ∨ (τ 114 3 = 131 ∧ τ 114 4 = 124)) : Inv τ := by
  obtain ⟨hL, hb0, t, B, n, s, hT, hB, hP, hE, hO⟩ := h
  have o : ∀ i, ¬ sObj i → (i ≠ 253 ∧ i ≠ 114 ∧ i ≠ 269 ∧ i ≠ 270 ∧ i ≠ 271 ∧ i ≠ 181 + 9 * k ∧ i ≠ 182 + 9 * k ∧ ¬ (184 + 9 * k ≤ i ∧ i ≤ 187 + 9 * k)) → τ i = σ i := by
    intro i h1 h2
    funext j
    refine hf i j (fun z => ?_)
    rcases z with z | z
    · exact z.2.elim h1 (fun z => by unfold sSlot at z; omega)
    · omega
  have c : ∀ i j, ¬ sObj i → ¬ sSlot i j → ¬ ((i = 181 + 9 * k ∧ j < 2) ∨ (i = 182 + 9 * k ∧ j = 2) ∨ (184 + 9 * k ≤ i ∧ i ≤ 187 + 9 * k) ∨ (i = 269 ∧ 16 * k ≤ j ∧ j < 16 * k + 16) ∨ ((i = 270 ∨ i = 271) ∧ j = k) ∨ (i = 114 ∧ (j = 3 ∨ j = 4))) → τ i j = σ i j := fun i j h1 h2 h3 => hf i j (fun z => z.elim (fun z => z.2.elim h1 h2) h3)
  have hn8 := hB.2.1
  refine ⟨hL.frm hf (fun i j z => ordW_fix hk z), ⟨(c 253 11 (by unfold sObj; omega) (by unfold sSlot; omega) (by omega)).trans hb0.1, fun j => by rw [o 139 (by unfold sObj; omega) (by omega)]; exact hb0.2 j⟩, t, B, n, s, ?_, iBook_congr hB (by rw [o 0 (by unfold sObj; omega) (by omega)]) (by rw [o 0 (by unfold sObj; omega) (by omega)]) (fun i hi => o i (by unfold sObj; omega) (by omega)), iPlaces_congr hP hn8 (fun i hi => o i (by unfold sObj; omega) (by omega)), ⟨?_, fun j hj hjn => ?_⟩, fun j hj hq => ?_, ht⟩
  · obtain ⟨t1, t2, t3, t4⟩ := hT
    exact ⟨t1, by rw [o 0 (by unfold sObj; omega) (by omega)]; exact t2, (c 253 2 (by unfold sObj; omega) (by unfold sSlot; omega) (by omega)).trans t3, by rw [o 1 (by unfold sObj; omega) (by omega), o 254 (by unfold sObj; omega) (by omega)]; exact t4⟩
  · rw [c 253 21 (by unfold sObj; omega) (by unfold sSlot; omega) (by omega), hE.1]
    exact (bits_congr (fun j hj => by rw [o (165 + 2 * j) (by unfold sObj; omega) (by omega)]) 8 (by omega)).symm
  · have ow := o (165 + 2 * j) (by unfold sObj; omega) (by omega)
    rw [ow] at hjn
    have := hE.2 j hj hjn
    unfold iEl at this ⊢
    rw [ow, o 262 (by unfold sObj; omega) (by omega), o 263 (by unfold sObj; omega) (by omega), o 257 (by unfold sObj; omega) (by omega), o (166 + 2 * j) (by unfold sObj; omega) (by omega)]
    exact this
  · by_cases hjk : j = k
    · subst hjk
      exact hn
    · rw [o 257 (by unfold sObj; omega) (by omega)] at hq
      have := hO.1 j hj hq
      obtain ⟨g1, g2, g3, g4, g5, g6⟩ := this
      have rl : rowL τ j = rowL σ j := by
        funext r
        unfold rowL
        by_cases hr : 4 ≤ r
        · rw [if_pos hr, if_pos hr]
        · rw [if_neg hr, if_neg hr, c 269 (16 * j + 4 * r) (by unfold sObj; omega) (by unfold sSlot; omega) (by omega), c 269 (16 * j + 4 * r + 1) (by unfold sObj; omega) (by unfold sSlot; omega) (by omega), c 269 (16 * j + 4 * r + 2) (by unfold sObj; omega) (by unfold sSlot; omega) (by omega), c 269 (16 * j + 4 * r + 3) (by unfold sObj; omega) (by unfold sSlot; omega) (by omega)]
      unfold iOrd
      rw [rl, o (181 + 9 * j) (by unfold sObj; omega) (by omega), o (182 + 9 * j) (by unfold sObj; omega) (by omega), o 258 (by unfold sObj; omega) (by omega), o 259 (by unfold sObj; omega) (by omega), c 270 j (by unfold sObj; omega) (by unfold sSlot; omega) (by omega), c 271 j (by unfold sObj; omega) (by unfold sSlot; omega) (by omega)]
      refine ⟨g1, g2, g3, g4, fun r hr => ?_, g6⟩
      rw [← g5 r hr]
      unfold rowV
      rw [o (184 + 9 * j + r) (by unfold sObj; omega) (by omega)]

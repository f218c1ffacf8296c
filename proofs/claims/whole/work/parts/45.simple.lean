/-! what is told, kept, a slot -/
def i32 (v : Int) : Prop := -2147483648 ≤ v ∧ v < 2147483648
theorem told_c {σ : mSt} {B n : Nat} (h : iBook σ B n) {k : Int} (hk : i32 k) : mX11_isTold 0 k σ = some (b2 (0 ≤ k ∧ k < (n : Int)), σ) := by
  obtain ⟨q1, q2, q3, q4, q5, q6, q7⟩ := h
  unfold mX11_isTold mX11_isTold_B19
  rw [wI_id hk, mG_pos (by decide)]
  by_cases h1 : k < 0
  · rw [if_pos h1, b2_f (by omega)]
  · rw [if_neg h1]
    refine mR_eq (mR_ref q3 (by omega) ?_)
    unfold mX0_size
    refine mR_callE (mG_pos (by rcases q1 with rfl | rfl <;> decide) _) ?_
    refine mR_if (fun c => ?_) (fun c => ?_)
    · rw [q5, wI_id (by omega)] at c
      exact mR_ret ⟨(b2_f (by omega)).symm, rfl⟩
    · rw [q5, wI_id (by omega)] at c
      exact mR_ret ⟨(b2_t (by omega)).symm, rfl⟩
theorem told_r {σ : mSt} {B n : Nat} (hL : Lay σ) (h : iBook σ B n) {k : Int} (hk : i32 k) : mX12_isAlgebra 253 k σ = some (b2 (0 ≤ k ∧ k < (n : Int)), σ) := by
  obtain ⟨q1, q2, q3, q4, q5, q6, q7⟩ := h
  unfold mX12_isAlgebra
  refine mR_eq (mR_G (by decide) (mR_ref (r := 255) (hL.get 253 12 (by decide +kernel) (by decide +kernel)) (by omega) (mR_G (ixOK_of (n := 2) (by decide) (by omega) (by omega) (by omega)) ?_)))
  rw [q6, wI_id hk, wI_id (by omega)]
  refine mR_callE (within_e k 0 _ σ (by unfold i32 at hk; omega) (by omega) (by omega)) (mR_G (b2_01 _) (mR_ret ⟨b2_iff (by omega), rfl⟩))
theorem quat_c {σ : mSt} {B n : Nat} (hL : Lay σ) (h : iBook σ B n) {k : Int} (hk : i32 k) : mX11_isQuaternion 0 k σ = some (b2 (0 ≤ k ∧ k < (n : Int) ∧ σ 257 k.toNat = 0), σ) := by
  have hb := told_c h hk
  obtain ⟨q1, q2, q3, q4, q5, q6, q7⟩ := h
  unfold mX11_isQuaternion mX11_isQuaternion_B23
  refine mR_eq (mR_G (by decide) (mR_callE hb (mR_if (fun c => ?_) (fun c => ?_))))
  · rw [wI_b2, b2_z] at c
    exact mR_ret ⟨(b2_f (by omega)).symm, rfl⟩
  · rw [wI_b2, b2_z] at c
    have hkn : 0 ≤ k ∧ k < (n : Int) := by
      rcases Int.lt_or_le k 0 with h | h
      · exact absurd (fun z => by omega) c
      · rcases Int.lt_or_le k n with h2 | h2
        · exact ⟨h, h2⟩
        · exact absurd (fun z => by omega) c
    refine mR_ref q3 (by omega) ?_
    have hA := q7 k.toNat (by omega)
    have e : (wI k).toNat = k.toNat := by rw [wI_id hk]
    unfold mX0_kind
    have hr : σ B 1 = ((B + 1 : Nat) : Int) := by rcases q1 with rfl | rfl <;> exact hL.get _ _ (by decide +kernel) (by decide +kernel)
    refine mR_callE (b := σ 257 k.toNat) (s := σ) (mR_eq (mR_G (by rcases q1 with rfl | rfl <;> decide) (mR_ref hr (by omega) (mR_G (ixOK_of (n := 8) (by rcases q1 with rfl | rfl <;> decide) hkn.1 (by omega) (by omega)) (mR_ret ⟨?_, rfl⟩))))) ?_
    · rw [e, hA.1, Nat.zero_add]
    · have hw : wI (σ 257 k.toNat) = σ 257 k.toNat := wI_id (by have := hA.2.2.2.2; rw [Nat.zero_add] at this; omega)
      rw [hw]
      refine mR_if (fun c => ?_) (fun c => ?_)
      · exact mR_ret ⟨(b2_t ⟨hkn.1, hkn.2, c⟩).symm, rfl⟩
      · exact mR_ret ⟨(b2_f (fun z => c z.2.2)).symm, rfl⟩
theorem quat_r {σ : mSt} {B n : Nat} (hL : Lay σ) (h : iBook σ B n) {k : Int} (hk : i32 k) : mX12_isQuaternion 253 k σ = some (b2 (0 ≤ k ∧ k < (n : Int) ∧ σ 257 k.toNat = 0), σ) := by
  have hb := told_r hL h hk
  obtain ⟨q1, q2, q3, q4, q5, q6, q7⟩ := h
  unfold mX12_isQuaternion mX12_isQuaternion_B21
  refine mR_eq (mR_G (by decide) (mR_callE hb (mR_if (fun c => ?_) (fun c => ?_))))
  · rw [wI_b2, b2_z] at c
    exact mR_ret ⟨(b2_f (by omega)).symm, rfl⟩
  · rw [wI_b2, b2_z] at c
    have hkn : 0 ≤ k ∧ k < (n : Int) := by
      rcases Int.lt_or_le k 0 with h | h
      · exact absurd (fun z => by omega) c
      · rcases Int.lt_or_le k n with h2 | h2
        · exact ⟨h, h2⟩
        · exact absurd (fun z => by omega) c
    have hA := q7 k.toNat (by omega)
    have e : (wI k).toNat = k.toNat := by rw [wI_id hk]
    refine mR_ref (r := 257) (hL.get 253 14 (by decide +kernel) (by decide +kernel)) (by omega) (mR_G (ixOK_of (n := 16) (by decide) hkn.1 (by omega) (by omega)) ?_)
    have hw : wI (σ 257 k.toNat) = σ 257 k.toNat := wI_id (by have := hA.2.2.2.2; rw [Nat.zero_add] at this; omega)
    rw [e, hw]
    refine mR_if (fun c => ?_) (fun c => ?_)
    · exact mR_ret ⟨(b2_t ⟨hkn.1, hkn.2, c⟩).symm, rfl⟩
    · exact mR_ret ⟨(b2_f (fun z => c z.2.2)).symm, rfl⟩
theorem slot_c {σ : mSt} {k : Int} (hk : i32 k) : mX11_isSlot 0 k σ = some (b2 (0 ≤ k ∧ k < 8), σ) := by
  unfold mX11_isSlot
  rw [wI_id hk, mG_pos (by decide)]
  by_cases h1 : k < 0
  · rw [if_pos h1, b2_f (by omega)]
  · rw [if_neg h1]
    by_cases h2 : 8 ≤ k
    · rw [if_pos h2, b2_f (by omega)]
    · rw [if_neg h2, b2_t (by omega)]
theorem el_lay {σ : mSt} (hL : Lay σ) (k : Nat) (hk : k < 8) : σ 112 k = ((165 + 2 * k : Nat) : Int) ∧ σ (165 + 2 * k) 0 = ((166 + 2 * k : Nat) : Int) ∧ shp (165 + 2 * k) = (1, 0) ∧ shp (166 + 2 * k) = (21, 4) := by
  have h : ∀ k, k < 8 → fixR 112 k = true ∧ mS0 112 k = ((165 + 2 * k : Nat) : Int) ∧ fixR (165 + 2 * k) 0 = true ∧ mS0 (165 + 2 * k) 0 = ((166 + 2 * k : Nat) : Int) ∧ shp (165 + 2 * k) = (1, 0) ∧ shp (166 + 2 * k) = (21, 4) := by decide +kernel
  obtain ⟨h1, h2, h3, h4, h5, h6⟩ := h k hk
  exact ⟨hL.get _ _ h1 h2, hL.get _ _ h3 h4, h5, h6⟩
theorem there_e {σ : mSt} {e : Nat} (he : shp e = (1, 0)) (hr : i32 (σ e 2)) : mX1_isThere e σ = some (b2 (σ e 2 ≠ -1), σ) := by
  unfold mX1_isThere
  rw [mG_pos (isC_of he), wI_id hr]
  by_cases h : σ e 2 = -1
  · rw [if_pos h, b2_f (by omega)]
  · rw [if_neg h, b2_t h]
def own32 (σ : mSt) : Prop := ∀ k, k < 8 → i32 (σ (165 + 2 * k) 2)
theorem iEls.own {σ : mSt} {n : Nat} (h : iEls σ n) (hn : n ≤ 8) : own32 σ := by
  intro k hk
  by_cases e : σ (165 + 2 * k) 2 = -1
  · rw [e]; unfold i32; omega
  · have := h.2 k hk e
    rw [this.1]; unfold i32; have h1 := this.2.1; have h2 := this.2.2.1; omega
theorem kept_c {σ : mSt} (hL : Lay σ) (hO : own32 σ) {k : Int} (hk : i32 k) : mX11_isKept 0 k σ = some (b2 (0 ≤ k ∧ k < 8 ∧ σ (165 + 2 * k.toNat) 2 ≠ -1), σ) := by
  unfold mX11_isKept mX11_isKept_B24
  refine mR_eq (mR_G (by decide) (mR_callE (slot_c hk) (mR_if (fun c => ?_) (fun c => ?_))))
  · rw [wI_b2, b2_z] at c
    exact mR_ret ⟨(b2_f (by omega)).symm, rfl⟩
  · rw [wI_b2, b2_z] at c
    have hkn : 0 ≤ k ∧ k < 8 := by
      rcases Int.lt_or_le k 0 with h | h
      · exact absurd (fun z => by omega) c
      · rcases Int.lt_or_le k 8 with h2 | h2
        · exact ⟨h, h2⟩
        · exact absurd (fun z => by omega) c
    obtain ⟨l1, l2, l3, l4⟩ := el_lay hL k.toNat (by omega)
    have e : (wI k).toNat = k.toNat := by rw [wI_id hk]
    refine mR_ref (r := 112) (hL.get 0 6 (by decide +kernel) (by decide +kernel)) (by omega) (mR_G (ixOK_of (n := 8) (by decide) hkn.1 (by omega) (by omega)) ?_)
    rw [e]
    refine mR_ref l1 (by omega) (mR_callE (there_e l3 (hO _ (by omega))) (mR_if (fun c => ?_) (fun c => ?_)))
    · rw [wI_b2, b2_z] at c
      exact mR_ret ⟨(b2_f (fun z => c z.2.2)).symm, rfl⟩
    · rw [wI_b2, b2_z] at c
      exact mR_ret ⟨(b2_t ⟨hkn.1, hkn.2, Classical.not_not.mp c⟩).symm, rfl⟩
theorem bit_get : ∀ x : Fin 256, ∀ k : Fin 8, wI (oAnd (oShr (x.val : Int) (k.val : Int)) 1) = ((x.val / 2 ^ k.val % 2 : Nat) : Int) := by decide +kernel
theorem bit_or : ∀ x : Fin 256, ∀ k : Fin 8, oOr (x.val : Int) (oShl 1 (k.val : Int)) = (if x.val / 2 ^ k.val % 2 = 1 then (x.val : Int) else (x.val : Int) + 2 ^ k.val) := by decide +kernel
theorem bit_or0 : ∀ x : Fin 256, oOr (x.val : Int) 0 = (x.val : Int) := by decide +kernel
theorem bits_rng (σ : mSt) : ∃ x : Nat, x < 256 ∧ bits σ 8 = (x : Int) ∧ ∀ k, k < 8 → (x / 2 ^ k % 2 = 1 ↔ σ (165 + 2 * k) 2 ≠ -1) := by
  have h : ∀ k : Nat, ∃ c : Nat, c ≤ 1 ∧ (if σ (165 + 2 * k) 2 = -1 then (0 : Int) else 2 ^ k) = (c : Int) * 2 ^ k ∧ (c = 1 ↔ σ (165 + 2 * k) 2 ≠ -1) := by
    intro k
    by_cases e : σ (165 + 2 * k) 2 = -1
    · exact ⟨0, by omega, by rw [if_pos e]; simp, by simp [e]⟩
    · exact ⟨1, by omega, by rw [if_neg e]; simp, by simp [e]⟩
  obtain ⟨c0, a0, b0, d0⟩ := h 0
  obtain ⟨c1, a1, b1, d1⟩ := h 1
  obtain ⟨c2, a2, b2, d2⟩ := h 2
  obtain ⟨c3, a3, b3, d3⟩ := h 3
  obtain ⟨c4, a4, b4, d4⟩ := h 4
  obtain ⟨c5, a5, b5, d5⟩ := h 5
  obtain ⟨c6, a6, b6, d6⟩ := h 6
  obtain ⟨c7, a7, b7, d7⟩ := h 7
  refine ⟨c0 + 2 * c1 + 4 * c2 + 8 * c3 + 16 * c4 + 32 * c5 + 64 * c6 + 128 * c7, by omega, ?_, ?_⟩
  · show 0 + _ + _ + _ + _ + _ + _ + _ + _ = _
    rw [b0, b1, b2, b3, b4, b5, b6, b7]
    omega
  · intro k hk
    rcases (show k = 0 ∨ k = 1 ∨ k = 2 ∨ k = 3 ∨ k = 4 ∨ k = 5 ∨ k = 6 ∨ k = 7 by omega) with rfl | rfl | rfl | rfl | rfl | rfl | rfl | rfl
    · rw [← d0]; omega
    · rw [← d1]; omega
    · rw [← d2]; omega
    · rw [← d3]; omega
    · rw [← d4]; omega
    · rw [← d5]; omega
    · rw [← d6]; omega
    · rw [← d7]; omega
theorem kept_r {σ : mSt} {n : Nat} (hE : iEls σ n) {k : Int} (hk : i32 k) : mX12_isKept 253 k σ = some (b2 (0 ≤ k ∧ k < 8 ∧ σ (165 + 2 * k.toNat) 2 ≠ -1), σ) := by
  obtain ⟨x, x1, x2, x3⟩ := bits_rng σ
  unfold mX12_isKept mX12_isKept_B28
  refine mR_eq (mR_G (by decide) ?_)
  rw [wI_id hk]
  refine mR_callE (within_e k 0 7 σ (by unfold i32 at hk; omega) (by omega) (by omega)) (mR_if (fun c => ?_) (fun c => ?_))
  · rw [wI_b2, b2_z] at c
    exact mR_ret ⟨(b2_f (by omega)).symm, rfl⟩
  · rw [wI_b2, b2_z] at c
    have hkn : 0 ≤ k ∧ k < 8 := by
      rcases Int.lt_or_le k 0 with h | h
      · exact absurd (fun z => by omega) c
      · rcases Int.lt_or_le k 8 with h2 | h2
        · exact ⟨h, h2⟩
        · exact absurd (fun z => by omega) c
    have e := bit_get ⟨x, x1⟩ ⟨k.toNat, by omega⟩
    rw [show ((⟨k.toNat, by omega⟩ : Fin 8).val : Int) = k by show ((k.toNat : Nat) : Int) = k; omega] at e
    have e3 := x3 k.toNat (by omega)
    rw [hE.1, x2]
    refine mR_if (fun c => ?_) (fun c => ?_)
    · rw [e] at c
      exact mR_ret ⟨(b2_t ⟨hkn.1, hkn.2, e3.mp (by simp only at c; omega)⟩).symm, rfl⟩
    · rw [e] at c
      exact mR_ret ⟨(b2_f (fun z => c (by have := e3.mpr z.2.2; simp only; omega))).symm, rfl⟩

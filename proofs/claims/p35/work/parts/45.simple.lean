/-! the class side of simple -/
def i32 (v : Int) : Prop := -2147483648 ≤ v ∧ v < 2147483648
theorem told_c {σ : mSt} {B n : Nat} (h : iBook σ B n) {k : Int} (hk : i32 k) : mX11_isTold 0 k σ = some (b2 (0 ≤ k ∧ k < (n : Int)), σ) := by
  obtain ⟨q1, q2, q3, q4, q5, q6, q7⟩ := h
  unfold mX11_isTold mX11_isTold_B19
  rw [wI_id hk, mG_pos (by decide)]
  by_cases h1 : k < 0
  · rw [if_pos h1, b2_f (by omega)]
  · rw [if_neg h1]
    refine mR_eq (mR_ref q3 (by omega) ?_)
    unfold mX0_size
    refine mR_callE (mG_pos (by rcases q1 with rfl | rfl <;> decide) _) ?_
    refine mR_if (fun c => ?_) (fun c => ?_)
    · rw [q5, wI_id (by omega)] at c
      exact mR_ret ⟨(b2_f (by omega)).symm, rfl⟩
    · rw [q5, wI_id (by omega)] at c
      exact mR_ret ⟨(b2_t (by omega)).symm, rfl⟩
theorem quat_c {σ : mSt} {B n : Nat} (hL : Lay σ) (h : iBook σ B n) {k : Int} (hk : i32 k) : mX11_isQuaternion 0 k σ = some (b2 (0 ≤ k ∧ k < (n : Int) ∧ σ 257 k.toNat = 0), σ) := by
  have hb := told_c h hk
  obtain ⟨q1, q2, q3, q4, q5, q6, q7⟩ := h
  unfold mX11_isQuaternion mX11_isQuaternion_B23
  refine mR_eq (mR_G (by decide) (mR_callE hb (mR_if (fun c => ?_) (fun c => ?_))))
  · rw [wI_b2, b2_z] at c
    exact mR_ret ⟨(b2_f (by omega)).symm, rfl⟩
  · rw [wI_b2, b2_z] at c
    have hkn : 0 ≤ k ∧ k < (n : Int) := by
      rcases Int.lt_or_le k 0 with h | h
      · exact absurd (fun z => by omega) c
      · rcases Int.lt_or_le k n with h2 | h2
        · exact ⟨h, h2⟩
        · exact absurd (fun z => by omega) c
    refine mR_ref q3 (by omega) ?_
    have hA := q7 k.toNat (by omega)
    have e : (wI k).toNat = k.toNat := by rw [wI_id hk]
    unfold mX0_kind
    have hr : σ B 1 = ((B + 1 : Nat) : Int) := by rcases q1 with rfl | rfl <;> exact hL.get _ _ (by decide +kernel) (by decide +kernel)
    refine mR_callE (b := σ 257 k.toNat) (s := σ) (mR_eq (mR_G (by rcases q1 with rfl | rfl <;> decide) (mR_ref hr (by omega) (mR_G (ixOK_of (n := 8) (by rcases q1 with rfl | rfl <;> decide) hkn.1 (by omega) (by omega)) (mR_ret ⟨?_, rfl⟩))))) ?_
    · rw [e, hA.1, Nat.zero_add]
    · have hw : wI (σ 257 k.toNat) = σ 257 k.toNat := wI_id (by have := hA.2.2.2.2; rw [Nat.zero_add] at this; omega)
      rw [hw]
      refine mR_if (fun c => ?_) (fun c => ?_)
      · exact mR_ret ⟨(b2_t ⟨hkn.1, hkn.2, c⟩).symm, rfl⟩
      · exact mR_ret ⟨(b2_f (fun z => c z.2.2)).symm, rfl⟩
theorem el_lay {σ : mSt} (hL : Lay σ) (k : Nat) (hk : k < 8) : σ 112 k = ((165 + 2 * k : Nat) : Int) ∧ σ (165 + 2 * k) 0 = ((166 + 2 * k : Nat) : Int) ∧ shp (165 + 2 * k) = (1, 0) ∧ shp (166 + 2 * k) = (21, 4) := by
  have h : ∀ k, k < 8 → fixR 112 k = true ∧ mS0 112 k = ((165 + 2 * k : Nat) : Int) ∧ fixR (165 + 2 * k) 0 = true ∧ mS0 (165 + 2 * k) 0 = ((166 + 2 * k : Nat) : Int) ∧ shp (165 + 2 * k) = (1, 0) ∧ shp (166 + 2 * k) = (21, 4) := by decide +kernel
  obtain ⟨h1, h2, h3, h4, h5, h6⟩ := h k hk
  exact ⟨hL.get _ _ h1 h2, hL.get _ _ h3 h4, h5, h6⟩

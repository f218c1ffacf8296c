/-! the reference's rows, read where the class has gone ahead -/
theorem kept_r2 {σ τ : mSt} (hE : τ 253 21 = bits σ 8) {k : Int} (hk : i32 k) : mX12_isKept 253 k τ = some (b2 (0 ≤ k ∧ k < 8 ∧ σ (165 + 2 * k.toNat) 2 ≠ -1), τ) := by
  obtain ⟨x, x1, x2, x3⟩ := bits_rng σ
  unfold mX12_isKept mX12_isKept_B28
  refine mR_eq (mR_G (by decide) ?_)
  rw [wI_id hk]
  refine mR_callE (within_e k 0 7 τ (by unfold i32 at hk; omega) (by omega) (by omega)) (mR_if (fun c => ?_) (fun c => ?_))
  · have := b2n c
    exact mR_ret ⟨(b2_f (by omega)).symm, rfl⟩
  · have hkn := b2p c
    have e := bit_get ⟨x, x1⟩ ⟨k.toNat, by omega⟩
    rw [show ((⟨k.toNat, by omega⟩ : Fin 8).val : Int) = k by show ((k.toNat : Nat) : Int) = k; omega] at e
    have e3 := x3 k.toNat (by omega)
    rw [hE, x2]
    refine mR_if (fun c => ?_) (fun c => ?_)
    · rw [e] at c
      exact mR_ret ⟨(b2_t ⟨hkn.1, by omega, e3.mp (by simp only at c; omega)⟩).symm, rfl⟩
    · rw [e] at c
      exact mR_ret ⟨(b2_f (fun z => c (by have := e3.mpr z.2.2; simp only; omega))).symm, rfl⟩
theorem part_r {τ : mSt} (l : τ 253 23 = 263) {k i : Nat} (hk : k < 8) (hi : i < 5) : mX12_part 253 (k : Int) (i : Int) τ = some (τ 263 (5 * k + i), τ) := by
  unfold mX12_part
  refine mR_eq (mR_G (by decide) (mR_ref (r := 263) l (by omega) ?_))
  rw [show (5 : Int) * (k : Int) + (i : Int) = ((5 * k + i : Nat) : Int) by omega]
  exact mR_G (ixOK_of (n := 40) (by decide) (by omega) (by omega) (by omega)) (mR_ret ⟨by rw [wI_nat (by omega)], rfl⟩)
theorem beside_r {σ τ : mSt} (hE : τ 253 21 = bits σ 8) (l : τ 253 22 = 262) (ho : ∀ j : Nat, j < 8 → σ (165 + 2 * j) 2 ≠ -1 → i32 (τ 262 j)) {k o t : Int} (hk : i32 k) (hko : i32 o) (ht : i32 t) : mX12_areBeside 253 k o t τ = some (b2 ((0 ≤ k ∧ k < 8 ∧ σ (165 + 2 * k.toNat) 2 ≠ -1) ∧ (0 ≤ o ∧ o < 8 ∧ σ (165 + 2 * o.toNat) 2 ≠ -1) ∧ τ 262 k.toNat = τ 262 o.toNat ∧ 0 ≤ t ∧ t < 8), τ) := by
  unfold mX12_areBeside mX12_areBeside_B47
  refine mR_eq (mR_G (by decide) (mR_callE (kept_r2 hE hk) (mR_if (fun c => ?_) (fun c => ?_))))
  · have := b2n c
    exact mR_ret ⟨(b2_f (fun z => this z.1)).symm, rfl⟩
  have c1 := b2p c
  refine mR_callE (kept_r2 hE hko) (mR_if (fun c => ?_) (fun c => ?_))
  · have := b2n c
    exact mR_ret ⟨(b2_f (fun z => this z.2.1)).symm, rfl⟩
  have c2 := b2p c
  refine mR_ref (r := 262) l (by omega) (mR_G (ixOK_of (n := 8) (by decide) (by omega) (by omega) (by omega)) (mR_ref (r := 262) l (by omega) (mR_G (ixOK_of (n := 8) (by decide) (by omega) (by omega) (by omega)) ?_)))
  rw [wI_id hk, wI_id hko, wI_id ht, wI_id (ho k.toNat (by omega) c1.2.2), wI_id (ho o.toNat (by omega) c2.2.2)]
  refine mR_if (fun c => ?_) (fun c => ?_)
  · refine mR_callE (within_e t 0 7 τ (by unfold i32 at ht; omega) (by omega) (by omega)) (mR_if (fun c3 => ?_) (fun c3 => ?_))
    · have := b2n c3
      exact mR_ret ⟨(b2_f (fun z => this (by omega))).symm, rfl⟩
    · have := b2p c3
      exact mR_ret ⟨(b2_t ⟨c1, c2, c, by omega⟩).symm, rfl⟩
  · exact mR_ret ⟨(b2_f (fun z => c z.2.2.1)).symm, rfl⟩

/-! the class side of plain -/
theorem quat_t {σ : mSt} {B n k : Nat} (hL : Lay σ) (hB : iBook σ B n) (hk : k < n) (h : σ 257 k = 0) : mX11_isQuaternion 0 (k : Int) σ = some (1, σ) := by
  have := hB.2.1
  rw [quat_c hL hB (by unfold i32; omega), b2_t ⟨by omega, by omega, by rw [Int.toNat_natCast]; exact h⟩]
theorem quat_nat {σ : mSt} {n : Nat} {a : Int} (h : 0 ≤ a ∧ a < (n : Int) ∧ σ 257 a.toNat = 0) : ∃ k : Nat, a = (k : Int) ∧ k < n ∧ σ 257 k = 0 := ⟨a.toNat, by omega, by omega, h.2.2⟩
theorem ordBegin_e {σ : mSt} {k : Nat} {a b : Int} (hL : Lay σ) (hk : k < 8) : mX6_begin (181 + 9 * k) a b σ = some (0, stQ (upS (upS (upS σ (181 + 9 * k) 0 a) (181 + 9 * k) 1 b) (182 + 9 * k) 2 1) (182 + 9 * k) (idR 1) 16) := by
  obtain ⟨k1, k2, k3, k4, k5, k6⟩ := ord_lay hL hk
  have hL2 : Lay (upS (upS σ (181 + 9 * k) 0 a) (181 + 9 * k) 1 b) := (hL.up (ordW_fix hk (Or.inr (Or.inl ⟨rfl, by omega⟩)))).up (ordW_fix hk (Or.inr (Or.inl ⟨rfl, by omega⟩)))
  unfold mX6_begin
  simp (disch := omega) only [gc k1, gr, bnd_eq, up_ne, upS_same, stV_ne, mCall_some, wI_id, wL_id, cLtF, cLtT, cLeF, cLeT, cEqF, cEqT, ↓reduceIte, Int.toNat_natCast, Int.reduceToNat, k5, begin_e hL2 k3]

theorem el_facts {σ : mSt} {n k : Nat} (hE : iEls σ n) (hn : n ≤ 8) (hk : k < 8) (h : σ (165 + 2 * k) 2 ≠ -1) : ∃ al : Nat, al < n ∧ σ (165 + 2 * k) 2 = (al : Int) ∧ σ 262 k = (al : Int) ∧ σ 257 al = 0 ∧ (∀ i, i < 4 → σ (166 + 2 * k) i = σ 263 (5 * k + i) ∧ -1000000 ≤ σ 263 (5 * k + i) ∧ σ 263 (5 * k + i) ≤ 1000000) ∧ σ (165 + 2 * k) 1 = σ 263 (5 * k + 4) ∧ 1 ≤ σ 263 (5 * k + 4) ∧ σ 263 (5 * k + 4) ≤ 1000000 := by
  obtain ⟨g1, g2, g3, g4, g5, g6, g7, g8⟩ := hE.2 k hk h
  exact ⟨(σ 262 k).toNat, by omega, by omega, by omega, g4, g5, g6, g7, g8⟩
theorem ovL32 {σ : mSt} {a b : Int} {e num : Nat} {x : mSt → Option (Int × mSt)} {m i : Nat} {Q : Int → mSt → Prop} (hi : i < 4) (l0 : σ 0 11 = 164) (he : shp e = (1, 0)) (l1 : σ e 0 = (num : Int)) (hn : shp num = (21, 4)) (hn0 : num ≠ 0) (h : mR (mX11_over_L32 0 a b e x m ((i + 1 : Nat) : Int) (upS σ 164 i (σ num i))) Q) : mR (mX11_over_L32 0 a b e x (m + 1) (i : Int) σ) Q := by
  rw [mX11_over_L32.eq_2]
  refine mR_neg (by rw [wI_id (by omega)]; omega) (mR_ref (r := 164) l0 (by omega) (mR_G (isC_of he) (mR_ref l1 hn0 (mR_G (ixOK_of hn (by omega) (by omega) (by omega)) (mR_G (ixOK_of (n := 4) (by decide) (by omega) (by omega) (by omega)) (mR_bnd (mR_bnd ?_)))))))
  rw [wI_nat (by omega)]
  exact h
theorem ldL3 {τ : mSt} {k : Nat} {by1 : Int} {x : mSt → Option (Int × mSt)} {m i : Nat} {Q : Int → mSt → Prop} (hi : i < 5) (hk : k < 8) (l0 : τ 253 24 = 264) (l1 : τ 253 23 = 263) (h : mR (mX12_loads_L3 253 (k : Int) by1 x m ((i + 1 : Nat) : Int) (upS τ 264 i (if 4 ≤ i then τ 263 (5 * k + 4) else τ 263 (5 * k + i) * by1))) Q) : mR (mX12_loads_L3 253 (k : Int) by1 x (m + 1) (i : Int) τ) Q := by
  rw [mX12_loads_L3.eq_2]
  refine mR_neg (by rw [wI_id (by omega)]; omega) (mR_ref (r := 264) l0 (by omega) (mR_if (fun c => ?_) (fun c => ?_)))
  · rw [wI_id (by omega)] at c
    rw [if_pos (by omega)] at h
    refine mR_callE (part_r (i := 4) l1 hk (by omega)) (mR_G (ixOK_of (n := 5) (by decide) (by omega) (by omega) (by omega)) (mR_bnd (mR_bnd ?_)))
    rw [wI_nat (by omega)]
    exact h
  · rw [wI_id (by omega)] at c
    rw [if_neg (by omega)] at h
    refine mR_callE (part_r l1 hk hi) (mR_G (ixOK_of (n := 5) (by decide) (by omega) (by omega) (by omega)) (mR_bnd (mR_bnd ?_)))
    rw [wI_nat (by omega)]
    exact h
/-- five numbers of an array -/
def st5 (σ : mSt) (r : Nat) (a b c d e : Int) : mSt := upS (st4 σ r a b c d) r 4 e
theorem st5_at {σ : mSt} {r i j : Nat} {a b c d e : Int} (h : i ≠ r) : st5 σ r a b c d e i j = σ i j := by
  unfold st5
  rw [upS_ne (by omega), st4_at h]
theorem st5_0 {σ : mSt} {r : Nat} {a b c d e : Int} : st5 σ r a b c d e r 0 = a ∧ st5 σ r a b c d e r 1 = b ∧ st5 σ r a b c d e r 2 = c ∧ st5 σ r a b c d e r 3 = d ∧ st5 σ r a b c d e r 4 = e := by
  unfold st5 st4
  refine ⟨?_, ?_, ?_, ?_, ?_⟩ <;> simp [upS]
theorem loads_e {τ : mSt} {k : Nat} {by1 : Int} (hk : k < 8) (l0 : τ 253 24 = 264) (l1 : τ 253 23 = 263) : mX12_loads 253 (k : Int) by1 τ = some (0, st5 τ 264 (τ 263 (5 * k + 0) * by1) (τ 263 (5 * k + 1) * by1) (τ 263 (5 * k + 2) * by1) (τ 263 (5 * k + 3) * by1) (τ 263 (5 * k + 4))) := by
  unfold mX12_loads
  refine mR_eq (mR_G (by decide) ?_)
  rw [show mF = 999999999994 + 1 + 1 + 1 + 1 + 1 + 1 from rfl]
  have p : ∀ (a b : Nat) (v : Int) (ρ : mSt) (i j : Nat), i ≠ 264 → upS ρ 264 b v i j = ρ i j := fun a b v ρ i j h => upS_ne (by omega)
  refine ldL3 (i := 0) (by omega) hk l0 l1 ?_
  refine ldL3 (i := 1) (by omega) hk (by rw [upS_ne (by omega)]; exact l0) (by rw [upS_ne (by omega)]; exact l1) ?_
  refine ldL3 (i := 2) (by omega) hk (by rw [upS_ne (by omega), upS_ne (by omega)]; exact l0) (by rw [upS_ne (by omega), upS_ne (by omega)]; exact l1) ?_
  refine ldL3 (i := 3) (by omega) hk (by rw [upS_ne (by omega), upS_ne (by omega), upS_ne (by omega)]; exact l0) (by rw [upS_ne (by omega), upS_ne (by omega), upS_ne (by omega)]; exact l1) ?_
  refine ldL3 (i := 4) (by omega) hk (by rw [upS_ne (by omega), upS_ne (by omega), upS_ne (by omega), upS_ne (by omega)]; exact l0) (by rw [upS_ne (by omega), upS_ne (by omega), upS_ne (by omega), upS_ne (by omega)]; exact l1) ?_
  rw [mX12_loads_L3.eq_2]
  refine mR_pos (by decide) (mR_ret ⟨rfl, ?_⟩)
  simp only [upS_row (show (263 : Nat) ≠ 264 by decide)]
  rfl

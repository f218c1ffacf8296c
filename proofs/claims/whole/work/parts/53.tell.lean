theorem scr164 {σ : mSt} {j : Nat} {v : Int} : scr 164 j := ⟨fixR_data (by decide) j, Or.inl (by unfold sObj; omega)⟩
theorem scr264 {j : Nat} : scr 264 j := ⟨fixR_data (by decide) j, Or.inl (by unfold sObj; omega)⟩
/-- four numbers of an array -/
def st4 (σ : mSt) (r : Nat) (a b c d : Int) : mSt := upS (upS (upS (upS σ r 0 a) r 1 b) r 2 c) r 3 d
theorem st4_at {σ : mSt} {r i j : Nat} {a b c d : Int} (h : i ≠ r) : st4 σ r a b c d i j = σ i j := by
  unfold st4
  rw [upS_ne (by omega), upS_ne (by omega), upS_ne (by omega), upS_ne (by omega)]
theorem st4_0 {σ : mSt} {r : Nat} {a b c d : Int} : st4 σ r a b c d r 0 = a ∧ st4 σ r a b c d r 1 = b ∧ st4 σ r a b c d r 2 = c ∧ st4 σ r a b c d r 3 = d := by
  unfold st4
  refine ⟨?_, ?_, ?_, ?_⟩ <;> simp [upS]
theorem i62_of32 {a : Int} (h : i32 a) : i62 a := by unfold i32 at h; unfold i62; omega
theorem pr_tell (σ : mSt) (h : Inv σ) (a1 : Int) (h1 : i32 a1) (a2 : Int) (h2 : i32 a2) (a3 : Int) (h3 : i32 a3) (a4 : Int) (h4 : i32 a4) (a5 : Int) (h5 : i32 a5) (a6 : Int) (h6 : i32 a6) : ∃ b s b2 s2, mX11_tell 0 a1 a2 a3 a4 a5 a6 σ = some (b, s) ∧ mX12_tell 253 a1 a2 a3 a4 a5 a6 s = some (b2, s2) ∧ wI b = wI b2 ∧ Inv s2 := by
  have hI := h
  obtain ⟨hL, hb, t, B, n, s, hT, hB, hP, hE, hO⟩ := h
  have ht := hI.scr (scr_t (σ := σ) (v := 0))
  have hBt : iBook (upS σ 253 0 0) B n := iBook_congr hB (by rw [upS_ne (by omega)]) (by rw [upS_ne (by omega)]) (fun i hi => upS_row (by omega))
  by_cases hv : 0 ≤ a1 ∧ a1 < 8
  · obtain ⟨k, rfl⟩ : ∃ k : Nat, a1 = (k : Int) := ⟨a1.toNat, by omega⟩
    by_cases hq : 0 ≤ a2 ∧ a2 < (n : Int) ∧ σ 257 a2.toNat = 0
    · have hs : frm scr σ (st4 σ 164 a3 a4 a5 a6) := fun i j z => st4_at (fun q => z (by rw [q]; exact ⟨fixR_data (by decide) j, Or.inl (by unfold sObj; omega)⟩))
      obtain ⟨z0, z1, z2, z3⟩ := st4_0 (σ := σ) (r := 164) (a := a3) (b := a4) (c := a5) (d := a6)
      obtain ⟨cc, s1, e1, ec, hLs, ef, ek⟩ := keep_pair hI hs (k := k) (by omega) (al := a2) (d := 1) (sg := 1) (fun m hm hm8 => by
        have := hB.2.2.2.2.2.1
        rw [hm] at this
        exact ⟨hq.1, by omega, hq.2.2⟩) (fun i hi => by
        rcases (show i = 0 ∨ i = 1 ∨ i = 2 ∨ i = 3 by omega) with rfl | rfl | rfl | rfl
        · rw [z0]; exact i62_of32 h3
        · rw [z1]; exact i62_of32 h4
        · rw [z2]; exact i62_of32 h5
        · rw [z3]; exact i62_of32 h6) (by omega) (Or.inl rfl)
      have c : mX11_tell 0 (k : Int) a2 a3 a4 a5 a6 σ = some ((if cc = 0 then 1 else 0), s1) := by
        unfold mX11_tell
        refine mR_eq (mR_G (by decide) (mR_callE (slot_c h1) (mR_neg (by rw [wI_b2, b2_t (by omega)]; decide) (mR_callE (quat_c hL hB h2) (mR_neg (by rw [wI_b2, b2_t hq]; decide) ?_)))))
        rw [wI_id h3, wI_id h4, wI_id h5, wI_id h6]
        have ix : ∀ i : Int, 0 ≤ i → i < 4 → ixOK 164 21 i := fun i h0 h1 => ixOK_of (n := 4) (by decide) h0 (by omega) (by omega)
        have l0 : σ 0 11 = 164 := hL.get 0 11 (by decide +kernel) (by decide +kernel)
        refine mR_ref (r := 164) l0 (by omega) (mR_G (ix _ (by omega) (by omega)) (mR_bnd ?_))
        refine mR_ref (r := 164) (by rw [upS_ne (by omega)]; exact l0) (by omega) (mR_G (ix _ (by omega) (by omega)) (mR_bnd ?_))
        refine mR_ref (r := 164) (by rw [upS_ne (by omega), upS_ne (by omega)]; exact l0) (by omega) (mR_G (ix _ (by omega) (by omega)) (mR_bnd ?_))
        refine mR_ref (r := 164) (by rw [upS_ne (by omega), upS_ne (by omega), upS_ne (by omega)]; exact l0) (by omega) (mR_G (ix _ (by omega) (by omega)) (mR_bnd ?_))
        refine mR_callE e1 ?_
        rcases ec with rfl | rfl
        · exact mR_pos (by decide) (mR_ret ⟨rfl, rfl⟩)
        · exact mR_neg (by decide) (mR_ret ⟨rfl, rfl⟩)
      sorry
    · sorry
  · sorry

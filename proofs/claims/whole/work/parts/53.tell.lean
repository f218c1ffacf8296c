theorem scr164 {σ : mSt} {j : Nat} {v : Int} : scr 164 j := ⟨fixR_data (by decide) j, Or.inl (by unfold sObj; omega)⟩
theorem scr264 {j : Nat} : scr 264 j := ⟨fixR_data (by decide) j, Or.inl (by unfold sObj; omega)⟩
/-- four numbers of an array -/
def st4 (σ : mSt) (r : Nat) (a b c d : Int) : mSt := upS (upS (upS (upS σ r 0 a) r 1 b) r 2 c) r 3 d
theorem st4_at {σ : mSt} {r i j : Nat} {a b c d : Int} (h : i ≠ r) : st4 σ r a b c d i j = σ i j := by
  unfold st4
  rw [upS_ne (by omega), upS_ne (by omega), upS_ne (by omega), upS_ne (by omega)]
theorem st4_0 {σ : mSt} {r : Nat} {a b c d : Int} : st4 σ r a b c d r 0 = a ∧ st4 σ r a b c d r 1 = b ∧ st4 σ r a b c d r 2 = c ∧ st4 σ r a b c d r 3 = d := by
  unfold st4
  refine ⟨?_, ?_, ?_, ?_⟩ <;> simp [upS]
theorem i62_of32 {a : Int} (h : i32 a) : i62 a := by unfold i32 at h; unfold i62; omega
theorem pr_tell (σ : mSt) (h : Inv σ) (a1 : Int) (h1 : i32 a1) (a2 : Int) (h2 : i32 a2) (a3 : Int) (h3 : i32 a3) (a4 : Int) (h4 : i32 a4) (a5 : Int) (h5 : i32 a5) (a6 : Int) (h6 : i32 a6) : ∃ b s b2 s2, mX11_tell 0 a1 a2 a3 a4 a5 a6 σ = some (b, s) ∧ mX12_tell 253 a1 a2 a3 a4 a5 a6 s = some (b2, s2) ∧ wI b = wI b2 ∧ Inv s2 := by
  have hI := h
  obtain ⟨hL, hb, t, B, n, s, hT, hB, hP, hE, hO⟩ := h
  have ht := hI.scr (scr_t (σ := σ) (v := 0))
  have hBt : iBook (upS σ 253 0 0) B n := iBook_congr hB (by rw [upS_ne (by omega)]) (by rw [upS_ne (by omega)]) (fun i hi => upS_row (by omega))
  by_cases hv : 0 ≤ a1 ∧ a1 < 8
  · obtain ⟨k, rfl⟩ : ∃ k : Nat, a1 = (k : Int) := ⟨a1.toNat, by omega⟩
    by_cases hq : 0 ≤ a2 ∧ a2 < (n : Int) ∧ σ 257 a2.toNat = 0
    · have hs : frm scr σ (st4 σ 164 a3 a4 a5 a6) := fun i j z => st4_at (fun q => z (by rw [q]; exact ⟨fixR_data (by decide) j, Or.inl (by unfold sObj; omega)⟩))
      obtain ⟨z0, z1, z2, z3⟩ := st4_0 (σ := σ) (r := 164) (a := a3) (b := a4) (c := a5) (d := a6)
      obtain ⟨cc, s1, e1, ec, hLs, ef, ek⟩ := keep_pair hI hs (k := k) (by omega) (al := a2) (d := 1) (sg := 1) (fun m hm hm8 => by
        have := hB.2.2.2.2.2.1
        rw [hm] at this
        exact ⟨hq.1, by omega, hq.2.2⟩) (fun i hi => by
        rcases (show i = 0 ∨ i = 1 ∨ i = 2 ∨ i = 3 by omega) with rfl | rfl | rfl | rfl
        · rw [z0]; exact i62_of32 h3
        · rw [z1]; exact i62_of32 h4
        · rw [z2]; exact i62_of32 h5
        · rw [z3]; exact i62_of32 h6) (by omega) (Or.inl rfl)
      have c : mX11_tell 0 (k : Int) a2 a3 a4 a5 a6 σ = some ((if cc = 0 then 1 else 0), s1) := by
        unfold mX11_tell
        refine mR_eq (mR_G (by decide) (mR_callE (slot_c h1) (mR_neg (by rw [wI_b2, b2_t (by omega)]; decide) (mR_callE (quat_c hL hB h2) (mR_neg (by rw [wI_b2, b2_t hq]; decide) ?_)))))
        rw [wI_id h3, wI_id h4, wI_id h5, wI_id h6]
        have ix : ∀ i : Int, 0 ≤ i → i < 4 → ixOK 164 21 i := fun i h0 h1 => ixOK_of (n := 4) (by decide) h0 (by omega) (by omega)
        have l0 : σ 0 11 = 164 := hL.get 0 11 (by decide +kernel) (by decide +kernel)
        refine mR_ref (r := 164) l0 (by omega) (mR_G (ix _ (by omega) (by omega)) (mR_bnd ?_))
        refine mR_ref (r := 164) (by rw [upS_ne (by omega)]; exact l0) (by omega) (mR_G (ix _ (by omega) (by omega)) (mR_bnd ?_))
        refine mR_ref (r := 164) (by rw [upS_ne (by omega), upS_ne (by omega)]; exact l0) (by omega) (mR_G (ix _ (by omega) (by omega)) (mR_bnd ?_))
        refine mR_ref (r := 164) (by rw [upS_ne (by omega), upS_ne (by omega), upS_ne (by omega)]; exact l0) (by omega) (mR_G (ix _ (by omega) (by omega)) (mR_bnd ?_))
        refine mR_callE e1 ?_
        rcases ec with rfl | rfl
        · exact mR_pos (by decide) (mR_ret ⟨rfl, rfl⟩)
        · exact mR_neg (by decide) (mR_ret ⟨rfl, rfl⟩)
      obtain ⟨τ0, hτ0⟩ : ∃ z, z = upS s1 253 0 0 := ⟨_, rfl⟩
      have o1 : ∀ i, i ≠ 165 + 2 * k → i ≠ 166 + 2 * k → i ≠ 253 → i ≠ 164 → τ0 i = σ i := fun i p1 p2 p3 p4 => funext fun j => by
        rw [hτ0, upS_ne (by omega), ef i j (by omega), st4_at p4]
      have hB1 : iBook τ0 B n := iBook_congr hB (by rw [o1 0 (by omega) (by omega) (by omega) (by omega)]) (by rw [o1 0 (by omega) (by omega) (by omega) (by omega)]) (fun i hi => o1 i (by omega) (by omega) (by omega) (by omega))
      have hL1 : Lay τ0 := by rw [hτ0]; exact hLs.frm scr_t (fun i j z => z.1)
      obtain ⟨τ, hτ⟩ : ∃ z, z = upS (st4 τ0 264 a3 a4 a5 a6) 264 4 1 := ⟨_, rfl⟩
      have hfr : frm scr s1 τ := fun i j z => by
        have p1 : i ≠ 264 := fun q => z (by rw [q]; exact ⟨fixR_data (by decide) j, Or.inl (by unfold sObj; omega)⟩)
        have p2 : ¬ (i = 253 ∧ j = 0) := fun q => z (by rw [q.1, q.2]; exact scr_s (by unfold sSlot; omega) (by decide +kernel))
        rw [hτ, upS_ne (by omega), st4_at p1, hτ0, upS_ne p2]
      obtain ⟨y0, y1, y2, y3⟩ := st4_0 (σ := τ0) (r := 264) (a := a3) (b := a4) (c := a5) (d := a6)
      obtain ⟨τ', e2, hI2⟩ := ek τ hfr (fun i hi => by
        rw [hτ, upS_ne (by omega)]
        rcases (show i = 0 ∨ i = 1 ∨ i = 2 ∨ i = 3 by omega) with rfl | rfl | rfl | rfl
        · rw [z0, y0]; omega
        · rw [z1, y1]; omega
        · rw [z2, y2]; omega
        · rw [z3, y3]; omega) (by rw [hτ, upS_same]; omega)
      refine ⟨_, _, (if cc = 0 then 1 else 0), τ', c, ?_, rfl, hI2⟩
      unfold mX12_tell
      refine mR_eq (mR_G (by decide) (mR_bnd ?_))
      rw [← hτ0, wI_id h1]
      refine mR_callE (within_e _ 0 7 τ0 (by omega) (by omega) (by omega)) (mR_neg (by rw [wI_b2, b2_t (by omega)]; decide) (mR_callE (quat_r hL1 hB1 h2) (mR_neg ?_ ?_)))
      · rw [wI_b2, b2_t (by rw [o1 257 (by omega) (by omega) (by omega) (by omega)]; exact hq)]; decide
      rw [wI_id h3, wI_id h4, wI_id h5, wI_id h6]
      have ix : ∀ i : Int, 0 ≤ i → i < 5 → ixOK 264 21 i := fun i h0 h1 => ixOK_of (n := 5) (by decide) h0 (by omega) (by omega)
      have l0 : τ0 253 24 = 264 := hL1.get 253 24 (by decide +kernel) (by decide +kernel)
      refine mR_ref (r := 264) l0 (by omega) (mR_G (ix _ (by omega) (by omega)) (mR_bnd ?_))
      refine mR_ref (r := 264) (by rw [upS_ne (by omega)]; exact l0) (by omega) (mR_G (ix _ (by omega) (by omega)) (mR_bnd ?_))
      refine mR_ref (r := 264) (by rw [upS_ne (by omega), upS_ne (by omega)]; exact l0) (by omega) (mR_G (ix _ (by omega) (by omega)) (mR_bnd ?_))
      refine mR_ref (r := 264) (by rw [upS_ne (by omega), upS_ne (by omega), upS_ne (by omega)]; exact l0) (by omega) (mR_G (ix _ (by omega) (by omega)) (mR_bnd ?_))
      refine mR_ref (r := 264) (by rw [upS_ne (by omega), upS_ne (by omega), upS_ne (by omega), upS_ne (by omega)]; exact l0) (by omega) (mR_G (ix _ (by omega) (by omega)) (mR_bnd ?_))
      rw [hτ] at e2
      refine mR_callE e2 ?_
      rcases ec with rfl | rfl
      · exact mR_pos (by decide) (mR_ret ⟨rfl, rfl⟩)
      · exact mR_neg (by decide) (mR_ret ⟨rfl, rfl⟩)
    · refine ⟨0, σ, 0, upS σ 253 0 0, ?_, ?_, rfl, ht⟩
      · unfold mX11_tell
        exact mR_eq (mR_G (by decide) (mR_callE (slot_c h1) (mR_neg (by rw [wI_b2, b2_t (by omega)]; decide) (mR_callE (quat_c hL hB h2) (mR_pos (by rw [wI_b2, b2_f hq]) (mR_ret ⟨rfl, rfl⟩))))))
      · unfold mX12_tell
        refine mR_eq (mR_G (by decide) (mR_bnd ?_))
        rw [wI_id h1]
        exact mR_callE (within_e _ 0 7 _ (by omega) (by omega) (by omega)) (mR_neg (by rw [wI_b2, b2_t (by omega)]; decide) (mR_callE (quat_r ht.1 hBt h2) (mR_pos (by rw [wI_b2, b2_f (by rw [upS_row (by omega)]; exact hq)]) (mR_ret ⟨rfl, rfl⟩))))
  · refine ⟨0, σ, 0, upS σ 253 0 0, ?_, ?_, rfl, ht⟩
    · unfold mX11_tell
      exact mR_eq (mR_G (by decide) (mR_callE (slot_c h1) (mR_pos (by rw [wI_b2, b2_f hv]) (mR_ret ⟨rfl, rfl⟩))))
    · unfold mX12_tell
      refine mR_eq (mR_G (by decide) (mR_bnd ?_))
      rw [wI_id h1]
      exact mR_callE (within_e _ 0 7 _ (by unfold i32 at h1; omega) (by omega) (by omega)) (mR_pos (by rw [wI_b2, b2_f (by omega)]) (mR_ret ⟨rfl, rfl⟩))

/-! the class side of loop -/
theorem L32_0 {x : mSt → Option (Int × mSt)} {v1 v3 f : Nat} {a5 : Int} {a1 : Int} {σ : mSt} : mX8_readText_L32 2 v1 a1 v3 x (f + 1) 0 a5 σ = x σ := by
  rw [mX8_readText_L32.eq_2]
  by_cases h : 8 < wI a5
  · rw [if_pos h]
  · rw [if_neg h, if_pos (by decide)]
/-- the class' start -/
def cY (D i j : Nat) : Prop := cXl D i j ∨ (i = 2 ∧ j = 1) ∨ (i = 3 ∧ j ≤ 1)
theorem cY_fix {D i j : Nat} (hD : D = 37 ∨ D = 69) (h : cY D i j) : fixR i j = false := by
  rcases h with h | ⟨rfl, rfl⟩ | ⟨rfl, h⟩
  · exact cXl_fix hD h
  · decide +kernel
  · have : ∀ j, j ≤ 1 → fixR 3 j = false := by decide +kernel
    exact this j h
theorem start_c {σ : mSt} {t D : Nat} {a1 : Int} (hL : Lay σ) (ht : iTape σ t) (hD : D = 37 ∨ D = 69) (h0 : 0 ≤ a1) (h1 : a1 ≤ (t : Int)) : ∃ σ', mX8_readText 2 1 a1 D σ = mX8_readText_L32 2 1 a1 D (fun zσ => mX8_readText_B75 2 1 a1 D zσ) mF 1 0 σ' ∧ frm (cY D) σ σ' ∧ cA σ' (σ 1) a1.toNat (skp (σ 1) a1.toNat 0) ∧ σ' 2 1 = (D : Int) ∧ σ' D 0 = 0 ∧ σ' 2 2 = 0 := by
  obtain ⟨t0, t1, t2, t3⟩ := ht
  obtain ⟨σ1, e1⟩ : ∃ z, z = upS (upS (upS σ 2 1 (D : Int)) D 0 0) 2 2 0 := ⟨_, rfl⟩
  obtain ⟨σ2, e2⟩ : ∃ z, z = upS (upS (upS σ1 3 0 ((1 : Nat) : Int)) 3 1 a1) 3 3 0 := ⟨_, rfl⟩
  have f1 : frm (cY D) σ σ1 := by
    rw [e1]
    exact ((frm.one (Or.inr (Or.inl ⟨rfl, rfl⟩))).put (Or.inl (Or.inr (Or.inl ⟨rfl, rfl⟩)))).put (Or.inl (Or.inl (Or.inr ⟨rfl, Or.inl rfl⟩)))
  have f2 : frm (cY D) σ1 σ2 := by
    rw [e2]
    exact ((frm.one (Or.inr (Or.inr ⟨rfl, by omega⟩))).put (Or.inr (Or.inr ⟨rfl, by omega⟩))).put (Or.inl (Or.inl (Or.inl ⟨rfl, by omega⟩)))
  have hL1 := hL.frm f1 (fun i j z => cY_fix hD z)
  have hL2 := hL1.frm f2 (fun i j z => cY_fix hD z)
  have r1 : σ2 1 = σ 1 := funext fun j => by rw [f2 _ _ (by unfold cY cXl cR cL tkW; omega), f1 _ _ (by unfold cY cXl cR cL tkW; omega)]
  have hT : cT σ2 (σ 1) a1.toNat := ⟨hL2, by rw [e2, upS_ne (by omega), upS_ne (by omega), upS_same], by rw [e2, upS_ne (by omega), upS_same]; omega, by omega, fun i hi => ⟨by rw [r1], (t3 i (by omega)).2⟩⟩
  obtain ⟨σ3, s1, s2, s3⟩ := step_tc (e := 0) hT (by omega) (by rw [e2, upS_same]; rfl)
  have o2 : ∀ i, i ≠ 3 → σ2 i = σ1 i := fun i hi => by rw [e2, upS_row hi, upS_row hi, upS_row hi]
  have o3 : ∀ i, i ≠ 3 → σ3 i = σ2 i := fun i hi => funext fun j => s2 i j (by unfold tkW; omega)
  refine ⟨σ3, ?_, (f1.tr f2 (fun _ _ z => z)).tr s2 (fun _ _ z => Or.inl (Or.inl (Or.inl z))), s3, ?_, ?_, ?_⟩
  · unfold mX8_readText
    rw [gc2, mG_pos (by omega), bnd_eq, gr' (r := D) (by rw [upS_same]) (by omega)]
    unfold mX0_clear
    rw [mG_pos (by rcases hD with rfl | rfl <;> decide +kernel), bnd_eq, mCall_some, bnd_eq, ← e1, gr' (l20 hL1) (by omega)]
    unfold mX10_begin
    rw [mG_pos (by decide +kernel), mG_pos (by omega), bnd_eq, mG_pos (by decide +kernel)]
    have bb : ∀ v : Int, v = a1 → mX10_begin_B18 3 1 a1 3 v (upS σ1 3 0 ((1 : Nat) : Int)) = some (0, σ3) := fun v hv => by
      unfold mX10_begin_B18
      rw [mG_pos (by decide +kernel), bnd_eq, bnd_eq, hv, ← e2, s1, mCall_some]
    by_cases c : wI ((shp 1).2 : Int) ≤ wI a1
    · have c' := c
      rw [show (shp 1).2 = 600 by decide, wI_id (x := a1) (by omega), show wI ((600 : Nat) : Int) = 600 by decide] at c'
      rw [if_pos c, bb _ (by rw [show (shp 1).2 = 600 by decide]; omega), mCall_some]
    · rw [if_neg c, bb _ rfl, mCall_some]
  · rw [o3 _ (by omega), o2 _ (by omega), e1, upS_ne (by omega), upS_ne (by omega), upS_same]
  · rw [o3 _ (by omega), o2 _ (by omega), e1, upS_ne (by omega), upS_same]
  · rw [o3 _ (by omega), o2 _ (by omega), e1, upS_same]

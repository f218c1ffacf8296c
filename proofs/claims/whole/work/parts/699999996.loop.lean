/-! all lines of a text: class, reference -/
theorem L32_0 {x : mSt → Option (Int × mSt)} {v1 v3 f : Nat} {a5 : Int} {a1 : Int} {σ : mSt} : mX8_readText_L32 2 v1 a1 v3 x (f + 1) 0 a5 σ = x σ := by
  rw [mX8_readText_L32.eq_2]
  by_cases h : 8 < wI a5
  · rw [if_pos h]
  · rw [if_neg h, if_pos (by decide)]
theorem loop_e {w : Nat → Int} {n D v1 v3 : Nat} {a1 a2 : Int} {x : mSt → Option (Int × mSt)} {y : Int → mSt → Option (Int × mSt)} {f g : Nat} : ∀ (d m : Nat), d + m = 8 → ∀ (σ τ : mSt) (s : Nat), stT σ τ w n s D m → ∃ (v : Int) (σ' τ' : mSt), mX8_readText_L32 2 v1 a1 v3 x (f + d + 1 + 1) 1 (m : Int) σ = x σ' ∧ (mCall (mX12_lineHere 253 τ) fun b s => mX12_text_L62 253 a2 y (g + d + 1) b s) = y v τ' ∧ frm (cXl D) σ σ' ∧ frm rX τ τ' ∧ ((v = 0 ∧ flt σ' τ') ∨ (v = 1 ∧ ∃ s' m', stT σ' τ' w n s' D m')) := by
  intro d
  induction d with
  | zero =>
    intro m hm σ τ s h
    obtain ⟨v, σ', τ', e1, e2, e3, e4, e5⟩ := line_e h
    refine ⟨v, σ', τ', ?_, ?_, e3, e4, ?_⟩
    · rw [mX8_readText_L32.eq_2, if_neg (by rw [wI_id (x := (m : Int)) (by omega)]; omega), if_neg (by decide), e1, mCall_some]
      rcases e5 with ⟨rfl, _⟩ | ⟨_, z, _⟩
      · rw [if_pos (by decide)]
        unfold mX8_readText_B66
        rw [bnd_eq, L32_0]
      · omega
    · rw [e2, mCall_some]
      rcases e5 with ⟨rfl, _⟩ | ⟨_, z, _⟩
      · rw [mX12_text_L62.eq_2, if_pos (by decide)]
      · omega
    · rcases e5 with z | ⟨_, z, _⟩
      · exact Or.inl z
      · omega
  | succ d ih =>
    intro m hm σ τ s h
    obtain ⟨v, σ', τ', e1, e2, e3, e4, e5⟩ := line_e h
    rcases e5 with ⟨rfl, e6⟩ | ⟨rfl, hm7, s', h'⟩
    · refine ⟨0, σ', τ', ?_, ?_, e3, e4, Or.inl ⟨rfl, e6⟩⟩
      · rw [mX8_readText_L32.eq_2, if_neg (by rw [wI_id (x := (m : Int)) (by omega)]; omega), if_neg (by decide), e1, mCall_some, if_pos (by decide)]
        unfold mX8_readText_B66
        rw [bnd_eq, L32_0]
      · rw [e2, mCall_some, mX12_text_L62.eq_2, if_pos (by decide)]
    · have hA := h'.1
      have hR := h'.2.1
      have t0 := (tCR w n s').2.2.2.2.2.1
      by_cases t : tC w n s' = 0
      · refine ⟨1, σ', τ', ?_, ?_, e3, e4, Or.inr ⟨rfl, s', m + 1, h'⟩⟩
        · rw [mX8_readText_L32.eq_2, if_neg (by rw [wI_id (x := (m : Int)) (by omega)]; omega), if_neg (by decide), e1, mCall_some, if_neg (by decide), gr' (l20 hA.1.1) (by omega), is_tc hA (by omega), mCall_some, if_neg (by rw [b2_t t]; decide)]
          unfold mX8_readText_B66
          rw [bnd_eq, L32_0]
        · rw [e2, mCall_some, mX12_text_L62.eq_2, if_neg (by decide), if_pos (by rw [hR.2.2.2.2.1, t0.mp t]; decide)]
      · obtain ⟨v2, σ2, τ2, q1, q2, q3, q4, q5⟩ := ih (m + 1) (by omega) σ' τ' s' h'
        have tr0 : tR w n s' ≠ 0 := fun z => t (t0.mpr z)
        have trr := (tCR w n s').2.2.2.2.2.2.2.2.2.2
        refine ⟨v2, σ2, τ2, ?_, ?_, e3.tr q3 (fun _ _ z => z), e4.tr q4 (fun _ _ z => z), q5⟩
        · rw [mX8_readText_L32.eq_2, if_neg (by rw [wI_id (x := (m : Int)) (by omega)]; omega), if_neg (by decide), e1, mCall_some, if_neg (by decide), gr' (l20 hA.1.1) (by omega), is_tc hA (by omega), mCall_some, if_pos (by rw [b2_f t]; decide), bnd_eq]
          exact q1
        · rw [e2, mCall_some, mX12_text_L62.eq_2, if_neg (by decide), if_neg (by rw [hR.2.2.2.2.1, wI_id (x := tR w n s') (by omega)]; exact tr0)]
          exact q2
/-- the class' start -/
def cY (D i j : Nat) : Prop := cXl D i j ∨ (i = 2 ∧ j = 1) ∨ (i = 3 ∧ j ≤ 1)
def rY (i j : Nat) : Prop := rX i j ∨ (i = 253 ∧ (j = 0 ∨ j = 2 ∨ j = 3 ∨ j = 11))
theorem cY_fix {D i j : Nat} (hD : D = 37 ∨ D = 69) (h : cY D i j) : fixR i j = false := by
  rcases h with h | ⟨rfl, rfl⟩ | ⟨rfl, h⟩
  · exact cXl_fix hD h
  · decide +kernel
  · have : ∀ j, j ≤ 1 → fixR 3 j = false := by decide +kernel
    exact this j h
theorem rY_fix {i j : Nat} (h : rY i j) : fixR i j = false := by
  rcases h with h | ⟨rfl, h⟩
  · exact rX_fix h
  · rcases h with rfl | rfl | rfl | rfl <;> decide +kernel
theorem start_c {σ : mSt} {t D : Nat} {a1 : Int} (hL : Lay σ) (ht : iTape σ t) (hD : D = 37 ∨ D = 69) (h0 : 0 ≤ a1) (h1 : a1 ≤ (t : Int)) : ∃ σ', mX8_readText 2 1 a1 D σ = mX8_readText_L32 2 1 a1 D (fun zσ => mX8_readText_B75 2 1 a1 D zσ) mF 1 0 σ' ∧ frm (cY D) σ σ' ∧ cA σ' (σ 1) a1.toNat (skp (σ 1) a1.toNat 0) ∧ σ' 2 1 = (D : Int) ∧ σ' D 0 = 0 ∧ σ' 2 2 = 0 := by
  obtain ⟨t0, t1, t2, t3⟩ := ht
  obtain ⟨σ1, e1⟩ : ∃ z, z = upS (upS (upS σ 2 1 (D : Int)) D 0 0) 2 2 0 := ⟨_, rfl⟩
  obtain ⟨σ2, e2⟩ : ∃ z, z = upS (upS (upS σ1 3 0 ((1 : Nat) : Int)) 3 1 a1) 3 3 0 := ⟨_, rfl⟩
  have f1 : frm (cY D) σ σ1 := by
    rw [e1]
    exact ((frm.one (Or.inr (Or.inl ⟨rfl, rfl⟩))).put (Or.inl (Or.inr (Or.inl ⟨rfl, rfl⟩)))).put (Or.inl (Or.inl (Or.inr ⟨rfl, Or.inl rfl⟩)))
  have f2 : frm (cY D) σ1 σ2 := by
    rw [e2]
    exact ((frm.one (Or.inr (Or.inr ⟨rfl, by omega⟩))).put (Or.inr (Or.inr ⟨rfl, by omega⟩))).put (Or.inl (Or.inl (Or.inl ⟨rfl, by omega⟩)))
  have hL1 := hL.frm f1 (fun i j z => cY_fix hD z)
  have hL2 := hL1.frm f2 (fun i j z => cY_fix hD z)
  have r1 : σ2 1 = σ 1 := funext fun j => by rw [f2 _ _ (by unfold cY cXl cR cL tkW; omega), f1 _ _ (by unfold cY cXl cR cL tkW; omega)]
  have hT : cT σ2 (σ 1) a1.toNat := ⟨hL2, by rw [e2, upS_ne (by omega), upS_ne (by omega), upS_same], by rw [e2, upS_ne (by omega), upS_same]; omega, by omega, fun i hi => ⟨by rw [r1], (t3 i (by omega)).2⟩⟩
  obtain ⟨σ3, s1, s2, s3⟩ := step_tc (e := 0) hT (by omega) (by rw [e2, upS_same]; rfl)
  have o2 : ∀ i, i ≠ 3 → σ2 i = σ1 i := fun i hi => by rw [e2, upS_row hi, upS_row hi, upS_row hi]
  have o3 : ∀ i, i ≠ 3 → σ3 i = σ2 i := fun i hi => funext fun j => s2 i j (by unfold tkW; omega)
  refine ⟨σ3, ?_, (f1.tr f2 (fun _ _ z => z)).tr s2 (fun _ _ z => Or.inl (Or.inl (Or.inl z))), s3, ?_, ?_, ?_⟩
  · unfold mX8_readText
    rw [gc2, mG_pos (by omega), bnd_eq, gr' (r := D) (by rw [upS_same]) (by omega)]
    unfold mX0_clear
    rw [mG_pos (by rcases hD with rfl | rfl <;> decide +kernel), bnd_eq, mCall_some, bnd_eq, ← e1, gr' (l20 hL1) (by omega)]
    unfold mX10_begin
    rw [mG_pos (by decide +kernel), mG_pos (by omega), bnd_eq, mG_pos (by decide +kernel)]
    have bb : ∀ v : Int, v = a1 → mX10_begin_B18 3 1 a1 3 v (upS σ1 3 0 ((1 : Nat) : Int)) = some (0, σ3) := fun v hv => by
      unfold mX10_begin_B18
      rw [mG_pos (by decide +kernel), bnd_eq, bnd_eq, hv, ← e2, s1, mCall_some]
    by_cases c : wI ((shp 1).2 : Int) ≤ wI a1
    · have c' := c
      rw [show (shp 1).2 = 600 by decide, wI_id (x := a1) (by omega), show wI ((600 : Nat) : Int) = 600 by decide] at c'
      rw [if_pos c, bb _ (by rw [show (shp 1).2 = 600 by decide]; omega), mCall_some]
    · rw [if_neg c, bb _ rfl, mCall_some]
  · rw [o3 _ (by omega), o2 _ (by omega), e1, upS_ne (by omega), upS_ne (by omega), upS_same]
  · rw [o3 _ (by omega), o2 _ (by omega), e1, upS_ne (by omega), upS_same]
  · rw [o3 _ (by omega), o2 _ (by omega), e1, upS_same]
/-- the reference's start -/
theorem start_r {τ : mSt} {t : Nat} {a1 : Int} (w : Nat → Int) (hL : Lay τ) (ht : τ 253 2 = (t : Int)) (h600 : t ≤ 600) (hw : ∀ k, k < t → τ 254 k = w k ∧ -128 ≤ w k ∧ w k < 128) (h0 : 0 ≤ a1) (h1 : a1 ≤ (t : Int)) : ∃ τ', mX12_text 253 a1 τ = (mCall (mX12_lineHere 253 τ') fun b s => mX12_text_L62 253 a1 (fun z2 zσ => mX12_text_B81 253 a1 z2 zσ) mF b s) ∧ frm rY τ τ' ∧ rA τ' w a1.toNat (skp w a1.toNat 0) ∧ τ' 253 2 = 0 ∧ τ' 253 9 = 0 ∧ τ' 253 11 = 1 ∧ τ' 255 1 = 0 := by
  obtain ⟨τ1, e1⟩ : ∃ z, z = upS (upS (upS (upS (upS (upS (upS τ 253 0 0) 253 2 0) 253 3 a1) 253 5 0) 253 9 0) 253 11 1) 255 1 0 := ⟨_, rfl⟩
  have f1 : frm rY τ τ1 := by
    rw [e1]
    exact ((((((frm.one (Or.inr ⟨rfl, by omega⟩)).put (Or.inr ⟨rfl, by omega⟩)).put (Or.inr ⟨rfl, by omega⟩)).put (Or.inl (Or.inl ⟨rfl, by omega⟩))).put (Or.inl (Or.inl ⟨rfl, by omega⟩))).put (Or.inr ⟨rfl, by omega⟩)).put (Or.inl (Or.inr (Or.inl ⟨rfl, rfl⟩)))
  have hL1 := hL.frm f1 (fun i j z => rY_fix z)
  have r1 : τ1 254 = τ 254 := by
    rw [e1]
    repeat rw [upS_row (by omega)]
  have x3 : τ1 253 3 = a1 := by
    rw [e1]
    repeat (first | rw [upS_same] | rw [upS_ne (by omega)])
  have x5 : τ1 253 5 = ((0 : Nat) : Int) := by
    rw [e1]
    repeat (first | rw [upS_same] | rw [upS_ne (by omega)])
    rfl
  have hT : rT τ1 w a1.toNat := ⟨hL1, by omega, by omega, fun i hi => by rw [r1]; exact hw i (by omega)⟩
  obtain ⟨τ2, s1, s2, s3⟩ := step_tr (e := 0) hT (by omega) x5
  refine ⟨τ2, ?_, f1.tr s2 (fun _ _ z => Or.inl (Or.inl ⟨z.1, Or.inl ⟨z.2.1, by have := z.2.2; omega⟩⟩)), s3, ?_, ?_, ?_, ?_⟩
  · unfold mX12_text
    rw [gc253, bnd_eq]
    have wt : mX12_within (wI a1) 0 (wI (upS τ 253 0 0 253 2)) (upS τ 253 0 0) = some (1, upS τ 253 0 0) := by
      rw [upS_ne (by omega), ht, wI_id (x := a1) (by omega), wI_id (x := (t : Int)) (by omega), within_e _ _ _ _ (by omega) (by omega) (by omega), b2_t ⟨h0, h1⟩]
    rw [wt, mCall_some, if_neg (by decide)]
    simp only [bnd_eq]
    have x12 : upS (upS (upS (upS (upS (upS τ 253 0 0) 253 2 0) 253 3 a1) 253 5 0) 253 9 0) 253 11 1 253 12 = ((255 : Nat) : Int) := by
      repeat rw [upS_ne (by omega)]
      exact (lay253 hL).2.1
    rw [gr' x12 (by omega), gx255 _ (by omega), ← e1, s1, mCall_some]
  · rw [s2 _ _ (by unfold rkW; omega), e1]
    repeat (first | rw [upS_same] | rw [upS_ne (by omega)])
  · rw [s2 _ _ (by unfold rkW; omega), e1]
    repeat (first | rw [upS_same] | rw [upS_ne (by omega)])
  · rw [s2 _ _ (by unfold rkW; omega), e1]
    repeat (first | rw [upS_same] | rw [upS_ne (by omega)])
  · rw [s2 _ _ (by unfold rkW; omega), e1]
    repeat (first | rw [upS_same] | rw [upS_ne (by omega)])

/-! a sum's terms: class, reference -/
theorem ln_c {σ0 τ0 σ τ σ' : mSt} {w : Nat → Int} {n s D m : Nat} (hD : D = 37 ∨ D = 69) (hm : m < 8) (h : lnK σ0 τ0 σ τ w n s D m) (hf : frm (cL D m) σ σ') (h3 : ∀ j, σ' 3 j = σ 3 j) (h2 : σ' 2 2 = σ 2 2) : lnK σ0 τ0 σ' τ w n s D m := by
  obtain ⟨f1, f2, hA, hR, h9, h22⟩ := h
  exact ⟨f1.tr hf (fun i j z => z), f2, cA_L hD hm hA hf h3, hR, h9, by rw [h2]; exact h22⟩
theorem ln_r {σ0 τ0 σ τ τ' : mSt} {w : Nat → Int} {n s D m : Nat} (h : lnK σ0 τ0 σ τ w n s D m) (hf : frm (rL m) τ τ') (h8 : ∀ j, 3 ≤ j → j ≤ 9 → τ' 253 j = τ 253 j) : lnK σ0 τ0 σ τ' w n s D m := by
  obtain ⟨f1, f2, hA, hR, h9, h22⟩ := h
  exact ⟨f1, f2.tr hf (fun i j z => z), hA, rA_fr hR (hR.1.1.frm hf (fun i j z => rL_fix z)) (fun j z1 z2 => h8 j z2 (by omega)) (funext fun j => hf _ _ (by unfold rL; omega)), by rw [h8 9 (by omega) (by omega)]; exact h9, h22⟩
theorem sgC {σ : mSt} {w : Nat → Int} {n s : Nat} (hL : Lay σ) (h : cA σ w n s) : mX8_isSign 2 σ = some (b2 (tC w n s = 3 ∨ tC w n s = 4), σ) := by
  unfold mX8_isSign
  rw [gc2, gr' (l20 hL) (by omega), is_tc h (by omega), mCall_some]
  by_cases c : tC w n s = 3
  · rw [b2_t c, if_neg (by decide), b2_t (Or.inl c)]
    rfl
  · rw [b2_f c, if_pos (by decide), gr' (l20 hL) (by omega), is_tc h (by omega), mCall_some]
    by_cases d : tC w n s = 4
    · rw [b2_t d, if_neg (by decide), b2_t (Or.inr d)]
      rfl
    · rw [b2_f d, if_pos (by decide), b2_f (fun z => z.elim c d)]
/-- what stands after c terms -/
def trm (σb τb σ τ : mSt) (D m c : Nat) : Prop := σ (D + 2) m = (c : Int) ∧ σ (D + 3) m = 0 ∧ (σ (D + 1) m = σb (D + 1) m ∧ σ (D + 4) m = σb (D + 4) m ∧ σ (D + 6 + m) = σb (D + 6 + m)) ∧ (τ 256 (8 + m) = τb 256 (8 + m) ∧ τ 257 (8 + m) = τb 257 (8 + m)) ∧ ∀ i, i < c → σ (D + 15 + m) i = τ 261 (4 * (8 + m) + i) ∧ σ (D + 24 + m) i = τ 260 (4 * (8 + m) + i) ∧ (τ 260 (4 * (8 + m) + i) = 1 ∨ τ 260 (4 * (8 + m) + i) = -1) ∧ 0 ≤ τ 261 (4 * (8 + m) + i) ∧ τ 261 (4 * (8 + m) + i) < (m : Int)
def cT2 (D m i j : Nat) : Prop := tkW i j
theorem trm_c {σb τb σ τ σ' τ' : mSt} {D m c : Nat} (hD : D = 37 ∨ D = 69) (h : trm σb τb σ τ D m c) (hc : frm cR σ σ') (hr : frm rN τ τ') : trm σb τb σ' τ' D m c := by
  obtain ⟨h1, h2, ⟨h3, h4, h5⟩, ⟨h6, h7⟩, h8⟩ := h
  have o : ∀ i, 4 ≤ i → σ' i = σ i := fun i hi => funext fun j => hc i j (by unfold cR tkW; omega)
  have r : ∀ i, i ≠ 253 → τ' i = τ i := fun i hi => funext fun j => hr i j (by unfold rN; omega)
  refine ⟨by rw [o _ (by omega)]; exact h1, by rw [o _ (by omega)]; exact h2, ⟨by rw [o _ (by omega)]; exact h3, by rw [o _ (by omega)]; exact h4, by rw [o _ (by omega)]; exact h5⟩, ⟨by rw [r _ (by omega)]; exact h6, by rw [r _ (by omega)]; exact h7⟩, fun i hi => ?_⟩
  rw [o _ (by omega), o _ (by omega), r _ (by omega), r _ (by omega)]
  exact h8 i hi
theorem tk_cR {i j : Nat} (h : tkW i j) : cR i j := Or.inl h
theorem rk_rN {i j : Nat} (h : rkW i j) : rN i j := ⟨h.1, by have := h.2; omega⟩
/-- one term -/
theorem term1 {σ0 τ0 σb τb σ τ : mSt} {w : Nat → Int} {n s D m c : Nat} {N N' : Nat} (hg : lnG σ0 τ0 D m) (h : lnK σ0 τ0 σ τ w n s D m) (ht : trm σb τb σ τ D m c) (hc : c < 4) (hs : tC w n s = 3 ∨ tC w n s = 4) : ∃ σ' τ', (lnF σ0 τ0 σ' τ' D m ∧ mX8_readTerms_L15 2 (fun zσ => mX8_readTerms_B128 2 zσ) (N + 1) (c : Int) σ = some (0, σ') ∧ mX12_sumLine_L35 253 (m : Int) (fun z2 zσ => mX12_sumLine_B175 253 (m : Int) z2 zσ) (N' + 1) (c : Int) τ = some (0, τ')) ∨ ((∃ s', lnK σ0 τ0 σ' τ' w n s' D m) ∧ trm σb τb σ' τ' D m (c + 1) ∧ mX8_readTerms_L15 2 (fun zσ => mX8_readTerms_B128 2 zσ) (N + 1) (c : Int) σ = mX8_readTerms_L15 2 (fun zσ => mX8_readTerms_B128 2 zσ) N ((c + 1 : Nat) : Int) σ' ∧ mX12_sumLine_L35 253 (m : Int) (fun z2 zσ => mX12_sumLine_B175 253 (m : Int) z2 zσ) (N' + 1) (c : Int) τ = mX12_sumLine_L35 253 (m : Int) (fun z2 zσ => mX12_sumLine_B175 253 (m : Int) z2 zσ) N' ((c + 1 : Nat) : Int) τ') := by
  have hg' := hg
  obtain ⟨g1, g2, g3, g4, g5, g6, g7⟩ := hg
  obtain ⟨b1, b2', b3, b4, b5, b6, b7, b8⟩ := ln_g hg' h
  have hA := h.2.2.1
  have hR := h.2.2.2.1
  obtain ⟨sv, hsv⟩ : ∃ sv : Int, sv = if tC w n s = 4 then -1 else 1 := ⟨_, rfl⟩
  have sv1 : sv = 1 ∨ sv = -1 := by
    rw [hsv]
    by_cases z : tC w n s = 4
    · rw [if_pos z]; exact Or.inr rfl
    · rw [if_neg z]; exact Or.inl rfl
  -- the class up to the name
  have c1 : ∀ o, mX8_readTerms_B59 2 (mX8_readTerms_L15 2 (fun zσ => mX8_readTerms_B128 2 zσ) N) (fun zσ => mX8_readTerms_B128 2 zσ) (c : Int) sv σ = o → mX8_readTerms_L15 2 (fun zσ => mX8_readTerms_B128 2 zσ) (N + 1) (c : Int) σ = o := fun o z => by
    rw [mX8_readTerms_L15.eq_2, if_neg (by rw [wI_id (x := (c : Int)) (by omega)]; omega), sgC b1 hA, mCall_some, if_neg (by rw [b2_t hs]; decide), gr' b4 (by omega), hasAll_e b1 g1 b5 g2 ht.1 (by omega), mCall_some, if_pos (by rw [b2_f (by omega)]; decide), gr' b3 (by omega), is_tc hA (by omega), mCall_some]
    by_cases q : tC w n s = 4
    · rw [b2_t q, if_neg (by decide)]
      rw [hsv, if_pos q] at z
      exact z
    · rw [b2_f q, if_pos (by decide)]
      rw [hsv, if_neg q] at z
      exact z
  -- the reference up to the sign
  have k3 := (tCR w n s).2.2.1
  have k4 := (tCR w n s).2.2.2.1
  have s43 := sign_r (v := 43) hR (by omega)
  rw [b2_iff k3.symm] at s43
  have s45 := sign_r (v := 45) hR (by omega)
  rw [b2_iff k4.symm] at s45
  clear k3 k4
  obtain ⟨τ1, ht1⟩ : ∃ τ1, τ1 = upS τ 260 (4 * (8 + m) + c) sv := ⟨_, rfl⟩
  have r1 : ∀ o, (mCall (mX12_steps 253 τ1) fun b40 s41 => mCall (mX12_isName 253 s41) fun b43 s44 => mCall (mX12_must 253 b43 1 s44) fun b46 s47 => if wI b46 = 0 then (some ((0 : Int), s47)) else mCall (mX12_named 253 (s47 253 8) s47) fun b50 s51 => if wI b50 < 0 then (mX12_sumLine_B134 253 (m : Int) (mX12_sumLine_L35 253 (m : Int) (fun z2 zσ => mX12_sumLine_B175 253 (m : Int) z2 zσ) N') (fun z2 zσ => mX12_sumLine_B175 253 (m : Int) z2 zσ) (c : Int) 253 0 s51) else mX12_sumLine_B134 253 (m : Int) (mX12_sumLine_L35 253 (m : Int) (fun z2 zσ => mX12_sumLine_B175 253 (m : Int) z2 zσ) N') (fun z2 zσ => mX12_sumLine_B175 253 (m : Int) z2 zσ) (c : Int) 253 1 s51) = o → mX12_sumLine_L35 253 (m : Int) (fun z2 zσ => mX12_sumLine_B175 253 (m : Int) z2 zσ) (N' + 1) (c : Int) τ = o := fun o z => by
    have B53 : mX12_sumLine_B53 253 (m : Int) (mX12_sumLine_L35 253 (m : Int) (fun z2 zσ => mX12_sumLine_B175 253 (m : Int) z2 zσ) N') (fun z2 zσ => mX12_sumLine_B175 253 (m : Int) z2 zσ) (c : Int) τ = o := by
      unfold mX12_sumLine_B53
      rw [if_neg (by rw [wI_id (x := (c : Int)) (by omega)]; omega)]
      unfold mX12_sumLine_B64
      rw [show mX12_must 253 1 5 τ = _ from (ln_fail h (c := 5) (by omega)).2.2.1, mCall_some, if_neg (by decide), gr' (lay253 b2').2.2.2.2.2.2.1 (by omega), at_r b6, mCall_some, s43, mCall_some]
      have B100 : mX12_sumLine_B100 253 (m : Int) (mX12_sumLine_L35 253 (m : Int) (fun z2 zσ => mX12_sumLine_B175 253 (m : Int) z2 zσ) N') (fun z2 zσ => mX12_sumLine_B175 253 (m : Int) z2 zσ) (c : Int) 260 (4 * ((8 + m : Nat) : Int) + (c : Int)) sv τ = o := by
        unfold mX12_sumLine_B100
        rw [show (4 * ((8 + m : Nat) : Int) + (c : Int)) = ((4 * (8 + m) + c : Nat) : Int) by omega, gx260 _ (by omega), wI_nat (k := 4 * (8 + m) + c) (by omega), bnd_eq, ← ht1]
        exact z
      by_cases q : tC w n s = 3
      · rw [b2_t q, if_neg (by decide)]
        rw [hsv, if_neg (by omega)] at B100
        exact B100
      · rw [b2_f q, if_pos (by decide)]
        rw [hsv, if_pos (hs.resolve_left q)] at B100
        exact B100
    rw [mX12_sumLine_L35.eq_2, s43, mCall_some]
    by_cases q : tC w n s = 3
    · rw [b2_t q, if_neg (by decide)]
      exact B53
    · rw [b2_f q, if_pos (by decide), s45, mCall_some, b2_t (hs.resolve_left q), if_neg (by decide)]
      exact B53
  have fr1 : frm (rL m) τ τ1 := by rw [ht1]; exact frm.one (Or.inr (Or.inr ⟨Or.inl rfl, by omega, by omega⟩))
  have h1 : lnK σ0 τ0 σ τ1 w n s D m := ln_r h fr1 (fun j z1 z2 => by rw [ht1, upS_ne (by omega)])
  obtain ⟨σ2, τ2, s1, s2, s3, s4, h2⟩ := ln_step h1
  obtain ⟨d1, d2, d3, d4, d5, d6, d7, d8⟩ := ln_g hg' h2
  have hA2 := h2.2.2.1
  have hR2 := h2.2.2.2.1
  obtain ⟨s', hs'⟩ : ∃ s', s' = nxt w n s := ⟨_, rfl⟩
  rw [← hs'] at h2 hA2 hR2
  have c2 : ∀ o, (if wI (b2 (isN w n s')) = 0 then (mCall (mX8_refuse 2 1 σ2) fun b36 s37 => mG (b36 = 0 ∨ b36 = 1) <| some (b36, s37)) else mRef (σ2 2 1) fun r12 => mRef (σ2 2 0) fun r14 => mCall (mX0_find r12 r14 σ2) fun b16 s17 => if wI b16 = (-1) then (mCall (mX8_refuse 2 3 s17) fun b32 s33 => mG (b32 = 0 ∨ b32 = 1) <| some (b32, s33)) else mRef (s17 2 1) fun r20 => mCall (mX0_addTerm r20 sv b16 s17) fun b22 s23 => mRef (s23 2 0) fun r25 => mCall (mX10_step r25 s23) fun b27 s28 => bnd ((c : Int) + 1) fun a30 => mX8_readTerms_L15 2 (fun zσ => mX8_readTerms_B128 2 zσ) N a30 s28) = o → mX8_readTerms_L15 2 (fun zσ => mX8_readTerms_B128 2 zσ) (N + 1) (c : Int) σ = o := fun o z => by
    refine c1 o ?_
    unfold mX8_readTerms_B59
    rw [gr' b3 (by omega), s1, mCall_some, gr' d3 (by omega), isN_e hA2, mCall_some]
    exact z
  have r2 : ∀ o, (mCall (mX12_must 253 (b2 (isN w n s')) 1 τ2) fun b46 s47 => if wI b46 = 0 then (some ((0 : Int), s47)) else mCall (mX12_named 253 (s47 253 8) s47) fun b50 s51 => if wI b50 < 0 then (mX12_sumLine_B134 253 (m : Int) (mX12_sumLine_L35 253 (m : Int) (fun z2 zσ => mX12_sumLine_B175 253 (m : Int) z2 zσ) N') (fun z2 zσ => mX12_sumLine_B175 253 (m : Int) z2 zσ) (c : Int) 253 0 s51) else mX12_sumLine_B134 253 (m : Int) (mX12_sumLine_L35 253 (m : Int) (fun z2 zσ => mX12_sumLine_B175 253 (m : Int) z2 zσ) N') (fun z2 zσ => mX12_sumLine_B175 253 (m : Int) z2 zσ) (c : Int) 253 1 s51) = o → mX12_sumLine_L35 253 (m : Int) (fun z2 zσ => mX12_sumLine_B175 253 (m : Int) z2 zσ) (N' + 1) (c : Int) τ = o := fun o z => by
    refine r1 o ?_
    rw [s2, mCall_some, isN_r hR2, mCall_some]
    exact z
  by_cases hn : isN w n s'
  · have t1 : tC w n s' = 1 := (tCR w n s').1.mpr hn.1
    obtain ⟨fd, hfd⟩ : ∃ fd, fd = fdF (fun k => τ2 256 (8 + k)) (nmW w n s') m 0 := ⟨_, rfl⟩
    have fc := find_c hA2 g1 d5 (by omega) t1 d8
    rw [← hfd] at fc
    have e8 : τ2 253 8 = nmW w n s' := hR2.2.2.2.2.2.1 hn.1
    have rn := named_r (x := nmW w n s') d2 d6 d7 (by omega) (nm_rng hn.1) (bn_nm d8)
    rw [← hfd] at rn
    have fdr := fdF_rng (f := fun k => τ2 256 (8 + k)) (x := nmW w n s') m 0
    rw [← hfd] at fdr
    have wfd : wI fd = fd := wI_id (x := fd) (by omega)
    obtain ⟨lf3a, lf3b, lf3c, lf3d⟩ := ln_fail h2 (c := 3) (by omega)
    have r3 : ∀ o, (if fd < 0 then (mX12_sumLine_B134 253 (m : Int) (mX12_sumLine_L35 253 (m : Int) (fun z2 zσ => mX12_sumLine_B175 253 (m : Int) z2 zσ) N') (fun z2 zσ => mX12_sumLine_B175 253 (m : Int) z2 zσ) (c : Int) 253 0 τ2) else mX12_sumLine_B134 253 (m : Int) (mX12_sumLine_L35 253 (m : Int) (fun z2 zσ => mX12_sumLine_B175 253 (m : Int) z2 zσ) N') (fun z2 zσ => mX12_sumLine_B175 253 (m : Int) z2 zσ) (c : Int) 253 1 τ2) = o → mX12_sumLine_L35 253 (m : Int) (fun z2 zσ => mX12_sumLine_B175 253 (m : Int) z2 zσ) (N' + 1) (c : Int) τ = o := fun o z => by
      refine r2 o ?_
      rw [b2_t hn, show mX12_must 253 1 1 τ2 = _ from (ln_fail h2 (c := 1) (by omega)).2.2.1, mCall_some, if_neg (by decide), e8, rn, mCall_some, wfd]
      exact z
    by_cases hf : fd = -1
    · refine ⟨_, _, Or.inl ⟨lf3d, c2 _ ?_, r3 _ ?_⟩⟩
      · rw [if_neg (by rw [b2_t hn]; decide), gr' d4 (by omega), gr' d3 (by omega), fc, mCall_some, if_pos (by rw [wfd]; exact hf), show mX8_refuse 2 3 σ2 = _ from lf3a, mCall_some, mG_pos (by decide)]
      · rw [if_pos (by omega)]
        unfold mX12_sumLine_B134
        rw [show mX12_must 253 0 3 τ2 = _ from lf3b, mCall_some, if_pos (by decide)]
    · have f0 : 0 ≤ fd ∧ fd < (m : Int) := by omega
      -- the term is added
      have t2 := trm_c (σ' := σ2) (τ' := τ2) g1 (c := c) (σ := σ) (τ := τ1) (σb := σb) (τb := τb) (m := m) (D := D) ⟨ht.1, ht.2.1, ht.2.2.1, ⟨by rw [ht1, upS_ne (by omega)]; exact ht.2.2.2.1.1, by rw [ht1, upS_ne (by omega)]; exact ht.2.2.2.1.2⟩, fun i hi => by rw [ht1, upS_ne (by omega), upS_ne (by omega)]; exact ht.2.2.2.2 i hi⟩ (s3.mono (fun i j z => tk_cR z)) (s4.mono (fun i j z => rk_rN z))
      have at3 := addTerm_e (g := sv) (t := fd) d1 g1 d5 g2 t2.1 hc
      obtain ⟨σ3, hs3⟩ : ∃ σ3, σ3 = upS (upS (upS σ2 (D + 15 + m) c fd) (D + 24 + m) c sv) (D + 2) m ((c : Int) + 1) := ⟨_, rfl⟩
      rw [← hs3] at at3
      have fc3 : frm (cL D m) σ2 σ3 := by
        rw [hs3]
        exact ((frm.one (Or.inr (Or.inr (Or.inr (Or.inr (Or.inl rfl)))))).put (Or.inr (Or.inr (Or.inr (Or.inr (Or.inr rfl)))))).put (Or.inr (Or.inr (Or.inl ⟨by omega, rfl⟩)))
      obtain ⟨τ3, ht3⟩ : ∃ τ3, τ3 = upS τ2 261 (4 * (8 + m) + c) fd := ⟨_, rfl⟩
      have fr3 : frm (rL m) τ2 τ3 := by rw [ht3]; exact frm.one (Or.inr (Or.inr ⟨Or.inr rfl, by omega, by omega⟩))
      have h3 : lnK σ0 τ0 σ3 τ3 w n s' D m := ln_r (ln_c g1 g2 h2 fc3 (fun j => by rw [hs3, upS_ne (by omega), upS_ne (by omega), upS_ne (by omega)]) (by rw [hs3, upS_ne (by omega), upS_ne (by omega), upS_ne (by omega)])) fr3 (fun j z1 z2 => by rw [ht3, upS_ne (by omega)])
      obtain ⟨e1, e2, e3, e4, e5, e6, e7, e8'⟩ := ln_g hg' h3
      obtain ⟨σ4, τ4, p1, p2, p3, p4, h4⟩ := ln_step h3
      have t260 : τ2 260 (4 * (8 + m) + c) = sv := by rw [s4 _ _ (by unfold rkW; omega), ht1, upS_same]
      have t3 : trm σb τb σ3 τ3 D m (c + 1) := by
        obtain ⟨y1, y2, ⟨y3, y4, y5⟩, ⟨y6, y7⟩, y8⟩ := t2
        refine ⟨by rw [hs3, upS_same]; omega, by rw [hs3, upS_ne (by omega), upS_ne (by omega), upS_ne (by omega)]; exact y2, ⟨by rw [hs3, upS_ne (by omega), upS_ne (by omega), upS_ne (by omega)]; exact y3, by rw [hs3, upS_ne (by omega), upS_ne (by omega), upS_ne (by omega)]; exact y4, ?_⟩, ⟨by rw [ht3, upS_ne (by omega)]; exact y6, by rw [ht3, upS_ne (by omega)]; exact y7⟩, fun i hi => ?_⟩
        · rw [← y5, hs3, upS_row (by omega), upS_row (by omega), upS_row (by omega)]
        · by_cases e : i = c
          · subst e
            rw [hs3, ht3, upS_ne (by omega), upS_ne (by omega), upS_same, upS_same, upS_ne (by omega), upS_same, upS_ne (by omega), t260]
            exact ⟨rfl, rfl, sv1, f0⟩
          · rw [hs3, ht3, upS_ne (by omega), upS_ne (by omega), upS_ne (by omega), upS_ne (by omega), upS_ne (by omega), upS_ne (by omega), upS_ne (by omega), upS_ne (by omega)]
            exact y8 i (by omega)
      refine ⟨σ4, τ4, Or.inr ⟨⟨_, h4⟩, trm_c g1 t3 (p3.mono (fun i j z => tk_cR z)) (p4.mono (fun i j z => rk_rN z)), c2 _ ?_, r3 _ ?_⟩⟩
      · rw [if_neg (by rw [b2_t hn]; decide), gr' d4 (by omega), gr' d3 (by omega), fc, mCall_some, if_neg (by rw [wfd]; exact hf), gr' d4 (by omega), at3, mCall_some, gr' e3 (by omega), p1, mCall_some, bnd_eq, show (c : Int) + 1 = ((c + 1 : Nat) : Int) by omega]
      · rw [if_neg (by omega)]
        unfold mX12_sumLine_B134
        rw [show mX12_must 253 1 3 τ2 = _ from lf3c, mCall_some, if_neg (by decide), gr' (lay253 d2).2.2.2.2.2.2.2.1 (by omega), at_r d6, mCall_some, e8, rn, mCall_some, show (4 * ((8 + m : Nat) : Int) + (c : Int)) = ((4 * (8 + m) + c : Nat) : Int) by omega, gx261 _ (by omega), wI_nat (k := 4 * (8 + m) + c) (by omega), bnd_eq, ← ht3, p2, mCall_some, bnd_eq, show (c : Int) + 1 = ((c + 1 : Nat) : Int) by omega]
  · obtain ⟨lf1a, lf1b, lf1c, lf1d⟩ := ln_fail h2 (c := 1) (by omega)
    refine ⟨_, _, Or.inl ⟨lf1d, c2 _ ?_, r2 _ ?_⟩⟩
    · rw [if_pos (by rw [b2_f hn]; decide), show mX8_refuse 2 1 σ2 = _ from lf1a, mCall_some, mG_pos (by decide)]
    · rw [b2_f hn, show mX12_must 253 0 1 τ2 = _ from lf1b, mCall_some, if_pos (by decide)]
theorem termsL {σ0 τ0 σb τb : mSt} {w : Nat → Int} {n D m : Nat} (hg : lnG σ0 τ0 D m) (h7 : τb 257 (8 + m) = 2) : ∀ (q c N N' s : Nat) (σ τ : mSt), c + q = 4 → q + 2 < N → q + 2 < N' → lnK σ0 τ0 σ τ w n s D m → trm σb τb σ τ D m c → (1 ≤ c ∨ tC w n s = 3 ∨ tC w n s = 4) → ∃ v σ' τ', mX8_readTerms_L15 2 (fun zσ => mX8_readTerms_B128 2 zσ) N (c : Int) σ = some (v, σ') ∧ mX12_sumLine_L35 253 (m : Int) (fun z2 zσ => mX12_sumLine_B175 253 (m : Int) z2 zσ) N' (c : Int) τ = some (v, τ') ∧ bdR σ0 τ0 σb τb w n D m v σ' τ' := by
  have hg' := hg
  obtain ⟨g1, g2, g3, g4, g5, g6, g7⟩ := hg
  have body : ∀ (c N N' s : Nat) (σ τ : mSt), c ≤ 4 → lnK σ0 τ0 σ τ w n s D m → trm σb τb σ τ D m c → 1 ≤ c → ¬ (tC w n s = 3 ∨ tC w n s = 4) → ∃ v σ' τ', mX8_readTerms_L15 2 (fun zσ => mX8_readTerms_B128 2 zσ) (N + 1) (c : Int) σ = some (v, σ') ∧ mX12_sumLine_L35 253 (m : Int) (fun z2 zσ => mX12_sumLine_B175 253 (m : Int) z2 zσ) (N' + 1) (c : Int) τ = some (v, τ') ∧ bdR σ0 τ0 σb τb w n D m v σ' τ' := by
    intro c N N' s σ τ hc4 h ht hc hs
    obtain ⟨b1, b2', b3, b4, b5, b6, b7, b8⟩ := ln_g hg' h
    have hA := h.2.2.1
    have hR := h.2.2.2.1
    have s43 := sign_r (v := 43) hR (by omega)
    rw [b2_iff (tCR w n s).2.2.1.symm, b2_f (fun z => hs (Or.inl z))] at s43
    have s45 := sign_r (v := 45) hR (by omega)
    rw [b2_iff (tCR w n s).2.2.2.1.symm, b2_f (fun z => hs (Or.inr z))] at s45
    obtain ⟨τ1, ht1⟩ : ∃ τ1, τ1 = upS (upS τ 258 (8 + m) (c : Int)) 259 (8 + m) 0 := ⟨_, rfl⟩
    have fr1 : frm (rL m) τ τ1 := by rw [ht1]; exact (frm.one (Or.inr (Or.inl ⟨by omega, rfl⟩))).put (Or.inr (Or.inl ⟨by omega, rfl⟩))
    have h1 : lnK σ0 τ0 σ τ1 w n s D m := ln_r h fr1 (fun j z1 z2 => by rw [ht1, upS_ne (by omega), upS_ne (by omega)])
    obtain ⟨y1, y2, ⟨y3, y4, y5⟩, ⟨y6, y7⟩, y8⟩ := ht
    have e58 : τ1 258 (8 + m) = (c : Int) := by rw [ht1, upS_ne (by omega), upS_same]
    have e59 : τ1 259 (8 + m) = 0 := by rw [ht1, upS_same]
    have e57 : τ1 257 (8 + m) = τb 257 (8 + m) := by rw [ht1, upS_ne (by omega), upS_ne (by omega)]; exact y7
    refine ⟨1, σ, τ1, ?_, ?_, Or.inr ⟨rfl, ⟨s, h1⟩, Or.inr (Or.inr ⟨by rw [e57]; exact h7, e59, by omega, by omega, fun i hi => ?_⟩), by rw [e58]; exact y1, by rw [e59]; exact y2, ⟨y3, y4, y5⟩, by rw [ht1, upS_ne (by omega), upS_ne (by omega)]; exact y6, e57⟩⟩
    · rw [mX8_readTerms_L15.eq_2, if_neg (by rw [wI_id (x := (c : Int)) (by omega)]; omega), sgC b1 hA, mCall_some, if_pos (by rw [b2_f hs]; decide)]
      rfl
    · rw [mX12_sumLine_L35.eq_2, s43, mCall_some, if_pos (by decide), s45, mCall_some, if_pos (by decide)]
      unfold mX12_sumLine_B175
      rw [gr' (lay253 b2').2.2.2.2.1 (by omega), at_r b6, mCall_some, gx258 _ (by omega), wI_nat (k := 8 + m) (by omega), bnd_eq, gr' (r := 259) (by rw [upS_ne (by omega)]; exact (lay253 b2').2.2.2.2.2.1) (by omega), at_r (by rw [upS_ne (by omega)]; exact b6), mCall_some, gx259 _ (by omega), wI_nat (k := 8 + m) (by omega), bnd_eq, ← ht1]
    · rw [e58] at hi
      rw [ht1, upS_ne (by omega), upS_ne (by omega), upS_ne (by omega), upS_ne (by omega)]
      exact y8 i (by omega)
  intro q
  induction q with
  | zero =>
    intro c N N' s σ τ h1 h2 h3 h ht hc
    obtain ⟨N, rfl⟩ : ∃ z, N = z + 1 := ⟨N - 1, by omega⟩
    obtain ⟨N', rfl⟩ : ∃ z, N' = z + 1 := ⟨N' - 1, by omega⟩
    obtain rfl : c = 4 := by omega
    by_cases hs : tC w n s = 3 ∨ tC w n s = 4
    · obtain ⟨b1, b2', b3, b4, b5, b6, b7, b8⟩ := ln_g hg' h
      have hA := h.2.2.1
      have hR := h.2.2.2.1
      have s43 := sign_r (v := 43) hR (by omega)
      rw [b2_iff (tCR w n s).2.2.1.symm] at s43
      have s45 := sign_r (v := 45) hR (by omega)
      rw [b2_iff (tCR w n s).2.2.2.1.symm] at s45
      obtain ⟨lf5a, lf5b, lf5c, lf5d⟩ := ln_fail h (c := 5) (by omega)
      have B53 : mX12_sumLine_B53 253 (m : Int) (mX12_sumLine_L35 253 (m : Int) (fun z2 zσ => mX12_sumLine_B175 253 (m : Int) z2 zσ) N') (fun z2 zσ => mX12_sumLine_B175 253 (m : Int) z2 zσ) ((4 : Nat) : Int) τ = some (0, upS (upS τ 253 9 ((5 : Nat) : Int)) 253 10 (τ 253 4)) := by
        unfold mX12_sumLine_B53
        rw [if_pos (by decide)]
        unfold mX12_sumLine_B64
        rw [show mX12_must 253 0 5 τ = _ from lf5b, mCall_some, if_pos (by decide)]
      refine ⟨0, _, _, ?_, ?_, Or.inl ⟨rfl, lf5d⟩⟩
      · rw [mX8_readTerms_L15.eq_2, if_neg (by decide), sgC b1 hA, mCall_some, if_neg (by rw [b2_t hs]; decide), gr' b4 (by omega), hasAll_e b1 g1 b5 g2 ht.1 (by omega), mCall_some, if_neg (by rw [b2_t rfl]; decide), show mX8_refuse 2 5 σ = _ from lf5a, mCall_some, mG_pos (by decide)]
      · rw [mX12_sumLine_L35.eq_2, s43, mCall_some]
        by_cases q : tC w n s = 3
        · rw [b2_t q, if_neg (by decide)]
          exact B53
        · rw [b2_f q, if_pos (by decide), s45, mCall_some, b2_t (hs.resolve_left q), if_neg (by decide)]
          exact B53
    · exact body 4 N N' s σ τ (by omega) h ht (by omega) hs
  | succ q ih =>
    intro c N N' s σ τ h1 h2 h3 h ht hc
    obtain ⟨N, rfl⟩ : ∃ z, N = z + 1 := ⟨N - 1, by omega⟩
    obtain ⟨N', rfl⟩ : ∃ z, N' = z + 1 := ⟨N' - 1, by omega⟩
    by_cases hs : tC w n s = 3 ∨ tC w n s = 4
    · obtain ⟨σ1, τ1, z⟩ := term1 (N := N) (N' := N') hg' h ht (by omega) hs
      rcases z with ⟨z1, z2, z3⟩ | ⟨⟨s1, z1⟩, z2, z3, z4⟩
      · exact ⟨0, σ1, τ1, z2, z3, Or.inl ⟨rfl, z1⟩⟩
      · rw [z3, z4]
        exact ih (c + 1) N N' s1 σ1 τ1 (by omega) (by omega) (by omega) z1 z2 (Or.inl (by omega))
    · exact body c N N' s σ τ (by omega) h ht (by omega) hs
theorem terms_e {σ0 τ0 σ τ : mSt} {w : Nat → Int} {n s D m : Nat} (hg : lnG σ0 τ0 D m) (h : lnK σ0 τ0 σ τ w n s D m) (h7 : τ 257 (8 + m) = 2) (h2 : σ (D + 2) m = 0) (h3 : σ (D + 3) m = 0) : ∃ v σ' τ', mX8_readTerms 2 σ = some (v, σ') ∧ mX12_sumLine 253 (m : Int) τ = some (v, τ') ∧ bdR σ0 τ0 σ τ w n D m v σ' τ' := by
  obtain ⟨b1, b2', b3, b4, b5, b6, b7, b8⟩ := ln_g hg h
  have hA := h.2.2.1
  have hR := h.2.2.2.1
  have s43 := sign_r (v := 43) hR (by omega)
  rw [b2_iff (tCR w n s).2.2.1.symm] at s43
  have s45 := sign_r (v := 45) hR (by omega)
  rw [b2_iff (tCR w n s).2.2.2.1.symm] at s45
  obtain ⟨lf1a, lf1b, lf1c, lf1d⟩ := ln_fail h (c := 1) (by omega)
  by_cases hs : tC w n s = 3 ∨ tC w n s = 4
  · obtain ⟨v, σ', τ', z1, z2, z3⟩ := termsL hg h7 4 0 mF mF s σ τ (by omega) (by unfold mF; omega) (by unfold mF; omega) h ⟨h2, h3, ⟨rfl, rfl, rfl⟩, ⟨rfl, rfl⟩, fun i hi => by omega⟩ (Or.inr hs)
    refine ⟨v, σ', τ', ?_, ?_, z3⟩
    · unfold mX8_readTerms
      rw [gc2, sgC b1 hA, mCall_some, if_neg (by rw [b2_t hs]; decide)]
      exact z1
    · have B26 : mX12_sumLine_B26 253 (m : Int) 0 253 1 τ = some (v, τ') := by
        unfold mX12_sumLine_B26
        rw [show mX12_must 253 1 1 τ = _ from lf1c, mCall_some, if_neg (by decide)]
        exact z2
      unfold mX12_sumLine
      rw [gc253, s43, mCall_some]
      by_cases q : tC w n s = 3
      · rw [b2_t q, if_neg (by decide)]
        exact B26
      · rw [b2_f q, if_pos (by decide), s45, mCall_some, b2_t (hs.resolve_left q), if_neg (by decide)]
        exact B26
  · refine ⟨0, _, _, ?_, ?_, Or.inl ⟨rfl, lf1d⟩⟩
    · unfold mX8_readTerms
      rw [gc2, sgC b1 hA, mCall_some, if_pos (by rw [b2_f hs]; decide), show mX8_refuse 2 1 σ = _ from lf1a, mCall_some, mG_pos (by decide)]
    · unfold mX12_sumLine
      rw [gc253, s43, mCall_some, b2_f (fun z => hs (Or.inl z)), if_pos (by decide), s45, mCall_some, b2_f (fun z => hs (Or.inr z)), if_pos (by decide)]
      unfold mX12_sumLine_B26
      rw [show mX12_must 253 0 1 τ = _ from lf1b, mCall_some, if_pos (by decide)]

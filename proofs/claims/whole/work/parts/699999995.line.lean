/-! whole lines: class, reference -/
def cXl (D i j : Nat) : Prop := cR i j ∨ (i = D ∧ j = 0) ∨ ∃ m, m < 8 ∧ cL D m i j
def rX (i j : Nat) : Prop := rN i j ∨ (i = 255 ∧ j = 1) ∨ ∃ m, m < 8 ∧ rL m i j
def stT (σ τ : mSt) (w : Nat → Int) (n s D m : Nat) : Prop := cA σ w n s ∧ rA τ w n s ∧ (D = 37 ∨ D = 69) ∧ m ≤ 8 ∧ σ 2 1 = (D : Int) ∧ σ D 0 = (m : Int) ∧ τ 253 9 = 0 ∧ τ 253 11 = 1 ∧ τ 255 1 = (m : Int) ∧ bn σ τ D m ∧ σ 2 2 = 0
theorem al2_eq {σ σ' τ τ' : mSt} {D k : Nat} (h : al2 σ τ D k) (hk : k < 8) (hc : ∀ i, D + 1 ≤ i → i ≤ D + 31 → σ' i = σ i) (hr : ∀ i, 256 ≤ i → i ≤ 261 → τ' i = τ i) : al2 σ' τ' D k := by
  unfold al2 at h ⊢
  have se : ∀ q, spellF σ' (D + 6 + k) q = spellF σ (D + 6 + k) q := by
    intro q
    induction q with
    | zero => rfl
    | succ q ih =>
      show 32 * spellF σ' (D + 6 + k) q + (σ' (D + 6 + k) q - 96) = 32 * spellF σ (D + 6 + k) q + (σ (D + 6 + k) q - 96)
      rw [ih, hc _ (by omega) (by omega)]
  simp only [se, hc (D + 1) (by omega) (by omega), hc (D + 2) (by omega) (by omega), hc (D + 3) (by omega) (by omega), hc (D + 4) (by omega) (by omega), hc (D + 6 + k) (by omega) (by omega), hc (D + 15 + k) (by omega) (by omega), hc (D + 24 + k) (by omega) (by omega), hr 256 (by omega) (by omega), hr 257 (by omega) (by omega), hr 258 (by omega) (by omega), hr 259 (by omega) (by omega), hr 260 (by omega) (by omega), hr 261 (by omega) (by omega)]
  exact h
theorem cXl_fix {D i j : Nat} (hD : D = 37 ∨ D = 69) (h : cXl D i j) : fixR i j = false := by
  rcases h with h | ⟨rfl, rfl⟩ | ⟨m, hm, h⟩
  · exact cR_fix h
  · rcases hD with rfl | rfl <;> decide +kernel
  · exact cL_fix hD hm h
theorem rX_fix {i j : Nat} (h : rX i j) : fixR i j = false := by
  rcases h with h | ⟨rfl, rfl⟩ | ⟨m, hm, h⟩
  · exact rN_fix h
  · exact fixR_data (by decide) _
  · exact rL_fix h
/-- behind the body: the sign that ends a line -/
theorem end_e {σ0 τ0 σ τ : mSt} {w : Nat → Int} {n s D m : Nat} (hg : lnG σ0 τ0 D m) (h : lnK σ0 τ0 σ τ w n s D m) (hal : al2 σ τ D m) : ∃ v σ' τ', mX8_readLine_B90 2 σ = some (v, σ') ∧ mX12_lineHere_B147 253 1 τ = some (v, τ') ∧ ((v = 0 ∧ lnF σ0 τ0 σ' τ' D m) ∨ (v = 1 ∧ (∃ s', stT σ' τ' w n s' D (m + 1)) ∧ frm (cXl D) σ0 σ' ∧ frm rX τ0 τ')) := by
  have hg' := hg
  obtain ⟨g1, g2, g3, g4, g5, g6, g7⟩ := hg
  obtain ⟨b1, b2', b3, b4, b5, b6, b7, b8⟩ := ln_g hg' h
  have hA := h.2.2.1
  have hR := h.2.2.2.1
  have s59 := sign_r (v := 59) hR (by omega)
  rw [b2_iff (tCR w n s).2.2.2.2.1.symm] at s59
  obtain ⟨lf1a, lf1b, lf1c, lf1d⟩ := ln_fail h (c := 1) (by omega)
  by_cases t5 : tC w n s = 5
  · obtain ⟨σ1, τ1, s1, s2, s3, s4, h1⟩ := ln_step h
    obtain ⟨d1, d2, d3, d4, d5, d6, d7, d8⟩ := ln_g hg' h1
    have hA1 := h1.2.2.1
    have hR1 := h1.2.2.2.1
    obtain ⟨σ2, hs2⟩ : ∃ σ2, σ2 = upS σ1 D 0 ((m : Int) + 1) := ⟨_, rfl⟩
    obtain ⟨τ2, ht2⟩ : ∃ τ2, τ2 = upS τ1 255 1 ((m : Int) + 1) := ⟨_, rfl⟩
    have fc : frm (cXl D) σ1 σ2 := by rw [hs2]; exact frm.one (Or.inr (Or.inl ⟨rfl, rfl⟩))
    have fr : frm rX τ1 τ2 := by rw [ht2]; exact frm.one (Or.inr (Or.inl ⟨rfl, rfl⟩))
    have oc : ∀ i, i ≠ D → σ2 i = σ1 i := fun i hi => by rw [hs2]; exact upS_row hi
    have or' : ∀ i, i ≠ 255 → τ2 i = τ1 i := fun i hi => by rw [ht2]; exact upS_row hi
    refine ⟨1, σ2, τ2, ?_, ?_, Or.inr ⟨rfl, ⟨nxt w n s, ?_⟩, ?_, ?_⟩⟩
    · unfold mX8_readLine_B90
      rw [gr' b3 (by omega), is_tc hA (by omega), mCall_some, if_neg (by rw [b2_t t5]; decide), gr' b3 (by omega), s1, mCall_some, gr' d4 (by omega), finish_e d1 g1 d5 g2, mCall_some, ← hs2]
    · unfold mX12_lineHere_B147
      rw [if_neg (by decide), s59, mCall_some, b2_t t5, show mX12_must 253 1 1 τ = _ from lf1c, mCall_some, if_neg (by decide), s2, mCall_some, gr' (lay253 d2).2.1 (by omega), d6, gx255 _ (by omega), show (wI 1).toNat = 1 by decide, d7, bnd_eq, ← ht2]
    · refine ⟨cA_fr hA1 (d1.frm fc (fun i j z => cXl_fix g1 z)) (oc 3 (by omega)) (oc 1 (by omega)), rA_fr hR1 (d2.frm fr (fun i j z => rX_fix z)) (fun j _ _ => by rw [or' 253 (by omega)]) (or' 254 (by omega)), g1, by omega, by rw [oc 2 (by omega)]; exact d4, by rw [hs2, upS_same]; omega, by rw [or' 253 (by omega)]; exact h1.2.2.2.2.1, by rw [or' 253 (by omega)]; exact d6, by rw [ht2, upS_same]; omega, fun k hk => ?_, by rw [oc 2 (by omega)]; exact h1.2.2.2.2.2⟩
      have ec : ∀ i, D + 1 ≤ i → i ≤ D + 31 → σ2 i = σ i := fun i z1 z2 => by
        rw [oc i (by omega)]
        exact funext fun j => s3 i j (by unfold tkW; omega)
      have er : ∀ i, 256 ≤ i → i ≤ 261 → τ2 i = τ i := fun i z1 z2 => by
        rw [or' i (by omega)]
        exact funext fun j => s4 i j (by unfold rkW; omega)
      by_cases e : k = m
      · rw [e]
        exact al2_eq hal g2 ec er
      · exact al2_eq (b8 k (by omega)) (by omega) ec er
    · exact (h1.1.mono (fun i j z => Or.inr (Or.inr ⟨m, g2, z⟩))).tr fc (fun i j z => z)
    · exact (h1.2.1.mono (fun i j z => Or.inr (Or.inr ⟨m, g2, z⟩))).tr fr (fun i j z => z)
  · refine ⟨0, _, _, ?_, ?_, Or.inl ⟨rfl, lf1d⟩⟩
    · unfold mX8_readLine_B90
      rw [gr' b3 (by omega), is_tc hA (by omega), mCall_some, if_pos (by rw [b2_f t5]; decide), show mX8_refuse 2 1 σ = _ from lf1a, mCall_some, mG_pos (by decide)]
    · unfold mX12_lineHere_B147
      rw [if_neg (by decide), s59, mCall_some, b2_f t5, show mX12_must 253 0 1 τ = _ from lf1b, mCall_some, if_pos (by decide)]
/-- a line's name -/
theorem name_e {σ0 τ0 σ τ τp : mSt} {w : Nat → Int} {n s D m : Nat} {kd : Int} (hg : lnG σ0 τ0 D m) (h : lnK σ0 τ0 σ τ w n s D m) (hst : mX12_steps 253 τp = some (0, τ)) : ∃ v σ' τ', mX8_readNewName 2 kd σ = some (v, σ') ∧ mX12_newName 253 τp = some (v, τ') ∧ ((v = 0 ∧ lnF σ0 τ0 σ' τ' D m) ∨ (v = 1 ∧ (∃ s', lnK σ0 τ0 σ' τ' w n s' D m) ∧ σ' (D + 1) m = kd ∧ σ' (D + 2) m = 0 ∧ σ' (D + 3) m = 0 ∧ ∃ l : Nat, 1 ≤ l ∧ l ≤ 10 ∧ σ' (D + 4) m = (l : Int) ∧ (∀ i, i < l → 97 ≤ σ' (D + 6 + m) i ∧ σ' (D + 6 + m) i ≤ 122) ∧ τ' 256 (8 + m) = spellF σ' (D + 6 + m) l)) := by
  have hg' := hg
  obtain ⟨g1, g2, g3, g4, g5, g6, g7⟩ := hg
  obtain ⟨b1, b2', b3, b4, b5, b6, b7, b8⟩ := ln_g hg' h
  have hA := h.2.2.1
  have hR := h.2.2.2.1
  have c1 : ∀ o, (if wI (b2 (isN w n s)) = 0 then (mCall (mX8_refuse 2 1 σ) fun b31 s32 => mG (b31 = 0 ∨ b31 = 1) <| some (b31, s32)) else mRef (σ 2 1) fun r7 => mRef (σ 2 0) fun r9 => mCall (mX0_find r7 r9 σ) fun b11 s12 => if wI b11 = (-1) then (mRef (s12 2 1) fun r15 => mRef (s12 2 0) fun r17 => mCall (mX0_begin r15 kd r17 s12) fun b19 s20 => mRef (s20 2 0) fun r22 => mCall (mX10_step r22 s20) fun b24 s25 => some ((1 : Int), s25)) else mCall (mX8_refuse 2 2 s12) fun b27 s28 => mG (b27 = 0 ∨ b27 = 1) <| some (b27, s28)) = o → mX8_readNewName 2 kd σ = o := fun o z => by
    unfold mX8_readNewName
    rw [gc2, gr' b3 (by omega), isN_e hA, mCall_some]
    exact z
  have r1 : ∀ o, (mCall (mX12_must 253 (b2 (isN w n s)) 1 τ) fun b25 s26 => if wI b25 = 0 then (some ((0 : Int), s26)) else mCall (mX12_named 253 (s26 253 8) s26) fun b29 s30 => if 0 ≤ wI b29 then (mX12_newName_B33 253 253 0 s30) else mX12_newName_B33 253 253 1 s30) = o → mX12_newName 253 τp = o := fun o z => by
    unfold mX12_newName
    rw [gc253, hst, mCall_some, isN_r hR, mCall_some]
    exact z
  by_cases hn : isN w n s
  · have t1 : tC w n s = 1 := (tCR w n s).1.mpr hn.1
    obtain ⟨fd, hfd⟩ : ∃ fd, fd = fdF (fun k => τ 256 (8 + k)) (nmW w n s) m 0 := ⟨_, rfl⟩
    have fc := find_c hA g1 b5 (by omega) t1 b8
    rw [← hfd] at fc
    have e8 : τ 253 8 = nmW w n s := hR.2.2.2.2.2.1 hn.1
    have rn := named_r (x := nmW w n s) b2' b6 b7 (by omega) (nm_rng hn.1) (bn_nm b8)
    rw [← hfd] at rn
    have fdr := fdF_rng (f := fun k => τ 256 (8 + k)) (x := nmW w n s) m 0
    rw [← hfd] at fdr
    have wfd : wI fd = fd := wI_id (x := fd) (by omega)
    obtain ⟨lf2a, lf2b, lf2c, lf2d⟩ := ln_fail h (c := 2) (by omega)
    have r2 : ∀ o, (if 0 ≤ fd then (mX12_newName_B33 253 253 0 τ) else mX12_newName_B33 253 253 1 τ) = o → mX12_newName 253 τp = o := fun o z => by
      refine r1 o ?_
      rw [b2_t hn, show mX12_must 253 1 1 τ = _ from (ln_fail h (c := 1) (by omega)).2.2.1, mCall_some, if_neg (by decide), e8, rn, mCall_some, wfd]
      exact z
    by_cases hf : fd = -1
    · obtain ⟨σ1, q1, q2, q3, q4, q5, q6, q7⟩ := begin_c (kd := kd) hA g1 b5 g2 t1
      obtain ⟨u1, u2, u3, u4, u5, u6⟩ := tC_1 t1
      have fc1 : frm (cL D m) σ σ1 := q2.mono (fun i j z => z.elim (fun y => Or.inr (Or.inr (Or.inl y))) (fun y => Or.inr (Or.inr (Or.inr (Or.inl y)))))
      obtain ⟨τ1, ht1⟩ : ∃ τ1, τ1 = upS τ 256 (8 + m) (nmW w n s) := ⟨_, rfl⟩
      have fr1 : frm (rL m) τ τ1 := by rw [ht1]; exact frm.one (Or.inr (Or.inl ⟨by omega, rfl⟩))
      have h1 : lnK σ0 τ0 σ1 τ1 w n s D m := ln_r (ln_c g1 g2 h fc1 (fun j => q2 _ _ (by omega)) (q2 _ _ (by omega))) fr1 (fun j z1 z2 => by rw [ht1, upS_ne (by omega)])
      obtain ⟨e1, e2, e3, e4, e5, e6, e7, e8'⟩ := ln_g hg' h1
      obtain ⟨σ2, τ2, p1, p2, p3, p4, h2⟩ := ln_step h1
      have o2 : ∀ i, 4 ≤ i → σ2 i = σ1 i := fun i hi => funext fun j => p3 i j (by unfold tkW; omega)
      refine ⟨1, σ2, τ2, c1 _ ?_, r2 _ ?_, Or.inr ⟨rfl, ⟨_, h2⟩, by rw [o2 _ (by omega)]; exact q3, by rw [o2 _ (by omega)]; exact q4, by rw [o2 _ (by omega)]; exact q5, tE w n s - s, by omega, by omega, by rw [o2 _ (by omega)]; exact q6, fun i hi => ?_, ?_⟩⟩
      · rw [if_neg (by rw [b2_t hn]; decide), gr' b4 (by omega), gr' b3 (by omega), fc, mCall_some, if_pos (by rw [wfd]; exact hf), gr' b4 (by omega), gr' b3 (by omega), q1, mCall_some, gr' e3 (by omega), p1, mCall_some]
      · rw [if_neg (by omega)]
        unfold mX12_newName_B33
        rw [show mX12_must 253 1 2 τ = _ from lf2c, mCall_some, if_neg (by decide), gr' (lay253 b2').2.2.1 (by omega), gr' (lay253 b2').2.1 (by omega), b6, gx255 _ (by omega), show (wI 1).toNat = 1 by decide, b7, at_r b6, mCall_some, gx256 _ (by omega), wI_nat (k := 8 + m) (by omega), e8, bnd_eq, ← ht1, p2, mCall_some]
      · rw [o2 _ (by omega), q7 i hi]
        exact u2 (s + i) (by omega) (by omega)
      · rw [p4 _ _ (by unfold rkW; omega), ht1, upS_same, spell_pk, o2 _ (by omega)]
        exact (pk_inj (f := w) (g := σ1 (D + 6 + m)) (s := s) (t := 0) (tE w n s - s) (tE w n s - s) (fun j hj => u2 (s + j) (by omega) (by omega)) (fun j hj => by rw [Nat.zero_add, q7 j hj]; exact u2 (s + j) (by omega) (by omega))).mpr ⟨rfl, fun j hj => by rw [Nat.zero_add, q7 j hj]⟩
    · refine ⟨0, _, _, c1 _ ?_, r2 _ ?_, Or.inl ⟨rfl, lf2d⟩⟩
      · rw [if_neg (by rw [b2_t hn]; decide), gr' b4 (by omega), gr' b3 (by omega), fc, mCall_some, if_neg (by rw [wfd]; exact hf), show mX8_refuse 2 2 σ = _ from lf2a, mCall_some, mG_pos (by decide)]
      · rw [if_pos (by omega)]
        unfold mX12_newName_B33
        rw [show mX12_must 253 0 2 τ = _ from lf2b, mCall_some, if_pos (by decide)]
  · obtain ⟨lf1a, lf1b, lf1c, lf1d⟩ := ln_fail h (c := 1) (by omega)
    refine ⟨0, _, _, c1 _ ?_, r1 _ ?_, Or.inl ⟨rfl, lf1d⟩⟩
    · rw [if_pos (by rw [b2_f hn]; decide), show mX8_refuse 2 1 σ = _ from lf1a, mCall_some, mG_pos (by decide)]
    · rw [b2_f hn, show mX12_must 253 0 1 τ = _ from lf1b, mCall_some, if_pos (by decide)]
theorem lnF_X {σ0 τ0 σ τ : mSt} {D m : Nat} (hm : m < 8) (h : lnF σ0 τ0 σ τ D m) : frm (cXl D) σ0 σ ∧ frm rX τ0 τ ∧ flt σ τ := ⟨h.1.mono (fun i j z => Or.inr (Or.inr ⟨m, hm, z⟩)), h.2.1.mono (fun i j z => Or.inr (Or.inr ⟨m, hm, z⟩)), h.2.2⟩
theorem lk_cases (w : Nat → Int) (n s : Nat) : lkF w n s = -1 ∨ lkF w n s = 0 ∨ lkF w n s = 1 ∨ lkF w n s = 2 := by
  unfold lkF
  by_cases c0 : tR w n s = 1 ∧ nmW w n s = wdK 0
  · rw [if_pos c0]; omega
  · rw [if_neg c0]
    by_cases c1 : tR w n s = 1 ∧ nmW w n s = wdK 1
    · rw [if_pos c1]; omega
    · rw [if_neg c1]
      by_cases c2 : tR w n s = 1 ∧ nmW w n s = wdK 2
      · rw [if_pos c2]; omega
      · rw [if_neg c2]; omega
theorem lk_r {τ : mSt} {w : Nat → Int} {n s : Nat} (h : rA τ w n s) : mX12_lineHere 253 τ = mX12_lineHere_B40 253 (lkF w n s) τ := by
  unfold mX12_lineHere
  rw [gc253, isW_r h (by omega), mCall_some]
  unfold lkF
  by_cases c0 : tR w n s = 1 ∧ nmW w n s = wdK 0
  · rw [b2_t c0, if_neg (by decide), if_pos c0]
  · rw [b2_f c0, if_pos (by decide), if_neg c0, isW_r h (by omega), mCall_some]
    by_cases c1 : tR w n s = 1 ∧ nmW w n s = wdK 1
    · rw [b2_t c1, if_neg (by decide), if_pos c1]
    · rw [b2_f c1, if_pos (by decide), if_neg c1, isW_r h (by omega), mCall_some]
      by_cases c2 : tR w n s = 1 ∧ nmW w n s = wdK 2
      · rw [b2_t c2, if_neg (by decide), if_pos c2]
      · rw [b2_f c2, if_pos (by decide), if_neg c2]
theorem line_e {σ τ : mSt} {w : Nat → Int} {n s D m : Nat} (h : stT σ τ w n s D m) : ∃ v σ' τ', mX8_readLine 2 σ = some (v, σ') ∧ mX12_lineHere 253 τ = some (v, τ') ∧ frm (cXl D) σ σ' ∧ frm rX τ τ' ∧ ((v = 0 ∧ flt σ' τ') ∨ (v = 1 ∧ m < 8 ∧ ∃ s', stT σ' τ' w n s' D (m + 1))) := by
  obtain ⟨hA, hR, hD, hm, h21, hD0, h9, h11, h255, hb, h22⟩ := h
  have hL := hA.1.1
  have hL2 := hR.1.1
  have n6 := hA.1.2.2.2.1
  have sn := hA.2.1
  have lc := lk_cases w n s
  obtain ⟨kd, hkd⟩ : ∃ kd, kd = lkF w n s := ⟨_, rfl⟩
  rw [← hkd] at lc
  have lk := lk_e hA
  have lr := lk_r hR
  rw [← hkd] at lk lr
  have wk : wI kd = kd := wI_id (x := kd) (by omega)
  -- refusing at once
  have ref : ∀ c : Nat, 1 ≤ c ∧ c ≤ 5 → mX8_refuse 2 (c : Int) σ = some (0, upS σ 2 2 (8 * (s : Int) + c)) ∧ mX12_must 253 0 (c : Int) τ = some (0, upS (upS τ 253 9 c) 253 10 (τ 253 4)) ∧ mX12_must 253 1 (c : Int) τ = some (1, τ) ∧ frm (cXl D) σ (upS σ 2 2 (8 * (s : Int) + c)) ∧ frm rX τ (upS (upS τ 253 9 c) 253 10 (τ 253 4)) ∧ flt (upS σ 2 2 (8 * (s : Int) + c)) (upS (upS τ 253 9 c) 253 10 (τ 253 4)) := fun c hc => by
    refine ⟨refuse_c hA hL, ?_, ?_, frm.one (Or.inl (Or.inr ⟨rfl, Or.inl rfl⟩)), (frm.one (Or.inl ⟨rfl, by omega⟩)).put (Or.inl ⟨rfl, by omega⟩), c, s, hc, by omega, by rw [upS_same], by rw [upS_ne (by omega), upS_same], by rw [upS_same]; exact hR.2.2.1⟩
    · rw [must_r h9 (by omega) (Or.inl rfl), if_pos rfl]
    · rw [must_r h9 (by omega) (Or.inr rfl), if_neg (by decide)]
  by_cases k0 : kd = -1
  · obtain ⟨a1, a2, a3, a4, a5, a6⟩ := ref 1 (by omega)
    refine ⟨0, _, _, ?_, ?_, a4, a5, Or.inl ⟨rfl, a6⟩⟩
    · unfold mX8_readLine
      rw [gc2, gr' (l20 hL) (by omega), lk, mCall_some, if_pos (by rw [wk]; exact k0), show mX8_refuse 2 1 σ = _ from a1, mCall_some, mG_pos (by decide)]
    · rw [lr]
      unfold mX12_lineHere_B40
      rw [if_pos (by rw [wk]; omega)]
      unfold mX12_lineHere_B51
      rw [show mX12_must 253 0 1 τ = _ from a2, mCall_some, if_pos (by decide)]
  · have k02 : kd = 0 ∨ kd = 1 ∨ kd = 2 := by omega
    obtain ⟨a1, a2, a3, a4, a5, a6⟩ := ref 5 (by omega)
    have c1 : ∀ o, (if wI (b2 (m = 8)) = 0 then (mRef (σ 2 0) fun r33 => mCall (mX10_step r33 σ) fun b35 s36 => mCall (mX8_readNewName 2 kd s36) fun b38 s39 => if wI b38 = 0 then (some ((0 : Int), s39)) else if wI kd = 0 then (mCall (mX8_readSides 2 s39) fun b52 s53 => if wI b52 = 0 then (some (0, s53)) else mX8_readLine_B90 2 s53) else if wI kd = 1 then (mCall (mX8_readField 2 s39) fun b48 s49 => if wI b48 = 0 then (some (0, s49)) else mX8_readLine_B90 2 s49) else mCall (mX8_readTerms 2 s39) fun b44 s45 => if wI b44 = 0 then (some (0, s45)) else mX8_readLine_B90 2 s45) else mCall (mX8_refuse 2 5 σ) fun b56 s57 => mG (b56 = 0 ∨ b56 = 1) <| some (b56, s57)) = o → mX8_readLine 2 σ = o := fun o z => by
      unfold mX8_readLine
      rw [gc2, gr' (l20 hL) (by omega), lk, mCall_some, if_neg (by rw [wk]; exact k0), gr' h21 (by omega), isFull_e hL hD hD0 hm, mCall_some]
      exact z
    have r1 : ∀ o, (if 8 ≤ (m : Int) then (mX12_lineHere_B78 253 kd 253 0 τ) else mX12_lineHere_B78 253 kd 253 1 τ) = o → mX12_lineHere 253 τ = o := fun o z => by
      rw [lr]
      unfold mX12_lineHere_B40
      rw [if_neg (by rw [wk]; omega)]
      unfold mX12_lineHere_B51
      rw [show mX12_must 253 1 1 τ = _ from (ref 1 (by omega)).2.2.1, mCall_some, if_neg (by decide), gr' (lay253 hL2).2.1 (by omega), h11, gx255 _ (by omega), show (wI 1).toNat = 1 by decide, h255, wI_id (x := (m : Int)) (by omega)]
      exact z
    by_cases m8 : m = 8
    · refine ⟨0, _, _, c1 _ ?_, r1 _ ?_, a4, a5, Or.inl ⟨rfl, a6⟩⟩
      · rw [if_neg (by rw [b2_t m8]; decide), show mX8_refuse 2 5 σ = _ from a1, mCall_some, mG_pos (by decide)]
      · rw [if_pos (by omega)]
        unfold mX12_lineHere_B78
        rw [show mX12_must 253 0 5 τ = _ from a2, mCall_some, if_pos (by decide)]
    · have m7 : m < 8 := by omega
      have hg : lnG σ τ D m := ⟨hD, m7, h21, hD0, h11, h255, hb⟩
      have hk0 : lnK σ τ σ τ w n s D m := ⟨frm.rf σ, frm.rf τ, hA, hR, h9, h22⟩
      obtain ⟨σ1, τ1, s1, s2, s3, s4, h1⟩ := ln_step hk0
      obtain ⟨v2, σ2, τ2, n1, n2, n3⟩ := name_e (kd := kd) hg h1 s2
      have c2 : ∀ o, (if wI v2 = 0 then (some ((0 : Int), σ2)) else if wI kd = 0 then (mCall (mX8_readSides 2 σ2) fun b52 s53 => if wI b52 = 0 then (some (0, s53)) else mX8_readLine_B90 2 s53) else if wI kd = 1 then (mCall (mX8_readField 2 σ2) fun b48 s49 => if wI b48 = 0 then (some (0, s49)) else mX8_readLine_B90 2 s49) else mCall (mX8_readTerms 2 σ2) fun b44 s45 => if wI b44 = 0 then (some (0, s45)) else mX8_readLine_B90 2 s45) = o → mX8_readLine 2 σ = o := fun o z => by
        refine c1 o ?_
        rw [if_pos (by rw [b2_f m8]; decide), gr' (l20 hL) (by omega), s1, mCall_some, n1, mCall_some]
        exact z
      have r2 : ∀ o, (if wI v2 = 0 then (some ((0 : Int), τ2)) else mRef (τ2 253 12) fun r25 => mG (ixOK r25 20 (τ2 253 11)) <| bnd (τ2 r25 (wI (τ2 253 11)).toNat) fun a28 => mRef (τ2 253 14) fun r30 => mCall (mX12_at 253 a28 τ2) fun b32 s33 => mG (ixOK r30 20 b32) <| bnd (upS s33 r30 (wI b32).toNat kd) fun s36 => if wI kd = 0 then (mCall (mX12_quaternionLine 253 a28 s36) fun b46 s47 => mX12_lineHere_B147 253 b46 s47) else if wI kd = 1 then (mCall (mX12_cyclicLine 253 a28 s36) fun b43 s44 => mX12_lineHere_B147 253 b43 s44) else mCall (mX12_sumLine 253 a28 s36) fun b40 s41 => mX12_lineHere_B147 253 b40 s41) = o → mX12_lineHere 253 τ = o := fun o z => by
        refine r1 o ?_
        rw [if_neg (by omega)]
        unfold mX12_lineHere_B78
        rw [show mX12_must 253 1 5 τ = _ from a3, mCall_some, if_neg (by decide), n2, mCall_some]
        exact z
      rcases n3 with ⟨rfl, n4⟩ | ⟨rfl, ⟨sx, n4⟩, n5, n6', n7, l, l1, l2, l3, l4, l5⟩
      · obtain ⟨x1, x2, x3⟩ := lnF_X m7 n4
        exact ⟨0, σ2, τ2, c2 _ (by rw [if_pos (by decide)]), r2 _ (by rw [if_pos (by decide)]), x1, x2, Or.inl ⟨rfl, x3⟩⟩
      · obtain ⟨d1, d2, d3, d4, d5, d6, d7, d8⟩ := ln_g hg n4
        obtain ⟨τ3, ht3⟩ : ∃ τ3, τ3 = upS τ2 257 (8 + m) kd := ⟨_, rfl⟩
        have fr3 : frm (rL m) τ2 τ3 := by rw [ht3]; exact frm.one (Or.inr (Or.inl ⟨by omega, rfl⟩))
        have h3 : lnK σ τ σ2 τ3 w n sx D m := ln_r n4 fr3 (fun j z1 z2 => by rw [ht3, upS_ne (by omega)])
        have e57 : τ3 257 (8 + m) = kd := by rw [ht3, upS_same]
        have r3 : ∀ o, (if kd = 0 then (mCall (mX12_quaternionLine 253 (m : Int) τ3) fun b46 s47 => mX12_lineHere_B147 253 b46 s47) else if kd = 1 then (mCall (mX12_cyclicLine 253 (m : Int) τ3) fun b43 s44 => mX12_lineHere_B147 253 b43 s44) else mCall (mX12_sumLine 253 (m : Int) τ3) fun b40 s41 => mX12_lineHere_B147 253 b40 s41) = o → mX12_lineHere 253 τ = o := fun o z => by
          refine r2 o ?_
          rw [if_neg (by decide), gr' (lay253 d2).2.1 (by omega), d6, gx255 _ (by omega), show (wI 1).toNat = 1 by decide, d7, bnd_eq, gr' (lay253 d2).2.2.2.1 (by omega), at_r d6, mCall_some, gx257 _ (by omega), wI_nat (k := 8 + m) (by omega), bnd_eq, ← ht3, wk]
          exact z
        have c3 : ∀ o, (if kd = 0 then (mCall (mX8_readSides 2 σ2) fun b52 s53 => if wI b52 = 0 then (some ((0 : Int), s53)) else mX8_readLine_B90 2 s53) else if kd = 1 then (mCall (mX8_readField 2 σ2) fun b48 s49 => if wI b48 = 0 then (some (0, s49)) else mX8_readLine_B90 2 s49) else mCall (mX8_readTerms 2 σ2) fun b44 s45 => if wI b44 = 0 then (some (0, s45)) else mX8_readLine_B90 2 s45) = o → mX8_readLine 2 σ = o := fun o z => by
          refine c2 o ?_
          rw [if_neg (by decide), wk]
          exact z
        -- behind a body
        have tail : ∀ v3 σ3 τ3', bdR σ τ σ2 τ3 w n D m v3 σ3 τ3' → (∀ o, (if wI v3 = 0 then (some ((0 : Int), σ3)) else mX8_readLine_B90 2 σ3) = o → mX8_readLine 2 σ = o) → (∀ o, mX12_lineHere_B147 253 v3 τ3' = o → mX12_lineHere 253 τ = o) → ∃ v σ' τ', mX8_readLine 2 σ = some (v, σ') ∧ mX12_lineHere 253 τ = some (v, τ') ∧ frm (cXl D) σ σ' ∧ frm rX τ τ' ∧ ((v = 0 ∧ flt σ' τ') ∨ (v = 1 ∧ m < 8 ∧ ∃ s', stT σ' τ' w n s' D (m + 1))) := by
          intro v3 σ3 τ3' hb3 hc hr
          rcases hb3 with ⟨rfl, y⟩ | ⟨rfl, ⟨s5, y1⟩, y2, y3, y4, ⟨y5, y6, y7⟩, y8, y9⟩
          · obtain ⟨x1, x2, x3⟩ := lnF_X m7 y
            exact ⟨0, σ3, τ3', hc _ (by rw [if_pos (by decide)]), hr _ (by unfold mX12_lineHere_B147; rw [if_pos (by decide)]), x1, x2, Or.inl ⟨rfl, x3⟩⟩
          · have al : al2 σ3 τ3' D m := by
              refine ⟨by rw [y5, y9, e57]; exact n5, y3, y4, ⟨l, l1, l2, by rw [y6]; exact l3, fun i hi => by rw [y7]; exact l4 i hi, ?_⟩, y2⟩
              rw [y8, ht3, upS_ne (by omega), l5, spell_pk, spell_pk, y7]
            obtain ⟨v, σ', τ', e1, e2, e3⟩ := end_e hg y1 al
            refine ⟨v, σ', τ', hc _ (by rw [if_neg (by decide)]; exact e1), hr _ e2, ?_⟩
            rcases e3 with ⟨rfl, e4⟩ | ⟨rfl, e4, e5, e6⟩
            · obtain ⟨x1, x2, x3⟩ := lnF_X m7 e4
              exact ⟨x1, x2, Or.inl ⟨rfl, x3⟩⟩
            · exact ⟨e5, e6, Or.inr ⟨rfl, m7, e4⟩⟩
        rcases k02 with e | e | e
        · obtain ⟨v3, σ3, τ3', p1, p2, p3⟩ := sides_e hg h3 (by rw [e57]; exact e)
          exact tail v3 σ3 τ3' p3 (fun o z => c3 o (by rw [if_pos e, p1, mCall_some]; exact z)) (fun o z => r3 o (by rw [if_pos e, p2, mCall_some]; exact z))
        · obtain ⟨v3, σ3, τ3', p1, p2, p3⟩ := field_e hg h3 (by rw [e57]; exact e)
          exact tail v3 σ3 τ3' p3 (fun o z => c3 o (by rw [if_neg (by omega), if_pos e, p1, mCall_some]; exact z)) (fun o z => r3 o (by rw [if_neg (by omega), if_pos e, p2, mCall_some]; exact z))
        · obtain ⟨v3, σ3, τ3', p1, p2, p3⟩ := terms_e hg h3 (by rw [e57]; exact e) n6' n7
          exact tail v3 σ3 τ3' p3 (fun o z => c3 o (by rw [if_neg (by omega), if_neg (by omega), p1, mCall_some]; exact z)) (fun o z => r3 o (by rw [if_neg (by omega), if_neg (by omega), p2, mCall_some]; exact z))

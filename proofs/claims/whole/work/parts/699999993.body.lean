/-! the bodies of lines: class, reference -/
def flt (σ τ : mSt) : Prop := ∃ c p : Nat, (1 ≤ c ∧ c ≤ 5) ∧ p ≤ 600 ∧ σ 2 2 = 8 * (p : Int) + c ∧ τ 253 9 = (c : Int) ∧ τ 253 10 = (p : Int)
def lnF (σ0 τ0 σ τ : mSt) (D m : Nat) : Prop := frm (cL D m) σ0 σ ∧ frm (rL m) τ0 τ ∧ flt σ τ
def lnK (σ0 τ0 σ τ : mSt) (w : Nat → Int) (n s D m : Nat) : Prop := frm (cL D m) σ0 σ ∧ frm (rL m) τ0 τ ∧ cA σ w n s ∧ rA τ w n s ∧ τ 253 9 = 0 ∧ σ 2 2 = 0
/-- a line's ground -/
def lnG (σ0 τ0 : mSt) (D m : Nat) : Prop := (D = 37 ∨ D = 69) ∧ m < 8 ∧ σ0 2 1 = (D : Int) ∧ σ0 D 0 = (m : Int) ∧ τ0 253 11 = 1 ∧ τ0 255 1 = (m : Int) ∧ bn σ0 τ0 D m
theorem ln_g {σ0 τ0 σ τ : mSt} {w : Nat → Int} {n s D m : Nat} (hg : lnG σ0 τ0 D m) (h : lnK σ0 τ0 σ τ w n s D m) : Lay σ ∧ Lay τ ∧ σ 2 0 = ((3 : Nat) : Int) ∧ σ 2 1 = (D : Int) ∧ σ D 0 = (m : Int) ∧ τ 253 11 = 1 ∧ τ 255 1 = (m : Int) ∧ bn σ τ D m := by
  obtain ⟨g1, g2, g3, g4, g5, g6, g7⟩ := hg
  obtain ⟨f1, f2, hA, hR, -, -⟩ := h
  exact ⟨hA.1.1, hR.1.1, l20 hA.1.1, by rw [f1 _ _ (by unfold cL tkW; omega)]; exact g3, by rw [f1 _ _ (by unfold cL tkW; omega)]; exact g4, by rw [f2 _ _ (by unfold rL; omega)]; exact g5, by rw [f2 _ _ (by unfold rL; omega)]; exact g6, bn_fr g1 g2 g7 f1 f2⟩
theorem ln_fail {σ0 τ0 σ τ : mSt} {w : Nat → Int} {n s D m : Nat} (h : lnK σ0 τ0 σ τ w n s D m) {c : Nat} (hc : 1 ≤ c ∧ c ≤ 5) : mX8_refuse 2 (c : Int) σ = some (0, upS σ 2 2 (8 * (s : Int) + c)) ∧ mX12_must 253 0 (c : Int) τ = some (0, upS (upS τ 253 9 c) 253 10 (τ 253 4)) ∧ mX12_must 253 1 (c : Int) τ = some (1, τ) ∧ lnF σ0 τ0 (upS σ 2 2 (8 * (s : Int) + c)) (upS (upS τ 253 9 c) 253 10 (τ 253 4)) D m := by
  obtain ⟨f1, f2, hA, hR, h9, h2⟩ := h
  have n6 := hA.1.2.2.2.1
  have sn := hA.2.1
  refine ⟨refuse_c hA hA.1.1, ?_, ?_, f1.put (Or.inr (Or.inl ⟨rfl, Or.inl rfl⟩)), (f2.put (Or.inl ⟨rfl, by omega⟩)).put (Or.inl ⟨rfl, by omega⟩), c, s, hc, by omega, ?_, ?_, ?_⟩
  · rw [must_r h9 (by omega) (Or.inl rfl), if_pos rfl]
  · rw [must_r h9 (by omega) (Or.inr rfl), if_neg (by decide)]
  · rw [upS_same]
  · rw [upS_ne (by omega), upS_same]
  · rw [upS_same]; exact hR.2.2.1
theorem at_r {τ : mSt} {m : Nat} (h : τ 253 11 = 1) : mX12_at 253 (m : Int) τ = some (((8 + m : Nat) : Int), τ) := by
  unfold mX12_at
  rw [gc253, h, show (8 * 1 + (m : Int)) = ((8 + m : Nat) : Int) by omega]
/-- writing into a row, both -/
theorem ln_put {σ0 τ0 σ τ : mSt} {w : Nat → Int} {n s D m : Nat} (hg : lnG σ0 τ0 D m) (h : lnK σ0 τ0 σ τ w n s D m) {i a : Nat} {v u : Int} (hi : D + 1 ≤ i ∧ i ≤ D + 4) (ha : 256 ≤ a ∧ a ≤ 259) : lnK σ0 τ0 (upS σ i m v) (upS τ a (8 + m) u) w n s D m := by
  obtain ⟨g1, g2, g3, g4, g5, g6, g7⟩ := hg
  obtain ⟨f1, f2, hA, hR, h9, h2⟩ := h
  have c1 : frm (cL D m) σ (upS σ i m v) := frm.one (Or.inr (Or.inr (Or.inl ⟨hi, rfl⟩)))
  have c2 : frm (rL m) τ (upS τ a (8 + m) u) := frm.one (Or.inr (Or.inl ⟨ha, rfl⟩))
  exact ⟨f1.tr c1 (fun i j z => z), f2.tr c2 (fun i j z => z), cA_L g1 g2 hA c1 (fun j => upS_ne (by omega)), rA_fr hR (hR.1.1.frm c2 (fun i j z => rL_fix z)) (fun j _ _ => upS_ne (by omega)) (upS_row (by omega)), by rw [upS_ne (by omega)]; exact h9, by rw [upS_ne (by omega)]; exact h2⟩
theorem ln_step {σ0 τ0 σ τ : mSt} {w : Nat → Int} {n s D m : Nat} (h : lnK σ0 τ0 σ τ w n s D m) : ∃ σ' τ', mX10_step 3 σ = some (0, σ') ∧ mX12_steps 253 τ = some (0, τ') ∧ frm tkW σ σ' ∧ frm rkW τ τ' ∧ lnK σ0 τ0 σ' τ' w n (nxt w n s) D m := by
  obtain ⟨f1, f2, hA, hR, h9, h2⟩ := h
  obtain ⟨σ', s1, s2, s3⟩ := stepC hA
  obtain ⟨τ', t1, t2, t3⟩ := stepR hR
  exact ⟨σ', τ', s1, t1, s2, t2, f1.tr s2 (fun i j z => Or.inl z), f2.tr t2 (fun i j z => Or.inl ⟨z.1, by have := z.2; omega⟩), s3, t3, by rw [t2 _ _ (by unfold rkW; omega)]; exact h9, by rw [s2 _ _ (by unfold tkW; omega)]; exact h2⟩
def sdV (w : Nat → Int) (n s : Nat) (v : Int) : Prop := v ≠ 0 ∧ -60 ≤ v ∧ v ≤ 60 ∧ sqf v
/-- a quaternion's sides -/
theorem side1_e {σ0 τ0 σ τ : mSt} {w : Nat → Int} {n s D m : Nat} (hk : lnK σ0 τ0 σ τ w n s D m) : ∃ v σ' τ', mX8_readWhole 2 60 1 σ = some (v, σ') ∧ mX12_takesSide 253 τ = some (v, τ') ∧ frm cR σ σ' ∧ frm rN τ τ' ∧ ((v = 0 ∧ lnF σ0 τ0 σ' τ' D m) ∨ (v = 1 ∧ (∃ s', lnK σ0 τ0 σ' τ' w n s' D m) ∧ ∃ x, σ' 2 3 = x ∧ τ' 253 19 = x ∧ (x ≠ 0 ∧ -60 ≤ x ∧ x ≤ 60 ∧ sqf x))) := by
  obtain ⟨f1, f2, hA, hR, h9, h2⟩ := hk
  obtain ⟨σ', c1, c2⟩ := whole_rd hA (Or.inl ⟨rfl, rfl⟩)
  obtain ⟨τ', r1, r2⟩ := side_tk hR h9
  have F1 : frm (cL D m) σ0 σ' := f1.tr c1 (fun i j z => z.elim Or.inl (fun y => Or.inr (Or.inl y)))
  have F2 : frm (rL m) τ0 τ' := f2.tr r1 (fun i j z => Or.inl z)
  have n6 := hA.1.2.2.2.1
  have sle : wS w n s ≤ n := by
    unfold wS
    by_cases c : tC w n s = 4
    · rw [if_pos c]; exact (nxt_le hA.2.1).2
    · rw [if_neg c]; exact hA.2.1
  have cond : (okT 60 w n s ∧ ((1 : Int) = 1 → sqf (wN w n s))) ↔ (okT 60 w n s ∧ sqf (wN w n s)) := ⟨fun z => ⟨z.1, z.2 rfl⟩, fun z => ⟨z.1, fun _ => z.2⟩⟩
  rcases c2 with ⟨p0, p1, p2, p3, p4⟩ | ⟨p0, p1, p2⟩
  · rcases r2 with ⟨q0, q1, q2, q3, q4⟩ | ⟨q0, -⟩
    · refine ⟨1, σ', τ', p1, q1, c1, r1, Or.inr ⟨rfl, ⟨_, F1, F2, p2, q2, q3, by rw [p4]; exact h2⟩, wV w n s, p3, q4, ?_⟩⟩
      have nr := nvF_rng (f := w) (s := wS w n s) (tE w n (wS w n s) - wS w n s) (fun j hj => (tC_2 q0.1.1).2 _ (by omega) (by omega))
      have nr' : 0 ≤ wN w n s ∧ wN w n s ≤ 999999 := nr
      have b := q0.1.2
      unfold wV
      by_cases c : tC w n s = 4
      · rw [if_pos c]
        exact ⟨by omega, by omega, by omega, sqf_neg.mpr q0.2⟩
      · rw [if_neg c]
        exact ⟨by omega, by omega, by omega, q0.2⟩
    · exact absurd (cond.mp p0) q0
  · rcases r2 with ⟨q0, -⟩ | ⟨q0, q1, q2, q3⟩
    · exact absurd (cond.mpr q0) p0
    · refine ⟨0, σ', τ', p1, q1, c1, r1, Or.inl ⟨rfl, F1, F2, ?_⟩⟩
      by_cases c : tC w n (wS w n s) = 2
      · rw [if_pos c] at p2 q2
        exact ⟨4, wS w n s, by omega, by omega, p2, q2, q3⟩
      · rw [if_neg c] at p2 q2
        exact ⟨1, wS w n s, by omega, by omega, p2, q2, q3⟩
/-- what a line's body has written -/
def bdy (σ τ : mSt) (D m : Nat) : Prop := ((τ 257 (8 + m) = 0 ∧ (τ 258 (8 + m) ≠ 0 ∧ -60 ≤ τ 258 (8 + m) ∧ τ 258 (8 + m) ≤ 60 ∧ sqf (τ 258 (8 + m))) ∧ (τ 259 (8 + m) ≠ 0 ∧ -60 ≤ τ 259 (8 + m) ∧ τ 259 (8 + m) ≤ 60 ∧ sqf (τ 259 (8 + m)))) ∨
   (τ 257 (8 + m) = 1 ∧ (τ 258 (8 + m) = 7 ∨ τ 258 (8 + m) = 13 ∨ τ 258 (8 + m) = 19 ∨ τ 258 (8 + m) = 31 ∨ τ 258 (8 + m) = 37 ∨ τ 258 (8 + m) = 43) ∧ τ 259 (8 + m) ≠ 0 ∧ -999 ≤ τ 259 (8 + m) ∧ τ 259 (8 + m) ≤ 999) ∨
   (τ 257 (8 + m) = 2 ∧ τ 259 (8 + m) = 0 ∧ 1 ≤ τ 258 (8 + m) ∧ τ 258 (8 + m) ≤ 4 ∧ ∀ i : Nat, (i : Int) < τ 258 (8 + m) → σ (D + 15 + m) i = τ 261 (4 * (8 + m) + i) ∧ σ (D + 24 + m) i = τ 260 (4 * (8 + m) + i) ∧ (τ 260 (4 * (8 + m) + i) = 1 ∨ τ 260 (4 * (8 + m) + i) = -1) ∧ 0 ≤ τ 261 (4 * (8 + m) + i) ∧ τ 261 (4 * (8 + m) + i) < (m : Int)))
/-- the body's result -/
def bdR (σ0 τ0 σ τ : mSt) (w : Nat → Int) (n D m : Nat) (v : Int) (σ' τ' : mSt) : Prop := (v = 0 ∧ lnF σ0 τ0 σ' τ' D m) ∨ (v = 1 ∧ (∃ s', lnK σ0 τ0 σ' τ' w n s' D m) ∧ bdy σ' τ' D m ∧ σ' (D + 2) m = τ' 258 (8 + m) ∧ σ' (D + 3) m = τ' 259 (8 + m) ∧ (σ' (D + 1) m = σ (D + 1) m ∧ σ' (D + 4) m = σ (D + 4) m ∧ σ' (D + 6 + m) = σ (D + 6 + m)) ∧ τ' 256 (8 + m) = τ 256 (8 + m) ∧ τ' 257 (8 + m) = τ 257 (8 + m))
theorem sides_e {σ0 τ0 σ τ : mSt} {w : Nat → Int} {n s D m : Nat} (hg : lnG σ0 τ0 D m) (h : lnK σ0 τ0 σ τ w n s D m) (h7 : τ 257 (8 + m) = 0) : ∃ v σ' τ', mX8_readSides 2 σ = some (v, σ') ∧ mX12_quaternionLine 253 (m : Int) τ = some (v, τ') ∧ bdR σ0 τ0 σ τ w n D m v σ' τ' := by
  have hg' := hg
  obtain ⟨g1, g2, g3, g4, g5, g6, g7⟩ := hg
  obtain ⟨v1, σ1, τ1, a1, a2, a3, a4, a5⟩ := side1_e h
  rcases a5 with ⟨rfl, a6⟩ | ⟨rfl, ⟨s1, a6⟩, x, x1, x2, x3⟩
  · refine ⟨0, σ1, τ1, ?_, ?_, Or.inl ⟨rfl, a6⟩⟩
    · unfold mX8_readSides
      rw [gc2, a1, mCall_some, if_pos (by decide)]
    · unfold mX12_quaternionLine
      rw [gc253, a2, mCall_some, if_pos (by decide)]
  · obtain ⟨b1, b2, b3, b4, b5, b6, b7, b8⟩ := ln_g hg' a6
    obtain ⟨σ2, hs2⟩ : ∃ σ2, σ2 = upS σ1 (D + 2) m x := ⟨_, rfl⟩
    obtain ⟨τ2, ht2⟩ : ∃ τ2, τ2 = upS τ1 258 (8 + m) x := ⟨_, rfl⟩
    have k2 : lnK σ0 τ0 σ2 τ2 w n s1 D m := by rw [hs2, ht2]; exact ln_put hg' a6 (by omega) (by omega)
    obtain ⟨v2, σ3, τ3, c1, c2, c3, c4, c5⟩ := side1_e k2
    obtain ⟨d1, d2, d3, d4, d5, d6, d7, d8⟩ := ln_g hg' k2
    have clH : ∀ o, (if wI v2 = 0 then (some ((0 : Int), σ3)) else mRef (σ3 2 1) fun r14 => mCall (mX0_setSecond r14 (σ3 2 3) σ3) fun b16 s17 => some (1, s17)) = o → mX8_readSides 2 σ = o := fun o z => by
      unfold mX8_readSides
      rw [gc2, a1, mCall_some, if_neg (by decide), gr' b4 (by omega), x1, setFirst_e b1 g1 b5 g2, mCall_some, ← hs2, c1, mCall_some]
      exact z
    have rfH : ∀ o, (if wI v2 = 0 then (some ((0 : Int), τ3)) else mRef (τ3 253 16) fun r17 => mCall (mX12_at 253 (m : Int) τ3) fun b19 s20 => mG (ixOK r17 20 b19) <| bnd (upS s20 r17 (wI b19).toNat (s20 253 19)) fun s23 => some (1, s23)) = o → mX12_quaternionLine 253 (m : Int) τ = o := fun o z => by
      unfold mX12_quaternionLine
      rw [gc253, a2, mCall_some, if_neg (by decide), gr' (lay253 b2).2.2.2.2.1 (by omega), at_r b6, mCall_some, gx258 _ (by omega), wI_nat (k := 8 + m) (by omega), x2, bnd_eq, ← ht2, c2, mCall_some]
      exact z
    rcases c5 with ⟨rfl, c6⟩ | ⟨rfl, ⟨s3, c6⟩, y, y1, y2, y3⟩
    · exact ⟨0, σ3, τ3, clH _ (by rw [if_pos (by decide)]), rfH _ (by rw [if_pos (by decide)]), Or.inl ⟨rfl, c6⟩⟩
    · obtain ⟨e1, e2, e3, e4, e5, e6, e7, e8⟩ := ln_g hg' c6
      have k4 := ln_put (v := y) (u := y) (i := D + 3) (a := 259) hg' c6 (by omega) (by omega)
      refine ⟨1, upS σ3 (D + 3) m y, upS τ3 259 (8 + m) y, clH _ ?_, rfH _ ?_, Or.inr ⟨rfl, ⟨s3, k4⟩, Or.inl ⟨?_, ?_, ?_⟩, ?_, ?_, ⟨?_, ?_, ?_⟩, ?_, ?_⟩⟩
      · rw [if_neg (by decide), gr' e4 (by omega), y1, setSecond_e e1 g1 e5 g2, mCall_some]
      · rw [if_neg (by decide), gr' (lay253 e2).2.2.2.2.2.1 (by omega), at_r e6, mCall_some, gx259 _ (by omega), wI_nat (k := 8 + m) (by omega), y2, bnd_eq]
      · rw [upS_ne (by omega), c4 _ _ (by unfold rN; omega), ht2, upS_ne (by omega), a4 _ _ (by unfold rN; omega)]; exact h7
      · have e : (upS τ3 259 (8 + m) y) 258 (8 + m) = x := by rw [upS_ne (by omega), c4 _ _ (by unfold rN; omega), ht2, upS_same]
        rw [e]; exact x3
      · rw [upS_same]; exact y3
      · rw [upS_ne (by omega), c3 _ _ (by unfold cR tkW; omega), hs2, upS_same, upS_ne (by omega), c4 _ _ (by unfold rN; omega), ht2, upS_same]
      · rw [upS_same, upS_same]
      · rw [upS_ne (by omega), c3 _ _ (by unfold cR tkW; omega), hs2, upS_ne (by omega), a3 _ _ (by unfold cR tkW; omega)]
      · rw [upS_ne (by omega), c3 _ _ (by unfold cR tkW; omega), hs2, upS_ne (by omega), a3 _ _ (by unfold cR tkW; omega)]
      · funext j
        rw [upS_ne (by omega), c3 _ _ (by unfold cR tkW; omega), hs2, upS_ne (by omega), a3 _ _ (by unfold cR tkW; omega)]
      · rw [upS_ne (by omega), c4 _ _ (by unfold rN; omega), ht2, upS_ne (by omega), a4 _ _ (by unfold rN; omega)]
      · rw [upS_ne (by omega), c4 _ _ (by unfold rN; omega), ht2, upS_ne (by omega), a4 _ _ (by unfold rN; omega)]
/-- a cyclic algebra's field -/
def fldP (v : Int) : Prop := v = 7 ∨ v = 13 ∨ v = 19 ∨ v = 31 ∨ v = 37 ∨ v = 43
theorem isField_e {c : Int} {σ : mSt} (hc : 0 ≤ c ∧ c ≤ 1000000) : mX8_isField 2 c σ = some (b2 (fldP c), σ) := by
  have wc : wL c = c := wL_id (x := c) (by omega)
  unfold mX8_isField fldP
  rw [gc2, wc]
  by_cases c1 : c = 7
  · rw [if_pos c1, b2_t (by omega)]; rfl
  · rw [if_neg c1]
    by_cases c2 : c = 13
    · rw [if_pos c2, b2_t (by omega)]; rfl
    · rw [if_neg c2]
      by_cases c3 : c = 19
      · rw [if_pos c3, b2_t (by omega)]; rfl
      · rw [if_neg c3]
        by_cases c4 : c = 31
        · rw [if_pos c4, b2_t (by omega)]; rfl
        · rw [if_neg c4]
          by_cases c5 : c = 37
          · rw [if_pos c5, b2_t (by omega)]; rfl
          · rw [if_neg c5]
            by_cases c6 : c = 43
            · rw [if_pos c6, b2_t (by omega)]; rfl
            · rw [if_neg c6, b2_f (by omega)]
theorem field_e {σ0 τ0 σ τ : mSt} {w : Nat → Int} {n s D m : Nat} (hg : lnG σ0 τ0 D m) (h : lnK σ0 τ0 σ τ w n s D m) (h7 : τ 257 (8 + m) = 1) : ∃ v σ' τ', mX8_readField 2 σ = some (v, σ') ∧ mX12_cyclicLine 253 (m : Int) τ = some (v, τ') ∧ bdR σ0 τ0 σ τ w n D m v σ' τ' := by
  have hg' := hg
  have h' := h
  obtain ⟨g1, g2, g3, g4, g5, g6, g7⟩ := hg
  obtain ⟨b1, b2', b3, b4, b5, b6, b7, b8⟩ := ln_g hg' h
  obtain ⟨f1, f2, hA, hR, h9, h22⟩ := h
  have kr : 0 ≤ tR w n s ∧ tR w n s ≤ 4 := (tCR w n s).2.2.2.2.2.2.2.2.2.2
  have n6 := hA.1.2.2.2.1
  obtain ⟨lf1a, lf1b, lf1c, lf1d⟩ := ln_fail h' (c := 1) (by omega)
  obtain ⟨lf4a, lf4b, lf4c, lf4d⟩ := ln_fail h' (c := 4) (by omega)
  by_cases t2 : tC w n s = 2
  · obtain ⟨c, v1, v2⟩ := value_e hA t2
    have r2 := (tCR w n s).2.1.mp t2
    have v7 : τ 253 7 = nvF w s (tE w n s - s) := hR.2.2.2.2.2.2 r2
    obtain ⟨v, hv⟩ : ∃ v, v = nvF w s (tE w n s - s) := ⟨_, rfl⟩
    rw [← hv] at v2 v7
    have cr : 0 ≤ c ∧ c ≤ 1000000 := by unfold nR at v2; omega
    have vr : 0 ≤ v ∧ v ≤ 999999 := by unfold nR at v2; omega
    have fi := isField_e (σ := σ) cr
    have same : fldP c ↔ fldP v := by unfold nR at v2; unfold fldP; omega
    rw [b2_iff same] at fi
    have clH : ∀ o, (if wI (b2 (fldP v)) = 0 then (mCall (mX8_refuse 2 4 σ) fun b35 s36 => mG (b35 = 0 ∨ b35 = 1) <| some (b35, s36)) else mRef (σ 2 1) fun r16 => mCall (mX0_setFirst r16 c σ) fun b18 s19 => mRef (s19 2 0) fun r21 => mCall (mX10_step r21 s19) fun b23 s24 => mCall (mX8_readWhole 2 999 0 s24) fun b26 s27 => if wI b26 = 0 then (some ((0 : Int), s27)) else mRef (s27 2 1) fun r30 => mCall (mX0_setSecond r30 (s27 2 3) s27) fun b32 s33 => some (1, s33)) = o → mX8_readField 2 σ = o := fun o z => by
      unfold mX8_readField
      rw [gc2, gr' b3 (by omega), is_tc hA (by omega), mCall_some, if_neg (by rw [b2_t t2]; decide), gr' b3 (by omega), v1, mCall_some, fi, mCall_some]
      exact z
    have wv : wI v = v := wI_id (x := v) (by omega)
    have rfH : ∀ o, ((fldP v → mX12_cyclicLine_B82 253 (m : Int) 1 τ = o) ∧ (¬ fldP v → mX12_cyclicLine_B82 253 (m : Int) 0 τ = o)) → mX12_cyclicLine 253 (m : Int) τ = o := fun o z => by
      unfold mX12_cyclicLine
      rw [gc253, hR.2.2.2.2.1, wI_id (x := tR w n s) (by omega), if_pos r2]
      unfold mX12_cyclicLine_B14
      rw [show (1 : Int) = ((1 : Nat) : Int) from rfl, show mX12_must 253 ((1 : Nat) : Int) ((1 : Nat) : Int) τ = some (1, τ) from lf1c, mCall_some, if_neg (by decide), v7, wv]
      unfold mX12_cyclicLine_B77
      obtain ⟨z1, z2⟩ := z
      by_cases c1 : v = 7
      · rw [if_pos c1]; exact z1 (by unfold fldP; omega)
      · rw [if_neg c1]
        by_cases c2 : v = 13
        · rw [if_pos c2]; exact z1 (by unfold fldP; omega)
        · rw [if_neg c2]
          by_cases c3 : v = 19
          · rw [if_pos c3]; exact z1 (by unfold fldP; omega)
          · rw [if_neg c3]
            by_cases c4 : v = 31
            · rw [if_pos c4]; exact z1 (by unfold fldP; omega)
            · rw [if_neg c4]
              by_cases c5 : v = 37
              · rw [if_pos c5]; exact z1 (by unfold fldP; omega)
              · rw [if_neg c5]
                by_cases c6 : v = 43
                · rw [if_pos c6]; exact z1 (by unfold fldP; omega)
                · rw [if_neg c6]; exact z2 (by unfold fldP; omega)
    by_cases hf : fldP v
    · have cv : c = v := by unfold nR at v2; unfold fldP at hf; omega
      obtain ⟨σ1, hs1⟩ : ∃ σ1, σ1 = upS σ (D + 2) m v := ⟨_, rfl⟩
      obtain ⟨τ1, ht1⟩ : ∃ τ1, τ1 = upS τ 258 (8 + m) v := ⟨_, rfl⟩
      have k1 : lnK σ0 τ0 σ1 τ1 w n s D m := by rw [hs1, ht1]; exact ln_put hg' h' (by omega) (by omega)
      obtain ⟨σ2, τ2, s1, s2, s3, s4, k2⟩ := ln_step k1
      obtain ⟨e1, e2, e3, e4, e5, e6, e7, e8⟩ := ln_g hg' k2
      obtain ⟨q1, q2, qA, qR, q9, q22⟩ := k2
      obtain ⟨σ3, c1, c2⟩ := whole_rd qA (Or.inr ⟨rfl, rfl⟩)
      obtain ⟨τ3, r1, r2'⟩ := whole_tk qR q9 (Or.inr rfl)
      have F1 : frm (cL D m) σ0 σ3 := q1.tr c1 (fun i j z => z.elim Or.inl (fun y => Or.inr (Or.inl y)))
      have F2 : frm (rL m) τ0 τ3 := q2.tr r1 (fun i j z => Or.inl z)
      have sle : wS w n (nxt w n s) ≤ n := by
        unfold wS
        by_cases c : tC w n (nxt w n s) = 4
        · rw [if_pos c]; exact (nxt_le qA.2.1).2
        · rw [if_neg c]; exact qA.2.1
      obtain ⟨d1, d2, d3, d4, d5, d6, d7, d8⟩ := ln_g hg' k1
      have clH2 : ∀ b o, mX8_readWhole 2 999 0 σ2 = some (b, σ3) → (if wI b = 0 then (some ((0 : Int), σ3)) else mRef (σ3 2 1) fun r30 => mCall (mX0_setSecond r30 (σ3 2 3) σ3) fun b32 s33 => some (1, s33)) = o → mX8_readField 2 σ = o := fun b o z0 z => by
        refine clH o ?_
        rw [b2_t hf, if_neg (by decide), gr' b4 (by omega), cv, setFirst_e b1 g1 b5 g2, mCall_some, ← hs1, gr' d3 (by omega), s1, mCall_some, z0, mCall_some]
        exact z
      have rfH2 : ∀ b o, mX12_takesWhole 253 999 τ2 = some (b, τ3) → (if wI b = 0 then (some ((0 : Int), τ3)) else mRef (τ3 253 16) fun r20 => mCall (mX12_at 253 (m : Int) τ3) fun b22 s23 => mG (ixOK r20 20 b22) <| bnd (upS s23 r20 (wI b22).toNat (s23 253 19)) fun s26 => mCall (mX12_steps 253 s26) fun b28 s29 => some (1, s29)) = o → mX12_cyclicLine 253 (m : Int) τ = o := fun b o z0 z => by
        refine rfH o ⟨fun _ => ?_, fun q => absurd hf q⟩
        unfold mX12_cyclicLine_B82
        rw [show (1 : Int) = ((1 : Nat) : Int) from rfl, show (4 : Int) = ((4 : Nat) : Int) from rfl, show mX12_must 253 ((1 : Nat) : Int) ((4 : Nat) : Int) τ = some (1, τ) from lf4c, mCall_some, if_neg (by decide), gr' (lay253 b2').2.2.2.2.1 (by omega), at_r b6, mCall_some, gx258 _ (by omega), wI_nat (k := 8 + m) (by omega), v7, bnd_eq, ← ht1, s2, mCall_some, z0, mCall_some]
        exact z
      rcases c2 with ⟨p0, p1, p2, p3, p4⟩ | ⟨p0, p1, p2⟩
      · rcases r2' with ⟨y0, y1, y2, y3, y4⟩ | ⟨y0, -⟩
        · -- the reference steps behind
          obtain ⟨x, hx⟩ : ∃ x, x = wV w n (nxt w n s) := ⟨_, rfl⟩
          rw [← hx] at p3 y4
          have nr := nvF_rng (f := w) (s := wS w n (nxt w n s)) (tE w n (wS w n (nxt w n s)) - wS w n (nxt w n s)) (fun j hj => (tC_2 y0.1).2 _ (by omega) (by omega))
          have nr' : 0 ≤ wN w n (nxt w n s) ∧ wN w n (nxt w n s) ≤ 999999 := nr
          have y02 := y0.2
          have xr : x ≠ 0 ∧ -999 ≤ x ∧ x ≤ 999 := by
            rw [hx]
            unfold wV
            by_cases c : tC w n (nxt w n s) = 4
            · rw [if_pos c]; omega
            · rw [if_neg c]; omega
          obtain ⟨τ4, ht4⟩ : ∃ τ4, τ4 = upS τ3 259 (8 + m) x := ⟨_, rfl⟩
          have fr4 : frm (rL m) τ3 τ4 := by rw [ht4]; exact frm.one (Or.inr (Or.inl ⟨by omega, rfl⟩))
          have R4 : rA τ4 w n (wS w n (nxt w n s)) := rA_fr y2 (y2.1.1.frm fr4 (fun i j z => rL_fix z)) (fun j _ _ => by rw [ht4, upS_ne (by omega)]) (by rw [ht4, upS_row (by omega)])
          obtain ⟨τ5, u1, u2, u3⟩ := stepR R4
          obtain ⟨σ4, hs4⟩ : ∃ σ4, σ4 = upS σ3 (D + 3) m x := ⟨_, rfl⟩
          have fr5 : frm (cL D m) σ3 σ4 := by rw [hs4]; exact frm.one (Or.inr (Or.inr (Or.inl ⟨by omega, rfl⟩)))
          have A4 : cA σ4 w n (nxt w n (wS w n (nxt w n s))) := cA_L g1 g2 p2 fr5 (fun j => by rw [hs4, upS_ne (by omega)])
          have K5 : lnK σ0 τ0 σ4 τ5 w n (nxt w n (wS w n (nxt w n s))) D m := ⟨F1.tr fr5 (fun i j z => z), (F2.tr fr4 (fun i j z => z)).tr u2 (fun i j z => Or.inl ⟨z.1, by have := z.2; omega⟩), A4, u3, by rw [u2 _ _ (by unfold rkW; omega), ht4, upS_ne (by omega)]; exact y3, by rw [hs4, upS_ne (by omega), p4]; exact q22⟩
          have c21 : σ3 2 1 = (D : Int) := by rw [F1 _ _ (by unfold cL tkW; omega)]; exact g3
          have cD0 : σ3 D 0 = (m : Int) := by rw [F1 _ _ (by unfold cL tkW; omega)]; exact g4
          have r11 : τ3 253 11 = 1 := by rw [F2 _ _ (by unfold rL; omega)]; exact g5
          have t4 : ∀ a, 256 ≤ a → a ≤ 258 → τ5 a (8 + m) = τ1 a (8 + m) := fun a z1 z2 => by rw [u2 _ _ (by unfold rkW; omega), ht4, upS_ne (by omega), r1 _ _ (by unfold rN; omega), s4 _ _ (by unfold rkW; omega)]
          have t59 : τ5 259 (8 + m) = x := by rw [u2 _ _ (by unfold rkW; omega), ht4, upS_same]
          have t58 : τ5 258 (8 + m) = v := by rw [t4 _ (by omega) (by omega), ht1, upS_same]
          have sc : ∀ a j, ¬ cR a j → ¬ (a = D + 3 ∧ j = m) → σ4 a j = σ1 a j := fun a j z1 z2 => by rw [hs4, upS_ne z2, c1 _ _ z1, s3 _ _ (fun y => z1 (Or.inl y))]
          refine ⟨1, σ4, τ5, clH2 1 _ p1 ?_, rfH2 1 _ y1 ?_, Or.inr ⟨rfl, ⟨_, K5⟩, Or.inr (Or.inl ⟨?_, ?_, ?_⟩), ?_, ?_, ⟨?_, ?_, ?_⟩, ?_, ?_⟩⟩
          · rw [if_neg (by decide), gr' c21 (by omega), p3, setSecond_e p2.1.1 g1 cD0 g2, mCall_some, ← hs4]
          · rw [if_neg (by decide), gr' (lay253 y2.1.1).2.2.2.2.2.1 (by omega), at_r r11, mCall_some, gx259 _ (by omega), wI_nat (k := 8 + m) (by omega), y4, bnd_eq, ← ht4, u1, mCall_some]
          · rw [t4 _ (by omega) (by omega), ht1, upS_ne (by omega)]; exact h7
          · rw [t58]; exact hf
          · rw [t59]; exact xr
          · rw [t58, sc _ _ (by unfold cR tkW; omega) (by omega), hs1, upS_same]
          · rw [t59, hs4, upS_same]
          · rw [sc _ _ (by unfold cR tkW; omega) (by omega), hs1, upS_ne (by omega)]
          · rw [sc _ _ (by unfold cR tkW; omega) (by omega), hs1, upS_ne (by omega)]
          · funext j
            rw [sc _ _ (by unfold cR tkW; omega) (by omega), hs1, upS_ne (by omega)]
          · rw [t4 _ (by omega) (by omega), ht1, upS_ne (by omega)]
          · rw [t4 _ (by omega) (by omega), ht1, upS_ne (by omega)]
        · exact absurd p0.1 y0
      · rcases r2' with ⟨y0, -⟩ | ⟨y0, y1, y2, y3⟩
        · exact absurd ⟨y0, fun z => by omega⟩ p0
        · refine ⟨0, σ3, τ3, clH2 0 _ p1 (by rw [if_pos (by decide)]), rfH2 0 _ y1 (by rw [if_pos (by decide)]), Or.inl ⟨rfl, F1, F2, ?_⟩⟩
          by_cases c : tC w n (wS w n (nxt w n s)) = 2
          · rw [if_pos c] at p2 y2
            exact ⟨4, wS w n (nxt w n s), by omega, by omega, p2, y2, y3⟩
          · rw [if_neg c] at p2 y2
            exact ⟨1, wS w n (nxt w n s), by omega, by omega, p2, y2, y3⟩
    · refine ⟨0, _, _, clH _ ?_, rfH _ ⟨fun q => absurd q hf, fun _ => ?_⟩, Or.inl ⟨rfl, lf4d⟩⟩
      · rw [b2_f hf, if_pos (by decide), show mX8_refuse 2 4 σ = _ from lf4a, mCall_some, mG_pos (by decide)]
      · unfold mX12_cyclicLine_B82
        rw [show mX12_must 253 0 4 τ = _ from lf4b, mCall_some, if_pos (by decide)]
  · refine ⟨0, _, _, ?_, ?_, Or.inl ⟨rfl, lf1d⟩⟩
    · unfold mX8_readField
      rw [gc2, gr' b3 (by omega), is_tc hA (by omega), mCall_some, if_pos (by rw [b2_f t2]; decide), show mX8_refuse 2 1 σ = _ from lf1a, mCall_some, mG_pos (by decide)]
    · unfold mX12_cyclicLine
      rw [gc253, hR.2.2.2.2.1, wI_id (x := tR w n s) (by omega), if_neg (fun z => t2 ((tCR w n s).2.1.mpr z))]
      unfold mX12_cyclicLine_B14
      rw [show mX12_must 253 0 1 τ = _ from lf1b, mCall_some, if_pos (by decide)]

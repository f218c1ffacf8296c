theorem inOrd_r {τ : mSt} {k al : Nat} {a b : Int} (hL : Lay τ) (hk : k < 8) (ha8 : al < 8) (hal : τ 262 k = (al : Int)) (ha : a ≠ 0 ∧ -60 ≤ a ∧ a ≤ 60) (hb : b ≠ 0 ∧ -60 ≤ b ∧ b ≤ 60) (g6 : Ord a b (τ 270 al) (rowL τ al)) (er : ∀ i, i < 4 → -1000000 ≤ vg i (elV τ k) ∧ vg i (elV τ k) ≤ 1000000) (r4 : 1 ≤ τ 263 (5 * k + 4)) (r5 : τ 263 (5 * k + 4) ≤ 1000000) : ∃ v' y, mX12_isInOrder 253 (k : Int) τ = some (b2 (latS (τ 270 al) (rowL τ al) (elV τ k) (τ 263 (5 * k + 4))), stV (stV τ 272 v') 273 y) := by
  obtain ⟨⟨m0, m1⟩, fE, fl, fd, -⟩ := ord_facts ha hb g6
  have l := lay253 hL
  obtain ⟨f, hf⟩ := mF5
  have g0 := gcd_le (a := τ 270 al) (b := τ 263 (5 * k + 4)) m0
  have g1 : (Int.gcd (τ 270 al) (τ 263 (5 * k + 4)) : Int) ≤ τ 263 (5 * k + 4) := Int.gcd_le_right _ (by omega)
  have d1 := (div_get g0.1 (show 0 < τ 263 (5 * k + 4) by omega) (Int.gcd_dvd_right (τ 270 al) (τ 263 (5 * k + 4)))).2.1
  have u1 := div_get g0.1 m0 (Int.gcd_dvd_left (τ 270 al) (τ 263 (5 * k + 4)))
  obtain ⟨v', y, ey, -⟩ := holds_e (τ := τ) (l := al) (M := τ 270 al) (over := τ 263 (5 * k + 4)) (U := 10000000000) (v := elV τ k) l.2.2.2.2.2.2.2.2.2.2.2.2.2.2.2.1 l.2.2.2.2.2.2.2.2.2.2.2.2.2.2.2.2.1 l.2.2.2.2.2.2.2.2.2.2.2.2.2.2.2.2.2.2.1 l.2.2.2.2.2.2.2.2.2.2.2.2.2.2.2.2.2.2.2.1 (by omega) rfl (by omega) (by omega) (exR_ord ha hb g6) (fun i hi => by have := er i hi; omega) (by omega) (exB_of g6.2.1 (by omega) (fun i hi => by
    rw [vg_vk _ hi]
    exact two_rng (div_rng (er i hi) d1) ⟨by omega, Int.le_trans u1.2.2 m1⟩ (by omega) (by decide)))
  refine ⟨v', y, ?_⟩
  unfold mX12_isInOrder
  rw [gc253, hf]
  repeat (rw [mX12_isInOrder_L2.eq_2]; simp (disch := first | omega | (simp (disch := omega) only [up_ne, stV_ne, lay253 hL]; done) | (simp (disch := omega) only [up_ne, stV_ne, lay253 hL]; omega)) only [gr, bnd_eq, up_ne, upS_same, stV_ne, mCall_some, wI_id, wL_id, cLtF, cLtT, cLeF, cLeT, cEqF, cEqT, ↓reduceIte, Int.toNat_natCast, Int.reduceToNat, l, gx272, Int.reduceAdd, part_e])
  rw [stV_fold]
  unfold mX12_isInOrder_B25
  have pe := part_e (τ := stV τ 272 (elV τ k)) (k := k) (i := 4) (by rw [stV_ne _ _ _ _ _ (by omega)]; exact l.2.2.2.2.2.2.2.2.2.1) ⟨hk, by omega, by omega⟩
  rw [stV_ne _ _ _ _ _ (by omega), show 5 * k + (4 : Int).toNat = 5 * k + 4 from rfl] at pe
  rw [show (τ 263 (5 * k + 0), τ 263 (5 * k + 1), τ 263 (5 * k + 2), τ 263 (5 * k + 3)) = elV τ k from rfl, gr' (r := 262) (by rw [stV_ne _ _ _ _ _ (by omega)]; exact l.2.2.2.2.2.2.2.2.1) (by omega), gx262 _ (by omega), pe, mCall_some, wI_nat (by omega), stV_ne _ _ _ _ _ (by omega), hal, ey, mCall_some, mG_pos (b2_01 _)]
theorem scrV {σ s : mSt} {r : Nat} {v : V4} (h : frm scr σ s) (hr : r = 164 ∨ (264 ≤ r ∧ r ≤ 268) ∨ (272 ≤ r ∧ r ≤ 275)) : frm scr σ (stV s r v) := frm.stV h (fun j => by
  rcases hr with rfl | hr
  · exact scr164 (σ := σ) (v := 0)
  · exact scrD _ _ hr)
theorem rowL_congr {σ τ : mSt} {l : Nat} (h : τ 269 = σ 269) : rowL τ l = rowL σ l := by
  unfold rowL
  rw [h]
theorem pr_isIn (σ : mSt) (h : Inv σ) (a1 : Int) (h1 : i32 a1) : ∃ b s b2 s2, mX11_isIn 0 a1 σ = some (b, s) ∧ mX12_isIn 253 a1 s = some (b2, s2) ∧ wI b = wI b2 ∧ Inv s2 := by
  have hI := h
  obtain ⟨hL, hb, t, B, n, s0, hT, hB, hP, hE, hO⟩ := h
  have hn := hB.2.1
  have ht := hI.scr (scr_t (σ := σ) (v := 0))
  by_cases hv : kp σ a1
  · obtain ⟨k, rfl, hk, hkk⟩ := kp_nat hv
    obtain ⟨al, f1, f2, f3, f4, f5, f6, r0, r1, r2, r3, r4, r5⟩ := elF hL hE hn hk hkk
    obtain ⟨-, ⟨na, ra1, ra2, -⟩, nb, rb1, rb2, -⟩ := quatF hB f1 f2
    obtain ⟨y, ey⟩ := inOrd_c hL hB hE hO hk hkk f3.2.2.2.1
    obtain ⟨P, hP⟩ : ∃ P, P = latS (σ 270 al) (rowL σ al) (elV σ k) (σ 263 (5 * k + 4)) := ⟨_, rfl⟩
    rw [← hP] at ey
    have c : mX11_isIn 0 (k : Int) σ = some (b2 P, stV σ 164 y) := by
      unfold mX11_isIn
      rw [gc0, kept_t hL (hE.own hn) hk hkk, mCall_some, if_neg (by decide), ey, mCall_some]
      by_cases hp : P
      · rw [b2_t hp, if_neg (by decide)]
      · rw [b2_f hp, if_pos (by decide)]
    have hs : frm scr σ (upS (stV σ 164 y) 253 0 0) := (scrV (frm.rf σ) (Or.inl rfl)).tr scr_t (fun i j z => z)
    obtain ⟨τ, hτ⟩ : ∃ z, z = upS (stV σ 164 y) 253 0 0 := ⟨_, rfl⟩
    rw [← hτ] at hs
    have o : ∀ i, i ≠ 253 → i ≠ 164 → τ i = σ i := fun i p1 p2 => funext fun j => by rw [hτ, upS_ne (by omega), stV_ne _ _ _ _ _ p2]
    have hLt := (hI.scr hs).1
    have rl := rowL_congr (l := al) (o 269 (by omega) (by omega))
    have ev : elV τ k = elV σ k := by unfold elV; rw [o 263 (by omega) (by omega)]
    obtain ⟨v', y', e2⟩ := inOrd_r (τ := τ) (al := al) hLt hk (by omega) (by rw [o 262 (by omega) (by omega)]; exact f3.2.2.2.1) ⟨na, ra1, ra2⟩ ⟨nb, rb1, rb2⟩ (by rw [o 270 (by omega) (by omega), rl]; exact (hO.1 al f1 f2).2.2.2.2.2) (by rw [ev]; exact elR r0 r1 r2 r3) (by rw [o 263 (by omega) (by omega)]; exact r4) (by rw [o 263 (by omega) (by omega)]; exact r5)
    rw [rl, ev, o 270 (by omega) (by omega), o 263 (by omega) (by omega), ← hP] at e2
    refine ⟨_, _, b2 P, stV (stV τ 272 v') 273 y', c, ?_, rfl, hI.scr (scrV (scrV hs (Or.inr (Or.inr (by omega)))) (Or.inr (Or.inr (by omega))))⟩
    unfold mX12_isIn
    rw [gc253, bnd_eq, ← hτ, kept_rt (σ := σ) (by rw [hτ, up_ne _ _ _ _ _ _ (by omega), stV_ne _ _ _ _ _ (by omega)]; exact hE.1) hk hkk, mCall_some, if_neg (by decide), e2, mCall_some]
    by_cases hp : P
    · rw [b2_t hp, if_neg (by decide)]
    · rw [b2_f hp, if_pos (by decide)]
  · refine ⟨-1, σ, -1, upS σ 253 0 0, ?_, ?_, rfl, ht⟩
    · unfold mX11_isIn
      exact mR_eq (mR_G (by decide) (mR_callE (kept_c hL (hE.own hn) h1) (mR_pos (by rw [wI_b2]; exact b2_f hv) (mR_ret ⟨rfl, rfl⟩))))
    · unfold mX12_isIn
      exact mR_eq (mR_G (by decide) (mR_bnd (mR_callE (kept_r2 (σ := σ) (by rw [up_ne _ _ _ _ _ _ (by omega)]; exact hE.1) h1) (mR_pos (by rw [wI_b2]; exact b2_f hv) (mR_ret ⟨rfl, rfl⟩)))))
/-! table -/
theorem takesRow0_e {τ : mSt} {l r : Nat} (l29 : τ 253 29 = ((269 : Nat) : Int)) (l25 : τ 253 25 = ((265 : Nat) : Int)) (hl : l < 10) (hr : r < 4) : mX12_takesRow 253 (l : Int) (r : Int) 0 τ = some (0, stV τ 265 (rowL τ l r)) := by
  obtain ⟨f, hf⟩ := mF5
  unfold mX12_takesRow
  rw [gc253, hf]
  repeat (rw [mX12_takesRow_L3.eq_2]; simp (disch := first | omega | (simp (disch := omega) only [up_ne, stV_ne, upS_same, l29, l25] <;> omega)) only [gr, bnd_eq, up_ne, upS_same, stV_ne, mCall_some, wI_id, wL_id, cLtF, cLtT, cLeF, cLeT, cEqF, cEqT, ↓reduceIte, Int.toNat_natCast, Int.reduceToNat, l25, gx265, Int.reduceAdd, get_e, mX12_takesRow_B52])
  rw [stV_fold, show (τ 269 (16 * l + 4 * r + 0), τ 269 (16 * l + 4 * r + 1), τ 269 (16 * l + 4 * r + 2), τ 269 (16 * l + 4 * r + 3)) = rowL τ l r by unfold rowL; rw [if_neg (by omega)]; rfl]
theorem takesRow1_e {τ : mSt} {l r : Nat} (l29 : τ 253 29 = ((269 : Nat) : Int)) (l26 : τ 253 26 = ((266 : Nat) : Int)) (hl : l < 10) (hr : r < 4) : mX12_takesRow 253 (l : Int) (r : Int) 1 τ = some (0, stV τ 266 (rowL τ l r)) := by
  obtain ⟨f, hf⟩ := mF5
  unfold mX12_takesRow
  rw [gc253, hf]
  repeat (rw [mX12_takesRow_L3.eq_2]; simp (disch := first | omega | (simp (disch := omega) only [up_ne, stV_ne, upS_same, l29, l26] <;> omega)) only [gr, bnd_eq, up_ne, upS_same, stV_ne, mCall_some, wI_id, wL_id, cLtF, cLtT, cLeF, cLeT, cEqF, cEqT, ↓reduceIte, Int.toNat_natCast, Int.reduceToNat, l26, gx266, Int.reduceAdd, get_e, mX12_takesRow_B52])
  rw [stV_fold, show (τ 269 (16 * l + 4 * r + 0), τ 269 (16 * l + 4 * r + 1), τ 269 (16 * l + 4 * r + 2), τ 269 (16 * l + 4 * r + 3)) = rowL τ l r by unfold rowL; rw [if_neg (by omega)]; rfl]

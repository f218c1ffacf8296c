theorem na1 {τ : mSt} (hL : Lay τ) {v : Int} : (upS τ 253 0 v) 253 15 = ((258 : Nat) : Int) := by simp (disch := omega) only [up_ne, lay253 hL]
theorem na2 {τ : mSt} {k al : Nat} {v : Int} (hk : k < 8) (ha : al < 8) (hL : Lay τ) (h2 : τ 262 k = (al : Int)) (ra : -60 ≤ τ 258 al ∧ τ 258 al ≤ 60) (rb : -60 ≤ τ 259 al ∧ τ 259 al ≤ 60) : mX12_normAbove 253 (k : Int) (upS τ 253 0 v) = some (vN (upS τ 253 0 v 258 al) (upS τ 253 0 v 259 al) (elV (upS τ 253 0 v) k), upS τ 253 0 v) := by
  exact normAbove_e (τ := upS τ 253 0 v) hk ha (by simp (disch := omega) only [up_ne, lay253 hL]) (by simp (disch := omega) only [up_ne, lay253 hL]) (by simp (disch := omega) only [up_ne, lay253 hL]) (by simp (disch := omega) only [up_ne, lay253 hL]) (al := al) (by simp (disch := omega) only [up_ne, h2]) (by simp (disch := omega) only [up_ne]; exact ra) (by simp (disch := omega) only [up_ne]; exact rb)
theorem na3 {τ : mSt} {k al : Nat} {v : Int} (hk : k < 8) (ha : al < 8) (hL : Lay τ) (h2 : τ 262 k = (al : Int)) (ra : -60 ≤ τ 258 al ∧ τ 258 al ≤ 60) (rb : -60 ≤ τ 259 al ∧ τ 259 al ≤ 60) : mX12_normAbove 253 (k : Int) (upS τ 253 0 v) = some (vN (τ 258 al) (τ 259 al) (elV τ k), upS τ 253 0 v) := by
  have := na2 (v := v) hk ha hL h2 ra rb
  simp (disch := omega) only [up_ne, elV_up] at this
  exact this
theorem pr_inverse (σ : mSt) (h : Inv σ) (a1 : Int) (h1 : i32 a1) (a2 : Int) (h2 : i32 a2) : ∃ b s b2 s2, mX11_inverse 0 a1 a2 σ = some (b, s) ∧ mX12_inverse 253 a1 a2 s = some (b2, s2) ∧ wI b = wI b2 ∧ Inv s2 := by
  have hI := h
  obtain ⟨hL, hb, t, B, n, s0, hT, hB, hP, hE, hO⟩ := h
  have hB2 := hB
  obtain ⟨q1, hn, q3, q4, q5, q6, q7⟩ := hB2
  have ht := hI.scr (scr_t (σ := σ) (v := 0))
  by_cases hv : kp σ a1 ∧ 0 ≤ a2 ∧ a2 < 8
  · obtain ⟨hk0, hto⟩ := hv
    obtain ⟨k, rfl, hk, hkk⟩ := kp_nat hk0
    obtain ⟨t', rfl, hto'⟩ := slot_nat hto
    obtain ⟨al, f1, f2, f3, f4, f5, f6, r0, r1, r2, r3, r4, r5⟩ := elF hL hE hn hk hkk
    obtain ⟨⟨ab1, ab2⟩, ⟨-, ra1, ra2, -⟩, -, rb1, rb2, -⟩ := quatF hB f1 f2
    have rr := elR r0 r1 r2 r3
    have hN := vN_rng ⟨ra1, ra2⟩ ⟨rb1, rb2⟩ rr (by decide)
    obtain ⟨N, hNe⟩ : ∃ z, z = vN (σ 258 al) (σ 259 al) (elV σ k) := ⟨_, rfl⟩
    rw [← hNe] at hN
    have rv : ∀ i, i < 4 → σ (166 + 2 * k) i = vg i (elV σ k) := fun i hi => by rw [← f6, vg_rowV _ _ hi]
    have fo := formOf_e hL hB f1 f2 f4 f5 f3.2.2.1 f3.2.1 f6
    rw [← hNe] at fo
    have pm : ∀ i f, i < 4 → (-1000000 ≤ f ∧ f ≤ 1000000) → -(1000000 * 1000000) ≤ vg i (elV σ k) * f ∧ vg i (elV σ k) * f ≤ 1000000 * 1000000 := fun i f hi hf => mul_rng (rr i hi) hf (by decide)
    by_cases hz : N = 0
    · refine ⟨-2, σ, -2, upS σ 253 0 0, ?_, ?_, rfl, ht⟩
      · unfold mX11_inverse
        simp (disch := omega) only [gc0, kept_t hL (hE.own hn) hk hkk, slot_t hto', gr, bnd_eq, up_ne, upS_same, stV_ne, mCall_some, wI_id, wL_id, cLtF, cLtT, cLeF, cLeT, cEqF, cEqT, ↓reduceIte, Int.toNat_natCast, Int.reduceToNat, lay0 hL, gx112, f3, fo]
      · have rb : mX12_areBeside 253 (k : Int) (k : Int) (t' : Int) (upS σ 253 0 0) = some (1, upS σ 253 0 0) := by
          rw [beside_f (σ := σ) (by rw [up_ne _ _ _ _ _ _ (by omega)]; exact hE.1) (by rw [up_ne _ _ _ _ _ _ (by omega)]; exact (lay253 hL).2.2.2.2.2.2.2.2.1) (own62 hE hn) (by rw [upS_row (by omega)]) h1 h1 h2, b2_t ⟨⟨hk0, hk0, rfl⟩, hto⟩]
        have na : mX12_normAbove 253 (k : Int) (upS σ 253 0 0) = some (N, upS σ 253 0 0) := by
          have w := na3 (τ := σ) (v := 0) hk (show al < 8 by omega) hL f3.2.2.2.1 ⟨ra1, ra2⟩ ⟨rb1, rb2⟩
          rw [← hNe] at w
          exact w
        unfold mX12_inverse
        rw [gc253, bnd_eq, rb, mCall_some, if_neg (by decide), na, mCall_some, if_pos (by rw [hz]; decide)]
    · obtain ⟨sg, hsg, hsN⟩ : ∃ sg : Int, (sg = 1 ∨ sg = -1) ∧ (N.natAbs : Int) = sg * N := by
        by_cases hp : 0 < N
        · exact ⟨1, Or.inl rfl, by omega⟩
        · exact ⟨-1, Or.inr rfl, by omega⟩
      obtain ⟨fc, hfc⟩ : ∃ fc : Int, fc = sg * σ 263 (5 * k + 4) := ⟨_, rfl⟩
      have hfr : -1000000 ≤ fc ∧ fc ≤ 1000000 := by rw [hfc]; rcases hsg with rfl | rfl <;> omega
      obtain ⟨cc, s, e1, ec, hLs, os, ek⟩ := keepV hI hto' (al := al) (d := (N.natAbs : Int)) (sg := sg) (v := (vg 0 (elV σ k) * fc, -(vg 1 (elV σ k)) * fc, -(vg 2 (elV σ k)) * fc, -(vg 3 (elV σ k)) * fc)) (fun m hm hm8 => ⟨by omega, f2⟩) (by
        have m0 := pm 0 fc (by omega) hfr
        have m1 := pm 1 fc (by omega) hfr
        have m2 := pm 2 fc (by omega) hfr
        have m3 := pm 3 fc (by omega) hfr
        unfold i62
        simp only [Int.neg_mul]
        omega) (by omega) hsg
      have c : mX11_inverse 0 (k : Int) (t' : Int) σ = some (cc, s) := by
        unfold mX11_inverse
        simp (disch := omega) only [gc0, kept_t hL (hE.own hn) hk hkk, slot_t hto', gr, bnd_eq, up_ne, upS_same, stV_ne, mCall_some, wI_id, wL_id, cLtF, cLtT, cLeF, cLeT, cEqF, cEqT, ↓reduceIte, Int.toNat_natCast, Int.reduceToNat, lay0 hL, gx112, f3, gc f4, fo]
        have hB65 : mX11_inverse_B65 0 (k : Int) (t' : Int) (165 + 2 * k) N (166 + 2 * k) fc σ = some (cc, s) := by
          unfold mX11_inverse_B65
          simp (disch := omega) only [gr, bnd_eq, up_ne, upS_same, stV_ne, mCall_some, wI_id, wL_id, cLtF, cLtT, cLeF, cLeT, cEqF, cEqT, ↓reduceIte, Int.toNat_natCast, Int.reduceToNat, lay0 hL, reflect_e f5 (show shp 164 = (21, 4) by decide) (show 166 + 2 * k ≠ 164 by omega), rv, gc f4, abs_e, f3]
          exact kc_end e1
        rcases hsg with rfl | rfl
        · simp (disch := omega) only [gr, bnd_eq, up_ne, upS_same, stV_ne, mCall_some, wI_id, wL_id, cLtF, cLtT, cLeF, cLeT, cEqF, cEqT, ↓reduceIte, Int.toNat_natCast, Int.reduceToNat]
          rw [show σ 263 (5 * k + 4) = fc by omega]
          exact hB65
        · simp (disch := omega) only [gr, bnd_eq, up_ne, upS_same, stV_ne, mCall_some, wI_id, wL_id, cLtF, cLtT, cLeF, cLeT, cEqF, cEqT, ↓reduceIte, Int.toNat_natCast, Int.reduceToNat]
          rw [show -(σ 263 (5 * k + 4)) = fc by omega]
          exact hB65
      refine ⟨cc, s, cc, ?_⟩
      suffices r : ∃ τ', mX12_inverse 253 (k : Int) (t' : Int) s = some (cc, τ') ∧ Inv τ' by
        obtain ⟨τ', e2, hI2⟩ := r
        exact ⟨τ', c, e2, rfl, hI2⟩
      have hL := hLs
      have o3 := os 263 (by omega) (by omega) (by omega)
      have o2 := os 262 (by omega) (by omega) (by omega)
      have o8 := os 258 (by omega) (by omega) (by omega)
      have o9 := os 259 (by omega) (by omega) (by omega)
      have ob := os 253 (by omega) (by omega) (by omega)
      have ev : ∀ j, elV s j = elV σ j := fun j => by unfold elV; rw [o3]
      have rb : mX12_areBeside 253 (k : Int) (k : Int) (t' : Int) (upS s 253 0 0) = some (1, upS s 253 0 0) := by
        rw [beside_f (σ := σ) (by rw [up_ne _ _ _ _ _ _ (by omega), ob]; exact hE.1) (by rw [up_ne _ _ _ _ _ _ (by omega)]; exact (lay253 hL).2.2.2.2.2.2.2.2.1) (own62 hE hn) (by rw [upS_row (by omega)]; exact o2) h1 h1 h2, b2_t ⟨⟨hk0, hk0, rfl⟩, hto⟩]
      have na : mX12_normAbove 253 (k : Int) (upS s 253 0 0) = some (N, upS s 253 0 0) := by
        have w := na3 (τ := s) (v := 0) hk (show al < 8 by omega) hL (by rw [o2]; exact f3.2.2.2.1) (by rw [o8]; exact ⟨ra1, ra2⟩) (by rw [o9]; exact ⟨rb1, rb2⟩)
        rw [o8, o9, ev, ← hNe] at w
        exact w
      obtain ⟨f, hf⟩ := mF5
      unfold mX12_inverse
      rw [hf, gc253, bnd_eq, rb, mCall_some, if_neg (by decide), na, mCall_some, if_neg (by rw [wL_id (by omega)]; exact hz)]
      repeat (rw [mX12_inverse_L35.eq_2]; simp (disch := first | omega | (simp (disch := omega) only [up_ne, stV_ne, lay253 hL]; done) | (simp (disch := omega) only [up_ne, stV_ne, lay253 hL]; omega)) only [gr, bnd_eq, up_ne, upS_same, stV_ne, mCall_some, wI_id, wL_id, cLtF, cLtT, cLeF, cLeT, cEqF, cEqT, ↓reduceIte, Int.toNat_natCast, Int.reduceToNat, lay253 hL, gx264, gx262, Int.reduceAdd, mX12_inverse_B81, mX12_inverse_B59, part_e, stV_fold, o2, f3, o3, up_row])
      refine ek _ _ _ frT ?_ (by rw [hsN])
      rw [hfc]
      rcases hsg with rfl | rfl
      · rw [vS_one]; apply vext <;> simp only [vg, elV] <;> grind
      · apply vext <;> simp only [vg, elV, vS] <;> grind
  · refine ⟨-1, σ, -1, upS σ 253 0 0, ?_, ?_, rfl, ht⟩
    · unfold mX11_inverse
      refine mR_eq (mR_G (by decide) (mR_callE (kept_c hL (hE.own hn) h1) (mR_if (fun z => mR_ret ⟨rfl, rfl⟩) (fun z => ?_))))
      have := b2p z
      exact mR_callE (slot_c h2) (mR_pos (by rw [wI_b2, b2_f (fun z2 => hv ⟨this, z2⟩)]) (mR_ret ⟨rfl, rfl⟩))
    · unfold mX12_inverse
      exact mR_eq (mR_G (by decide) (mR_bnd (mR_callE (beside_f (σ := σ) (by rw [up_ne _ _ _ _ _ _ (by omega)]; exact hE.1) (by rw [up_ne _ _ _ _ _ _ (by omega)]; exact (lay253 hL).2.2.2.2.2.2.2.2.1) (own62 hE hn) (upS_row (by omega)) h1 h1 h2) (mR_pos (by rw [wI_b2, b2_f (fun z => hv ⟨z.1.1, z.2⟩)]) (mR_ret ⟨rfl, rfl⟩)))))

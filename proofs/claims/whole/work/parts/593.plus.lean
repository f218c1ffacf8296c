theorem pr_plus (σ : mSt) (h : Inv σ) (a1 : Int) (h1 : i32 a1) (a2 : Int) (h2 : i32 a2) (a3 : Int) (h3 : i32 a3) (a4 : Int) (h4 : i32 a4) : ∃ b s b2 s2, mX11_plus 0 a1 a2 a3 a4 σ = some (b, s) ∧ mX12_plus 253 a1 a2 a3 a4 s = some (b2, s2) ∧ wI b = wI b2 ∧ Inv s2 := by
  have hI := h
  obtain ⟨hL, hb, t, B, n, s0, hT, hB, hP, hE, hO⟩ := h
  have hB2 := hB
  obtain ⟨q1, hn, q3, q4, q5, q6, q7⟩ := hB2
  have ht := hI.scr (scr_t (σ := σ) (v := 0))
  have h3' := h3
  unfold i32 at h3'
  by_cases hv : (pr2 σ a1 a2 ∧ 0 ≤ a4 ∧ a4 < 8) ∧ -1000 ≤ a3 ∧ a3 ≤ 1000
  · obtain ⟨⟨hp, hto⟩, v1, v2⟩ := hv
    have hp2 := hp
    obtain ⟨hk0, ho0, heq⟩ := hp2
    obtain ⟨k, rfl, hk, hkk⟩ := kp_nat hk0
    obtain ⟨o, rfl, ho, hoo⟩ := kp_nat ho0
    obtain ⟨t', rfl, hto'⟩ := slot_nat hto
    obtain ⟨al, f1, f2, f3, f4, f5, f6, r0, r1, r2, r3, r4, r5⟩ := elF hL hE hn hk hkk
    obtain ⟨bl, g1, g2, g3, g4, g5, g6, s0, s1, s2, s3, s4, s5⟩ := elF hL hE hn ho hoo
    have hd1 : 1 * 1 ≤ σ 263 (5 * k + 4) * σ 263 (5 * o + 4) := Int.mul_le_mul r4 s4 (by omega) (by omega)
    have hd2 : σ 263 (5 * k + 4) * σ 263 (5 * o + 4) ≤ 1000000 * 1000000 := Int.mul_le_mul r5 s5 (by omega) (by omega)
    have hr : ∀ i, i < 4 → -2000000000000000 ≤ vg i (elV σ k) * σ 263 (5 * o + 4) + a3 * vg i (elV σ o) * σ 263 (5 * k + 4) ∧ vg i (elV σ k) * σ 263 (5 * o + 4) + a3 * vg i (elV σ o) * σ 263 (5 * k + 4) ≤ 2000000000000000 := by
      intro i hi
      have u1 := mul_rng (A := 1000000) (B := 1000000) (elR r0 r1 r2 r3 i hi) (show -1000000 ≤ σ 263 (5 * o + 4) ∧ σ 263 (5 * o + 4) ≤ 1000000 by omega) (by decide)
      have u2 := mul_rng (A := 1000) (B := 1000000) (show -1000 ≤ a3 ∧ a3 ≤ 1000 by omega) (elR s0 s1 s2 s3 i hi) (by decide)
      have u3 := mul_rng (A := 1000 * 1000000) (B := 1000000) u2 (show -1000000 ≤ σ 263 (5 * k + 4) ∧ σ 263 (5 * k + 4) ≤ 1000000 by omega) (by decide)
      omega
    obtain ⟨cc, s, e1, ec, hLs, os, ek⟩ := keepV hI hto' (al := al) (d := σ 263 (5 * k + 4) * σ 263 (5 * o + 4)) (sg := 1) (v := vk (fun i => vg i (elV σ k) * σ 263 (5 * o + 4) + a3 * vg i (elV σ o) * σ 263 (5 * k + 4))) (fun m hm hm8 => ⟨by omega, f2⟩) (i62_of (X := 2000000000000000) (by decide) (fun i hi => by rw [vg_vk _ hi]; exact hr i hi)) (by omega) (Or.inl rfl)
    have c : mX11_plus 0 (k : Int) (o : Int) a3 (t' : Int) σ = some (cc, s) := by
      have pc : mX11_isPair 0 (k : Int) (o : Int) σ = some (1, σ) := by rw [pair_c hL hE hn h1 h2, b2_t hp]
      have rv : ∀ i, i < 4 → σ (166 + 2 * k) i = vg i (elV σ k) := fun i hi => by rw [← f6, vg_rowV _ _ hi]
      have rw' : ∀ i, i < 4 → σ (166 + 2 * o) i = vg i (elV σ o) := fun i hi => by rw [← g6, vg_rowV _ _ hi]
      obtain ⟨f, hf⟩ := mF5
      unfold mX11_plus
      rw [hf]
      simp (disch := omega) only [gc0, pc, slot_t hto', gr, bnd_eq, up_ne, upS_same, stV_ne, mCall_some, wI_id, wL_id, cLtF, cLtT, cLeF, cLeT, cEqF, cEqT, ↓reduceIte, Int.toNat_natCast, Int.reduceToNat, lay0 hL, gx112, f3, g3]
      repeat (rw [mX11_plus_L53.eq_2]; simp (disch := omega) only [gr, bnd_eq, up_ne, upS_same, stV_ne, mCall_some, wI_id, wL_id, cLtF, cLtT, cLeF, cLeT, cEqF, cEqT, ↓reduceIte, Int.toNat_natCast, Int.reduceToNat, lay0 hL, f3, g3, gc f4, gc g4, gx f5, gx g5, gx164, Int.reduceAdd, mX11_plus_B104, rv, rw'])
      rw [stV_fold]
      exact kc_end e1
    refine ⟨cc, s, cc, ?_⟩
    suffices r : ∃ τ', mX12_plus 253 (k : Int) (o : Int) a3 (t' : Int) s = some (cc, τ') ∧ Inv τ' by
      obtain ⟨τ', e2, hI2⟩ := r
      exact ⟨τ', c, e2, rfl, hI2⟩
    have hL := hLs
    have o3 := os 263 (by omega) (by omega) (by omega)
    have o2 := os 262 (by omega) (by omega) (by omega)
    have o8 := os 258 (by omega) (by omega) (by omega)
    have o9 := os 259 (by omega) (by omega) (by omega)
    have ob := os 253 (by omega) (by omega) (by omega)
    have ev : ∀ j, elV s j = elV σ j := fun j => by unfold elV; rw [o3]
    have rb : mX12_areBeside 253 (k : Int) (o : Int) (t' : Int) (upS s 253 0 0) = some (1, upS s 253 0 0) := by
      rw [beside_f (σ := σ) (by rw [up_ne _ _ _ _ _ _ (by omega), ob]; exact hE.1) (by rw [up_ne _ _ _ _ _ _ (by omega)]; exact (lay253 hL).2.2.2.2.2.2.2.2.1) (own62 hE hn) (by rw [upS_row (by omega)]; exact o2) h1 h2 h4, b2_t ⟨hp, hto⟩]
    obtain ⟨f, hf⟩ := mF5
    unfold mX12_plus
    rw [hf]
    simp (disch := omega) only [gc253, bnd_eq, rb, mCall_some, gr, bnd_eq, up_ne, upS_same, stV_ne, mCall_some, wI_id, wL_id, cLtF, cLtT, cLeF, cLeT, cEqF, cEqT, ↓reduceIte, Int.toNat_natCast, Int.reduceToNat]
    rw [within_e a3 (-1000) 1000 _ (by omega) (by omega) (by omega), b2_t ⟨v1, v2⟩]
    simp (disch := omega) only [gr, bnd_eq, up_ne, upS_same, stV_ne, mCall_some, wI_id, wL_id, cLtF, cLtT, cLeF, cLeT, cEqF, cEqT, ↓reduceIte, Int.toNat_natCast, Int.reduceToNat]
    repeat (rw [mX12_plus_L35.eq_2]; simp (disch := first | omega | (simp (disch := omega) only [up_ne, stV_ne, lay253 hL]; done) | (simp (disch := omega) only [up_ne, stV_ne, lay253 hL]; omega)) only [gr, bnd_eq, up_ne, upS_same, stV_ne, mCall_some, wI_id, wL_id, cLtF, cLtT, cLeF, cLeT, cEqF, cEqT, ↓reduceIte, Int.toNat_natCast, Int.reduceToNat, lay253 hL, gx264, gx262, Int.reduceAdd, mX12_plus_B86, part_e, stV_fold, o2, f3, o3, up_row])
    exact ek _ _ _ frT (by rw [vS_one]; rfl) (by omega)
  · refine ⟨-1, σ, -1, upS σ 253 0 0, ?_, ?_, rfl, ht⟩
    · unfold mX11_plus
      refine mR_eq (mR_G (by decide) (mR_callE (pair_c hL hE hn h1 h2) (mR_if (fun z => mR_ret ⟨rfl, rfl⟩) (fun z => ?_))))
      have := b2p z
      refine mR_callE (slot_c h4) (mR_if (fun z => mR_ret ⟨rfl, rfl⟩) (fun z2 => ?_))
      have h5 := b2p z2
      rw [wI_id h3]
      exact mR_if (fun z => mR_ret ⟨rfl, rfl⟩) (fun z => mR_neg (fun z2 => hv ⟨⟨this, h5⟩, by omega, z2⟩) (mR_ret ⟨rfl, rfl⟩))
    · unfold mX12_plus
      refine mR_eq (mR_G (by decide) (mR_bnd (mR_callE (beside_f (σ := σ) (by rw [up_ne _ _ _ _ _ _ (by omega)]; exact hE.1) (by rw [up_ne _ _ _ _ _ _ (by omega)]; exact (lay253 hL).2.2.2.2.2.2.2.2.1) (own62 hE hn) (upS_row (by omega)) h1 h2 h4) (mR_if (fun z => mR_ret ⟨rfl, rfl⟩) (fun z => ?_)))))
      have := b2p z
      rw [wI_id h3]
      exact mR_callE (within_e _ (-1000) 1000 _ (by omega) (by omega) (by omega)) (mR_pos (by rw [wI_b2, b2_f (fun z2 => hv ⟨this, z2⟩)]) (mR_ret ⟨rfl, rfl⟩))
theorem pr_mirror (σ : mSt) (h : Inv σ) (a1 : Int) (h1 : i32 a1) (a2 : Int) (h2 : i32 a2) : ∃ b s b2 s2, mX11_mirror 0 a1 a2 σ = some (b, s) ∧ mX12_mirror 253 a1 a2 s = some (b2, s2) ∧ wI b = wI b2 ∧ Inv s2 := by
  have hI := h
  obtain ⟨hL, hb, t, B, n, s0, hT, hB, hP, hE, hO⟩ := h
  have hB2 := hB
  obtain ⟨q1, hn, q3, q4, q5, q6, q7⟩ := hB2
  have ht := hI.scr (scr_t (σ := σ) (v := 0))
  by_cases hv : kp σ a1 ∧ 0 ≤ a2 ∧ a2 < 8
  · obtain ⟨hk0, hto⟩ := hv
    obtain ⟨k, rfl, hk, hkk⟩ := kp_nat hk0
    obtain ⟨t', rfl, hto'⟩ := slot_nat hto
    obtain ⟨al, f1, f2, f3, f4, f5, f6, r0, r1, r2, r3, r4, r5⟩ := elF hL hE hn hk hkk
    have rr := elR r0 r1 r2 r3
    obtain ⟨cc, s, e1, ec, hLs, os, ek⟩ := keepV hI hto' (al := al) (d := σ 263 (5 * k + 4)) (sg := 1) (v := ((elV σ k).1, -(elV σ k).2.1, -(elV σ k).2.2.1, -(elV σ k).2.2.2)) (fun m hm hm8 => ⟨by omega, f2⟩) (by
      have := el62 ⟨r0, r1, r2, r3⟩
      unfold i62 at this ⊢
      simp only
      omega) (by omega) (Or.inl rfl)
    have c : mX11_mirror 0 (k : Int) (t' : Int) σ = some (cc, s) := by
      have rv : ∀ i, i < 4 → σ (166 + 2 * k) i = vg i (elV σ k) := fun i hi => by rw [← f6, vg_rowV _ _ hi]
      unfold mX11_mirror
      simp (disch := omega) only [gc0, kept_t hL (hE.own hn) hk hkk, slot_t hto', gr, bnd_eq, up_ne, upS_same, stV_ne, mCall_some, wI_id, wL_id, cLtF, cLtT, cLeF, cLeT, cEqF, cEqT, ↓reduceIte, Int.toNat_natCast, Int.reduceToNat, lay0 hL, gx112, f3, gc f4, reflect_e f5 (show shp 164 = (21, 4) by decide) (show 166 + 2 * k ≠ 164 by omega), rv, Int.mul_one]
      exact kc_end e1
    refine ⟨cc, s, cc, ?_⟩
    suffices r : ∃ τ', mX12_mirror 253 (k : Int) (t' : Int) s = some (cc, τ') ∧ Inv τ' by
      obtain ⟨τ', e2, hI2⟩ := r
      exact ⟨τ', c, e2, rfl, hI2⟩
    have hL := hLs
    have o3 := os 263 (by omega) (by omega) (by omega)
    have o2 := os 262 (by omega) (by omega) (by omega)
    have o8 := os 258 (by omega) (by omega) (by omega)
    have o9 := os 259 (by omega) (by omega) (by omega)
    have ob := os 253 (by omega) (by omega) (by omega)
    have ev : ∀ j, elV s j = elV σ j := fun j => by unfold elV; rw [o3]
    have rb : mX12_areBeside 253 (k : Int) (k : Int) (t' : Int) (upS s 253 0 0) = some (1, upS s 253 0 0) := by
      rw [beside_f (σ := σ) (by rw [up_ne _ _ _ _ _ _ (by omega), ob]; exact hE.1) (by rw [up_ne _ _ _ _ _ _ (by omega)]; exact (lay253 hL).2.2.2.2.2.2.2.2.1) (own62 hE hn) (by rw [upS_row (by omega)]; exact o2) h1 h1 h2, b2_t ⟨⟨hk0, hk0, rfl⟩, hto⟩]
    unfold mX12_mirror
    simp (disch := omega) only [gc253, bnd_eq, rb, mCall_some, gr, bnd_eq, up_ne, upS_same, stV_ne, mCall_some, wI_id, wL_id, cLtF, cLtT, cLeF, cLeT, cEqF, cEqT, ↓reduceIte, Int.toNat_natCast, Int.reduceToNat]
    simp (disch := first | omega | (simp (disch := omega) only [up_ne, stV_ne, lay253 hL]; done) | (simp (disch := omega) only [up_ne, stV_ne, lay253 hL]; omega)) only [gr, bnd_eq, up_ne, upS_same, stV_ne, mCall_some, wI_id, wL_id, cLtF, cLtT, cLeF, cLeT, cEqF, cEqT, ↓reduceIte, Int.toNat_natCast, Int.reduceToNat, loads_s]
    simp (disch := omega) only [gr, bnd_eq, up_ne, upS_same, stV_ne, mCall_some, wI_id, wL_id, cLtF, cLtT, cLeF, cLeT, cEqF, cEqT, ↓reduceIte, Int.toNat_natCast, Int.reduceToNat, st5_at, lay253 hL, up_row, o3]
    rw [part_e (i := 0) (by rw [st5_at (by omega), up_ne _ _ _ _ _ _ (by omega)]; exact (lay253 hL).2.2.2.2.2.2.2.2.2.1) ⟨hk, by omega, by omega⟩]
    simp (disch := omega) only [gr, bnd_eq, up_ne, upS_same, stV_ne, mCall_some, wI_id, wL_id, cLtF, cLtT, cLeF, cLeT, cEqF, cEqT, ↓reduceIte, Int.toNat_natCast, Int.reduceToNat, st5_at, st5_up0, lay253 hL, gx264, gx262, o2, f3, up_row, o3]
    exact ek _ _ _ frT (by rw [vS_one]; unfold elV; simp only [Int.mul_neg, Int.mul_one]; rfl) (by omega)
  · refine ⟨-1, σ, -1, upS σ 253 0 0, ?_, ?_, rfl, ht⟩
    · unfold mX11_mirror
      refine mR_eq (mR_G (by decide) (mR_callE (kept_c hL (hE.own hn) h1) (mR_if (fun z => mR_ret ⟨rfl, rfl⟩) (fun z => ?_))))
      have := b2p z
      exact mR_callE (slot_c h2) (mR_pos (by rw [wI_b2, b2_f (fun z2 => hv ⟨this, z2⟩)]) (mR_ret ⟨rfl, rfl⟩))
    · unfold mX12_mirror
      exact mR_eq (mR_G (by decide) (mR_bnd (mR_callE (beside_f (σ := σ) (by rw [up_ne _ _ _ _ _ _ (by omega)]; exact hE.1) (by rw [up_ne _ _ _ _ _ _ (by omega)]; exact (lay253 hL).2.2.2.2.2.2.2.2.1) (own62 hE hn) (upS_row (by omega)) h1 h1 h2) (mR_pos (by rw [wI_b2, b2_f (fun z => hv ⟨z.1.1, z.2⟩)]) (mR_ret ⟨rfl, rfl⟩)))))

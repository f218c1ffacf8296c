theorem sixty {x : Int} (h : -60 ≤ x ∧ x ≤ 60) : -60 ≤ x ∧ x ≤ 60 := h
theorem mul_rng {x y A B : Int} (hx : -A ≤ x ∧ x ≤ A) (hy : -B ≤ y ∧ y ≤ B) (hA : 0 ≤ A) : -(A * B) ≤ x * y ∧ x * y ≤ A * B := by
  have h1 : (x * y).natAbs ≤ (A * B).natAbs := by
    rw [Int.natAbs_mul, Int.natAbs_mul]
    exact Nat.mul_le_mul (by omega) (by omega)
  have h2 : 0 ≤ A * B := Int.mul_nonneg hA (by omega)
  omega
theorem vM_rng {a b X Y : Int} {x y : V4} (ha : -60 ≤ a ∧ a ≤ 60) (hb : -60 ≤ b ∧ b ≤ 60) (hx : ∀ i, i < 4 → -X ≤ vg i x ∧ vg i x ≤ X) (hy : ∀ i, i < 4 → -Y ≤ vg i y ∧ vg i y ≤ Y) (hX : 0 ≤ X) : ∀ i, i < 4 → -(3721 * (X * Y)) ≤ vg i (vM a b x y) ∧ vg i (vM a b x y) ≤ 3721 * (X * Y) := by
  have m : ∀ i j, i < 4 → j < 4 → -(X * Y) ≤ vg i x * vg j y ∧ vg i x * vg j y ≤ X * Y := fun i j hi hj => mul_rng (hx i hi) (hy j hj) hX
  have p0 : 0 ≤ X * Y := by have := m 0 0 (by omega) (by omega); omega
  have ma : ∀ i j, i < 4 → j < 4 → -(60 * (X * Y)) ≤ a * (vg i x * vg j y) ∧ a * (vg i x * vg j y) ≤ 60 * (X * Y) := fun i j hi hj => mul_rng ha (m i j hi hj) (by omega)
  have mb : ∀ i j, i < 4 → j < 4 → -(60 * (X * Y)) ≤ b * (vg i x * vg j y) ∧ b * (vg i x * vg j y) ≤ 60 * (X * Y) := fun i j hi hj => mul_rng hb (m i j hi hj) (by omega)
  have mab : ∀ i j, i < 4 → j < 4 → -(60 * (60 * (X * Y))) ≤ a * (b * (vg i x * vg j y)) ∧ a * (b * (vg i x * vg j y)) ≤ 60 * (60 * (X * Y)) := fun i j hi hj => mul_rng ha (mb i j hi hj) (by omega)
  intro i hi
  refine lt4 (p := fun i => -(3721 * (X * Y)) ≤ vg i (vM a b x y) ∧ vg i (vM a b x y) ≤ 3721 * (X * Y)) ?_ ?_ ?_ ?_ hi
  · have e : vg 0 (vM a b x y) = vg 0 x * vg 0 y + a * (vg 1 x * vg 1 y) + b * (vg 2 x * vg 2 y) - a * (b * (vg 3 x * vg 3 y)) := by simp only [vg, vM]; grind
    have := m 0 0 (by omega) (by omega)
    have := ma 1 1 (by omega) (by omega)
    have := mb 2 2 (by omega) (by omega)
    have := mab 3 3 (by omega) (by omega)
    rw [e]; omega
  · have e : vg 1 (vM a b x y) = vg 0 x * vg 1 y + vg 1 x * vg 0 y + (b * (vg 3 x * vg 2 y) - b * (vg 2 x * vg 3 y)) := by simp only [vg, vM]; grind
    have := m 0 1 (by omega) (by omega)
    have := m 1 0 (by omega) (by omega)
    have := mb 3 2 (by omega) (by omega)
    have := mb 2 3 (by omega) (by omega)
    rw [e]; omega
  · have e : vg 2 (vM a b x y) = vg 0 x * vg 2 y + vg 2 x * vg 0 y + (a * (vg 1 x * vg 3 y) - a * (vg 3 x * vg 1 y)) := by simp only [vg, vM]; grind
    have := m 0 2 (by omega) (by omega)
    have := m 2 0 (by omega) (by omega)
    have := ma 1 3 (by omega) (by omega)
    have := ma 3 1 (by omega) (by omega)
    rw [e]; omega
  · have e : vg 3 (vM a b x y) = vg 0 x * vg 3 y + vg 3 x * vg 0 y + (vg 1 x * vg 2 y - vg 2 x * vg 1 y) := by simp only [vg, vM]; omega
    have := m 0 3 (by omega) (by omega)
    have := m 3 0 (by omega) (by omega)
    have := m 1 2 (by omega) (by omega)
    have := m 2 1 (by omega) (by omega)
    rw [e]; omega
theorem elR {σ : mSt} {k : Nat} (r0 : -1000000 ≤ σ 263 (5 * k) ∧ σ 263 (5 * k) ≤ 1000000) (r1 : -1000000 ≤ σ 263 (5 * k + 1) ∧ σ 263 (5 * k + 1) ≤ 1000000) (r2 : -1000000 ≤ σ 263 (5 * k + 2) ∧ σ 263 (5 * k + 2) ≤ 1000000) (r3 : -1000000 ≤ σ 263 (5 * k + 3) ∧ σ 263 (5 * k + 3) ≤ 1000000) : ∀ i, i < 4 → -1000000 ≤ vg i (elV σ k) ∧ vg i (elV σ k) ≤ 1000000 :=
  fun i hi => lt4 (p := fun i => -1000000 ≤ vg i (elV σ k) ∧ vg i (elV σ k) ≤ 1000000) r0 r1 r2 r3 hi
theorem i62_of {v : V4} {X : Int} (hX : X < 4611686018427387904) (h : ∀ i, i < 4 → -X ≤ vg i v ∧ vg i v ≤ X) : i62 v.1 ∧ i62 v.2.1 ∧ i62 v.2.2.1 ∧ i62 v.2.2.2 := by
  have h0 := h 0 (by omega)
  have h1 := h 1 (by omega)
  have h2 := h 2 (by omega)
  have h3 := h 3 (by omega)
  simp only [vg] at h0 h1 h2 h3
  unfold i62
  omega
theorem pr_times (σ : mSt) (h : Inv σ) (a1 : Int) (h1 : i32 a1) (a2 : Int) (h2 : i32 a2) (a3 : Int) (h3 : i32 a3) : ∃ b s b2 s2, mX11_times 0 a1 a2 a3 σ = some (b, s) ∧ mX12_times 253 a1 a2 a3 s = some (b2, s2) ∧ wI b = wI b2 ∧ Inv s2 := by
  have hI := h
  obtain ⟨hL, hb, t, B, n, s0, hT, hB, hP, hE, hO⟩ := h
  have hB2 := hB
  obtain ⟨q1, hn, q3, q4, q5, q6, q7⟩ := hB2
  have ht := hI.scr (scr_t (σ := σ) (v := 0))
  by_cases hv : pr2 σ a1 a2 ∧ 0 ≤ a3 ∧ a3 < 8
  · obtain ⟨hp, hto⟩ := hv
    have hp2 := hp
    obtain ⟨hk0, ho0, heq⟩ := hp2
    obtain ⟨k, rfl, hk, hkk⟩ := kp_nat hk0
    obtain ⟨o, rfl, ho, hoo⟩ := kp_nat ho0
    obtain ⟨t', rfl, hto'⟩ := slot_nat hto
    obtain ⟨al, f1, f2, f3, f4, f5, f6, r0, r1, r2, r3, r4, r5⟩ := elF hL hE hn hk hkk
    obtain ⟨bl, g1, g2, g3, g4, g5, g6, s0, s1, s2, s3, s4, s5⟩ := elF hL hE hn ho hoo
    obtain ⟨⟨ab1, ab2⟩, ⟨-, ra1, ra2, -⟩, -, rb1, rb2, -⟩ := quatF hB f1 f2
    have hd1 : 1 * 1 ≤ σ 263 (5 * k + 4) * σ 263 (5 * o + 4) := Int.mul_le_mul r4 s4 (by omega) (by omega)
    have hd2 : σ 263 (5 * k + 4) * σ 263 (5 * o + 4) ≤ 1000000 * 1000000 := Int.mul_le_mul r5 s5 (by omega) (by omega)
    obtain ⟨cc, s, e1, ec, hLs, os, ek⟩ := keepV hI hto' (al := al) (d := σ 263 (5 * k + 4) * σ 263 (5 * o + 4)) (sg := 1) (v := vM (σ 258 al) (σ 259 al) (elV σ k) (elV σ o)) (fun m hm hm8 => ⟨by omega, f2⟩) (i62_of (by decide) (vM_rng ⟨ra1, ra2⟩ ⟨rb1, rb2⟩ (elR r0 r1 r2 r3) (elR s0 s1 s2 s3) (by decide))) (by omega) (Or.inl rfl)
    have c : mX11_times 0 (k : Int) (o : Int) (t' : Int) σ = some (cc, s) := by
      have pc : mX11_isPair 0 (k : Int) (o : Int) σ = some (1, σ) := by rw [pair_c hL hE hn h1 h2, b2_t hp]
      unfold mX11_times
      simp (disch := omega) only [gc0, pc, slot_t hto', gr, bnd_eq, up_ne, upS_same, stV_ne, mCall_some, wI_id, wL_id, cLtF, cLtT, cLeF, cLeT, cEqF, cEqT, ↓reduceIte, Int.toNat_natCast, Int.reduceToNat, lay0 hL, gx112, f3, g3, gc f4, gc g4, q3, first_c hL q1 (show al < 8 by omega), second_c hL q1 (show al < 8 by omega), ab1, ab2, multiply_e f5 g5 (show shp 164 = (21, 4) by decide) (show 166 + 2 * k ≠ 164 by omega) (show 166 + 2 * o ≠ 164 by omega), f6, g6]
      exact kc_end e1
    refine ⟨cc, s, cc, ?_⟩
    suffices r : ∃ τ', mX12_times 253 (k : Int) (o : Int) (t' : Int) s = some (cc, τ') ∧ Inv τ' by
      obtain ⟨τ', e2, hI2⟩ := r
      exact ⟨τ', c, e2, rfl, hI2⟩
    have hL := hLs
    have o3 := os 263 (by omega) (by omega) (by omega)
    have o2 := os 262 (by omega) (by omega) (by omega)
    have o8 := os 258 (by omega) (by omega) (by omega)
    have o9 := os 259 (by omega) (by omega) (by omega)
    have ob := os 253 (by omega) (by omega) (by omega)
    have ev : ∀ j, elV s j = elV σ j := fun j => by unfold elV; rw [o3]
    have rb : mX12_areBeside 253 (k : Int) (o : Int) (t' : Int) (upS s 253 0 0) = some (1, upS s 253 0 0) := by
      rw [beside_f (σ := σ) (by rw [up_ne _ _ _ _ _ _ (by omega), ob]; exact hE.1) (by rw [up_ne _ _ _ _ _ _ (by omega)]; exact (lay253 hL).2.2.2.2.2.2.2.2.1) (own62 hE hn) (by rw [upS_row (by omega)]; exact o2) h1 h2 h3, b2_t ⟨hp, hto⟩]
    obtain ⟨f, hf⟩ := mF5
    unfold mX12_times
    rw [hf]
    simp (disch := omega) only [gc253, bnd_eq, rb, mCall_some, gr, bnd_eq, up_ne, upS_same, stV_ne, mCall_some, wI_id, wL_id, cLtF, cLtT, cLeF, cLeT, cEqF, cEqT, ↓reduceIte, Int.toNat_natCast, Int.reduceToNat]
    simp (disch := first | omega | (simp (disch := omega) only [up_ne, stV_ne, lay253 hL]; done) | (simp (disch := omega) only [up_ne, stV_ne, lay253 hL]; omega)) only [gr, bnd_eq, up_ne, upS_same, stV_ne, mCall_some, wI_id, wL_id, cLtF, cLtT, cLeF, cLeT, cEqF, cEqT, ↓reduceIte, Int.toNat_natCast, Int.reduceToNat, takesOne_e, takesOther_e, lay253 hL, gx262, gx258, gx259, o2, f3, o8, o9, multiplies_e]
    repeat (rw [mX12_times_L58.eq_2]; simp (disch := first | omega | (simp (disch := omega) only [up_ne, stV_ne, lay253 hL]; done) | (simp (disch := omega) only [up_ne, stV_ne, lay253 hL]; omega)) only [gr, bnd_eq, up_ne, upS_same, stV_ne, mCall_some, wI_id, wL_id, cLtF, cLtT, cLeF, cLeT, cEqF, cEqT, ↓reduceIte, Int.toNat_natCast, Int.reduceToNat, lay253 hL, gx264, gx267, gx262, Int.reduceAdd, mX12_times_B84, part_e, stV_0, stV_fold, o2, f3, o3])
    simp (disch := omega) only [elV_up, elV_stV, ev, rowV_ne, rowV_stV]
    exact ek _ _ _ (frm.stV (frm.stV (frm.stV frT (fun j => scrD _ _ (by omega))) (fun j => scrD _ _ (by omega))) (fun j => scrD _ _ (by omega))) (vS_one _).symm (by omega)
  · refine ⟨-1, σ, -1, upS σ 253 0 0, ?_, ?_, rfl, ht⟩
    · unfold mX11_times
      refine mR_eq (mR_G (by decide) (mR_callE (pair_c hL hE hn h1 h2) (mR_if (fun z => mR_ret ⟨rfl, rfl⟩) (fun z => ?_))))
      have := b2p z
      exact mR_callE (slot_c h3) (mR_pos (by rw [wI_b2, b2_f (fun z2 => hv ⟨this, z2⟩)]) (mR_ret ⟨rfl, rfl⟩))
    · unfold mX12_times
      exact mR_eq (mR_G (by decide) (mR_bnd (mR_callE (beside_f (σ := σ) (by rw [up_ne _ _ _ _ _ _ (by omega)]; exact hE.1) (by rw [up_ne _ _ _ _ _ _ (by omega)]; exact (lay253 hL).2.2.2.2.2.2.2.2.1) (own62 hE hn) (upS_row (by omega)) h1 h2 h3) (mR_pos (by rw [wI_b2, b2_f hv]) (mR_ret ⟨rfl, rfl⟩)))))

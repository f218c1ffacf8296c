/-! over, times, plus, mirror, inverse -/
theorem elF {σ : mSt} {n : Nat} (hL : Lay σ) (hE : iEls σ n) (hn : n ≤ 8) {k : Nat} (hk : k < 8) (h : σ (165 + 2 * k) 2 ≠ -1) : ∃ al : Nat, al < n ∧ σ 257 al = 0 ∧ (σ 112 k = ((165 + 2 * k : Nat) : Int) ∧ σ (165 + 2 * k) 0 = ((166 + 2 * k : Nat) : Int) ∧ σ (165 + 2 * k) 2 = (al : Int) ∧ σ 262 k = (al : Int) ∧ σ (165 + 2 * k) 1 = σ 263 (5 * k + 4)) ∧ shp (165 + 2 * k) = (1, 0) ∧ shp (166 + 2 * k) = (21, 4) ∧ rowV σ (166 + 2 * k) = elV σ k ∧ (-1000000 ≤ σ 263 (5 * k) ∧ σ 263 (5 * k) ≤ 1000000) ∧ (-1000000 ≤ σ 263 (5 * k + 1) ∧ σ 263 (5 * k + 1) ≤ 1000000) ∧ (-1000000 ≤ σ 263 (5 * k + 2) ∧ σ 263 (5 * k + 2) ≤ 1000000) ∧ (-1000000 ≤ σ 263 (5 * k + 3) ∧ σ 263 (5 * k + 3) ≤ 1000000) ∧ 1 ≤ σ 263 (5 * k + 4) ∧ σ 263 (5 * k + 4) ≤ 1000000 := by
  obtain ⟨al, a1, a2, a3, a4, a5, a6, a7, a8⟩ := el_facts hE hn hk h
  obtain ⟨l1, l2, l3, l4⟩ := el_lay hL k hk
  have b0 := a5 0 (by omega)
  have b1 := a5 1 (by omega)
  have b2 := a5 2 (by omega)
  have b3 := a5 3 (by omega)
  refine ⟨al, a1, a4, ⟨l1, l2, a2, a3, a6⟩, l3, l4, ?_, b0.2, b1.2, b2.2, b3.2, a7, a8⟩
  unfold rowV elV
  rw [b0.1, b1.1, b2.1, b3.1, Nat.add_zero]
theorem quatF {σ : mSt} {B n al : Nat} (hB : iBook σ B n) (ha : al < n) (h : σ 257 al = 0) : (σ (B + 2) al = σ 258 al ∧ σ (B + 3) al = σ 259 al) ∧ (σ 258 al ≠ 0 ∧ -60 ≤ σ 258 al ∧ σ 258 al ≤ 60 ∧ sqf (σ 258 al)) ∧ σ 259 al ≠ 0 ∧ -60 ≤ σ 259 al ∧ σ 259 al ≤ 60 ∧ sqf (σ 259 al) := by
  obtain ⟨q1, q2, q3, q4, q5, q6, q7⟩ := hB
  obtain ⟨g1, g2, g3, g4, g5⟩ := q7 al ha
  rw [Nat.zero_add] at g1 g2 g3 g5
  rcases g5 with g | g | g
  · exact ⟨⟨g2, g3⟩, g.2⟩
  · omega
  · omega
theorem kp_nat {σ : mSt} {a : Int} (h : kp σ a) : ∃ k : Nat, a = (k : Int) ∧ k < 8 ∧ σ (165 + 2 * k) 2 ≠ -1 := by
  obtain ⟨h1, h2, h3⟩ := h
  exact ⟨a.toNat, by omega, by omega, h3⟩
theorem kept_t {σ : mSt} (hL : Lay σ) (hO : own32 σ) {k : Nat} (hk : k < 8) (h : σ (165 + 2 * k) 2 ≠ -1) : mX11_isKept 0 (k : Int) σ = some (1, σ) := by
  rw [kept_c hL hO (by unfold i32; omega), b2_t ⟨by omega, by omega, by rw [Int.toNat_natCast]; exact h⟩]
theorem slot_t {σ : mSt} {k : Nat} (hk : k < 8) : mX11_isSlot 0 (k : Int) σ = some (1, σ) := by
  rw [slot_c (by unfold i32; omega), b2_t (by omega)]
theorem frT {s : mSt} {v : Int} : frm scr s (upS s 253 0 v) := scr_t
theorem el62 {σ : mSt} {k : Nat} (h : (-1000000 ≤ σ 263 (5 * k) ∧ σ 263 (5 * k) ≤ 1000000) ∧ (-1000000 ≤ σ 263 (5 * k + 1) ∧ σ 263 (5 * k + 1) ≤ 1000000) ∧ (-1000000 ≤ σ 263 (5 * k + 2) ∧ σ 263 (5 * k + 2) ≤ 1000000) ∧ (-1000000 ≤ σ 263 (5 * k + 3) ∧ σ 263 (5 * k + 3) ≤ 1000000)) : i62 (elV σ k).1 ∧ i62 (elV σ k).2.1 ∧ i62 (elV σ k).2.2.1 ∧ i62 (elV σ k).2.2.2 := by
  unfold elV i62
  simp only
  omega
theorem kc_end {o : Option (Int × mSt)} {cc : Int} {s : mSt} (e : o = some (cc, s)) : (mCall o fun b2 s3 => some (b2, s3)) = some (cc, s) := by rw [e]; rfl
theorem kept_rt {σ τ : mSt} (hE : τ 253 21 = bits σ 8) {k : Nat} (hk : k < 8) (h : σ (165 + 2 * k) 2 ≠ -1) : mX12_isKept 253 (k : Int) τ = some (1, τ) := by
  rw [kept_r2 (σ := σ) hE (by unfold i32; omega), b2_t ⟨by omega, by omega, by rw [Int.toNat_natCast]; exact h⟩]
theorem st5_4 {σ : mSt} {r : Nat} {a b c d e : Int} : st5 σ r a b c d e r 4 = e := upS_same _ _ _ _
theorem st5_up {σ : mSt} {r : Nat} {a b c d e v : Int} : upS (st5 σ r a b c d e) r 4 v = upS (stV σ r (a, b, c, d)) r 4 v := by
  funext i j
  unfold st5 stV
  by_cases h : i = r ∧ j = 4
  · rw [h.1, h.2, upS_same, upS_same]
  · rw [upS_ne h, upS_ne h, upS_ne h]
theorem st5_up0 {σ : mSt} {r : Nat} {a b c d e v : Int} : upS (st5 σ r a b c d e) r 0 v = upS (stV σ r (v, b, c, d)) r 4 e := by
  funext i j
  unfold st5 stV st4
  simp only [upS]
  grind
theorem reflect_e {σ : mSt} {f : Int} {x z : Nat} (hx : shp x = (21, 4)) (hz : shp z = (21, 4)) (h1 : x ≠ z) : mX1_reflect x f z σ = some (0, stV σ z (σ x 0 * f, -(σ x 1) * f, -(σ x 2) * f, -(σ x 3) * f)) := by
  obtain ⟨g, hg⟩ := mF5
  unfold mX1_reflect
  rw [hg]
  simp (disch := omega) only [gx hx, gx hz, gr, bnd_eq, up_ne, upS_same, stV_ne, mCall_some, wI_id, wL_id, cLtF, cLtT, cLeF, cLeT, cEqF, cEqT, ↓reduceIte, Int.toNat_natCast, Int.reduceToNat]
  repeat (rw [mX1_reflect_L11.eq_2]; simp (disch := omega) only [gx hx, gx hz, gr, bnd_eq, up_ne, upS_same, stV_ne, mCall_some, wI_id, wL_id, cLtF, cLtT, cLeF, cLeT, cEqF, cEqT, ↓reduceIte, Int.toNat_natCast, Int.reduceToNat, Int.reduceAdd, mX1_reflect_B34])
  rfl
theorem beside_f {σ τ : mSt} (hE : τ 253 21 = bits σ 8) (l : τ 253 22 = ((262 : Nat) : Int)) (ho : ∀ j : Nat, j < 8 → σ (165 + 2 * j) 2 ≠ -1 → i32 (σ 262 j)) (h2 : τ 262 = σ 262) {k o t : Int} (hk : i32 k) (hko : i32 o) (ht : i32 t) : mX12_areBeside 253 k o t τ = some (b2 (pr2 σ k o ∧ 0 ≤ t ∧ t < 8), τ) := by
  have := beside_r (σ := σ) (τ := τ) hE l (by rw [h2]; exact ho) hk hko ht
  rw [h2] at this
  rw [this]
  exact congrArg (fun x => some (x, τ)) (b2_iff ⟨fun z => ⟨⟨z.1, z.2.1, z.2.2.1⟩, z.2.2.2⟩, fun z => ⟨z.1.1, z.1.2.1, z.1.2.2, z.2⟩⟩)
theorem own62 {σ : mSt} {n : Nat} (hE : iEls σ n) (hn : n ≤ 8) : ∀ j : Nat, j < 8 → σ (165 + 2 * j) 2 ≠ -1 → i32 (σ 262 j) := fun j hj h => by
  obtain ⟨al, a1, a2, a3, -⟩ := el_facts hE hn hj h
  rw [a3]; unfold i32; omega
theorem slot_nat {a : Int} (h : 0 ≤ a ∧ a < 8) : ∃ k : Nat, a = (k : Int) ∧ k < 8 := ⟨a.toNat, by omega, by omega⟩
theorem loads_s {τ : mSt} {k : Nat} {by1 : Int} (hk : k < 8) (l0 : τ 253 24 = ((264 : Nat) : Int)) (l1 : τ 253 23 = ((263 : Nat) : Int)) : mX12_loads 253 (k : Int) by1 τ = some (0, st5 τ 264 (τ 263 (5 * k) * by1) (τ 263 (5 * k + 1) * by1) (τ 263 (5 * k + 2) * by1) (τ 263 (5 * k + 3) * by1) (τ 263 (5 * k + 4))) := loads_e hk l0 l1
theorem pr_over (σ : mSt) (h : Inv σ) (a1 : Int) (h1 : i32 a1) (a2 : Int) (h2 : i32 a2) : ∃ b s b2 s2, mX11_over 0 a1 a2 σ = some (b, s) ∧ mX12_over 253 a1 a2 s = some (b2, s2) ∧ wI b = wI b2 ∧ Inv s2 := by
  have hI := h
  obtain ⟨hL, hb, t, B, n, s0, hT, hB, hP, hE, hO⟩ := h
  have hn := hB.2.1
  have hn255 := hB.2.2.2.2.2.1
  have ht := hI.scr (scr_t (σ := σ) (v := 0))
  have h1' := h1
  have h2' := h2
  unfold i32 at h1' h2'
  by_cases hv : kp σ a1 ∧ 1 ≤ a2 ∧ a2 ≤ 1000
  · obtain ⟨hk0, v1, v2⟩ := hv
    obtain ⟨k, rfl, hk, hkk⟩ := kp_nat hk0
    obtain ⟨al, f1, f2, f3, f4, f5, f6, r0, r1, r2, r3, r4, r5⟩ := elF hL hE hn hk hkk
    have hd1 : 1 * 1 ≤ σ 263 (5 * k + 4) * a2 := Int.mul_le_mul r4 v1 (by omega) (by omega)
    have hd2 : σ 263 (5 * k + 4) * a2 ≤ 1000000 * 1000 := Int.mul_le_mul r5 v2 (by omega) (by omega)
    obtain ⟨cc, s, e1, ec, hLs, os, ek⟩ := keepV hI hk (al := al) (d := σ 263 (5 * k + 4) * a2) (sg := 1) (v := elV σ k) (fun m hm hm8 => ⟨by omega, f2⟩) (el62 ⟨r0, r1, r2, r3⟩) (by omega) (Or.inl rfl)
    have c : mX11_over 0 (k : Int) a2 σ = some (cc, s) := by
      obtain ⟨f, hf⟩ := mF5
      unfold mX11_over
      rw [hf]
      have rv : ∀ i, i < 4 → σ (166 + 2 * k) i = vg i (elV σ k) := fun i hi => by rw [← f6, vg_rowV _ _ hi]
      have rv0 := rv 0 (by omega)
      have rv1 := rv 1 (by omega)
      have rv2 := rv 2 (by omega)
      have rv3 := rv 3 (by omega)
      simp (disch := omega) only [gc0, kept_t hL (hE.own hn) hk hkk, gr, bnd_eq, up_ne, upS_same, stV_ne, mCall_some, wI_id, wL_id, cLtF, cLtT, cLeF, cLeT, cEqF, cEqT, ↓reduceIte, Int.toNat_natCast, Int.reduceToNat, lay0 hL, gx112, f3]
      repeat (rw [mX11_over_L32.eq_2]; simp (disch := omega) only [gr, bnd_eq, up_ne, upS_same, stV_ne, mCall_some, wI_id, wL_id, cLtF, cLtT, cLeF, cLeT, cEqF, cEqT, ↓reduceIte, Int.toNat_natCast, Int.reduceToNat, lay0 hL, f3, gc f4, gx f5, gx164, Int.reduceAdd, mX11_over_B58, rv0, rv1, rv2, rv3])
      rw [stV_fold]
      exact kc_end e1
    refine ⟨cc, s, cc, ?_⟩
    suffices r : ∃ τ', mX12_over 253 (k : Int) a2 s = some (cc, τ') ∧ Inv τ' by
      obtain ⟨τ', e2, hI2⟩ := r
      exact ⟨τ', c, e2, rfl, hI2⟩
    have hL := hLs
    have o3 := os 263 (by omega) (by omega) (by omega)
    have o2 := os 262 (by omega) (by omega) (by omega)
    have ob := os 253 (by omega) (by omega) (by omega)
    have rk : mX12_isKept 253 (k : Int) (upS s 253 0 0) = some (1, upS s 253 0 0) := kept_rt (σ := σ) (by rw [up_ne _ _ _ _ _ _ (by omega), ob]; exact hE.1) hk hkk
    unfold mX12_over
    simp (disch := omega) only [gc253, bnd_eq, rk, mCall_some, gr, bnd_eq, up_ne, upS_same, stV_ne, mCall_some, wI_id, wL_id, cLtF, cLtT, cLeF, cLeT, cEqF, cEqT, ↓reduceIte, Int.toNat_natCast, Int.reduceToNat]
    rw [within_e a2 1 1000 _ (by omega) (by omega) (by omega), b2_t ⟨v1, v2⟩]
    simp (disch := first | omega | (simp (disch := omega) only [up_ne, stV_ne, lay253 hL]; done) | (simp (disch := omega) only [up_ne, stV_ne, lay253 hL]; omega)) only [gr, bnd_eq, up_ne, upS_same, stV_ne, mCall_some, wI_id, wL_id, cLtF, cLtT, cLeF, cLeT, cEqF, cEqT, ↓reduceIte, Int.toNat_natCast, Int.reduceToNat, loads_s]
    simp (disch := omega) only [gr, bnd_eq, up_ne, upS_same, stV_ne, mCall_some, wI_id, wL_id, cLtF, cLtT, cLeF, cLeT, cEqF, cEqT, ↓reduceIte, Int.toNat_natCast, Int.reduceToNat, st5_at, st5_4, st5_up, lay253 hL, gx264, gx262, o2, f3, up_row, o3]
    exact ek _ _ _ frT (by rw [vS_one]; unfold elV; simp only [Int.mul_one]) (by omega)
  · refine ⟨-1, σ, -1, upS σ 253 0 0, ?_, ?_, rfl, ht⟩
    · unfold mX11_over
      refine mR_eq (mR_G (by decide) (mR_callE (kept_c hL (hE.own hn) h1) (mR_if (fun z => mR_ret ⟨rfl, rfl⟩) (fun z => ?_))))
      have := b2p z
      rw [wI_id h2]
      refine mR_if (fun z => mR_ret ⟨rfl, rfl⟩) (fun z => mR_neg (fun z2 => hv ⟨this, by omega, z2⟩) (mR_ret ⟨rfl, rfl⟩))
    · unfold mX12_over
      refine mR_eq (mR_G (by decide) (mR_bnd (mR_callE (kept_r2 (σ := σ) (by rw [up_ne _ _ _ _ _ _ (by omega)]; exact hE.1) h1) (mR_if (fun z => mR_ret ⟨rfl, rfl⟩) (fun z => ?_)))))
      have := b2p z
      rw [wI_id h2]
      exact mR_callE (within_e _ 1 1000 _ (by omega) (by omega) (by omega)) (mR_pos (by rw [wI_b2, b2_f (fun z2 => hv ⟨this, z2⟩)]) (mR_ret ⟨rfl, rfl⟩))

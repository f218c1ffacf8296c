/-! element, norm, trace -/
theorem lowest_e {a b w : Int} {σ : mSt} (ha : -9223372036854775808 < a ∧ a < 9223372036854775808) (hb : 0 < b ∧ b < 9223372036854775808) : mX5_lowest a b w σ = some ((if wI w = 0 then a else b) / (Int.gcd a b : Int), σ) := by
  have g0 : 0 < (Int.gcd a b : Int) := by have := Int.gcd_pos_of_ne_zero_right a (show b ≠ 0 by omega); omega
  have g1 : (Int.gcd a b : Int) ≤ b := Int.gcd_le_right a hb.1
  have key : ∀ t, -9223372036854775808 < t ∧ t < 9223372036854775808 → mX5_lowest_B10 a b w t σ = some (t / (Int.gcd a b : Int), σ) := by
    intro t ht
    unfold mX5_lowest_B10
    rw [gcd_e a b σ ha (by omega), mCall_some, quot_e t _ σ g0 (by omega) (by omega), mCall_some]
  unfold mX5_lowest
  by_cases hw : wI w = 0
  · rw [if_pos hw, if_pos hw, key a ha]
  · rw [if_neg hw, if_neg hw, key b (by omega)]
theorem toldf_e {a b w : Int} {σ : mSt} (ha : -9223372036854775808 < a ∧ a < 9223372036854775808) (hb : 0 < b ∧ b < 9223372036854775808) : mX12_told a b w σ = some ((if wI w = 0 then a else b) / (Int.gcd a b : Int), σ) := by
  have g0 : 0 < (Int.gcd a b : Int) := by have := Int.gcd_pos_of_ne_zero_right a (show b ≠ 0 by omega); omega
  have g1 : (Int.gcd a b : Int) ≤ b := Int.gcd_le_right a hb.1
  have key : ∀ t, (Int.gcd a b : Int) ∣ t → t.tdiv (Int.gcd a b : Int) = t / (Int.gcd a b : Int) := by
    intro t ht
    rw [Int.tdiv_eq_ediv_of_dvd ht]
  unfold mX12_told
  rw [com_e a b σ ha (by omega), mCall_some, wL_id (x := (Int.gcd a b : Int)) (by omega), wL_id (x := a) (by omega), wL_id (x := b) (by omega)]
  by_cases hw : wI w = 0
  · rw [if_pos hw, if_pos hw, mG_pos (by omega), key a (Int.gcd_dvd_left a b)]
  · rw [if_neg hw, if_neg hw, mG_pos (by omega), key b (Int.gcd_dvd_right a b)]
theorem mThrow_neL (x : Int) : wL x ≠ mThrow := by
  have := wL_rng x
  unfold mThrow
  omega
theorem mThrow_neI (x : Int) : wI x ≠ mThrow := by
  have := wI_rng x
  unfold mThrow
  omega
theorem f275 {s s1 : mSt} (h : frm (fun i _ => i = 275) s s1) : ∀ i, i ≠ 275 → s1 i = s i := frm275 h
theorem element_bad {σ : mSt} {n : Nat} (hL : Lay σ) (hI : Inv σ) (hE : iEls σ n) (hn : n ≤ 8) {a1 a2 : Int} (h1 : i32 a1) (h2 : i32 a2) (hv : ¬ (kp σ a1 ∧ 0 ≤ a2 ∧ a2 ≤ 5)) : mX11_element 0 a1 a2 σ = some (mThrow, σ) ∧ ∃ b2 s2, mX12_element 253 a1 a2 σ = some (b2, s2) ∧ s2 253 0 = 1 ∧ Inv s2 := by
  have e : mX12_element_B25 253 a1 a2 253 σ = some (0, upS σ 253 0 1) := by
    unfold mX12_element_B25 mX12_element_B26
    exact mR_eq (mR_G (by decide) (mR_bnd (mR_pos (by rw [upS_same]; decide) (mR_ret ⟨rfl, rfl⟩))))
  constructor
  · unfold mX11_element mX11_element_B17
    refine mR_eq (mR_G (by decide) (mR_callE (kept_c hL (hE.own hn) h1) (mR_if (fun z => mR_ret ⟨rfl, rfl⟩) (fun z => ?_))))
    have := b2p z
    refine mR_if (fun z => mR_ret ⟨rfl, rfl⟩) (fun z => mR_neg (fun z2 => ?_) (mR_ret ⟨rfl, rfl⟩))
    rw [wI_id h2] at z z2
    exact hv ⟨this, by omega, z2⟩
  · refine ⟨0, upS σ 253 0 1, ?_, upS_same _ _ _ _, hI.scr scr_t⟩
    unfold mX12_element
    refine mR_eq (mR_G (by decide) (mR_callE (kept_r hE h1) (mR_if (fun z => mR_of e ⟨rfl, rfl⟩) (fun z => ?_))))
    have := b2p z
    rw [wI_id h2]
    exact mR_callE (within_e _ 0 5 _ (by unfold i32 at h2; omega) (by omega) (by omega)) (mR_pos (by rw [wI_b2, b2_f (fun z2 => hv ⟨this, z2⟩)]) (mR_of e ⟨rfl, rfl⟩))
theorem pr_element (σ : mSt) (h : Inv σ) (a1 : Int) (h1 : i32 a1) (a2 : Int) (h2 : i32 a2) : ∃ b s, mX11_element 0 a1 a2 σ = some (b, s) ∧ Inv s ∧ ((b = mThrow ∧ ∃ b2 s2, mX12_element 253 a1 a2 s = some (b2, s2) ∧ s2 253 0 = 1 ∧ Inv s2) ∨ (b ≠ mThrow ∧ ∀ s1, Inv s1 → frm (fun i _ => i = 275) s s1 → ∃ b2 s2, mX12_element 253 a1 a2 s1 = some (b2, s2) ∧ s2 253 0 = 0 ∧ s2 275 0 = s1 275 0 ∧ wI b = wI b2 ∧ Inv s2)) := by
  have hI := h
  obtain ⟨hL, hb, t, B, n, s0, hT, hB, hP, hE, hO⟩ := h
  have hB2 := hB
  obtain ⟨q1, hn, q3, q4, q5, q6, q7⟩ := hB2
  by_cases hv : kp σ a1 ∧ 0 ≤ a2 ∧ a2 ≤ 5
  · obtain ⟨hk0, v1, v2⟩ := hv
    obtain ⟨k, rfl, hk, hkk⟩ := kp_nat hk0
    obtain ⟨al, f1, f2, f3, f4, f5, f6, r0, r1, r2, r3, r4, r5⟩ := elF hL hE hn hk hkk
    have rr := elR r0 r1 r2 r3
    obtain ⟨⟨ab1, ab2⟩, ⟨-, ra1, ra2, -⟩, -, rb1, rb2, -⟩ := quatF hB f1 f2
    have rv : ∀ i, i < 4 → σ (166 + 2 * k) i = σ 263 (5 * k + i) := fun i hi => by
      rw [← vg_rowV σ _ hi, f6]
      exact lt4 (p := fun i => vg i (elV σ k) = σ 263 (5 * k + i)) rfl rfl rfl rfl hi
    have c : mX11_element 0 (k : Int) a2 σ = some (wI (if a2 = 5 then (al : Int) else σ 263 (5 * k + a2.toNat)), σ) := by
      unfold mX11_element
      rw [gc0, kept_t hL (hE.own hn) hk hkk, mCall_some, if_neg (by decide), if_neg (by rw [wI_id h2]; omega), if_pos (by rw [wI_id h2]; exact v2)]
      refine mR_eq (mR_ref (lay0 hL).2.2.2.1 (by omega) (mR_G (ixOK_of (n := 8) (by decide) (by omega) (by omega) (by omega)) ?_))
      rw [wI_nat (by omega)]
      refine mR_ref f3.1 (by omega) (mR_if (fun z => ?_) (fun z => mR_if (fun z2 => ?_) (fun z2 => ?_)))
      all_goals rw [wI_id h2] at z
      · exact mR_G (isC_of f4) (mR_ret ⟨by rw [if_pos z, f3.2.2.1], rfl⟩)
      · exact mR_G (isC_of f4) (mR_ret ⟨by rw [if_neg z, f3.2.2.2.2, show a2 = 4 by rw [wI_id h2] at z2; exact z2]; rfl, rfl⟩)
      · exact mR_G (isC_of f4) (mR_ref f3.2.1 (by omega) (mR_G (ixOK_of f5 v1 (by rw [wI_id h2] at z2; omega) (by omega)) (mR_ret ⟨by rw [if_neg z, wI_id h2, rv _ (by rw [wI_id h2] at z2; omega)], rfl⟩)))
    refine ⟨_, _, c, hI, Or.inr ⟨mThrow_neI _, fun s1 hs1 hf => ?_⟩⟩
    have o := f275 hf
    have hL := hs1.1
    have o3 := o 263 (by omega)
    have o2 := o 262 (by omega)
    have o8 := o 258 (by omega)
    have o9 := o 259 (by omega)
    have ob := o 253 (by omega)
    have ev : ∀ j, elV s1 j = elV σ j := fun j => by unfold elV; rw [o3]
    refine ⟨(if a2 = 5 then (al : Int) else σ 263 (5 * k + a2.toNat)), upS s1 253 0 0, ?_, upS_same _ _ _ _, up_ne _ _ _ _ _ _ (by omega), wI_wI _, hs1.scr scr_t⟩
    unfold mX12_element
    refine mR_eq (mR_G (by decide) (mR_callE (kept_rt (σ := σ) (by rw [ob]; exact hE.1) hk hkk) (mR_neg (by decide) ?_)))
    rw [wI_id h2]
    refine mR_callE (within_e a2 0 5 s1 (by omega) (by omega) (by omega)) (mR_neg (by rw [wI_b2, b2_t ⟨v1, v2⟩]; decide) ?_)
    unfold mX12_element_B26
    refine mR_G (by decide) (mR_bnd (mR_neg (by rw [upS_same]; decide) ?_))
    refine mR_if (fun z => ?_) (fun z => ?_)
    all_goals rw [wI_id h2] at z
    · refine mR_ref (r := 262) (by rw [up_ne _ _ _ _ _ _ (by omega)]; exact (lay253 hL).2.2.2.2.2.2.2.2.1) (by omega) (mR_G (ixOK_of (n := 8) (by decide) (by omega) (by omega) (by omega)) (mR_ret ⟨?_, rfl⟩))
      rw [if_pos z, wI_nat (by omega), up_ne _ _ _ _ _ _ (by omega), o2, f3.2.2.2.1]
    · refine mR_callE (part_e (by rw [up_ne _ _ _ _ _ _ (by omega)]; exact (lay253 hL).2.2.2.2.2.2.2.2.2.1) ⟨hk, v1, by omega⟩) (mR_ret ⟨?_, rfl⟩)
      rw [if_neg z, up_ne _ _ _ _ _ _ (by omega), o3]
  · obtain ⟨c, r⟩ := element_bad hL hI hE hn h1 h2 hv
    exact ⟨_, _, c, hI, Or.inl ⟨rfl, r⟩⟩
theorem norm_bad {σ : mSt} {n : Nat} (hL : Lay σ) (hI : Inv σ) (hE : iEls σ n) (hn : n ≤ 8) {a1 a2 : Int} (h1 : i32 a1) (h2 : i32 a2) (hv : ¬ (kp σ a1 ∧ 0 ≤ a2 ∧ a2 ≤ 1)) : mX11_norm 0 a1 a2 σ = some (mThrow, σ) ∧ ∃ b2 s2, mX12_norm 253 a1 a2 σ = some (b2, s2) ∧ s2 253 0 = 1 ∧ Inv s2 := by
  have e : mX12_norm_B23 253 a1 a2 253 σ = some (0, upS σ 253 0 1) := by
    unfold mX12_norm_B23 mX12_norm_B24
    exact mR_eq (mR_G (by decide) (mR_bnd (mR_pos (by rw [upS_same]; decide) (mR_ret ⟨rfl, rfl⟩))))
  constructor
  · unfold mX11_norm mX11_norm_B17
    refine mR_eq (mR_G (by decide) (mR_callE (kept_c hL (hE.own hn) h1) (mR_if (fun z => mR_ret ⟨rfl, rfl⟩) (fun z => ?_))))
    have := b2p z
    refine mR_if (fun z => mR_ret ⟨rfl, rfl⟩) (fun z => mR_neg (fun z2 => ?_) (mR_ret ⟨rfl, rfl⟩))
    rw [wI_id h2] at z z2
    exact hv ⟨this, by omega, z2⟩
  · refine ⟨0, upS σ 253 0 1, ?_, upS_same _ _ _ _, hI.scr scr_t⟩
    unfold mX12_norm
    refine mR_eq (mR_G (by decide) (mR_callE (kept_r hE h1) (mR_if (fun z => mR_of e ⟨rfl, rfl⟩) (fun z => ?_))))
    have := b2p z
    rw [wI_id h2]
    exact mR_callE (within_e _ 0 1 _ (by unfold i32 at h2; omega) (by omega) (by omega)) (mR_pos (by rw [wI_b2, b2_f (fun z2 => hv ⟨this, z2⟩)]) (mR_of e ⟨rfl, rfl⟩))
theorem pr_norm (σ : mSt) (h : Inv σ) (a1 : Int) (h1 : i32 a1) (a2 : Int) (h2 : i32 a2) : ∃ b s, mX11_norm 0 a1 a2 σ = some (b, s) ∧ Inv s ∧ ((b = mThrow ∧ ∃ b2 s2, mX12_norm 253 a1 a2 s = some (b2, s2) ∧ s2 253 0 = 1 ∧ Inv s2) ∨ (b ≠ mThrow ∧ ∀ s1, Inv s1 → frm (fun i _ => i = 275) s s1 → ∃ b2 s2, mX12_norm 253 a1 a2 s1 = some (b2, s2) ∧ s2 253 0 = 0 ∧ s2 275 0 = s1 275 0 ∧ wL b = wL b2 ∧ Inv s2)) := by
  have hI := h
  obtain ⟨hL, hb, t, B, n, s0, hT, hB, hP, hE, hO⟩ := h
  have hB2 := hB
  obtain ⟨q1, hn, q3, q4, q5, q6, q7⟩ := hB2
  by_cases hv : kp σ a1 ∧ 0 ≤ a2 ∧ a2 ≤ 1
  · obtain ⟨hk0, v1, v2⟩ := hv
    obtain ⟨k, rfl, hk, hkk⟩ := kp_nat hk0
    obtain ⟨al, f1, f2, f3, f4, f5, f6, r0, r1, r2, r3, r4, r5⟩ := elF hL hE hn hk hkk
    have rr := elR r0 r1 r2 r3
    obtain ⟨⟨ab1, ab2⟩, ⟨-, ra1, ra2, -⟩, -, rb1, rb2, -⟩ := quatF hB f1 f2
    have hN := vN_rng ⟨ra1, ra2⟩ ⟨rb1, rb2⟩ rr (by decide)
    have fo := formOf_e hL hB f1 f2 f4 f5 f3.2.2.1 f3.2.1 f6
    obtain ⟨N, hNe⟩ : ∃ z, z = vN (σ 258 al) (σ 259 al) (elV σ k) := ⟨_, rfl⟩
    rw [← hNe] at hN fo
    obtain ⟨D, hD⟩ : ∃ z, z = σ 263 (5 * k + 4) * σ 263 (5 * k + 4) := ⟨_, rfl⟩
    have hd1 : 1 * 1 ≤ σ 263 (5 * k + 4) * σ 263 (5 * k + 4) := Int.mul_le_mul r4 r4 (by omega) (by omega)
    have hd2 : σ 263 (5 * k + 4) * σ 263 (5 * k + 4) ≤ 1000000 * 1000000 := Int.mul_le_mul r5 r5 (by omega) (by omega)
    rw [← hD] at hd1 hd2
    have c : mX11_norm 0 (k : Int) a2 σ = some (wL ((if wI a2 = 0 then N else D) / (Int.gcd N D : Int)), σ) := by
      unfold mX11_norm
      rw [gc0, kept_t hL (hE.own hn) hk hkk, mCall_some, if_neg (by decide), if_neg (by rw [wI_id h2]; omega), if_pos (by rw [wI_id h2]; exact v2)]
      refine mR_eq (mR_ref (lay0 hL).2.2.2.1 (by omega) (mR_G (ixOK_of (n := 8) (by decide) (by omega) (by omega) (by omega)) ?_))
      rw [wI_nat (by omega)]
      refine mR_ref f3.1 (by omega) (mR_callE fo (mR_G (isC_of f4) ?_))
      rw [f3.2.2.2.2, ← hD]
      refine mR_callE (lowest_e (by omega) (by omega)) (mR_ret ⟨by rw [wI_id h2], rfl⟩)
    refine ⟨_, _, c, hI, Or.inr ⟨mThrow_neL _, fun s1 hs1 hf => ?_⟩⟩
    have o := f275 hf
    have hL := hs1.1
    have o3 := o 263 (by omega)
    have o2 := o 262 (by omega)
    have o8 := o 258 (by omega)
    have o9 := o 259 (by omega)
    have ob := o 253 (by omega)
    have ev : ∀ j, elV s1 j = elV σ j := fun j => by unfold elV; rw [o3]
    refine ⟨((if wI a2 = 0 then N else D) / (Int.gcd N D : Int)), upS s1 253 0 0, ?_, upS_same _ _ _ _, up_ne _ _ _ _ _ _ (by omega), wL_wL _, hs1.scr scr_t⟩
    unfold mX12_norm
    refine mR_eq (mR_G (by decide) (mR_callE (kept_rt (σ := σ) (by rw [ob]; exact hE.1) hk hkk) (mR_neg (by decide) ?_)))
    rw [wI_id h2]
    refine mR_callE (within_e a2 0 1 s1 (by omega) (by omega) (by omega)) (mR_neg (by rw [wI_b2, b2_t ⟨v1, v2⟩]; decide) ?_)
    unfold mX12_norm_B24
    refine mR_G (by decide) (mR_bnd (mR_neg (by rw [upS_same]; decide) ?_))
    have na := na3 (τ := s1) (v := 0) hk (show al < 8 by omega) hL (by rw [o2]; exact f3.2.2.2.1) (by rw [o8]; exact ⟨ra1, ra2⟩) (by rw [o9]; exact ⟨rb1, rb2⟩)
    rw [o8, o9, ev, ← hNe] at na
    have pe := part_e (τ := upS s1 253 0 0) (i := 4) (by rw [up_ne _ _ _ _ _ _ (by omega)]; exact (lay253 hL).2.2.2.2.2.2.2.2.2.1) ⟨hk, by omega, by omega⟩
    rw [up_ne _ _ _ _ _ _ (by omega), o3, show 5 * k + (4 : Int).toNat = 5 * k + 4 from rfl] at pe
    refine mR_callE na (mR_callE pe (mR_callE pe ?_))
    rw [← hD]
    exact mR_callE (toldf_e (by omega) (by omega)) (mR_ret ⟨by rw [wI_id h2], rfl⟩)
  · obtain ⟨c, r⟩ := norm_bad hL hI hE hn h1 h2 hv
    exact ⟨_, _, c, hI, Or.inl ⟨rfl, r⟩⟩
theorem trace_bad {σ : mSt} {n : Nat} (hL : Lay σ) (hI : Inv σ) (hE : iEls σ n) (hn : n ≤ 8) {a1 a2 : Int} (h1 : i32 a1) (h2 : i32 a2) (hv : ¬ (kp σ a1 ∧ 0 ≤ a2 ∧ a2 ≤ 1)) : mX11_trace 0 a1 a2 σ = some (mThrow, σ) ∧ ∃ b2 s2, mX12_trace 253 a1 a2 σ = some (b2, s2) ∧ s2 253 0 = 1 ∧ Inv s2 := by
  have e : mX12_trace_B23 253 a1 a2 253 σ = some (0, upS σ 253 0 1) := by
    unfold mX12_trace_B23 mX12_trace_B24
    exact mR_eq (mR_G (by decide) (mR_bnd (mR_pos (by rw [upS_same]; decide) (mR_ret ⟨rfl, rfl⟩))))
  constructor
  · unfold mX11_trace mX11_trace_B17
    refine mR_eq (mR_G (by decide) (mR_callE (kept_c hL (hE.own hn) h1) (mR_if (fun z => mR_ret ⟨rfl, rfl⟩) (fun z => ?_))))
    have := b2p z
    refine mR_if (fun z => mR_ret ⟨rfl, rfl⟩) (fun z => mR_neg (fun z2 => ?_) (mR_ret ⟨rfl, rfl⟩))
    rw [wI_id h2] at z z2
    exact hv ⟨this, by omega, z2⟩
  · refine ⟨0, upS σ 253 0 1, ?_, upS_same _ _ _ _, hI.scr scr_t⟩
    unfold mX12_trace
    refine mR_eq (mR_G (by decide) (mR_callE (kept_r hE h1) (mR_if (fun z => mR_of e ⟨rfl, rfl⟩) (fun z => ?_))))
    have := b2p z
    rw [wI_id h2]
    exact mR_callE (within_e _ 0 1 _ (by unfold i32 at h2; omega) (by omega) (by omega)) (mR_pos (by rw [wI_b2, b2_f (fun z2 => hv ⟨this, z2⟩)]) (mR_of e ⟨rfl, rfl⟩))
theorem pr_trace (σ : mSt) (h : Inv σ) (a1 : Int) (h1 : i32 a1) (a2 : Int) (h2 : i32 a2) : ∃ b s, mX11_trace 0 a1 a2 σ = some (b, s) ∧ Inv s ∧ ((b = mThrow ∧ ∃ b2 s2, mX12_trace 253 a1 a2 s = some (b2, s2) ∧ s2 253 0 = 1 ∧ Inv s2) ∨ (b ≠ mThrow ∧ ∀ s1, Inv s1 → frm (fun i _ => i = 275) s s1 → ∃ b2 s2, mX12_trace 253 a1 a2 s1 = some (b2, s2) ∧ s2 253 0 = 0 ∧ s2 275 0 = s1 275 0 ∧ wL b = wL b2 ∧ Inv s2)) := by
  have hI := h
  obtain ⟨hL, hb, t, B, n, s0, hT, hB, hP, hE, hO⟩ := h
  have hB2 := hB
  obtain ⟨q1, hn, q3, q4, q5, q6, q7⟩ := hB2
  by_cases hv : kp σ a1 ∧ 0 ≤ a2 ∧ a2 ≤ 1
  · obtain ⟨hk0, v1, v2⟩ := hv
    obtain ⟨k, rfl, hk, hkk⟩ := kp_nat hk0
    obtain ⟨al, f1, f2, f3, f4, f5, f6, r0, r1, r2, r3, r4, r5⟩ := elF hL hE hn hk hkk
    have rr := elR r0 r1 r2 r3
    obtain ⟨⟨ab1, ab2⟩, ⟨-, ra1, ra2, -⟩, -, rb1, rb2, -⟩ := quatF hB f1 f2
    have rv0 : σ (166 + 2 * k) 0 = σ 263 (5 * k) := by
      rw [← vg_rowV σ _ (show 0 < 4 by omega), f6]
      rfl
    have c : mX11_trace 0 (k : Int) a2 σ = some (wL ((if wI a2 = 0 then 2 * σ 263 (5 * k) else σ 263 (5 * k + 4)) / (Int.gcd (2 * σ 263 (5 * k)) (σ 263 (5 * k + 4)) : Int)), σ) := by
      unfold mX11_trace
      rw [gc0, kept_t hL (hE.own hn) hk hkk, mCall_some, if_neg (by decide), if_neg (by rw [wI_id h2]; omega), if_pos (by rw [wI_id h2]; exact v2)]
      refine mR_eq (mR_ref (lay0 hL).2.2.2.1 (by omega) (mR_G (ixOK_of (n := 8) (by decide) (by omega) (by omega) (by omega)) ?_))
      rw [wI_nat (by omega)]
      refine mR_ref f3.1 (by omega) (mR_G (isC_of f4) (mR_ref f3.2.1 (by omega) (mR_G (ixOK_of f5 (by omega) (by omega) (by omega)) ?_)))
      rw [f3.2.2.2.2, rv0]
      refine mR_callE (lowest_e (by omega) (by omega)) (mR_ret ⟨by rw [wI_id h2], rfl⟩)
    refine ⟨_, _, c, hI, Or.inr ⟨mThrow_neL _, fun s1 hs1 hf => ?_⟩⟩
    have o := f275 hf
    have hL := hs1.1
    have o3 := o 263 (by omega)
    have o2 := o 262 (by omega)
    have o8 := o 258 (by omega)
    have o9 := o 259 (by omega)
    have ob := o 253 (by omega)
    have ev : ∀ j, elV s1 j = elV σ j := fun j => by unfold elV; rw [o3]
    refine ⟨((if wI a2 = 0 then 2 * σ 263 (5 * k) else σ 263 (5 * k + 4)) / (Int.gcd (2 * σ 263 (5 * k)) (σ 263 (5 * k + 4)) : Int)), upS s1 253 0 0, ?_, upS_same _ _ _ _, up_ne _ _ _ _ _ _ (by omega), wL_wL _, hs1.scr scr_t⟩
    unfold mX12_trace
    refine mR_eq (mR_G (by decide) (mR_callE (kept_rt (σ := σ) (by rw [ob]; exact hE.1) hk hkk) (mR_neg (by decide) ?_)))
    rw [wI_id h2]
    refine mR_callE (within_e a2 0 1 s1 (by omega) (by omega) (by omega)) (mR_neg (by rw [wI_b2, b2_t ⟨v1, v2⟩]; decide) ?_)
    unfold mX12_trace_B24
    refine mR_G (by decide) (mR_bnd (mR_neg (by rw [upS_same]; decide) ?_))
    have pe := part_e (τ := upS s1 253 0 0) (i := 4) (by rw [up_ne _ _ _ _ _ _ (by omega)]; exact (lay253 hL).2.2.2.2.2.2.2.2.2.1) ⟨hk, by omega, by omega⟩
    rw [up_ne _ _ _ _ _ _ (by omega), o3, show 5 * k + (4 : Int).toNat = 5 * k + 4 from rfl] at pe
    have pz := part_e (τ := upS s1 253 0 0) (i := 0) (by rw [up_ne _ _ _ _ _ _ (by omega)]; exact (lay253 hL).2.2.2.2.2.2.2.2.2.1) ⟨hk, by omega, by omega⟩
    rw [up_ne _ _ _ _ _ _ (by omega), o3, show 5 * k + (0 : Int).toNat = 5 * k from rfl] at pz
    exact mR_callE pz (mR_callE pe (mR_callE (toldf_e (by omega) (by omega)) (mR_ret ⟨by rw [wI_id h2], rfl⟩)))
  · obtain ⟨c, r⟩ := trace_bad hL hI hE hn h1 h2 hv
    exact ⟨_, _, c, hI, Or.inl ⟨rfl, r⟩⟩

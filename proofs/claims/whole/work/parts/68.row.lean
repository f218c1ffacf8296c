theorem lot_congr {E F : Nat → V4} (h : ∀ r, r < 4 → E r = F r) (M : Int) : lot M E = lot M F := by
  unfold lot
  rw [h 0 (by omega), h 1 (by omega), h 2 (by omega), h 3 (by omega)]
theorem iord_c {σ : mSt} {k : Nat} (h : iOrd σ k) : (∀ r, r < 4 → rwC σ (182 + 9 * k) r = rowL σ k r) ∧ σ (182 + 9 * k) 2 = σ 270 k := by
  obtain ⟨g1, g2, g3, g4, g5, g6⟩ := h
  refine ⟨fun r hr => ?_, g3⟩
  rw [← g5 r hr]
  unfold rwC
  rw [show 182 + 9 * k + 2 + r = 184 + 9 * k + r by omega]
theorem pr_disc (σ : mSt) (h : Inv σ) (a1 : Int) (h1 : i32 a1) : ∃ b s b2 s2, mX11_disc 0 a1 σ = some (b, s) ∧ mX12_disc 253 a1 s = some (b2, s2) ∧ wI b = wI b2 ∧ Inv s2 := by
  have hI := h
  obtain ⟨hL, hb, t, B, n, s0, hT, hB, hP, hE, hO⟩ := h
  have hn := hB.2.1
  have ht := hI.scr (scr_t (σ := σ) (v := 0))
  by_cases hv : 0 ≤ a1 ∧ a1 < (n : Int) ∧ σ 257 a1.toNat = 0
  · obtain ⟨k, rfl, hk, hq⟩ := quat_nat hv
    have hk8 : k < 8 := by omega
    obtain ⟨k1, k2, k3, k4, k5, k6⟩ := ord_lay hL hk8
    obtain ⟨-, ⟨na, ra1, ra2, -⟩, nb, rb1, rb2, -⟩ := quatF hB hk hq
    have io := hO.1 k hk hq
    obtain ⟨rc, rm⟩ := iord_c io
    obtain ⟨g1, g2, g3, g4, g5, g6⟩ := io
    obtain ⟨⟨m0, m1⟩, fE, fl, fd, -⟩ := ord_facts ⟨na, ra1, ra2⟩ ⟨nb, rb1, rb2⟩ g6
    have lc := lot_congr rc (σ 270 k)
    have c : mX11_disc 0 (k : Int) σ = some (dsc4 (σ 258 k) (σ 259 k) (σ 270 k) (rowL σ k), σ) := by
      have dd := discOf_c hL k1 k3 g1 g2 ⟨na, ra1, ra2⟩ ⟨nb, rb1, rb2⟩ (by rw [rm]; omega) (fun i hi => by rw [rm, rc i hi]; exact ⟨(fE i hi).1, (fE i hi).2.1⟩) (by rw [rm, lc]; exact fl)
      rw [rm, lc, if_pos fd] at dd
      unfold dsc4 at dd
      rw [lc] at dd
      unfold mX11_disc mX6_discriminant
      simp (disch := omega) only [gc0, quat_t hL hB hk hq, gr, bnd_eq, up_ne, upS_same, stV_ne, mCall_some, wI_id, wL_id, cLtF, cLtT, cLeF, cLeT, cEqF, cEqT, ↓reduceIte, Int.toNat_natCast, Int.reduceToNat, lay0 hL, gx113, k4, gc k1, k5, dd]
      rfl
    refine ⟨_, _, _, upS σ 253 0 0, c, ?_, rfl, ht⟩
    have l := lay253 ht.1
    unfold mX12_disc
    rw [gc253, bnd_eq, quatr_t ht.1 (book_up hB) hk (by rw [upS_row (by omega)]; exact hq), mCall_some, if_neg (by decide)]
    have rl : ∀ r, rowL (upS σ 253 0 0) k r = rowL σ k r := fun r => by unfold rowL; rw [upS_row (by omega)]
    have lc2 := lot_congr (fun r _ => rl r) (σ 270 k)
    rw [discOf_r (a := σ 258 k) (b := σ 259 k) (M := σ 270 k) l.2.2.2.2.2.2.2.2.2.2.2.2.2.2.2.1 l.2.2.2.2.2.2.2.2.2.2.2.2.2.2.2.2.1 l.2.2.2.2.1 l.2.2.2.2.2.1 (by omega) (by omega) (by rw [upS_row (by omega)]) (by rw [upS_row (by omega)]) ⟨na, ra1, ra2⟩ ⟨nb, rb1, rb2⟩ (by rw [upS_row (by omega)]) (by omega) (fun i hi => by rw [rl]; exact ⟨(fE i hi).1, (fE i hi).2.1⟩) (by rw [lc2]; exact fd), mCall_some]
    unfold dsc4
    rw [lc2]
  · refine ⟨-1, σ, -1, upS σ 253 0 0, ?_, ?_, rfl, ht⟩
    · unfold mX11_disc
      exact mR_eq (mR_G (by decide) (mR_callE (quat_c hL hB h1) (mR_pos (by rw [wI_b2, b2_f hv]) (mR_ret ⟨rfl, rfl⟩))))
    · unfold mX12_disc
      exact mR_eq (mR_G (by decide) (mR_bnd (mR_callE (quat_r ht.1 (book_up hB) h1) (mR_pos (by rw [wI_b2, b2_f (by rw [upS_row (by omega)]; exact hv)]) (mR_ret ⟨rfl, rfl⟩)))))
theorem iBook_275 {σ s1 : mSt} {B n : Nat} (hB : iBook σ B n) (o : ∀ i, i ≠ 275 → s1 i = σ i) : iBook s1 B n := iBook_congr hB (by rw [o 0 (by omega)]) (by rw [o 0 (by omega)]) (fun i hi => o i (by omega))
theorem pr_row (σ : mSt) (h : Inv σ) (a1 : Int) (h1 : i32 a1) (a2 : Int) (h2 : i32 a2) (a3 : Int) (h3 : i32 a3) : ∃ b s, mX11_row 0 a1 a2 a3 σ = some (b, s) ∧ Inv s ∧ ((b = mThrow ∧ ∃ b2 s2, mX12_row 253 a1 a2 a3 s = some (b2, s2) ∧ s2 253 0 = 1 ∧ Inv s2) ∨ (b ≠ mThrow ∧ ∀ s1, Inv s1 → frm (fun i _ => i = 275) s s1 → ∃ b2 s2, mX12_row 253 a1 a2 a3 s1 = some (b2, s2) ∧ s2 253 0 = 0 ∧ s2 275 0 = s1 275 0 ∧ wI b = wI b2 ∧ Inv s2)) := by
  have hI := h
  obtain ⟨hL, hb, t, B, n, s0, hT, hB, hP, hE, hO⟩ := h
  have hn := hB.2.1
  have h2' := h2
  have h3' := h3
  unfold i32 at h2' h3'
  by_cases hv : (0 ≤ a1 ∧ a1 < (n : Int) ∧ σ 257 a1.toNat = 0) ∧ (a2 = 4 ∨ ((0 ≤ a2 ∧ a2 ≤ 3) ∧ 0 ≤ a3 ∧ a3 ≤ 3))
  · obtain ⟨hv, hw⟩ := hv
    obtain ⟨k, rfl, hk, hq⟩ := quat_nat hv
    have hk8 : k < 8 := by omega
    obtain ⟨k1, k2, k3, k4, k5, k6⟩ := ord_lay hL hk8
    obtain ⟨-, ⟨na, ra1, ra2, -⟩, nb, rb1, rb2, -⟩ := quatF hB hk hq
    have io := hO.1 k hk hq
    obtain ⟨rc, rm⟩ := iord_c io
    obtain ⟨V, hV⟩ : ∃ V, V = if a2 = 4 then σ 270 k else vg a3.toNat (rowL σ k a2.toNat) := ⟨_, rfl⟩
    have c : mX11_row 0 (k : Int) a2 a3 σ = some (wI V, σ) := by
      unfold mX11_row
      refine mR_eq (mR_G (by decide) (mR_callE (quat_t hL hB hk hq) (mR_neg (by decide) (mR_neg (by rw [wI_id h2]; omega) (mR_pos (by rw [wI_id h2]; omega) (mR_if (fun z => ?_) (fun z => ?_)))))))
      · rw [wI_id h2] at z
        refine mR_ref (lay0 hL).2.2.2.2.1 (by omega) (mR_G (ixOK_of (n := 8) (by decide) (by omega) (by omega) (by omega)) ?_)
        rw [wI_nat (by omega)]
        refine mR_ref k4 (by omega) (mR_callE (below_e hL hk8) (mR_ret ⟨?_, rfl⟩))
        rw [hV, if_pos z, rm]
      · rw [wI_id h2] at z
        obtain ⟨⟨w1, w2⟩, w3, w4⟩ := hw.resolve_left z
        obtain ⟨r, rfl⟩ : ∃ r : Nat, a2 = (r : Int) := ⟨a2.toNat, by omega⟩
        obtain ⟨c, rfl⟩ : ∃ c : Nat, a3 = (c : Int) := ⟨a3.toNat, by omega⟩
        refine mR_neg (by rw [wI_id h3]; omega) (mR_pos (by rw [wI_id h3]; omega) (mR_ref (lay0 hL).2.2.2.2.1 (by omega) (mR_G (ixOK_of (n := 8) (by decide) (by omega) (by omega) (by omega)) ?_)))
        rw [wI_nat (by omega)]
        refine mR_ref k4 (by omega) (mR_callE (numbersOf_e hL hk8 (by omega)) ?_)
        have sr := ((lat_lay hL k3).2.2.2.2.2 r (by omega)).1
        rw [show 182 + 9 * k + 2 + r = 184 + 9 * k + r by omega] at sr
        refine mR_G (by rw [Int.toNat_natCast]; exact ixOK_of sr (by omega) (by omega) (by omega)) (mR_ret ⟨?_, rfl⟩)
        rw [hV, if_neg z, Int.toNat_natCast, Int.toNat_natCast, Int.toNat_natCast, wI_nat (by omega), ← rc r (by omega), ← rwC_at σ (182 + 9 * k) (by omega), show 182 + 9 * k + 2 + r = 184 + 9 * k + r by omega]
    refine ⟨_, _, c, hI, Or.inr ⟨mThrow_neI _, fun s1 hs1 hf => ?_⟩⟩
    have o := f275 hf
    have hL := hs1.1
    have hLt : Lay (upS s1 253 0 0) := hL.frm scr_t (fun i j z => z.1)
    have l := lay253 hLt
    refine ⟨V, upS s1 253 0 0, ?_, upS_same _ _ _ _, up_ne _ _ _ _ _ _ (by omega), wI_wI _, hs1.scr scr_t⟩
    have e55 : mX12_row_B37 253 (k : Int) a2 a3 s1 = some (V, upS s1 253 0 0) := by
      unfold mX12_row_B37 mX12_row_B42 mX12_row_B55
      refine mR_eq (mR_neg (by decide) (mR_G (by decide) (mR_bnd (mR_neg (by decide) (mR_if (fun z => ?_) (fun z => ?_))))))
      · rw [wI_id h2] at z
        refine mR_ref l.2.2.2.2.2.2.2.2.2.2.2.2.2.2.2.2.1 (by omega) (mR_G (ixOK_of (n := 10) (by decide) (by omega) (by omega) (by omega)) (mR_ret ⟨?_, rfl⟩))
        rw [hV, if_pos z, wI_nat (by omega), up_ne _ _ _ _ _ _ (by omega), o 270 (by omega)]
      · rw [wI_id h2] at z
        obtain ⟨⟨w1, w2⟩, w3, w4⟩ := hw.resolve_left z
        refine mR_callE (get_e l.2.2.2.2.2.2.2.2.2.2.2.2.2.2.2.1 ⟨by omega, w1, by omega, w3, by omega⟩) (mR_ret ⟨?_, rfl⟩)
        rw [hV, if_neg z, up_ne _ _ _ _ _ _ (by omega), o 269 (by omega), rowL_at σ k (by omega) (by omega)]
    unfold mX12_row
    refine mR_eq (mR_G (by decide) (mR_callE (quatr_t hL (iBook_275 hB o) hk (by rw [o 257 (by omega)]; exact hq)) (mR_neg (by decide) (mR_if (fun z => mR_of e55 ⟨rfl, rfl⟩) (fun z => ?_)))))
    rw [wI_id h2] at z
    obtain ⟨⟨w1, w2⟩, w3, w4⟩ := hw.resolve_left z
    rw [wI_id h2, wI_id h3]
    exact mR_callE (within_e _ 0 3 _ (by omega) (by omega) (by omega)) (mR_neg (by rw [wI_b2, b2_t ⟨w1, w2⟩]; decide) (mR_callE (within_e _ 0 3 _ (by omega) (by omega) (by omega)) (mR_neg (by rw [wI_b2, b2_t ⟨w3, w4⟩]; decide) (mR_of e55 ⟨rfl, rfl⟩))))
  · have c : mX11_row 0 a1 a2 a3 σ = some (mThrow, σ) := by
      unfold mX11_row mX11_row_B17 mX11_row_B50
      refine mR_eq (mR_G (by decide) (mR_callE (quat_c hL hB h1) (mR_if (fun z => mR_ret ⟨rfl, rfl⟩) (fun z => mR_if (fun z2 => mR_ret ⟨rfl, rfl⟩) (fun z2 => mR_if (fun z3 => mR_if (fun z4 => ?_) (fun z4 => mR_if (fun z5 => mR_ret ⟨rfl, rfl⟩) (fun z5 => mR_if (fun z6 => ?_) (fun z6 => mR_ret ⟨rfl, rfl⟩)))) (fun z3 => mR_ret ⟨rfl, rfl⟩))))))
      · have := b2p z
        rw [wI_id h2] at z4
        exact absurd ⟨this, Or.inl z4⟩ hv
      · have := b2p z
        rw [wI_id h2] at z2 z3 z4
        rw [wI_id h3] at z5 z6
        exact absurd ⟨this, Or.inr ⟨⟨by omega, by omega⟩, by omega, z6⟩⟩ hv
    refine ⟨_, _, c, hI, Or.inl ⟨rfl, 0, upS σ 253 0 1, ?_, upS_same _ _ _ _, hI.scr scr_t⟩⟩
    have e : mX12_row_B41 253 a1 a2 a3 σ = some (0, upS σ 253 0 1) := by
      unfold mX12_row_B41 mX12_row_B42 mX12_row_B55
      exact mR_eq (mR_pos (by decide) (mR_G (by decide) (mR_bnd (mR_pos (by decide) (mR_ret ⟨rfl, rfl⟩)))))
    unfold mX12_row
    refine mR_eq (mR_G (by decide) (mR_callE (quat_r hL hB h1) (mR_if (fun z => mR_of e ⟨rfl, rfl⟩) (fun z => mR_if (fun z2 => ?_) (fun z2 => ?_)))))
    · have := b2p z
      rw [wI_id h2] at z2
      exact absurd ⟨this, Or.inl z2⟩ hv
    · have := b2p z
      rw [wI_id h2, wI_id h3]
      refine mR_callE (within_e _ 0 3 _ (by omega) (by omega) (by omega)) (mR_if (fun z => mR_of e ⟨rfl, rfl⟩) (fun z => mR_callE (within_e _ 0 3 _ (by omega) (by omega) (by omega)) (mR_if (fun z => mR_of e ⟨rfl, rfl⟩) (fun z3 => ?_))))
      exact absurd ⟨this, Or.inr ⟨b2p z, b2p z3⟩⟩ hv

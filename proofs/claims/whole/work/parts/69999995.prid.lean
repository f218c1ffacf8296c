/-! ideal, isInIdeal, isTwoSided -/
theorem jR_inv {σ ρ : mSt} (h : Inv σ) (hf : frm jR σ ρ) : Inv ρ := h.scr (hf.mono (fun i j z => iD_scr (Or.inr (Or.inr z))))
theorem iW_inv {σ ρ : mSt} {al : Nat} (hal : al < 8) (h : Inv σ) (hf : frm (iW al) σ ρ) : Inv ρ := h.scr (hf.mono (fun i j z => iD_scr (iW_iD hal z)))
theorem qW_inv {σ ρ : mSt} {al : Nat} (hal : al < 8) (h : Inv σ) (hf : frm (qW al) σ ρ) : Inv ρ := h.scr (hf.mono (fun i j z => iD_scr (qW_iD hal z)))
theorem pr_ideal (σ : mSt) (h : Inv σ) (a1 : Int) (h1 : i32 a1) (a2 : Int) (h2 : i32 a2) : ∃ b s b2 s2, mX11_ideal 0 a1 a2 σ = some (b, s) ∧ mX12_ideal 253 a1 a2 s = some (b2, s2) ∧ wL b = wL b2 ∧ Inv s2 := by
  obtain ⟨v, σ1, c1, c2, c3, c4⟩ := fault2 h h1 h2
  have I1 := dull_inv h c2
  by_cases hv : v = 0
  · subst hv
    obtain ⟨k1, al, a, b, M, d1, d2, N, E, u1, u2, rfl, x1, x2, x3, x4, x5, x6, x7, x8, x9, x10, x11, xC, xR⟩ := ideal0 h h2 c3
    obtain ⟨σ2, G, p1, p2, p3, p4⟩ := xC σ1 I1 (dull_same c2)
    have I2 := iW_inv x2 I1 p2
    have S2 : sameO σ σ2 := same_tr (dull_same c2) (iW_same x2 p2)
    have I3 : Inv (upS σ2 253 0 0) := I2.scr scr_t
    have S3 : sameO σ (upS σ2 253 0 0) := same_tr S2 z_same
    obtain ⟨τ1, q1, q2⟩ := c4 _ I3 S3
    have I4 := dull_inv I3 q2
    have S4 : sameO σ τ1 := same_tr S3 (dull_same q2)
    obtain ⟨τ2, L, F, r1, r2, r3, r4⟩ := xR τ1 I4 S4
    have I5 := jR_inv I4 r2
    have hu2 : a2 ≠ -1 → 0 < d2 ∧ latS M E u2 d2 := fun z => by
      obtain ⟨k2, _, y, -⟩ := x11.resolve_left z
      exact ⟨by have := y.2.2.2.2.2.1; omega, y.2.2.2.2.2.2⟩
    have dg := br_diag x8 x9 r3.2.2.2.2.2.2.2.1.1 r3.2.2.2.2.2.2.2.2 p3.2.2.2.1.2.1 r3.2.2.2.2.2.1.2.1 (by have := x10.1.2.2.2.2.2.1; omega) x10.1.2.2.2.2.2.2 hu2 p4 r4
    obtain ⟨v5, e1, e2⟩ := idL42 (v1 := (k1 : Int)) (v2 := a2) (x := fun z5 z7 zσ => mX12_ideal_B177 253 (k1 : Int) a2 z5 z7 zσ) r3 p3.2.2.2.1.2.1 dg 4 0 mF 1 (by omega) (by unfold mF; omega)
    refine ⟨vg 0 (G 0) * vg 1 (G 1) * vg 2 (G 2) * vg 3 (G 3), σ2, wL v5, τ2, ?_, ?_, ?_, I5⟩
    · unfold mX11_ideal
      rw [gc0, c1, mCall_some, if_pos (by decide), p1, mCall_some, gr' (lay0 I2.1).2.2.2.2.2.2.2.1 (by omega), idLots_e p3, mCall_some]
    · have l22 := (lay253 I5.1).2.2.2.2.2.2.2.2.1
      have k262 : τ2 262 k1 = (al : Int) := by rw [r2 _ _ (by unfold jR; omega), S4 262 (by omega)]; exact x3
      unfold mX12_ideal
      rw [gc253, bnd_eq, q1, mCall_some, if_pos (by decide), r1, mCall_some, gr' l22 (by omega), gx262 _ (by omega), wI_nat (k := k1) (by omega), k262, bnd_eq]
      refine e1.trans ?_
      unfold mX12_ideal_B177
      rw [mG_pos (by decide), show wL 1 = 1 by decide, Int.tdiv_one]
    · rw [wL_wL, e2]
      show _ = wL (1 * vg 0 (G 0) * vg 1 (G 1) * vg 2 (G 2) * vg 3 (G 3))
      rw [Int.one_mul]
  · have vr := fv_cases c3
    have wv : wI v = v := wI_id (x := v) (by omega)
    have I3 : Inv (upS σ1 253 0 0) := I1.scr scr_t
    obtain ⟨τ1, q1, q2⟩ := c4 _ I3 (same_tr (dull_same c2) z_same)
    refine ⟨wI v, σ1, wI v, τ1, ?_, ?_, rfl, dull_inv I3 q2⟩
    · unfold mX11_ideal
      rw [gc0, c1, mCall_some, if_neg (by rw [wv]; exact hv)]
    · unfold mX12_ideal
      rw [gc253, bnd_eq, q1, mCall_some, if_neg (by rw [wv]; omega)]
theorem iiL63 {τ : mSt} {k : Nat} {v1 v2 : Int} {x : mSt → Option (Int × mSt)} (l32 : τ 253 32 = ((272 : Nat) : Int)) (l23 : τ 253 23 = ((263 : Nat) : Int)) (hk : k < 8) : mX12_isInIdeal_L63 253 v1 v2 (k : Int) x mF 0 τ = x (stV τ 272 (elV τ k)) := by
  obtain ⟨f, hf⟩ := mF5
  rw [hf]
  repeat (rw [mX12_isInIdeal_L63.eq_2]; simp (disch := first | omega | (simp (disch := omega) only [up_ne, stV_ne, upS_same, l32, l23] <;> omega)) only [gr, bnd_eq, up_ne, upS_same, stV_ne, mCall_some, wI_id, wL_id, cLtF, cLtT, cLeF, cLeT, cEqF, cEqT, ↓reduceIte, Int.toNat_natCast, Int.reduceToNat, l32, l23, gx272, Int.reduceAdd, part_e])
  rfl
theorem pr_isInIdeal (σ : mSt) (h : Inv σ) (a1 : Int) (h1 : i32 a1) (a2 : Int) (h2 : i32 a2) (a3 : Int) (h3 : i32 a3) : ∃ b s b2 s2, mX11_isInIdeal 0 a1 a2 a3 σ = some (b, s) ∧ mX12_isInIdeal 253 a1 a2 a3 s = some (b2, s2) ∧ wI b = wI b2 ∧ Inv s2 := by
  obtain ⟨v, σ1, c1, c2, c3, c4⟩ := fault2 h h1 h2
  have I1 := dull_inv h c2
  have hI := h
  obtain ⟨hL, hb, t, B, n, s0, hT, hB, hP, hE, hO⟩ := h
  have hn := hB.2.1
  have ip : mX11_isIdealPair 0 a1 a2 σ = some (b2 (idP σ a1 a2), σ) := by
    unfold mX11_isIdealPair
    rw [gc0, wI_id h2]
    by_cases z : a2 = -1
    · rw [if_pos z, kept_c hL (hE.own hn) h1, mCall_some, mG_pos (b2_01 _), b2_iff (p := 0 ≤ a1 ∧ a1 < 8 ∧ σ (165 + 2 * a1.toNat) 2 ≠ -1) (q := idP σ a1 a2) ⟨fun y => ⟨y, Or.inl z⟩, fun y => y.1⟩]
    · rw [if_neg z, pair_c hL hE hn h1 h2, mCall_some, mG_pos (b2_01 _), b2_iff (p := pr2 σ a1 a2) (q := idP σ a1 a2) ⟨fun y => ⟨y.1, Or.inr y.2⟩, fun y => ⟨y.1, (y.2.resolve_left z).1, (y.2.resolve_left z).2⟩⟩]
  have pc := pair_c hL hE hn h1 h3
  -- the reference's head on a state that is the same
  have refH : ∀ τ, Inv τ → sameO σ τ → pr2 σ a1 a3 → ∀ o, (mCall (mX12_refusal 253 a1 a2 (upS τ 253 0 0)) fun b36 s37 => if 0 ≤ wI b36 then (mCall (mX12_laysIdeal 253 a1 a2 s37) fun b40 s41 => mX12_isInIdeal_L63 253 a1 a2 a3 (fun zσ => mX12_isInIdeal_B89 253 a1 a2 a3 zσ) mF 0 s41) else some (b36, s37)) = o → mX12_isInIdeal 253 a1 a2 a3 τ = o := fun τ It So hp o z => by
    have Iz : Inv (upS τ 253 0 0) := It.scr scr_t
    obtain ⟨kk1, rfl, m1, m2⟩ := kp_nat hp.1
    obtain ⟨kk3, rfl, m3, m4⟩ := kp_nat hp.2.1
    obtain ⟨zL, -, -, Bz, nz, -, -, hBz, -, hEz, -⟩ := Iz
    have So' : sameO σ (upS τ 253 0 0) := same_tr So z_same
    have r1 := kept_rt (σ := upS τ 253 0 0) hEz.1 m1 (by rw [So' _ (by omega)]; exact m2)
    have r3 := kept_rt (σ := upS τ 253 0 0) hEz.1 m3 (by rw [So' _ (by omega)]; exact m4)
    have l22 := (lay253 zL).2.2.2.2.2.2.2.2.1
    have e := hp.2.2
    rw [Int.toNat_natCast, Int.toNat_natCast] at e
    unfold mX12_isInIdeal
    rw [gc253, bnd_eq, r1, mCall_some, if_neg (by decide), r3, mCall_some, if_neg (by decide), gr' l22 (by omega), gx262 _ (by omega), gr' l22 (by omega), gx262 _ (by omega), wI_nat (k := kk1) (by omega), wI_nat (k := kk3) (by omega), So' 262 (by omega), ← e, if_pos rfl]
    exact z
  have refN : ¬ pr2 σ a1 a3 → ∀ τ, Inv τ → sameO σ τ → ∃ τ', mX12_isInIdeal 253 a1 a2 a3 τ = some (-1, τ') ∧ Inv τ' := fun hp τ It So => by
    have Iz : Inv (upS τ 253 0 0) := It.scr scr_t
    refine ⟨upS τ 253 0 0, ?_, Iz⟩
    obtain ⟨zL, -, -, Bz, nz, -, -, hBz, -, hEz, -⟩ := Iz
    have So' : sameO σ (upS τ 253 0 0) := same_tr So z_same
    have r1 := kept_r2 (σ := upS τ 253 0 0) hEz.1 h1
    have r3 := kept_r2 (σ := upS τ 253 0 0) hEz.1 h3
    unfold mX12_isInIdeal
    rw [gc253, bnd_eq, r1, mCall_some]
    by_cases y1 : kp σ a1
    · rw [b2_t (show 0 ≤ a1 ∧ a1 < 8 ∧ (upS τ 253 0 0) (165 + 2 * a1.toNat) 2 ≠ -1 from (kp_same So' a1).mpr y1), if_neg (by decide), r3, mCall_some]
      by_cases y3 : kp σ a3
      · rw [b2_t (show 0 ≤ a3 ∧ a3 < 8 ∧ (upS τ 253 0 0) (165 + 2 * a3.toNat) 2 ≠ -1 from (kp_same So' a3).mpr y3), if_neg (by decide)]
        obtain ⟨kk1, rfl, m1, m2⟩ := kp_nat y1
        obtain ⟨kk3, rfl, m3, m4⟩ := kp_nat y3
        have l22 := (lay253 zL).2.2.2.2.2.2.2.2.1
        obtain ⟨al, -, -, f3, -⟩ := elF hL hE hn m1 m2
        obtain ⟨al2, -, -, f3', -⟩ := elF hL hE hn m3 m4
        obtain ⟨w1, w2, w3, w4, w5⟩ := hE.2 kk1 m1 m2
        obtain ⟨w1', w2', w3', w4', w5'⟩ := hE.2 kk3 m3 m4
        rw [gr' l22 (by omega), gx262 _ (by omega), gr' l22 (by omega), gx262 _ (by omega), wI_nat (k := kk1) (by omega), wI_nat (k := kk3) (by omega), So' 262 (by omega), wI_id (x := σ 262 kk1) (by omega), wI_id (x := σ 262 kk3) (by omega), if_neg (fun q => hp ⟨y1, y3, by rw [Int.toNat_natCast, Int.toNat_natCast]; exact q.symm⟩)]
      · rw [b2_f (show ¬ (0 ≤ a3 ∧ a3 < 8 ∧ (upS τ 253 0 0) (165 + 2 * a3.toNat) 2 ≠ -1) from fun q => y3 ((kp_same So' a3).mp q)), if_pos (by decide)]
    · rw [b2_f (show ¬ (0 ≤ a1 ∧ a1 < 8 ∧ (upS τ 253 0 0) (165 + 2 * a1.toNat) 2 ≠ -1) from fun q => y1 ((kp_same So' a1).mp q)), if_pos (by decide)]
  have So0 : sameO σ σ := fun i _ => rfl
  by_cases hid : idP σ a1 a2
  · rw [b2_t hid] at ip
    by_cases hp : pr2 σ a1 a3
    · rw [b2_t hp] at pc
      have clH : ∀ o, (if wI v = 0 then (mCall (mX11_makeIdeal 0 a1 a2 σ1) fun b13 s14 => mRef (s14 0 10) fun r16 => mRef (s14 0 6) fun r18 => mG (ixOK r18 23 a3) <| mRef (s14 r18 (wI a3).toNat) fun r21 => mCall (mX4_contains r16 r21 s14) fun b23 s24 => if wI b23 = 0 then (some ((0 : Int), s24)) else some (1, s24)) else some (v, σ1)) = o → mX11_isInIdeal 0 a1 a2 a3 σ = o := fun o z => by
        unfold mX11_isInIdeal
        rw [gc0, ip, mCall_some, if_neg (by decide), pc, mCall_some, if_neg (by decide), c1, mCall_some]
        exact z
      by_cases hv : v = 0
      · subst hv
        obtain ⟨k1, al, a, b, M, d1, d2, N, E, u1, u2, rfl, x1, x2, x3, x4, x5, x6, x7, x8, x9, x10, x11, xC, xR⟩ := ideal0 hI h2 c3
        obtain ⟨σ2, G, p1, p2, p3, p4⟩ := xC σ1 I1 (dull_same c2)
        have I2 := iW_inv x2 I1 p2
        have S2 : sameO σ σ2 := same_tr (dull_same c2) (iW_same x2 p2)
        obtain ⟨k3, rfl, m3, m4⟩ := kp_nat hp.2.1
        obtain ⟨al3, f1, f2, f3, f4, f5, f6, y0, y1, y2, y3, y4, y5⟩ := elF hL hE hn m3 m4
        have er := elR y0 y1 y2 y3
        obtain ⟨u3, hu3⟩ : ∃ u3, u3 = elV σ k3 := ⟨_, rfl⟩
        obtain ⟨d3, hd3⟩ : ∃ d3, d3 = σ 263 (5 * k3 + 4) := ⟨_, rfl⟩
        rw [← hu3] at f6 er
        rw [← hd3] at f3 y4 y5
        obtain ⟨σ3, g1, g2⟩ := contains_e (k := k3) (u := u3) (d := d3) p3 m3 (by rw [S2 _ (by omega)]; exact f3.2.2.2.2) (by rw [← f6]; unfold rowV; rw [S2 _ (by omega)]) er ⟨y4, y5⟩
        have I3 := qW_inv x2 I2 g2
        have S3 : sameO σ σ3 := same_tr S2 (qW_same x2 g2)
        have Iz : Inv (upS σ3 253 0 0) := I3.scr scr_t
        have Sz : sameO σ (upS σ3 253 0 0) := same_tr S3 z_same
        obtain ⟨τ1, q1, q2⟩ := c4 _ Iz Sz
        have I4 := dull_inv Iz q2
        have S4 : sameO σ τ1 := same_tr Sz (dull_same q2)
        obtain ⟨τ2, L, F, r1, r2, r3, r4⟩ := xR τ1 I4 S4
        have I5 := jR_inv I4 r2
        have hu2 : a2 ≠ -1 → 0 < d2 ∧ latS M E u2 d2 := fun z => by
          obtain ⟨k2, _, y, -⟩ := x11.resolve_left z
          exact ⟨by have := y.2.2.2.2.2.1; omega, y.2.2.2.2.2.2⟩
        obtain ⟨br1, br2, br3⟩ := bridge x8 x9 r3.2.2.2.2.2.2.2.1.1 (by have := x10.1.2.2.2.2.2.1; omega) x10.1.2.2.2.2.2.2 hu2 p4 r4
        have M0 := x8.1
        have iffF : (latS M E u3 d3 ∧ ∀ y, vS M u3 = vS d3 (vC E y) → spn G y) ↔ latS L F u3 d3 := by
          have g : Grp (latS L F) := latS_grp
          constructor
          · rintro ⟨⟨c, hc⟩, hall⟩
            have := (br1 c).mpr (hall c hc)
            exact g.eq (x := vC E c) (y := u3) (M := d3) (N := M) (by omega) M0 hc.symm this
          · intro hh
            refine ⟨br2 u3 d3 (by omega) hh, fun y hy => (br1 y).mp ?_⟩
            exact g.eq (x := u3) (y := vC E y) (M := M) (N := d3) M0 (by omega) hy hh
        rw [b2_iff iffF] at g1
        obtain ⟨P, hP⟩ : ∃ P, P = latS L F u3 d3 := ⟨_, rfl⟩
        rw [← hP] at g1
        have k262 : ∀ i, τ2 263 i = σ 263 i := fun i => by rw [r2 _ _ (by unfold jR; omega), S4 263 (by omega)]
        have ev : elV τ2 k3 = u3 := by
          rw [hu3]
          unfold elV
          rw [k262, k262, k262, k262]
        have ly5 := lay253 I5.1
        obtain ⟨hrO, hal8, ha, hb', ⟨w, hA⟩, okF, hN, hLr, hML⟩ := r3
        have A2 : atR (stV τ2 272 u3) 9 F L (L * N) u3 := by
          obtain ⟨z1, z2, z3, z4, z5⟩ := hA
          refine ⟨?_, fun q hq => ?_, ?_, ?_, rowV_stV _ _ _⟩
          · unfold rL3
            rw [stV_ne _ _ _ _ _ (by omega), stV_ne _ _ _ _ _ (by omega), stV_ne _ _ _ _ _ (by omega), stV_ne _ _ _ _ _ (by omega)]
            exact z1
          · rw [← z2 q hq]
            exact congrFun (rowL_congr (stV_row _ _ _ _ (by omega))) _
          · rw [stV_ne _ _ _ _ _ (by omega)]; exact z3
          · rw [stV_ne _ _ _ _ _ (by omega)]; exact z4
        have LN := mul_rng (x := L) (y := N) (A := 72000000) (B := 37210000) (by omega) (by omega) (by omega)
        obtain ⟨w', hb8⟩ := holdsBy_e (d := d3) A2 ⟨hLr.1, by omega⟩ (by omega) okF ⟨by omega, by omega⟩ (fun i hi => by have := er i hi; omega)
        rw [← hP] at hb8
        have I6 : Inv (stV (stV τ2 272 u3) 272 w') := jR_inv I5 (((frm.rf τ2).stV (fun j => by unfold jR; omega)).stV (fun j => by unfold jR; omega))
        refine ⟨b2 P, σ3, b2 P, _, clH _ ?_, refH σ3 I3 S3 hp _ ?_, rfl, I6⟩
        · rw [if_pos (by decide), p1, mCall_some, gr' (lay0 I2.1).2.2.2.2.2.2.2.1 (by omega), gr' (lay0 I2.1).2.2.2.1 (by omega), gx112 _ (by omega), wI_nat (k := k3) (by omega), gr' (el_lay I2.1 k3 m3).1 (by omega), g1, mCall_some]
          by_cases hp2 : P
          · rw [b2_t hp2, if_neg (by decide)]
          · rw [b2_f hp2, if_pos (by decide)]
        · rw [q1, mCall_some, if_pos (by decide), r1, mCall_some, iiL63 ly5.2.2.2.2.2.2.2.2.2.2.2.2.2.2.2.2.2.2.1 ly5.2.2.2.2.2.2.2.2.2.1 m3, ev]
          unfold mX12_isInIdeal_B89
          have pt : mX12_part 253 (k3 : Int) 4 (stV τ2 272 u3) = some (d3, stV τ2 272 u3) := by
            rw [part_e (τ := stV τ2 272 u3) (k := k3) (by rw [stV_ne _ _ _ _ _ (by omega)]; exact ly5.2.2.2.2.2.2.2.2.2.1) ⟨m3, by omega, by omega⟩, stV_ne _ _ _ _ _ (by omega), k262, hd3]
            rfl
          rw [pt, mCall_some, hb8, mCall_some]
          by_cases hp2 : P
          · rw [b2_t hp2, if_neg (by decide)]
          · rw [b2_f hp2, if_pos (by decide)]
      · have vr := fv_cases c3
        have wv : wI v = v := wI_id (x := v) (by omega)
        have Iz : Inv (upS σ1 253 0 0) := I1.scr scr_t
        obtain ⟨τ1, q1, q2⟩ := c4 _ Iz (same_tr (dull_same c2) z_same)
        refine ⟨v, σ1, v, τ1, clH _ ?_, refH σ1 I1 (dull_same c2) hp _ ?_, rfl, dull_inv Iz q2⟩
        · rw [if_neg (by rw [wv]; exact hv)]
        · rw [q1, mCall_some, if_neg (by rw [wv]; omega)]
    · rw [b2_f hp] at pc
      obtain ⟨τ', e1, e2⟩ := refN hp σ hI So0
      refine ⟨-1, σ, -1, τ', ?_, e1, rfl, e2⟩
      unfold mX11_isInIdeal
      rw [gc0, ip, mCall_some, if_neg (by decide), pc, mCall_some, if_pos (by decide)]
  · rw [b2_f hid] at ip
    have cl : mX11_isInIdeal 0 a1 a2 a3 σ = some (-1, σ) := by
      unfold mX11_isInIdeal
      rw [gc0, ip, mCall_some, if_pos (by decide)]
    by_cases hp : pr2 σ a1 a3
    · have v1 : v = -1 := by
        rcases c3 with ⟨e, -⟩ | ⟨-, y, -⟩ | ⟨-, y, -⟩ | ⟨-, y, -⟩
        · exact e
        · exact absurd y hid
        · exact absurd y hid
        · exact absurd y hid
      have Iz : Inv (upS σ 253 0 0) := hI.scr scr_t
      obtain ⟨τ1, q1, q2⟩ := c4 _ Iz (same_tr So0 z_same)
      refine ⟨-1, σ, v, τ1, cl, refH σ hI So0 hp _ ?_, by rw [v1], dull_inv Iz q2⟩
      rw [q1, mCall_some, if_neg (by rw [v1]; decide)]
    · obtain ⟨τ', e1, e2⟩ := refN hp σ hI So0
      exact ⟨-1, σ, -1, τ', cl, e1, rfl, e2⟩

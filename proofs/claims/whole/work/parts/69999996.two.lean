/-! isTwoSided -/
def tsQ (a b M L : Int) (E F : Nat → V4) (u1 : V4) (d1 a2 : Int) (u2 : V4) (d2 : Int) (r : Nat) : Prop := (∀ s, s < 4 → latS L F (vM a b (vM a b (E s) u1) (E r)) (M * d1 * M)) ∧ (a2 ≠ -1 → ∀ s, s < 4 → latS L F (vM a b (vM a b (E s) u2) (E r)) (M * d2 * M))
theorem tsL64 {τ0 : mSt} {al k1 r : Nat} {a b M N L d1 d2 a2 : Int} {E F : Nat → V4} {u1 u2 : V4} {x : mSt → Option (Int × mSt)} (hr : r < 4) (ha2 : i32 a2) (τ : mSt) (h1 : frm tW τ0 τ) (h2 : ilR τ al a b M E N L F) (h3 : elS τ k1 al u1 d1) (h4 : a2 = -1 ∨ ∃ k2 : Nat, a2 = (k2 : Int) ∧ elS τ k2 al u2 d2) : ∃ τ', frm tW τ0 τ' ∧ (tsQ a b M L E F u1 d1 a2 u2 d2 r → mX12_isTwoSided_L64 253 (k1 : Int) a2 (al : Int) a b (r : Int) x mF 0 τ = x τ') ∧ (¬ tsQ a b M L E F u1 d1 a2 u2 d2 r → mX12_isTwoSided_L64 253 (k1 : Int) a2 (al : Int) a b (r : Int) x mF 0 τ = some (0, τ')) := by
  obtain ⟨f, hf⟩ := mF5
  have kk1 := h3.1
  obtain ⟨τ1, p1, p2, p3⟩ := tsL94 (v1 := (k1 : Int)) (v2 := a2) (v10 := 0) (x := fun zσ => mX12_isTwoSided_B127 253 (k1 : Int) a2 (al : Int) a b (r : Int) (mX12_isTwoSided_L64 253 (k1 : Int) a2 (al : Int) a b (r : Int) x (f + 5)) x 0 zσ) hr 4 0 mF τ (by omega) (by unfold mF; omega) (frm.rf τ) h2 h3
  have st : mX12_isTwoSided_L64 253 (k1 : Int) a2 (al : Int) a b (r : Int) x mF 0 τ = mX12_isTwoSided_L94 253 (k1 : Int) a2 (al : Int) a b (r : Int) 0 (k1 : Int) (fun zσ => mX12_isTwoSided_B127 253 (k1 : Int) a2 (al : Int) a b (r : Int) (mX12_isTwoSided_L64 253 (k1 : Int) a2 (al : Int) a b (r : Int) x (f + 5)) x 0 zσ) mF 0 τ := by
    rw [show mX12_isTwoSided_L64 253 (k1 : Int) a2 (al : Int) a b (r : Int) x mF 0 τ = mX12_isTwoSided_L64 253 (k1 : Int) a2 (al : Int) a b (r : Int) x (f + 6) 0 τ by rw [hf], mX12_isTwoSided_L64.eq_2, if_neg (by decide), if_pos (by decide)]
    unfold mX12_isTwoSided_B80
    rw [if_neg (by rw [wI_id (x := (k1 : Int)) (by omega)]; omega)]
  rw [st]
  have f1 : frm tW τ0 τ1 := h1.tr p1 (fun i j z => z)
  by_cases q1 : ∀ s, s < 4 → latS L F (vM a b (vM a b (E s) u1) (E r)) (M * d1 * M)
  · have e1 := p2 (fun s _ g => q1 s g)
    have nx : mX12_isTwoSided_B127 253 (k1 : Int) a2 (al : Int) a b (r : Int) (mX12_isTwoSided_L64 253 (k1 : Int) a2 (al : Int) a b (r : Int) x (f + 5)) x 0 τ1 = mX12_isTwoSided_B80 253 (k1 : Int) a2 (al : Int) a b (r : Int) (mX12_isTwoSided_L64 253 (k1 : Int) a2 (al : Int) a b (r : Int) x (f + 4)) x (0 + 1) a2 τ1 := by
      unfold mX12_isTwoSided_B127
      rw [bnd_eq, mX12_isTwoSided_L64.eq_2, if_neg (by decide), if_neg (by decide)]
    have fin : ∀ ρ, mX12_isTwoSided_B127 253 (k1 : Int) a2 (al : Int) a b (r : Int) (mX12_isTwoSided_L64 253 (k1 : Int) a2 (al : Int) a b (r : Int) x (f + 4)) x (0 + 1) ρ = x ρ := fun ρ => by
      unfold mX12_isTwoSided_B127
      rw [bnd_eq, mX12_isTwoSided_L64.eq_2, if_pos (by decide)]
    by_cases z : a2 = -1
    · refine ⟨τ1, f1, fun _ => ?_, fun y => absurd ⟨q1, fun w => absurd z w⟩ y⟩
      refine e1.trans (nx.trans ?_)
      unfold mX12_isTwoSided_B80
      rw [if_pos (by rw [wI_id ha2]; exact z)]
      exact fin τ1
    · obtain ⟨k2, e2, hv⟩ := h4.resolve_left z
      subst e2
      obtain ⟨τ2, g1, g2, g3⟩ := tsL94 (v1 := (k1 : Int)) (v2 := (k2 : Int)) (v10 := 0 + 1) (x := fun zσ => mX12_isTwoSided_B127 253 (k1 : Int) (k2 : Int) (al : Int) a b (r : Int) (mX12_isTwoSided_L64 253 (k1 : Int) (k2 : Int) (al : Int) a b (r : Int) x (f + 4)) x (0 + 1) zσ) hr 4 0 mF τ1 (by omega) (by unfold mF; omega) (frm.rf τ1) (ilR_fr h2 p1) (elS_fr hv (p1.mono (fun i j y => tW_jR y)))
      have nx2 : mX12_isTwoSided_B80 253 (k1 : Int) (k2 : Int) (al : Int) a b (r : Int) (mX12_isTwoSided_L64 253 (k1 : Int) (k2 : Int) (al : Int) a b (r : Int) x (f + 4)) x (0 + 1) (k2 : Int) τ1 = mX12_isTwoSided_L94 253 (k1 : Int) (k2 : Int) (al : Int) a b (r : Int) (0 + 1) (k2 : Int) (fun zσ => mX12_isTwoSided_B127 253 (k1 : Int) (k2 : Int) (al : Int) a b (r : Int) (mX12_isTwoSided_L64 253 (k1 : Int) (k2 : Int) (al : Int) a b (r : Int) x (f + 4)) x (0 + 1) zσ) mF 0 τ1 := by
        unfold mX12_isTwoSided_B80
        rw [if_neg (by rw [wI_id ha2]; exact z)]
      refine ⟨τ2, f1.tr g1 (fun i j y => y), fun y => ?_, fun y => ?_⟩
      · refine e1.trans (nx.trans (nx2.trans ((g2 (fun s _ w => y.2 z s w)).trans ?_)))
        exact fin τ2
      · refine e1.trans (nx.trans (nx2.trans (g3 (fun w => y ⟨q1, fun _ s hs => w s (by omega) hs⟩))))
  · exact ⟨τ1, f1, fun y => absurd y.1 q1, fun _ => p3 (fun y => q1 (fun s hs => y s (by omega) hs))⟩
theorem tsL55 {τ0 : mSt} {al k1 : Nat} {a b M N L d1 d2 a2 : Int} {E F : Nat → V4} {u1 u2 : V4} {x : mSt → Option (Int × mSt)} (ha2 : i32 a2) : ∀ (m r n : Nat) (τ : mSt), r + m = 4 → m < n → frm tW τ0 τ → ilR τ al a b M E N L F → elS τ k1 al u1 d1 → (a2 = -1 ∨ ∃ k2 : Nat, a2 = (k2 : Int) ∧ elS τ k2 al u2 d2) → ∃ τ', frm tW τ0 τ' ∧ ((∀ r', r ≤ r' → r' < 4 → tsQ a b M L E F u1 d1 a2 u2 d2 r') → mX12_isTwoSided_L55 253 (k1 : Int) a2 (al : Int) a b x n (r : Int) τ = x τ') ∧ ((¬ ∀ r', r ≤ r' → r' < 4 → tsQ a b M L E F u1 d1 a2 u2 d2 r') → mX12_isTwoSided_L55 253 (k1 : Int) a2 (al : Int) a b x n (r : Int) τ = some (0, τ')) := by
  intro m
  induction m with
  | zero =>
    intro r n τ h1 h2 h3 h4 h5 h6
    obtain ⟨n, rfl⟩ : ∃ z, n = z + 1 := ⟨n - 1, by omega⟩
    obtain rfl : r = 4 := by omega
    exact ⟨τ, h3, fun _ => by rw [mX12_isTwoSided_L55.eq_2, if_pos (by decide)], fun z => absurd (fun r' g1 g2 => by omega) z⟩
  | succ m ih =>
    intro r n τ h1 h2 h3 h4 h5 h6
    obtain ⟨n, rfl⟩ : ∃ z, n = z + 1 := ⟨n - 1, by omega⟩
    have hr : r < 4 := by omega
    obtain ⟨τ1, p1, p2, p3⟩ := tsL64 (x := fun zσ => mX12_isTwoSided_B133 253 (k1 : Int) a2 (al : Int) a b (mX12_isTwoSided_L55 253 (k1 : Int) a2 (al : Int) a b x n) x (r : Int) zσ) hr ha2 τ (frm.rf τ) h4 h5 h6
    have st : mX12_isTwoSided_L55 253 (k1 : Int) a2 (al : Int) a b x (n + 1) (r : Int) τ = mX12_isTwoSided_L64 253 (k1 : Int) a2 (al : Int) a b (r : Int) (fun zσ => mX12_isTwoSided_B133 253 (k1 : Int) a2 (al : Int) a b (mX12_isTwoSided_L55 253 (k1 : Int) a2 (al : Int) a b x n) x (r : Int) zσ) mF 0 τ := by
      rw [mX12_isTwoSided_L55.eq_2, if_neg (by rw [wI_id (x := (r : Int)) (by omega)]; omega)]
    rw [st]
    have f1 : frm tW τ0 τ1 := h3.tr p1 (fun i j z => z)
    by_cases q : tsQ a b M L E F u1 d1 a2 u2 d2 r
    · obtain ⟨τ2, i1, i2, i3⟩ := ih (r + 1) n τ1 (by omega) (by omega) f1 (ilR_fr h4 p1) (elS_fr h5 (p1.mono (fun i j y => tW_jR y))) (h6.imp_right (fun ⟨k2, w1, w2⟩ => ⟨k2, w1, elS_fr w2 (p1.mono (fun i j y => tW_jR y))⟩))
      have nx : mX12_isTwoSided_B133 253 (k1 : Int) a2 (al : Int) a b (mX12_isTwoSided_L55 253 (k1 : Int) a2 (al : Int) a b x n) x (r : Int) τ1 = mX12_isTwoSided_L55 253 (k1 : Int) a2 (al : Int) a b x n ((r + 1 : Nat) : Int) τ1 := by
        unfold mX12_isTwoSided_B133
        rw [bnd_eq, show (r : Int) + 1 = ((r + 1 : Nat) : Int) by omega]
      refine ⟨τ2, i1, fun z => (p2 q).trans (nx.trans (i2 (fun r' g1 g2 => z r' (by omega) g2))), fun z => (p2 q).trans (nx.trans (i3 (fun y => z (fun r' g1 g2 => ?_))))⟩
      by_cases e : r' = r
      · rw [e]; exact q
      · exact y r' (by omega) g2
    · exact ⟨τ1, f1, fun z => absurd (z r (by omega) hr) q, fun _ => p3 q⟩
theorem right_iff {a b M N L d1 d2 d : Int} {E G F : Nat → V4} {u1 u2 u : V4} {P2 : Prop} (hO : Ord a b M E) (hN : 0 < N) (hL : 0 < L) (hd1 : 0 < d1) (hu1 : latS M E u1 d1) (h2 : P2 → 0 < d2 ∧ latS M E u2 d2) (hc : clG a b N E G u1 d1 P2 u2 d2) (hr : rfG a b M N E L F u1 d1 P2 u2 d2) (hd : 0 < d) (hu : latS M E u d) : (∀ r y, r < 4 → vM a b u (E r) = vS d (vC E y) → spn G y) ↔ ∀ r, r < 4 → ∀ s, s < 4 → latS L F (vM a b (vM a b (E s) u) (E r)) (M * d * M) := by
  obtain ⟨br1, br2, br3⟩ := bridge hO hN hL hd1 hu1 h2 hc hr
  have M0 := hO.1
  have g : Grp (latS L F) := latS_grp
  have ts := two_side hO hN hL hd1 (fun p => (h2 p).1) hr hd (u := u)
  have one : (∀ r y, r < 4 → vM a b u (E r) = vS d (vC E y) → spn G y) ↔ ∀ r, r < 4 → latS L F (vM a b u (E r)) (M * d) := by
    constructor
    · intro h r hr4
      have p := prodIn (ord_ok hO).2.1 M0 hd M0 hu (latS_row hr4) (Or.inr rfl)
      have e0 : (if d = M then M else d) = d := by
        by_cases z : d = M
        · rw [if_pos z, z]
        · rw [if_neg z]
      rw [e0] at p
      obtain ⟨y, hy⟩ := p
      rw [vS_one] at hy
      have := (br1 y).mpr (h r y hr4 hy)
      rw [hy, Int.mul_comm]
      exact (g.2.2.2 d _ M M0 hd).mpr this
    · intro h r y hr4 hy
      have := h r hr4
      rw [hy, Int.mul_comm] at this
      exact (br1 y).mp ((g.2.2.2 d _ M M0 hd).mp this)
  rw [one, ts]
  exact ⟨fun z r g1 s g2 => z s r g2 g1, fun z s r g2 g1 => z r g1 s g2⟩
theorem pr_isTwoSided (σ : mSt) (h : Inv σ) (a1 : Int) (h1 : i32 a1) (a2 : Int) (h2 : i32 a2) : ∃ b s b2 s2, mX11_isTwoSided 0 a1 a2 σ = some (b, s) ∧ mX12_isTwoSided 253 a1 a2 s = some (b2, s2) ∧ wI b = wI b2 ∧ Inv s2 := by
  obtain ⟨v, σ1, c1, c2, c3, c4⟩ := fault2 h h1 h2
  have I1 := dull_inv h c2
  by_cases hv : v = 0
  · subst hv
    obtain ⟨k1, al, a, b, M, d1, d2, N, E, u1, u2, rfl, x1, x2, x3, x4, x5, x6, x7, x8, x9, x10, x11, xC, xR⟩ := ideal0 h h2 c3
    obtain ⟨σ2, G, p1, p2, p3, p4⟩ := xC σ1 I1 (dull_same c2)
    have I2 := iW_inv x2 I1 p2
    have S2 : sameO σ σ2 := same_tr (dull_same c2) (iW_same x2 p2)
    have d1p : 0 < d1 := by have := x10.1.2.2.2.2.2.1; omega
    have hu1 := x10.1.2.2.2.2.2.2
    have hu2 : a2 ≠ -1 → 0 < d2 ∧ latS M E u2 d2 := fun z => by
      obtain ⟨k2, _, y, -⟩ := x11.resolve_left z
      exact ⟨by have := y.2.2.2.2.2.1; omega, y.2.2.2.2.2.2⟩
    obtain ⟨σ3, g1, g2⟩ := right_e p3 (elC_o x10.1 S2)
    have I3 := qW_inv x2 I2 g2
    have S3 : sameO σ σ3 := same_tr S2 (qW_same x2 g2)
    have p3' := ilC_fr p3 g2
    obtain ⟨R1, hR1⟩ : ∃ R1, R1 = ∀ r y, r < 4 → vM a b u1 (E r) = vS d1 (vC E y) → spn G y := ⟨_, rfl⟩
    obtain ⟨R2, hR2⟩ : ∃ R2, R2 = ∀ r y, r < 4 → vM a b u2 (E r) = vS d2 (vC E y) → spn G y := ⟨_, rfl⟩
    rw [← hR1] at g1
    have hd : ∀ o, (if wI (b2 R1) = 0 then (mX11_isTwoSided_B59 0 (k1 : Int) a2 (b2 R1) σ3) else if wI a2 = (-1) then (mX11_isTwoSided_B59 0 (k1 : Int) a2 (b2 R1) σ3) else mRef (σ3 0 10) fun r21 => mRef (σ3 0 6) fun r23 => mG (ixOK r23 23 a2) <| mRef (σ3 r23 (wI a2).toNat) fun r26 => mCall (mX4_takesRight r21 r26 σ3) fun b28 s29 => mX11_isTwoSided_B59 0 (k1 : Int) a2 b28 s29) = o → mX11_isTwoSided 0 (k1 : Int) a2 σ = o := fun o z => by
      unfold mX11_isTwoSided
      rw [gc0, c1, mCall_some, if_pos (by decide), p1, mCall_some, gr' (lay0 I2.1).2.2.2.2.2.2.2.1 (by omega), gr' (lay0 I2.1).2.2.2.1 (by omega), gx112 _ (by omega), wI_nat (k := k1) (by omega), gr' (el_lay I2.1 k1 x1).1 (by omega), g1, mCall_some]
      exact z
    have cl : ∃ σ4, mX11_isTwoSided 0 (k1 : Int) a2 σ = some (b2 (R1 ∧ (a2 ≠ -1 → R2)), σ4) ∧ Inv σ4 ∧ sameO σ σ4 := by
      by_cases q1 : R1
      · by_cases z : a2 = -1
        · refine ⟨σ3, hd _ ?_, I3, S3⟩
          rw [b2_t q1, if_neg (by decide), if_pos (by rw [wI_id h2]; exact z), b2_t ⟨q1, fun y => absurd z y⟩]
          unfold mX11_isTwoSided_B59
          rw [if_neg (by decide)]
        · obtain ⟨k2, e2, hv2, -⟩ := x11.resolve_left z
          subst e2
          obtain ⟨σ4, w1, w2⟩ := right_e p3' (elC_o hv2 S3)
          rw [← hR2] at w1
          have kk2 := hv2.1
          refine ⟨σ4, hd _ ?_, qW_inv x2 I3 w2, same_tr S3 (qW_same x2 w2)⟩
          rw [b2_t q1, if_neg (by decide), if_neg (by rw [wI_id h2]; exact z), gr' (lay0 I3.1).2.2.2.2.2.2.2.1 (by omega), gr' (lay0 I3.1).2.2.2.1 (by omega), gx112 _ (by omega), wI_nat (k := k2) (by omega), gr' (el_lay I3.1 k2 kk2).1 (by omega), w1, mCall_some]
          unfold mX11_isTwoSided_B59
          by_cases q2 : R2
          · rw [b2_t q2, if_neg (by decide), b2_t ⟨q1, fun _ => q2⟩]
          · rw [b2_f q2, if_pos (by decide), b2_f (fun y => q2 (y.2 z))]
      · refine ⟨σ3, hd _ ?_, I3, S3⟩
        rw [b2_f q1, if_pos (by decide), b2_f (fun y => q1 y.1)]
        unfold mX11_isTwoSided_B59
        rw [if_pos (by decide)]
    obtain ⟨σ4, y1, y2, y3⟩ := cl
    have Iz : Inv (upS σ4 253 0 0) := y2.scr scr_t
    have Sz : sameO σ (upS σ4 253 0 0) := same_tr y3 z_same
    obtain ⟨τ1, q1, q2⟩ := c4 _ Iz Sz
    have I4 := dull_inv Iz q2
    have S4 : sameO σ τ1 := same_tr Sz (dull_same q2)
    obtain ⟨τ2, L, F, r1, r2, r3, r4⟩ := xR τ1 I4 S4
    have I5 := jR_inv I4 r2
    have el1 := elS_fr (elS_o x10.2 S4) r2
    have el2 : a2 = -1 ∨ ∃ k2 : Nat, a2 = (k2 : Int) ∧ elS τ2 k2 al u2 d2 := x11.imp_right (fun ⟨k2, w1, _, w2⟩ => ⟨k2, w1, elS_fr (elS_o w2 S4) r2⟩)
    obtain ⟨τ3, t1, t2, t3⟩ := tsL55 (x := fun zσ => mX12_isTwoSided_B139 253 (k1 : Int) a2 zσ) h2 4 0 mF τ2 (by omega) (by unfold mF; omega) (frm.rf τ2) r3 el1 el2
    have L0 := r3.2.2.2.2.2.2.2.1.1
    have i1 := right_iff x8 x9 L0 d1p hu1 hu2 p4 r4 d1p hu1
    rw [← hR1] at i1
    have iffQ : (R1 ∧ (a2 ≠ -1 → R2)) ↔ ∀ r, 0 ≤ r → r < 4 → tsQ a b M L E F u1 d1 a2 u2 d2 r := by
      have i2 : a2 ≠ -1 → (R2 ↔ ∀ r, r < 4 → ∀ s, s < 4 → latS L F (vM a b (vM a b (E s) u2) (E r)) (M * d2 * M)) := fun z => by
        have := right_iff x8 x9 L0 d1p hu1 hu2 p4 r4 (hu2 z).1 (hu2 z).2
        rw [← hR2] at this
        exact this
      constructor
      · rintro ⟨w1, w2⟩ r _ hr
        exact ⟨i1.mp w1 r hr, fun z => (i2 z).mp (w2 z) r hr⟩
      · intro w
        exact ⟨i1.mpr (fun r hr => (w r (by omega) hr).1), fun z => (i2 z).mpr (fun r hr => (w r (by omega) hr).2 z)⟩
    have I6 : Inv τ3 := jR_inv I5 (t1.mono (fun i j z => tW_jR z))
    have ly5 := lay253 I5.1
    have k262 : τ2 262 k1 = (al : Int) := by rw [r2 _ _ (by unfold jR; omega), S4 262 (by omega)]; exact x3
    have ra := r3.2.2.1
    have rb := r3.2.2.2.1
    have ref : mX12_isTwoSided 253 (k1 : Int) a2 σ4 = some (b2 (R1 ∧ (a2 ≠ -1 → R2)), τ3) := by
      unfold mX12_isTwoSided
      rw [gc253, bnd_eq, q1, mCall_some, if_pos (by decide), r1, mCall_some, gr' ly5.2.2.2.2.2.2.2.2.1 (by omega), gx262 _ (by omega), wI_nat (k := k1) (by omega), k262, bnd_eq, gr' ly5.2.2.2.2.1 (by omega), gx258 _ (by omega), wI_nat (k := al) (by omega), r3.1.2.2.2.2.1, wI_id (x := a) (by omega), bnd_eq, gr' ly5.2.2.2.2.2.1 (by omega), gx259 _ (by omega), r3.1.2.2.2.2.2.1, wI_id (x := b) (by omega), bnd_eq, b2_iff iffQ]
      by_cases w : ∀ r, 0 ≤ r → r < 4 → tsQ a b M L E F u1 d1 a2 u2 d2 r
      · rw [b2_t w]
        refine (t2 w).trans ?_
        rfl
      · rw [b2_f w]
        exact t3 w
    exact ⟨_, σ4, _, τ3, y1, ref, rfl, I6⟩
  · have vr := fv_cases c3
    have wv : wI v = v := wI_id (x := v) (by omega)
    have I3 : Inv (upS σ1 253 0 0) := I1.scr scr_t
    obtain ⟨τ1, q1, q2⟩ := c4 _ I3 (same_tr (dull_same c2) z_same)
    refine ⟨v, σ1, v, τ1, ?_, ?_, rfl, dull_inv I3 q2⟩
    · unfold mX11_isTwoSided
      rw [gc0, c1, mCall_some, if_neg (by rw [wv]; exact hv)]
    · unfold mX12_isTwoSided
      rw [gc253, bnd_eq, q1, mCall_some, if_neg (by rw [wv]; omega)]

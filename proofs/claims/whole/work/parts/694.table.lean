theorem div_rng2 {a d A : Int} (hd : 1 ≤ d) (h : -(A * d) ≤ a ∧ a ≤ A * d) : -A ≤ a / d ∧ a / d ≤ A := by
  refine ⟨Int.le_ediv_of_mul_le (by omega) ?_, Int.ediv_le_of_le_mul (by omega) h.2⟩
  rw [Int.neg_mul]
  exact h.1
theorem exprProd_e {σ : mSt} {O o pt x y to : Nat} {a b eb U : Int} (hL : Lay σ) (hO : shp O = (5, 0)) (h0 : σ O 0 = a) (h1 : σ O 1 = b) (h2 : σ O 2 = ((o : Nat) : Int)) (h3 : σ O 3 = ((pt : Nat) : Int)) (ho : o ∈ latIds) (hx : shp x = (21, 4)) (hy : shp y = (21, 4)) (hp : shp pt = (21, 4)) (hto : shp to = (21, 4)) (hxp : x ≠ pt) (hyp : y ≠ pt) (hpt : pt ≠ to) (hOp : O ≠ pt) (hOt : to ≠ O) (hto2 : to < o ∨ o + 6 ≤ to) (hpt2 : pt < o + 2 ∨ o + 6 ≤ pt) (heb : 0 < eb ∧ eb < 9223372036854775808) (hE : exR (rwC σ o)) (hU : 0 ≤ U ∧ U ≤ 10000000000) (hz : ∀ i, i < 4 → -9223372036854775808 ≤ vg i (vM a b (rowV σ x) (rowV σ y)) ∧ vg i (vM a b (rowV σ x) (rowV σ y)) < 9223372036854775808) (hB : ∀ i, i < 4 → -U ≤ vg i (vM a b (rowV σ x) (rowV σ y)) / eb ∧ vg i (vM a b (rowV σ x) (rowV σ y)) / eb ≤ U) : ∃ y', mX6_expressProduct O x y eb to σ = some (b2 (latS 1 (rwC σ o) (vM a b (rowV σ x) (rowV σ y)) eb), stV (stV σ pt (vM a b (rowV σ x) (rowV σ y))) to y') ∧ (latS 1 (rwC σ o) (vM a b (rowV σ x) (rowV σ y)) eb → vM a b (rowV σ x) (rowV σ y) = vS eb (vC (rwC σ o) y')) := by
  obtain ⟨z, hze⟩ : ∃ z, z = vM a b (rowV σ x) (rowV σ y) := ⟨_, rfl⟩
  rw [← hze] at hz hB ⊢
  have pt0 : pt ≠ 0 := by intro h; rw [h] at hp; exact absurd hp (by decide)
  have rc := rwC_stV σ o pt z hpt2
  have rp := rowV_stV σ pt z
  have hR : exR (rwC (stV σ pt z) o) := exR_congr (fun r hr => (rc r hr).symm) hE
  obtain ⟨y', ey, hy'⟩ := exprOver_e (σ := stV σ pt z) (O := O) (o := o) (num := pt) (to := to) (dv := eb) (f := 1) (U := U) (hL.stV hp) hO (by rw [stV_ne _ _ _ _ _ hOp]; exact h2) ho hOt hp hto hto2 hpt heb (fun i hi => by rw [rp, Int.mul_one]; exact hz i hi) hR hU (by
    rw [rp]
    exact exB_of hR.1 hU.1 (fun i hi => by rw [vg_vk _ hi, Int.mul_one]; exact hB i hi))
  rw [rp, spn_congr rc] at ey
  rw [rp, spn_congr rc] at hy'
  have iff1 : ((∀ i, i < 4 → eb ∣ vg i z * 1) ∧ spn (rwC σ o) (vk (fun i => vg i z * 1 / eb))) ↔ latS 1 (rwC σ o) z eb := (latS_div heb.1).symm
  refine ⟨y', ?_, fun hl => ?_⟩
  · unfold mX6_expressProduct
    rw [gc hO, gr' h3 pt0, h0, h1, multiply_e hx hy hp hxp hyp, mCall_some, ← hze, gr' (r := pt) (by rw [stV_ne _ _ _ _ _ hOp]; exact h3) pt0, ey, mCall_some, mG_pos (b2_01 _), b2_iff iff1]
  · have e := hy' (iff1.mpr hl)
    have d := (iff1.mpr hl).1
    rw [vC_congr rc] at e
    refine vg_ext (fun i hi => ?_)
    rw [vg_vS _ _ hi, ← e, vg_vk _ hi]
    have := Int.mul_ediv_cancel' (d i hi)
    rw [this, Int.mul_one]
theorem pr_table (σ : mSt) (h : Inv σ) (a1 : Int) (h1 : i32 a1) (a2 : Int) (h2 : i32 a2) (a3 : Int) (h3 : i32 a3) (a4 : Int) (h4 : i32 a4) : ∃ b s, mX11_table 0 a1 a2 a3 a4 σ = some (b, s) ∧ Inv s ∧ ((b = mThrow ∧ ∃ b2 s2, mX12_table 253 a1 a2 a3 a4 s = some (b2, s2) ∧ s2 253 0 = 1 ∧ Inv s2) ∨ (b ≠ mThrow ∧ ∀ s1, Inv s1 → frm (fun i _ => i = 275) s s1 → ∃ b2 s2, mX12_table 253 a1 a2 a3 a4 s1 = some (b2, s2) ∧ s2 253 0 = 0 ∧ s2 275 0 = s1 275 0 ∧ wI b = wI b2 ∧ Inv s2)) := by
  have hI := h
  obtain ⟨hL, hb, t, B, n, s0, hT, hB, hP, hE, hO⟩ := h
  have hn := hB.2.1
  have h2' := h2
  have h3' := h3
  have h4' := h4
  unfold i32 at h2' h3' h4'
  by_cases hv : (0 ≤ a1 ∧ a1 < (n : Int) ∧ σ 257 a1.toNat = 0) ∧ (0 ≤ a2 ∧ a2 ≤ 3) ∧ (0 ≤ a3 ∧ a3 ≤ 3) ∧ 0 ≤ a4 ∧ a4 ≤ 3
  · obtain ⟨hv, w2, w3, w4⟩ := hv
    obtain ⟨k, rfl, hk, hq⟩ := quat_nat hv
    obtain ⟨r, rfl⟩ : ∃ r : Nat, a2 = (r : Int) := ⟨a2.toNat, by omega⟩
    obtain ⟨s, rfl⟩ : ∃ r : Nat, a3 = (r : Int) := ⟨a3.toNat, by omega⟩
    obtain ⟨c, rfl⟩ : ∃ r : Nat, a4 = (r : Int) := ⟨a4.toNat, by omega⟩
    have hk8 : k < 8 := by omega
    have hr4 : r < 4 := by omega
    have hs4 : s < 4 := by omega
    have hc4 : c < 4 := by omega
    obtain ⟨k1, k2, k3, k4, k5, k6⟩ := ord_lay hL hk8
    obtain ⟨-, ⟨na, ra1, ra2, -⟩, nb, rb1, rb2, -⟩ := quatF hB hk hq
    have io := hO.1 k hk hq
    obtain ⟨rc, rm⟩ := iord_c io
    obtain ⟨g1, g2, g3, g4, g5, g6⟩ := io
    obtain ⟨⟨m0, m1⟩, fE, fl, fd, -⟩ := ord_facts ⟨na, ra1, ra2⟩ ⟨nb, rb1, rb2⟩ g6
    have hR0 := exR_ord ⟨na, ra1, ra2⟩ ⟨nb, rb1, rb2⟩ g6
    have hR := exR_congr (fun r hr => (rc r hr).symm) hR0
    have en : ∀ r, r < 4 → ∀ i, i < 4 → -(σ 270 k) ≤ vg i (rowL σ k r) ∧ vg i (rowL σ k r) ≤ σ 270 k := fun r hr i hi => by
      rcases (show i < r ∨ i = r ∨ r < i by omega) with q | q | q
      · rw [tri_z g6.2.1 r i q hr]; omega
      · rw [q]; have := fE r hr; omega
      · have := red_le g6.2.2.1 r i q hi; have := fE i hi; omega
    obtain ⟨z, hz⟩ : ∃ z, z = vM (σ 258 k) (σ 259 k) (rowL σ k r) (rowL σ k s) := ⟨_, rfl⟩
    have zr := vM_rng ⟨ra1, ra2⟩ ⟨rb1, rb2⟩ (en r hr4) (en s hs4) (by omega)
    rw [← hz] at zr
    have mm : σ 270 k * σ 270 k ≤ 7200 * 7200 := Int.mul_le_mul m1 m1 (by omega) (by omega)
    have mm0 : 0 < σ 270 k * σ 270 k := Int.mul_pos m0 m0
    have zd : ∀ i, i < 4 → -10000000000 ≤ vg i z / σ 270 k ∧ vg i z / σ 270 k ≤ 10000000000 := fun i hi => by
      have := div_rng2 (a := vg i z) (d := σ 270 k) (A := 3721 * σ 270 k) (by omega) (by rw [Int.mul_assoc]; exact zr i hi)
      omega
    have cl : latS (σ 270 k) (rowL σ k) z (σ 270 k * σ 270 k) := by rw [hz]; exact g6.2.2.2.2.1 _ _ _ _ m0 m0 (latS_row hr4) (latS_row hs4)
    have cl1 : latS 1 (rowL σ k) z (σ 270 k) := by
      obtain ⟨d, hd⟩ := cl
      refine ⟨d, vS_cancel (k := σ 270 k) (by omega) ?_⟩
      rw [vS_one, hd, vS_vS]
    have rowE : ∀ r, r < 4 → rowV σ (184 + 9 * k + r) = rowL σ k r := g5
    obtain ⟨y1, ey1, hy1⟩ := exprProd_e (σ := σ) (O := 181 + 9 * k) (o := 182 + 9 * k) (pt := 189 + 9 * k) (x := 184 + 9 * k + r) (y := 184 + 9 * k + s) (to := 164) (eb := σ 270 k) (U := 10000000000) hL k1 g1 g2 k5 k6 k3 (by have := ((lat_lay hL k3).2.2.2.2.2 r hr4).1; rwa [show 182 + 9 * k + 2 + r = 184 + 9 * k + r by omega] at this) (by have := ((lat_lay hL k3).2.2.2.2.2 s hs4).1; rwa [show 182 + 9 * k + 2 + s = 184 + 9 * k + s by omega] at this) k2 (by decide) (by omega) (by omega) (by omega) (by omega) (by omega) (by omega) (by omega) (by omega) hR (by omega) (fun i hi => by rw [rowE r hr4, rowE s hs4, ← hz]; have := zr i hi; omega) (fun i hi => by rw [rowE r hr4, rowE s hs4, ← hz]; exact zd i hi)
    rw [rowE r hr4, rowE s hs4, ← hz, latS_congr rc, b2_t cl1] at ey1
    rw [rowE r hr4, rowE s hs4, ← hz, latS_congr rc, vC_congr rc] at hy1
    have c1 : mX11_table 0 (k : Int) (r : Int) (s : Int) (c : Int) σ = some (wI (vg c y1), stV (stV σ (189 + 9 * k) z) 164 y1) := by
      unfold mX11_table
      refine mR_eq (mR_G (by decide) (mR_callE (quat_t hL hB hk hq) (mR_neg (by decide) (mR_neg (by rw [wI_id h2]; omega) (mR_neg (by rw [wI_id h2]; omega) (mR_neg (by rw [wI_id h3]; omega) (mR_neg (by rw [wI_id h3]; omega) (mR_neg (by rw [wI_id h4]; omega) (mR_pos (by rw [wI_id h4]; omega) ?_)))))))))
      refine mR_ref (lay0 hL).2.2.2.2.1 (by omega) (mR_G (ixOK_of (n := 8) (by decide) (by omega) (by omega) (by omega)) ?_)
      rw [wI_nat (by omega)]
      refine mR_ref k4 (by omega) (mR_callE (numbersOf_e hL hk8 hr4) (mR_callE (numbersOf_e hL hk8 hs4) (mR_callE (below_e hL hk8) (mR_ref (lay0 hL).2.2.2.2.2.2.2.2 (by omega) ?_))))
      rw [rm, Int.toNat_natCast, Int.toNat_natCast]
      refine mR_callE ey1 (mR_ref (r := 164) (by rw [stV_ne _ _ _ _ _ (by omega), stV_ne _ _ _ _ _ (by omega)]; exact (lay0 hL).2.2.2.2.2.2.2.2) (by omega) (mR_G (ixOK_of (n := 4) (by decide) (by omega) (by omega) (by omega)) (mR_ret ⟨?_, rfl⟩)))
      rw [wI_nat (by omega), vg_stV _ _ _ hc4]
    have fs : frm scr σ (stV (stV σ (189 + 9 * k) z) 164 y1) := scrV (frm.stV (frm.rf σ) (fun j => ⟨fixR_data (by rw [k2]; exact Or.inr (Or.inl rfl)) j, Or.inl (by unfold sObj; omega)⟩)) (Or.inl rfl)
    refine ⟨_, _, c1, hI.scr fs, Or.inr ⟨mThrow_neI _, fun s1 hs1 hf => ?_⟩⟩
    obtain ⟨σ1, hσ1⟩ : ∃ x, x = stV (stV σ (189 + 9 * k) z) 164 y1 := ⟨_, rfl⟩
    have o : ∀ i, i ≠ 275 → i ≠ 164 → i ≠ 189 + 9 * k → s1 i = σ i := fun i p1 p2 p3 => by
      rw [f275 hf i p1, stV_row _ _ _ _ p2, stV_row _ _ _ _ p3]
    have hL1 := hs1.1
    have hB1 : iBook s1 B n := iBook_congr hB (by rw [o 0 (by omega) (by omega) (by omega)]) (by rw [o 0 (by omega) (by omega) (by omega)]) (fun i hi => o i (by omega) (by omega) (by omega))
    have hLt : Lay (upS s1 253 0 0) := hL1.frm scr_t (fun i j z => z.1)
    have l := lay253 hLt
    have rl : ∀ q, rowL (upS s1 253 0 0) k q = rowL σ k q := fun q => by rw [rowL_congr (l := k) (show (upS s1 253 0 0) 269 = σ 269 by rw [upS_row (by omega), o 269 (by omega) (by omega) (by omega)])]
    obtain ⟨τ1, hτ1⟩ : ∃ x, x = stV (stV (stV (upS s1 253 0 0) 265 (rowL σ k r)) 266 (rowL σ k s)) 267 z := ⟨_, rfl⟩
    have ft1 : frm scr s1 τ1 := by
      rw [hτ1]
      exact scrV (scrV (scrV frT (Or.inr (Or.inl (by omega)))) (Or.inr (Or.inl (by omega)))) (Or.inr (Or.inl (by omega)))
    have o1 : ∀ i, i ≠ 253 → i ≠ 265 → i ≠ 266 → i ≠ 267 → τ1 i = s1 i := fun i p1 p2 p3 p4 => by
      rw [hτ1, stV_row _ _ _ _ p4, stV_row _ _ _ _ p3, stV_row _ _ _ _ p2, upS_row p1]
    have hLτ := hL1.frm ft1 (fun i j z => z.1)
    have lτ := lay253 hLτ
    have rl1 : rowL τ1 k = rowL σ k := by rw [rowL_congr (l := k) (show τ1 269 = σ 269 by rw [o1 269 (by omega) (by omega) (by omega) (by omega), o 269 (by omega) (by omega) (by omega)])]
    have bel : τ1 270 k = σ 270 k := by rw [o1 270 (by omega) (by omega) (by omega) (by omega), o 270 (by omega) (by omega) (by omega)]
    have gg : (Int.gcd (σ 270 k) (σ 270 k * σ 270 k) : Int) = σ 270 k := Int.gcd_eq_left (by omega) ⟨_, rfl⟩
    obtain ⟨v', y2, ey2, hy2⟩ := holds_e (τ := τ1) (l := k) (M := σ 270 k) (over := σ 270 k * σ 270 k) (U := 10000000000) (v := z) lτ.2.2.2.2.2.2.2.2.2.2.2.2.2.2.2.1 lτ.2.2.2.2.2.2.2.2.2.2.2.2.2.2.2.2.1 lτ.2.2.2.2.2.2.2.2.2.2.2.2.2.2.2.2.2.2.1 lτ.2.2.2.2.2.2.2.2.2.2.2.2.2.2.2.2.2.2.2.1 (by omega) bel (by omega) (by omega) (by rw [rl1]; exact hR0) (fun i hi => by have := zr i hi; omega) (by omega) (by
      rw [rl1, gg, Int.mul_ediv_cancel_left _ (by omega), Int.ediv_self (by omega)]
      exact exB_of g6.2.1 (by omega) (fun i hi => by rw [vg_vk _ hi, Int.mul_one]; exact zd i hi))
    rw [rl1, b2_t cl] at ey2
    have y12 : y2 = y1 := by
      have e1 := hy1 cl1
      have e2 := hy2 (by rw [rl1]; exact cl)
      rw [rl1, ← vS_vS] at e2
      exact vC_inj g6.2.1 (vS_cancel (k := σ 270 k) (by omega) ((vS_cancel (k := σ 270 k) (by omega) e2).symm.trans e1))
    rw [y12] at ey2
    obtain ⟨f, hf5⟩ := mF5
    have fin : mX12_table_B63 253 (k : Int) (r : Int) (s : Int) (c : Int) 1 253 0 s1 = some (vg c y1, stV (stV τ1 272 v') 273 y1) := by
      unfold mX12_table_B63
      rw [gc253, bnd_eq, if_neg (by decide), takesRow0_e l.2.2.2.2.2.2.2.2.2.2.2.2.2.2.2.1 l.2.2.2.2.2.2.2.2.2.2.2.1 (by omega) hr4, mCall_some, rl, takesRow1_e (by rw [stV_ne _ _ _ _ _ (by omega)]; exact l.2.2.2.2.2.2.2.2.2.2.2.2.2.2.2.1) (by rw [stV_ne _ _ _ _ _ (by omega)]; exact l.2.2.2.2.2.2.2.2.2.2.2.2.1) (by omega) hs4, mCall_some, rowL_congr (l := k) (stV_row (upS s1 253 0 0) 265 (rowL σ k r) 269 (by omega)), rl]
      have lz : ∀ (i j : Nat), i ≠ 265 → i ≠ 266 → stV (stV (upS s1 253 0 0) 265 (rowL σ k r)) 266 (rowL σ k s) i j = upS s1 253 0 0 i j := fun i j p1 p2 => by rw [stV_ne _ _ _ _ _ p2, stV_ne _ _ _ _ _ p1]
      rw [gr' (r := 258) (by rw [lz _ _ (by omega) (by omega)]; exact l.2.2.2.2.1) (by omega), gx258 _ (by omega), gr' (r := 259) (by rw [lz _ _ (by omega) (by omega)]; exact l.2.2.2.2.2.1) (by omega), gx259 _ (by omega), wI_nat (by omega), lz 258 _ (by omega) (by omega), lz 259 _ (by omega) (by omega), up_ne _ _ _ 258 _ _ (by omega), up_ne _ _ _ 259 _ _ (by omega), o 258 (by omega) (by omega) (by omega), o 259 (by omega) (by omega) (by omega), wI_id (by omega), wI_id (by omega), multiplies_e (by rw [lz _ _ (by omega) (by omega)]; exact l.2.2.2.2.2.2.2.2.2.2.2.1) (by rw [lz _ _ (by omega) (by omega)]; exact l.2.2.2.2.2.2.2.2.2.2.2.2.1) (by rw [lz _ _ (by omega) (by omega)]; exact l.2.2.2.2.2.2.2.2.2.2.2.2.2.1), mCall_some, rowV_stV, rowV_ne _ _ _ _ (by omega), rowV_stV, ← hz, ← hτ1, hf5]
      have z0 : ∀ i, i < 4 → τ1 267 i = vg i z := fun i hi => by rw [hτ1, vg_stV _ _ _ hi]
      have z0' := z0 0 (by omega)
      have z1' := z0 1 (by omega)
      have z2' := z0 2 (by omega)
      have z3' := z0 3 (by omega)
      repeat (rw [mX12_table_L108.eq_2]; simp (disch := omega) only [gr, bnd_eq, up_ne, upS_same, stV_ne, mCall_some, wI_id, wL_id, cLtF, cLtT, cLeF, cLeT, cEqF, cEqT, ↓reduceIte, Int.toNat_natCast, Int.reduceToNat, lτ, gx267, gx272, Int.reduceAdd, z0', z1', z2', z3'])
      rw [stV_fold, show (vg 0 z, vg 1 z, vg 2 z, vg 3 z) = z from rfl]
      unfold mX12_table_B134
      rw [gr' (r := 270) (by rw [stV_ne _ _ _ _ _ (by omega)]; exact lτ.2.2.2.2.2.2.2.2.2.2.2.2.2.2.2.2.1) (by omega), gx270 _ (by omega), gr' (r := 270) (by rw [stV_ne _ _ _ _ _ (by omega)]; exact lτ.2.2.2.2.2.2.2.2.2.2.2.2.2.2.2.2.1) (by omega), gx270 _ (by omega), wI_nat (by omega), stV_ne _ _ _ 270 _ (by omega), bel, ey2, mCall_some, if_neg (by decide), gr' (r := 273) (by rw [stV_ne _ _ _ _ _ (by omega), stV_ne _ _ _ _ _ (by omega)]; exact lτ.2.2.2.2.2.2.2.2.2.2.2.2.2.2.2.2.2.2.2.1) (by omega), gx273 _ (by omega), wI_nat (by omega), vg_stV _ _ _ hc4]
    refine ⟨vg c y1, stV (stV τ1 272 v') 273 y1, ?_, ?_, ?_, wI_wI _, hs1.scr (scrV (scrV ft1 (Or.inr (Or.inr (by omega)))) (Or.inr (Or.inr (by omega))))⟩
    · unfold mX12_table mX12_table_B50
      refine mR_eq (mR_G (by decide) (mR_callE (quatr_t hL1 hB1 hk (by rw [o 257 (by omega) (by omega) (by omega)]; exact hq)) (mR_neg (by decide) ?_)))
      rw [wI_id h2, wI_id h3, wI_id h4]
      exact mR_callE (within_e _ 0 3 _ (by omega) (by omega) (by omega)) (mR_neg (by rw [wI_b2, b2_t ⟨by omega, by omega⟩]; decide) (mR_callE (within_e _ 0 3 _ (by omega) (by omega) (by omega)) (mR_neg (by rw [wI_b2, b2_t ⟨by omega, by omega⟩]; decide) (mR_callE (within_e _ 0 3 _ (by omega) (by omega) (by omega)) (mR_neg (by rw [wI_b2, b2_t ⟨by omega, by omega⟩]; decide) (mR_neg (by decide) (mR_of fin ⟨rfl, rfl⟩)))))))
    · rw [stV_ne _ _ _ _ _ (by omega), stV_ne _ _ _ _ _ (by omega), hτ1, stV_ne _ _ _ _ _ (by omega), stV_ne _ _ _ _ _ (by omega), stV_ne _ _ _ _ _ (by omega), upS_same]
    · rw [stV_ne _ _ _ _ _ (by omega), stV_ne _ _ _ _ _ (by omega), o1 275 (by omega) (by omega) (by omega) (by omega)]
  · have c : mX11_table 0 a1 a2 a3 a4 σ = some (mThrow, σ) := by
      unfold mX11_table mX11_table_B37
      refine mR_eq (mR_G (by decide) (mR_callE (quat_c hL hB h1) (mR_if (fun z => mR_ret ⟨rfl, rfl⟩) (fun z => mR_if (fun z2 => mR_ret ⟨rfl, rfl⟩) (fun z2 => mR_if (fun z3 => mR_ret ⟨rfl, rfl⟩) (fun z3 => mR_if (fun z4 => mR_ret ⟨rfl, rfl⟩) (fun z4 => mR_if (fun z5 => mR_ret ⟨rfl, rfl⟩) (fun z5 => mR_if (fun z6 => mR_ret ⟨rfl, rfl⟩) (fun z6 => mR_if (fun z7 => ?_) (fun z7 => mR_ret ⟨rfl, rfl⟩))))))))))
      have := b2p z
      rw [wI_id h2] at z2 z3
      rw [wI_id h3] at z4 z5
      rw [wI_id h4] at z6 z7
      exact absurd ⟨this, ⟨by omega, by omega⟩, ⟨by omega, by omega⟩, by omega, z7⟩ hv
    refine ⟨_, _, c, hI, Or.inl ⟨rfl, 0, upS σ 253 0 1, ?_, upS_same _ _ _ _, hI.scr scr_t⟩⟩
    have e : mX12_table_B49 253 a1 a2 a3 a4 σ = some (0, upS σ 253 0 1) := by
      unfold mX12_table_B49 mX12_table_B50 mX12_table_B63
      exact mR_eq (mR_pos (by decide) (mR_G (by decide) (mR_bnd (mR_pos (by decide) (mR_ret ⟨rfl, rfl⟩)))))
    unfold mX12_table
    refine mR_eq (mR_G (by decide) (mR_callE (quat_r hL hB h1) (mR_if (fun z => mR_of e ⟨rfl, rfl⟩) (fun z => ?_))))
    have := b2p z
    rw [wI_id h2, wI_id h3, wI_id h4]
    refine mR_callE (within_e _ 0 3 _ (by omega) (by omega) (by omega)) (mR_if (fun z => mR_of e ⟨rfl, rfl⟩) (fun z2 => mR_callE (within_e _ 0 3 _ (by omega) (by omega) (by omega)) (mR_if (fun z => mR_of e ⟨rfl, rfl⟩) (fun z3 => mR_callE (within_e _ 0 3 _ (by omega) (by omega) (by omega)) (mR_if (fun z => mR_of e ⟨rfl, rfl⟩) (fun z4 => ?_))))))
    exact absurd ⟨this, b2p z2, b2p z3, b2p z4⟩ hv

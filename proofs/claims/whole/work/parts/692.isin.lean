theorem exB_of {E : Nat → V4} {U : Int} {x : V4} (hT : Tri E) (hU : 0 ≤ U) (h : ∀ i, i < 4 → -U ≤ vg i x ∧ vg i x ≤ U) : exB E 0 U x := by
  intro i _ hi
  have p := tri_d hT i hi
  have := h i hi
  have m := Int.mul_le_mul_of_nonneg_left (show 1 ≤ vg i (E i) by omega) hU
  omega
theorem div_rng {a d A : Int} (h : -A ≤ a ∧ a ≤ A) (hd : 1 ≤ d) : -A ≤ a / d ∧ a / d ≤ A := by
  have hA : 0 ≤ A := by omega
  have m := Int.mul_le_mul_of_nonneg_left hd hA
  refine ⟨Int.le_ediv_of_mul_le (by omega) ?_, Int.ediv_le_of_le_mul (by omega) (by omega)⟩
  rw [Int.neg_mul]
  omega
theorem red_le {E : Nat → V4} (rE : Red E) : ∀ r i, r < i → i < 4 → 0 ≤ vg i (E r) ∧ vg i (E r) < vg i (E i) := by
  obtain ⟨r01, r02, r03, r12, r13, r23⟩ := rE
  intro r i h1 h2
  rcases (show (r = 0 ∧ i = 1) ∨ (r = 0 ∧ i = 2) ∨ (r = 0 ∧ i = 3) ∨ (r = 1 ∧ i = 2) ∨ (r = 1 ∧ i = 3) ∨ (r = 2 ∧ i = 3) by omega) with ⟨rfl, rfl⟩ | ⟨rfl, rfl⟩ | ⟨rfl, rfl⟩ | ⟨rfl, rfl⟩ | ⟨rfl, rfl⟩ | ⟨rfl, rfl⟩ <;> assumption
theorem exR_ord {a b M : Int} {E : Nat → V4} (ha : a ≠ 0 ∧ -60 ≤ a ∧ a ≤ 60) (hb : b ≠ 0 ∧ -60 ≤ b ∧ b ≤ 60) (h : Ord a b M E) : exR E := by
  obtain ⟨⟨m0, m1⟩, fE, -⟩ := ord_facts ha hb h
  obtain ⟨h1, h2, h3, h4⟩ := h
  exact ⟨h2, fun r i hr hi => ⟨(red_le h3 r i hr hi).1, by have := (red_le h3 r i hr hi).2; omega⟩, fun i hi => by have := (fE i hi).2.2; omega⟩
theorem exR_congr {E F : Nat → V4} (h : ∀ r, r < 4 → E r = F r) (hE : exR E) : exR F := by
  obtain ⟨h1, h2, h3⟩ := hE
  refine ⟨?_, fun r i hr hi => ?_, fun i hi => ?_⟩
  · unfold Tri at h1 ⊢
    rw [← h 0 (by omega), ← h 1 (by omega), ← h 2 (by omega), ← h 3 (by omega)]
    exact h1
  · rw [← h r (by omega), ← h i hi]
    exact h2 r i hr hi
  · rw [← h i hi]
    exact h3 i hi
theorem spn_congr {E F : Nat → V4} (h : ∀ r, r < 4 → E r = F r) : spn E = spn F := by
  funext x
  unfold spn
  simp only [vC_congr h]
theorem exB_congr {E F : Nat → V4} (h : ∀ r, r < 4 → E r = F r) {r : Nat} {U : Int} {x : V4} (hE : exB E r U x) : exB F r U x := by
  intro i hr hi
  rw [← h i hi]
  exact hE i hr hi
theorem holds_e {τ : mSt} {l : Nat} {M over U : Int} {v : V4} (l29 : τ 253 29 = ((269 : Nat) : Int)) (l30 : τ 253 30 = ((270 : Nat) : Int)) (l32 : τ 253 32 = ((272 : Nat) : Int)) (l33 : τ 253 33 = ((273 : Nat) : Int)) (hl : l < 10) (hM : τ 270 l = M) (hM0 : 0 < M ∧ M < 9223372036854775808) (ho : 0 < over ∧ over < 9223372036854775808) (hE : exR (rowL τ l)) (hv : ∀ i, i < 4 → -9223372036854775808 ≤ vg i v ∧ vg i v < 9223372036854775808) (hU : 0 ≤ U ∧ U ≤ 10000000000) (hx : exB (rowL τ l) 0 U (vk (fun i => vg i v / (over / (Int.gcd M over : Int)) * (M / (Int.gcd M over : Int))))) : ∃ v' y, mX12_holds 253 (l : Int) over (stV τ 272 v) = some (b2 (latS M (rowL τ l) v over), stV (stV τ 272 v') 273 y) ∧ (latS M (rowL τ l) v over → vS M v = vS over (vC (rowL τ l) y)) := by
  have g0 := gcd_le (a := M) (b := over) hM0.1
  obtain ⟨g, hg⟩ : ∃ g, g = (Int.gcd M over : Int) := ⟨_, rfl⟩
  obtain ⟨d, hd⟩ : ∃ d, d = over / g := ⟨_, rfl⟩
  obtain ⟨up, hup⟩ : ∃ d, d = M / g := ⟨_, rfl⟩
  rw [← hg] at g0 hx
  rw [← hd, ← hup] at hx
  have dv1 : over = g * d := by rw [hd, hg, Int.mul_ediv_cancel' (Int.gcd_dvd_right M over)]
  have dv2 : M = g * up := by rw [hup, hg, Int.mul_ediv_cancel' (Int.gcd_dvd_left M over)]
  have d0 : 0 < d := by
    rcases Int.lt_or_le 0 d with h | h
    · exact h
    · have := Int.mul_le_mul_of_nonneg_left h (show 0 ≤ g by omega)
      omega
  have key1 : latS M (rowL τ l) v over → ∀ i, i < 4 → d ∣ vg i v := by
    rintro ⟨c, hc⟩ i hi
    have e : M * vg i v = over * vg i (vC (rowL τ l) c) := by rw [← vg_vS _ _ hi, hc, vg_vS _ _ hi]
    have h1 : over ∣ M * vg i v := ⟨_, e⟩
    have h2 := Int.dvd_gcd_mul_iff_dvd_mul.mpr h1
    rw [Int.gcd_comm, ← hg, dv1] at h2
    exact Int.dvd_of_mul_dvd_mul_left (show g ≠ 0 by omega) h2
  have key2 : (∀ i, i < 4 → d ∣ vg i v) → ∀ c, vk (fun i => vg i v / d * up) = vC (rowL τ l) c → vS M v = vS over (vC (rowL τ l) c) := by
    intro h c hc
    refine vg_ext (fun i hi => ?_)
    rw [vg_vS _ _ hi, vg_vS _ _ hi, ← hc, vg_vk _ hi, dv1, dv2]
    have := Int.mul_ediv_cancel' (h i hi)
    generalize vg i v / d = z at this ⊢
    rw [← this]
    grind
  have key3 : (∀ i, i < 4 → d ∣ vg i v) → latS M (rowL τ l) v over → spn (rowL τ l) (vk (fun i => vg i v / d * up)) := by
    rintro h ⟨c, hc⟩
    refine ⟨c, vg_ext fun i hi => ?_⟩
    have e : M * vg i v = over * vg i (vC (rowL τ l) c) := by rw [← vg_vS _ _ hi, hc, vg_vS _ _ hi]
    rw [vg_vk _ hi]
    have := Int.mul_ediv_cancel' (h i hi)
    generalize vg i v / d = z at this ⊢
    rw [← this, dv1, dv2] at e
    refine Int.eq_of_mul_eq_mul_left (show g * d ≠ 0 from Int.mul_ne_zero (by omega) (by omega)) ?_
    rw [← e]
    grind
  obtain ⟨f, hf⟩ := mF5
  have lz : ∀ (i j : Nat) (u : V4), i ≠ 272 → stV τ 272 u i j = τ i j := fun i j u a => stV_ne _ _ _ _ _ a
  have s1 := fun (c n : Nat) (u : V4) (hc : c < 4) (hr : -9223372036854775808 ≤ vg c u ∧ vg c u < 9223372036854775808) => hoL3 (n := n) (v := u) (xx := fun zσ => mX12_holds_B67 253 (l : Int) over zσ) l30 l32 hl hc hM hM0 ho hg dv1 hr
  have no : ∀ {i : Nat} {u : V4}, i < 4 → ¬ d ∣ vg i v → ∃ v' y, some ((0 : Int), stV τ 272 u) = some (b2 (latS M (rowL τ l) v over), stV (stV τ 272 v') 273 y) ∧ (latS M (rowL τ l) v over → vS M v = vS over (vC (rowL τ l) y)) := fun {i u} hi h => ⟨u, rowV (stV τ 272 u) 273, by rw [b2_f (fun z => h (key1 z i hi)), stV_self], fun z => absurd (key1 z i hi) h⟩
  unfold mX12_holds
  rw [gc253, hf, show (0 : Int) = ((0 : Nat) : Int) from rfl, s1 0 _ _ (by omega) (hv 0 (by omega))]
  by_cases c0 : d ∣ vg 0 v
  · rw [if_pos c0, s1 1 _ (vU v 0 (vg 0 v / d)) (by omega) (hv 1 (by omega))]
    by_cases c1 : d ∣ vg 1 v
    · rw [show vg 1 (vU v 0 (vg 0 v / d)) = vg 1 v from rfl, if_pos c1, s1 2 _ (vU (vU v 0 (vg 0 v / d)) 1 (vg 1 v / d)) (by omega) (hv 2 (by omega))]
      by_cases c2 : d ∣ vg 2 v
      · rw [show vg 2 (vU (vU v 0 (vg 0 v / d)) 1 (vg 1 v / d)) = vg 2 v from rfl, if_pos c2, s1 3 _ (vU (vU (vU v 0 (vg 0 v / d)) 1 (vg 1 v / d)) 2 (vg 2 v / d)) (by omega) (hv 3 (by omega))]
        by_cases c3 : d ∣ vg 3 v
        · rw [show vg 3 (vU (vU (vU v 0 (vg 0 v / d)) 1 (vg 1 v / d)) 2 (vg 2 v / d)) = vg 3 v from rfl, if_pos c3, mX12_holds_L3.eq_2, if_pos (by decide)]
          have all : ∀ i, i < 4 → d ∣ vg i v := fun i hi => lt4 (p := fun i => d ∣ vg i v) c0 c1 c2 c3 hi
          rw [show vU (vU (vU (vU v 0 (vg 0 v / d)) 1 (vg 1 v / d)) 2 (vg 2 v / d)) 3 (vg 3 v / d) = vk (fun i => vg i v / d) from rfl]
          unfold mX12_holds_B67
          rw [gr' (r := 270) (by rw [lz _ _ _ (by omega)]; exact l30) (by omega), gx270 _ (by omega), gr' (r := 270) (by rw [lz _ _ _ (by omega)]; exact l30) (by omega), gx270 _ (by omega), wI_nat (by omega), lz _ _ _ (by omega), hM, com_e _ _ _ (by omega) (by omega), mCall_some, ← hg, mG_pos (by rw [wL_id (by omega)]; omega), wL_id (x := M) (by omega), wL_id (x := g) (by omega), show M.tdiv g = up by rw [dv2, Int.mul_tdiv_cancel_left _ (by omega)], bnd_eq, hf]
          have h89 := hoL89 (τ := τ) (l := l) (over := over) (up := up) (xx := fun zσ => mX12_holds_B113 253 (l : Int) over zσ) (v := vk (fun i => vg i v / d)) l32 (f + 1)
          rw [show vk (fun i => vg i (vk (fun i => vg i v / d)) * up) = vk (fun i => vg i v / d * up) from rfl] at h89
          refine (show ∃ v' y, mX12_holds_L89 253 (l : Int) over up (fun zσ => mX12_holds_B113 253 (l : Int) over zσ) (f + 1 + 5) 0 (stV τ 272 (vk (fun i => vg i v / d))) = some (b2 (latS M (rowL τ l) v over), stV (stV τ 272 v') 273 y) ∧ (latS M (rowL τ l) v over → vS M v = vS over (vC (rowL τ l) y)) from ?_)
          rw [h89]
          obtain ⟨x, hxe⟩ : ∃ x, x = vk (fun i => vg i v / d * up) := ⟨_, rfl⟩
          rw [← hxe] at hx ⊢
          have e0 : stV τ 272 x = stV (stV τ 272 (tlv 0 x)) 273 (rowV (stV τ 272 x) 273) := by
            rw [show tlv 0 x = x from vg_ext fun i hi => by unfold tlv; rw [vg_vk _ hi, if_neg (by omega)], stV_self]
          have iff1 : latS M (rowL τ l) v over ↔ spn (rowL τ l) x := ⟨fun z => by rw [hxe]; exact key3 all z, fun ⟨c, hc⟩ => ⟨c, key2 all c (by rw [← hxe]; exact hc)⟩⟩
          rw [b2_iff iff1]
          have step := fun (r n : Nat) (u y : V4) (V : Int) (hr : r < 4) (hV : 0 ≤ V ∧ V ≤ 80000000000) (hu : exB (rowL τ l) r V u) => hoL116 (n := n) (x := u) (y := y) (over := over) (xx := fun zσ => mX12_holds_B219 253 (l : Int) over zσ) l29 l32 l33 hl hr hE.1 (exB_in hE hr hV hu).1 (exB_in hE hr hV hu).2
          have no2 : ∀ {u y : V4}, ¬ spn (rowL τ l) x → ∃ v' y', some ((0 : Int), stV (stV τ 272 u) 273 y) = some (b2 (spn (rowL τ l) x), stV (stV τ 272 v') 273 y') ∧ (latS M (rowL τ l) v over → vS M v = vS over (vC (rowL τ l) y')) := fun {u y} h => ⟨u, y, by rw [b2_f h], fun z => absurd (iff1.mp z) h⟩
          unfold mX12_holds_B113
          rw [hf, e0, show (0 : Int) = ((0 : Nat) : Int) from rfl, step 0 _ _ _ _ (by omega) (by omega) hx]
          have i0 := exI_0 (rowL τ l) x
          by_cases q0 : vg 0 (rowL τ l 0) ∣ vg 0 x
          · have i1 := exI_step hE.1 (by omega) i0 q0
            have b1 := exB_step hE (by omega) hU.1 hx
            rw [if_pos q0, step 1 _ _ _ _ (by omega) (by omega) b1]
            by_cases q1 : vg 1 (rowL τ l 1) ∣ vg 1 (exS (rowL τ l) 0 x)
            · have i2 := exI_step hE.1 (by omega) i1 q1
              have b2 := exB_step hE (by omega) (by omega) b1
              rw [if_pos q1, step 2 _ _ _ _ (by omega) (by omega) b2]
              by_cases q2 : vg 2 (rowL τ l 2) ∣ vg 2 (exS (rowL τ l) 1 (exS (rowL τ l) 0 x))
              · have i3 := exI_step hE.1 (by omega) i2 q2
                have b3 := exB_step hE (by omega) (by omega) b2
                rw [if_pos q2, step 3 _ _ _ _ (by omega) (by omega) b3]
                by_cases q3 : vg 3 (rowL τ l 3) ∣ vg 3 (exS (rowL τ l) 2 (exS (rowL τ l) 1 (exS (rowL τ l) 0 x)))
                · have i4 := exI_4 (exI_step hE.1 (by omega) i3 q3)
                  rw [if_pos q3, mX12_holds_L116.eq_2, if_pos (by decide)]
                  refine ⟨tlv 4 (exS (rowL τ l) 3 (exS (rowL τ l) 2 (exS (rowL τ l) 1 (exS (rowL τ l) 0 x)))), exS (rowL τ l) 3 (exS (rowL τ l) 2 (exS (rowL τ l) 1 (exS (rowL τ l) 0 x))), ?_, fun _ => key2 all _ (by rw [← hxe]; exact i4)⟩
                  unfold mX12_holds_B219
                  rw [b2_t ⟨_, i4⟩]
                  rfl
                · rw [if_neg q3]
                  exact no2 (exI_stop hE.1 (by omega) i3 q3)
              · rw [if_neg q2]
                exact no2 (exI_stop hE.1 (by omega) i2 q2)
            · rw [if_neg q1]
              exact no2 (exI_stop hE.1 (by omega) i1 q1)
          · rw [if_neg q0]
            exact no2 (exI_stop hE.1 (by omega) i0 q0)
        · rw [show vg 3 (vU (vU (vU v 0 (vg 0 v / d)) 1 (vg 1 v / d)) 2 (vg 2 v / d)) = vg 3 v from rfl, if_neg c3]
          exact no (by omega) c3
      · rw [show vg 2 (vU (vU v 0 (vg 0 v / d)) 1 (vg 1 v / d)) = vg 2 v from rfl, if_neg c2]
        exact no (by omega) c2
    · rw [show vg 1 (vU v 0 (vg 0 v / d)) = vg 1 v from rfl, if_neg c1]
      exact no (by omega) c1
  · rw [if_neg c0]
    exact no (by omega) c0

/-! is an ELEMENT in the ORDER: class, reference -/
theorem two_rng {x y A B C : Int} (hx : -A ≤ x ∧ x ≤ A) (hy : 0 ≤ y ∧ y ≤ B) (hA : 0 ≤ A) (hC : A * B ≤ C) : -C ≤ x * y ∧ x * y ≤ C := by
  have := mul_rng (x := x) (y := y) (A := A) (B := B) hx (by omega) hA
  omega
theorem inOrd_c {σ : mSt} {n k : Nat} (hL : Lay σ) {B : Nat} (hB : iBook σ B n) (hE : iEls σ n) (hO : iOrds σ n) (hk : k < 8) (hkk : σ (165 + 2 * k) 2 ≠ -1) {al : Nat} (hal : σ 262 k = (al : Int)) : ∃ y, mX11_isInOrder 0 (k : Int) σ = some (b2 (latS (σ 270 al) (rowL σ al) (elV σ k) (σ 263 (5 * k + 4))), stV σ 164 y) := by
  have hn := hB.2.1
  obtain ⟨al', f1, f2, f3, f4, f5, f6, r0, r1, r2, r3, r4, r5⟩ := elF hL hE hn hk hkk
  have : al' = al := by have := f3.2.2.2.1; omega
  subst this
  obtain ⟨-, ⟨na, ra1, ra2, -⟩, nb, rb1, rb2, -⟩ := quatF hB f1 f2
  obtain ⟨k1, k2, k3, k4, k5, k6⟩ := ord_lay hL (show al' < 8 by omega)
  have io := hO.1 al' f1 f2
  obtain ⟨rc, rm⟩ := iord_c io
  obtain ⟨g1, g2, g3, g4, g5, g6⟩ := io
  obtain ⟨⟨m0, m1⟩, fE, fl, fd, -⟩ := ord_facts ⟨na, ra1, ra2⟩ ⟨nb, rb1, rb2⟩ g6
  have hR := exR_congr (fun r hr => (rc r hr).symm) (exR_ord ⟨na, ra1, ra2⟩ ⟨nb, rb1, rb2⟩ g6)
  have er := elR r0 r1 r2 r3
  have br : ∀ i, i < 4 → -10000000000 ≤ vg i (elV σ k) * σ (182 + 9 * al') 2 ∧ vg i (elV σ k) * σ (182 + 9 * al') 2 ≤ 10000000000 := fun i hi => two_rng (er i hi) (show 0 ≤ σ (182 + 9 * al') 2 ∧ σ (182 + 9 * al') 2 ≤ 7200 by rw [rm]; omega) (by omega) (by decide)
  obtain ⟨y, ey, -⟩ := exprOver_e (O := 181 + 9 * al') (o := 182 + 9 * al') (num := 166 + 2 * k) (to := 164) (dv := σ 263 (5 * k + 4)) (f := σ (182 + 9 * al') 2) (U := 10000000000) hL k1 k5 k3 (by omega) f5 (by decide) (by omega) (by omega) (by omega) (fun i hi => by rw [f6]; have := br i hi; omega) hR (by omega) (by
    rw [f6]
    exact exB_of hR.1 (by omega) (fun i hi => by rw [vg_vk _ hi]; exact div_rng (br i hi) r4))
  rw [f6, b2_iff (q := latS (σ 270 al') (rowL σ al') (elV σ k) (σ 263 (5 * k + 4))) (by rw [← latS_congr rc, ← rm]; exact (latS_div (by omega)).symm)] at ey
  refine ⟨y, ?_⟩
  unfold mX11_isInOrder mX6_express
  simp (disch := omega) only [gc0, gr, bnd_eq, up_ne, upS_same, stV_ne, mCall_some, wI_id, wL_id, cLtF, cLtT, cLeF, cLeT, cEqF, cEqT, ↓reduceIte, Int.toNat_natCast, Int.reduceToNat, lay0 hL, gx112, gx113, f3, gc f4, k4, gc k1, below_e hL (show al' < 8 by omega), ey]
  rw [mG_pos (b2_01 _), mCall_some, mG_pos (b2_01 _)]

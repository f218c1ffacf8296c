/-! DISC -/
theorem lotsL {σ : mSt} {o i n : Nat} {most p : Int} {x : Int → mSt → Option (Int × mSt)} (hL : Lay σ) (ho : o ∈ latIds) (hi : i < 4) (hM : 0 < σ o 2 ∧ σ o 2 ≤ 1000000000) (hE : 0 < vg i (rwC σ o i)) (hE2 : vg i (rwC σ o i) ≤ 1000000000) (hp : 0 ≤ p ∧ p ≤ 1000000) (hm : 1 ≤ most ∧ most ≤ 1000000) : mX3_lotsByWhole_L5 o most x (n + 1) p (i : Int) σ = if p * (σ o 2 / vg i (rwC σ o i)) ≤ most then mX3_lotsByWhole_L5 o most x n (p * (σ o 2 / vg i (rwC σ o i))) ((i + 1 : Nat) : Int) σ else some (0, σ) := by
  obtain ⟨k1, k2, k3, k4, k5, k6⟩ := lat_lay hL ho
  have q0 : 0 ≤ σ o 2 / vg i (rwC σ o i) := Int.ediv_nonneg (by omega) (by omega)
  have q1 : σ o 2 / vg i (rwC σ o i) ≤ σ o 2 := Int.ediv_le_self _ (by omega)
  have q2 := mul_rng (x := p) (y := σ o 2 / vg i (rwC σ o i)) (A := 1000000) (B := 1000000000) (by omega) (by omega) (by omega)
  rw [mX3_lotsByWhole_L5.eq_2]
  simp (disch := omega) only [gr, bnd_eq, up_ne, upS_same, stV_ne, mCall_some, wI_id, wL_id, cLtF, cLtT, cLeF, cLeT, cEqF, cEqT, ↓reduceIte, Int.toNat_natCast, Int.reduceToNat, k4, gx k2, (k6 i hi).2, gx (k6 i hi).1, rwC_at, quot_e]
  rfl
theorem lots_e {σ : mSt} {o : Nat} {most : Int} (hL : Lay σ) (ho : o ∈ latIds) (hM : 0 < σ o 2 ∧ σ o 2 ≤ 1000000000) (hE : ∀ i, i < 4 → 0 < vg i (rwC σ o i) ∧ vg i (rwC σ o i) ∣ σ o 2) (hm : 1 ≤ most ∧ most ≤ 1000000) : mX3_lotsByWhole o most σ = some ((if lot (σ o 2) (rwC σ o) ≤ most then lot (σ o 2) (rwC σ o) else 0), σ) := by
  obtain ⟨k1, k2, k3, k4, k5, k6⟩ := lat_lay hL ho
  have b : ∀ i, i < 4 → vg i (rwC σ o i) ≤ 1000000000 := fun i hi => by
    have := Int.le_of_dvd hM.1 (hE i hi).2
    omega
  have g : ∀ i, i < 4 → 1 ≤ σ o 2 / vg i (rwC σ o i) := fun i hi => (div_get (hE i hi).1 hM.1 (hE i hi).2).2.1
  have g0 := g 0 (by omega)
  have g1 := g 1 (by omega)
  have g2 := g 2 (by omega)
  have g3 := g 3 (by omega)
  have el : lot (σ o 2) (rwC σ o) = σ o 2 / vg 0 (rwC σ o 0) * (σ o 2 / vg 1 (rwC σ o 1)) * (σ o 2 / vg 2 (rwC σ o 2)) * (σ o 2 / vg 3 (rwC σ o 3)) := rfl
  have l0 := fun (p : Int) (n : Nat) (x : Int → mSt → Option (Int × mSt)) hp => lotsL (i := 0) (n := n) (x := x) (p := p) hL ho (by omega) hM (hE 0 (by omega)).1 (b 0 (by omega)) hp hm
  have l1 := fun (p : Int) (n : Nat) (x : Int → mSt → Option (Int × mSt)) hp => lotsL (i := 1) (n := n) (x := x) (p := p) hL ho (by omega) hM (hE 1 (by omega)).1 (b 1 (by omega)) hp hm
  have l2 := fun (p : Int) (n : Nat) (x : Int → mSt → Option (Int × mSt)) hp => lotsL (i := 2) (n := n) (x := x) (p := p) hL ho (by omega) hM (hE 2 (by omega)).1 (b 2 (by omega)) hp hm
  have l3 := fun (p : Int) (n : Nat) (x : Int → mSt → Option (Int × mSt)) hp => lotsL (i := 3) (n := n) (x := x) (p := p) hL ho (by omega) hM (hE 3 (by omega)).1 (b 3 (by omega)) hp hm
  rw [el]
  revert l0 l1 l2 l3 g0 g1 g2 g3
  generalize σ o 2 / vg 0 (rwC σ o 0) = q0
  generalize σ o 2 / vg 1 (rwC σ o 1) = q1
  generalize σ o 2 / vg 2 (rwC σ o 2) = q2
  generalize σ o 2 / vg 3 (rwC σ o 3) = q3
  intro g0 g1 g2 g3 l0 l1 l2 l3
  have m1 : q0 ≤ q0 * q1 := by have := Int.mul_le_mul_of_nonneg_left g1 (show 0 ≤ q0 by omega); omega
  have m2 : q0 * q1 ≤ q0 * q1 * q2 := by have := Int.mul_le_mul_of_nonneg_left g2 (show 0 ≤ q0 * q1 by omega); omega
  have m3 : q0 * q1 * q2 ≤ q0 * q1 * q2 * q3 := by have := Int.mul_le_mul_of_nonneg_left g3 (show 0 ≤ q0 * q1 * q2 by omega); omega
  obtain ⟨f, hf⟩ := mF5
  unfold mX3_lotsByWhole
  rw [gc k1, hf, show (0 : Int) = ((0 : Nat) : Int) from rfl, l0 1 _ _ (by omega), Int.one_mul]
  by_cases c0 : q0 ≤ most
  · rw [if_pos c0, l1 _ _ _ (by omega)]
    by_cases c1 : q0 * q1 ≤ most
    · rw [if_pos c1, l2 _ _ _ (by omega)]
      by_cases c2 : q0 * q1 * q2 ≤ most
      · rw [if_pos c2, l3 _ _ _ (by omega)]
        by_cases c3 : q0 * q1 * q2 * q3 ≤ most
        · rw [if_pos c3, if_pos c3, mX3_lotsByWhole_L5.eq_2, if_pos (by decide)]
          rfl
        · rw [if_neg c3, if_neg c3]
          rfl
      · rw [if_neg c2, if_neg (by omega)]
        rfl
    · rw [if_neg c1, if_neg (by omega)]
      rfl
  · rw [if_neg c0, if_neg (by omega)]
    rfl
theorem abs_dvd {x y : Int} : x ∣ (y.natAbs : Int) ↔ x ∣ y := Int.dvd_natAbs
def dsc4 (a b M : Int) (E : Nat → V4) : Int := ((4 * a * b).natAbs : Int) / lot M E
theorem ab_rng {a b : Int} (ha : a ≠ 0 ∧ -60 ≤ a ∧ a ≤ 60) (hb : b ≠ 0 ∧ -60 ≤ b ∧ b ≤ 60) : 1 ≤ ((4 * a * b).natAbs : Int) ∧ ((4 * a * b).natAbs : Int) ≤ 14400 ∧ -14400 ≤ 4 * a * b ∧ 4 * a * b ≤ 14400 := by
  have h1 := mul_rng (x := 4 * a) (y := b) (A := 240) (B := 60) (by omega) (by omega) (by omega)
  have h2 : 4 * a * b ≠ 0 := Int.mul_ne_zero (by omega) hb.1
  omega
/-- DISC of a set, as the class reckons it: 0 where it is no whole one -/
theorem discOf_c {σ : mSt} {O o : Nat} {a b : Int} (hL : Lay σ) (hO : shp O = (5, 0)) (ho : o ∈ latIds) (h0 : σ O 0 = a) (h1 : σ O 1 = b) (ha : a ≠ 0 ∧ -60 ≤ a ∧ a ≤ 60) (hb : b ≠ 0 ∧ -60 ≤ b ∧ b ≤ 60) (hM : 0 < σ o 2 ∧ σ o 2 ≤ 1000000000) (hE : ∀ i, i < 4 → 0 < vg i (rwC σ o i) ∧ vg i (rwC σ o i) ∣ σ o 2) (hl : 1 ≤ lot (σ o 2) (rwC σ o)) : mX6_discriminantOf O o σ = some ((if lot (σ o 2) (rwC σ o) ∣ 4 * a * b then dsc4 a b (σ o 2) (rwC σ o) else 0), σ) := by
  obtain ⟨r1, r2, r3⟩ := ab_rng ha hb
  unfold mX6_discriminantOf
  rw [gc hO, h0, h1, abs_e _ _ (by omega), mCall_some, lots_e hL ho hM hE (by omega), mCall_some]
  by_cases hle : lot (σ o 2) (rwC σ o) ≤ ((4 * a * b).natAbs : Int)
  · rw [if_pos hle, div_e _ _ _ (by omega) (by omega), mCall_some]
    by_cases hd : lot (σ o 2) (rwC σ o) ∣ 4 * a * b
    · rw [b2_t ⟨by omega, abs_dvd.mpr hd⟩, if_neg (by decide), quot_e _ _ _ (by omega) (by omega) (by omega), mCall_some, if_pos hd]
      rfl
    · rw [b2_f (fun z => hd (abs_dvd.mp z.2)), if_pos (by decide), if_neg hd]
  · rw [if_neg hle, div_e _ _ _ (by omega) (by omega), mCall_some, b2_f (fun z => z.1 rfl), if_pos (by decide), if_neg (fun hd => hle (Int.le_of_dvd (by omega) (abs_dvd.mpr hd)))]
theorem ord_facts {a b M : Int} {E : Nat → V4} (ha : a ≠ 0 ∧ -60 ≤ a ∧ a ≤ 60) (hb : b ≠ 0 ∧ -60 ≤ b ∧ b ≤ 60) (h : Ord a b M E) : (0 < M ∧ M ≤ 7200) ∧ (∀ i, i < 4 → 0 < vg i (E i) ∧ vg i (E i) ∣ M ∧ vg i (E i) ≤ M) ∧ 1 ≤ lot M E ∧ lot M E ∣ 4 * a * b ∧ M ∣ 2 * (a * b) := by
  obtain ⟨h1, h2, h3, h4, h5, h6, h7⟩ := h
  obtain ⟨d0, d1, d2, d3⟩ := uni_dvd h2 h7
  have hd := tri_d h2
  have dv : ∀ i, i < 4 → vg i (E i) ∣ M := fun i hi => lt4 (p := fun i => vg i (E i) ∣ M) d0 d1 d2 d3 hi
  have hM2 : M ∣ 2 * (a * b) := low_dvd h1 h4 (fun i hi => whole_co2 h1 h7 h6 (latS_row hi))
  have r := mul_rng (x := a) (y := b) (A := 60) (B := 60) (by omega) (by omega) (by omega)
  have nz : a * b ≠ 0 := Int.mul_ne_zero ha.1 hb.1
  have le : M ≤ 7200 := by
    have := Int.le_of_dvd (by omega) (abs_dvd.mpr hM2)
    omega
  exact ⟨⟨h1, le⟩, fun i hi => ⟨hd i hi, dv i hi, Int.le_of_dvd h1 (dv i hi)⟩, lot_pos h1 h2 h7, lot_dvd h1 h2 h7 h6, hM2⟩
theorem discL {τ : mSt} {l al r n : Nat} {A A' q M : Int} {x : Int → Int → mSt → Option (Int × mSt)} (l29 : τ 253 29 = ((269 : Nat) : Int)) (l30 : τ 253 30 = ((270 : Nat) : Int)) (hl : l < 10) (hr : r < 4) (hM : τ 270 l = M) (hM0 : 0 < M ∧ M ≤ 1000000000) (hq : vg r (rowL τ l r) * q = M) (hE : 0 < vg r (rowL τ l r) ∧ vg r (rowL τ l r) ≤ 1000000000) (hA : A = q * A') (hA0 : 0 ≤ A ∧ A ≤ 1000000) : mX12_discOf_L39 253 (l : Int) (al : Int) x (n + 1) A 1 (r : Int) τ = mX12_discOf_L39 253 (l : Int) (al : Int) x n A' 1 ((r + 1 : Nat) : Int) τ := by
  have e1 : A * vg r (rowL τ l r) = M * A' := by rw [hA, ← hq]; grind
  have r1 := mul_rng (x := A) (y := vg r (rowL τ l r)) (A := 1000000) (B := 1000000000) (by omega) (by omega) (by omega)
  have hg : (Int.gcd (M * A') M : Int) = M := by
    rw [Int.gcd_comm]
    exact Int.gcd_eq_left (by omega) ⟨A', rfl⟩
  have t1 : (M * A').tdiv M = A' := Int.mul_tdiv_cancel_left _ (by omega)
  have t2 : M.tdiv M = 1 := Int.tdiv_self (by omega)
  rw [mX12_discOf_L39.eq_2]
  rw [if_neg (by rw [wI_id (by omega)]; omega), get_e l29 ⟨hl, by omega, by omega, by omega, by omega⟩, mCall_some, Int.toNat_natCast, rowL_at τ l hr hr, bnd_eq, gr' l30 (by omega), gx270 _ (by omega), wI_nat (by omega), hM, bnd_eq, Int.one_mul, e1, com_e _ _ _ (by omega) (by omega), mCall_some, hg, mG_pos (by rw [wL_id (by omega)]; omega), bnd_eq, bnd_eq, bnd_eq, wL_id (x := M * A') (by omega), wL_id (x := M) (by omega), t1, t2]
  rfl
theorem discOf_r {τ : mSt} {l al : Nat} {a b M : Int} (l29 : τ 253 29 = ((269 : Nat) : Int)) (l30 : τ 253 30 = ((270 : Nat) : Int)) (l15 : τ 253 15 = ((258 : Nat) : Int)) (l16 : τ 253 16 = ((259 : Nat) : Int)) (hl : l < 10) (hal : al < 16) (h0 : τ 258 al = a) (h1 : τ 259 al = b) (ha : a ≠ 0 ∧ -60 ≤ a ∧ a ≤ 60) (hb : b ≠ 0 ∧ -60 ≤ b ∧ b ≤ 60) (hM : τ 270 l = M) (hM0 : 0 < M ∧ M ≤ 1000000000) (hE : ∀ i, i < 4 → 0 < vg i (rowL τ l i) ∧ vg i (rowL τ l i) ∣ M) (hd : lot M (rowL τ l) ∣ 4 * a * b) : mX12_discOf 253 (l : Int) (al : Int) τ = some (dsc4 a b M (rowL τ l), τ) := by
  obtain ⟨r1, r2, r3⟩ := ab_rng ha hb
  have E0 := hE 0 (by omega)
  have E1 := hE 1 (by omega)
  have E2 := hE 2 (by omega)
  have E3 := hE 3 (by omega)
  have v0 := div_get E0.1 hM0.1 E0.2
  have v1 := div_get E1.1 hM0.1 E1.2
  have v2 := div_get E2.1 hM0.1 E2.2
  have v3 := div_get E3.1 hM0.1 E3.2
  have bE : ∀ i, i < 4 → vg i (rowL τ l i) ≤ 1000000000 := fun i hi => by have := Int.le_of_dvd hM0.1 (hE i hi).2; omega
  have el : lot M (rowL τ l) = M / vg 0 (rowL τ l 0) * (M / vg 1 (rowL τ l 1)) * (M / vg 2 (rowL τ l 2)) * (M / vg 3 (rowL τ l 3)) := rfl
  unfold dsc4
  obtain ⟨D, hD⟩ := abs_dvd.mpr hd
  obtain ⟨N, hN⟩ : ∃ z, z = ((4 * a * b).natAbs : Int) := ⟨_, rfl⟩
  rw [← hN] at hD r1 r2 ⊢
  have l0 := fun (A A' : Int) (n : Nat) (x : Int → Int → mSt → Option (Int × mSt)) h1 h2 => discL (r := 0) (n := n) (x := x) (A := A) (A' := A') (al := al) l29 l30 hl (by omega) hM hM0 v0.1 ⟨E0.1, bE 0 (by omega)⟩ h1 h2
  have l1 := fun (A A' : Int) (n : Nat) (x : Int → Int → mSt → Option (Int × mSt)) h1 h2 => discL (r := 1) (n := n) (x := x) (A := A) (A' := A') (al := al) l29 l30 hl (by omega) hM hM0 v1.1 ⟨E1.1, bE 1 (by omega)⟩ h1 h2
  have l2 := fun (A A' : Int) (n : Nat) (x : Int → Int → mSt → Option (Int × mSt)) h1 h2 => discL (r := 2) (n := n) (x := x) (A := A) (A' := A') (al := al) l29 l30 hl (by omega) hM hM0 v2.1 ⟨E2.1, bE 2 (by omega)⟩ h1 h2
  have l3 := fun (A A' : Int) (n : Nat) (x : Int → Int → mSt → Option (Int × mSt)) h1 h2 => discL (r := 3) (n := n) (x := x) (A := A) (A' := A') (al := al) l29 l30 hl (by omega) hM hM0 v3.1 ⟨E3.1, bE 3 (by omega)⟩ h1 h2
  have g0 := v0.2.1
  have g1 := v1.2.1
  have g2 := v2.2.1
  have g3 := v3.2.1
  rw [el] at hD ⊢
  revert hD l0 l1 l2 l3 g0 g1 g2 g3
  generalize M / vg 0 (rowL τ l 0) = q0
  generalize M / vg 1 (rowL τ l 1) = q1
  generalize M / vg 2 (rowL τ l 2) = q2
  generalize M / vg 3 (rowL τ l 3) = q3
  intro hD l0 l1 l2 l3 g0 g1 g2 g3
  have p1 := Int.mul_pos (show 0 < q0 by omega) (show 0 < q1 by omega)
  have p2 := Int.mul_pos p1 (show 0 < q2 by omega)
  have p3 := Int.mul_pos p2 (show 0 < q3 by omega)
  have D0 : 0 < D := by
    rcases Int.lt_or_le 0 D with h | h
    · exact h
    · have := Int.mul_le_mul_of_nonneg_left h (show 0 ≤ q0 * q1 * q2 * q3 by omega)
      omega
  have sh : ∀ {q X : Int}, 1 ≤ q → 0 < X → 0 < X ∧ X ≤ q * X := fun {q X} hq hX => ⟨hX, by have := Int.mul_le_mul_of_nonneg_right hq (show 0 ≤ X by omega); omega⟩
  have x3 : 0 < q3 * D := Int.mul_pos (by omega) D0
  have x2 : 0 < q2 * (q3 * D) := Int.mul_pos (by omega) x3
  have x1 : 0 < q1 * (q2 * (q3 * D)) := Int.mul_pos (by omega) x2
  have y1 := (sh g0 x1).2
  have y2 := (sh g1 x2).2
  have y3 := (sh g2 x3).2
  have e0 : N = q0 * (q1 * (q2 * (q3 * D))) := by rw [hD]; grind
  have key : mX12_discOf_B32 253 (l : Int) (al : Int) N τ = some (N / (q0 * q1 * q2 * q3), τ) := by
    obtain ⟨f, hf⟩ := mF5
    unfold mX12_discOf_B32
    rw [hf, show (0 : Int) = ((0 : Nat) : Int) from rfl, l0 N (q1 * (q2 * (q3 * D))) _ _ e0 (by omega), l1 _ (q2 * (q3 * D)) _ _ rfl (by omega), l2 _ (q3 * D) _ _ rfl (by omega), l3 _ D _ _ rfl (by omega), mX12_discOf_L39.eq_2, if_pos (by decide)]
    unfold mX12_discOf_B94
    have dl : D ≤ q3 * D := (sh g3 D0).2
    rw [mG_pos (by decide), wL_id (by omega), hD, Int.mul_ediv_cancel_left _ (by omega), show wL 1 = 1 from rfl, Int.tdiv_one]
  unfold mX12_discOf
  simp (disch := omega) only [gc253, gr, bnd_eq, up_ne, upS_same, stV_ne, mCall_some, wI_id, wL_id, cLtF, cLtT, cLeF, cLeT, cEqF, cEqT, ↓reduceIte, Int.toNat_natCast, Int.reduceToNat, l15, l16, gx258, gx259, h0, h1]
  by_cases hp : 0 ≤ 4 * a * b
  · rw [if_pos hp, show 4 * a * b = N by omega]
    exact key
  · rw [if_neg hp, show -(4 * a * b) = N by omega]
    exact key

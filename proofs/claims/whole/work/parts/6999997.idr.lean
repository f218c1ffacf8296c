/-! left ideals: the reference -/
def jR (i j : Nat) : Prop := i = 265 ∨ i = 266 ∨ i = 267 ∨ i = 272 ∨ (i = 269 ∧ 144 ≤ j ∧ j < 160) ∨ ((i = 270 ∨ i = 271) ∧ j = 9) ∨ (i = 253 ∧ j = 34)
theorem jR_fix {i j : Nat} (h : jR i j) : fixR i j = false := by
  rcases h with rfl | rfl | rfl | rfl | ⟨rfl, -⟩ | ⟨rfl | rfl, -⟩ | ⟨rfl, rfl⟩
  · exact fixR_data (by decide) j
  · exact fixR_data (by decide) j
  · exact fixR_data (by decide) j
  · exact fixR_data (by decide) j
  · exact fixR_data (by decide) j
  · exact fixR_data (by decide) j
  · exact fixR_data (by decide) j
  · decide +kernel
theorem sR9_frm (τ : mSt) (E : Nat → V4) (B m : Int) (u : V4) : frm jR τ (sR4 τ 9 E B m u) := by
  unfold sR4 rl
  have f : frm jR τ (stP τ 9 E 16) := fun i j h => by
    unfold stP
    rw [if_neg (fun z => h (by unfold jR; omega))]
  exact ((f.stV (fun j => by unfold jR; omega)).put (by unfold jR; omega)).put (by unfold jR; omega)
theorem rO_fr {τ τ' : mSt} {q : Nat} {a b M : Int} {E : Nat → V4} (hq : q < 8) (h : rO τ q a b M E) (hf : frm jR τ τ') : rO τ' q a b M E := by
  obtain ⟨h1, h2, h3, h4, h5, h6, h7⟩ := h
  refine ⟨h1.frm hf (fun i j z => jR_fix z), ?_, ?_, ?_, ?_, ?_, h7⟩
  · rw [← h2]
    refine cut_eq (rowL_cut _ _) (rowL_cut _ _) (fun r hr => vg_ext fun c hc => ?_)
    rw [← rowL_at _ q hr hc, ← rowL_at _ q hr hc, hf _ _ (by unfold jR; omega)]
  · rw [hf _ _ (by unfold jR; omega)]; exact h3
  · rw [hf _ _ (by unfold jR; omega)]; exact h4
  · rw [hf _ _ (by unfold jR; omega)]; exact h5
  · rw [hf _ _ (by unfold jR; omega)]; exact h6
def elS (τ : mSt) (k al : Nat) (u : V4) (d : Int) : Prop := k < 8 ∧ τ 262 k = (al : Int) ∧ elV τ k = u ∧ τ 263 (5 * k + 4) = d ∧ (∀ i, i < 4 → -100 ≤ vg i u ∧ vg i u ≤ 100) ∧ 1 ≤ d ∧ d ≤ 100
theorem elS_fr {τ τ' : mSt} {k al : Nat} {u : V4} {d : Int} (h : elS τ k al u d) (hf : frm jR τ τ') : elS τ' k al u d := by
  obtain ⟨h1, h2, h3, h4, h5⟩ := h
  refine ⟨h1, by rw [hf _ _ (by unfold jR; omega)]; exact h2, ?_, by rw [hf _ _ (by unfold jR; omega)]; exact h4, h5⟩
  rw [← h3]
  unfold elV
  rw [hf _ _ (by unfold jR; omega), hf _ _ (by unfold jR; omega), hf _ _ (by unfold jR; omega), hf _ _ (by unfold jR; omega)]
def flg (τ : mSt) : Prop := τ 253 34 = 0 ∨ τ 253 34 = 1
theorem oOr01 {x y : Int} (hx : x = 0 ∨ x = 1) (hy : y = 0 ∨ y = 1) : oOr x y = 0 ∨ oOr x y = 1 := by
  rcases hx with rfl | rfl <;> rcases hy with rfl | rfl <;> decide
theorem ppL109 {τ : mSt} {v1 v2 v3 v4 : Int} {x : mSt → Option (Int × mSt)} (l27 : τ 253 27 = ((267 : Nat) : Int)) (l32 : τ 253 32 = ((272 : Nat) : Int)) : mX12_putsProducts_L109 253 v1 v2 v3 v4 x mF 0 τ = x (stV τ 272 (rowV τ 267)) := by
  obtain ⟨f, hf⟩ := mF5
  rw [hf]
  repeat (rw [mX12_putsProducts_L109.eq_2]; simp (disch := first | omega | (simp (disch := omega) only [up_ne, stV_ne, upS_same, l27, l32] <;> omega)) only [gr, bnd_eq, up_ne, upS_same, stV_ne, mCall_some, wI_id, wL_id, cLtF, cLtT, cLeF, cLeT, cEqF, cEqT, ↓reduceIte, Int.toNat_natCast, Int.reduceToNat, l27, l32, gx267, gx272, Int.reduceAdd])
  rfl
/-- the last of it: a product stands in 267, the lattice is scaled -/
theorem ppPut {τ : mSt} {den B m : Int} {F : Nat → V4} {w v : V4} {al k : Nat} {r : Int} {x : mSt → Option (Int × mSt)} {c : Int → mSt → Option (Int × mSt)} (hL : Lay τ) (hA : atR τ 9 F B m w) (hv : rowV τ 267 = v) (hfl : flg τ) (hF : rOK m F) (hdB : den ∣ B) (hd : 0 < den ∧ den ≤ 1000000000) (hB : 0 < B ∧ B ≤ 1000000000) (hm : m ≤ 4000000000000000) (hvr : ∀ i, i < 4 → -9223372036854775808 ≤ vg i v ∧ vg i v < 9223372036854775808) : ∃ G τ', mX12_putsProducts_B106 253 (al : Int) (k : Int) c x r den τ = c (r + 1) τ' ∧ frm jR τ τ' ∧ flg τ' ∧ atR τ' 9 G B m v0 ∧ rOK m G ∧ ∀ S, Grp S → (subL B G S ↔ (subL B F S ∧ S v den)) := by
  have ly := lay253 hL
  obtain ⟨τ1, ht1⟩ : ∃ τ1, τ1 = stV τ 272 v := ⟨_, rfl⟩
  have o1 : ∀ i j, i ≠ 272 → τ1 i j = τ i j := fun i j z => by rw [ht1, stV_ne _ _ _ _ _ z]
  have f1 : frm jR τ τ1 := by rw [ht1]; exact (frm.rf τ).stV (fun j => by unfold jR; omega)
  have A1 : atR τ1 9 F B m v := by
    obtain ⟨x1, x2, x3, x4, x5⟩ := hA
    refine ⟨?_, fun q hq => ?_, by rw [o1 _ _ (by omega)]; exact x3, by rw [o1 _ _ (by omega)]; exact x4, by rw [ht1]; exact rowV_stV _ _ _⟩
    · unfold rL3
      rw [o1 _ _ (by omega), o1 _ _ (by omega), o1 _ _ (by omega), o1 _ _ (by omega)]
      exact x1
    · rw [← x2 q hq]
      exact congrFun (rowL_congr (funext fun j => o1 _ _ (by omega))) _
  have L0 := lcm_facts hB.1 hd.1
  have m0 := hF.1
  have e1 : ∀ E : Nat → V4, (fun r => vS 1 (E r)) = E := fun E => funext fun r => vS_one _
  obtain ⟨F1, G, g1, g2, g3⟩ := puts_e (L := B) (k := 1) A1 (by omega) hB hd (by omega) (L0.2.2.2.2.2.1 hdB).symm (by rw [Int.ediv_self (by omega)]) (by omega) (by rw [e1, Int.mul_one]; exact hF) hvr
  rw [e1, Int.mul_one] at g1 g3
  obtain ⟨τ2, ht2⟩ : ∃ τ2, τ2 = sR4 τ1 9 G B m v0 := ⟨_, rfl⟩
  rw [← ht2] at g3
  have f2 : frm jR τ1 τ2 := by rw [ht2]; exact sR9_frm _ _ _ _ _
  have A2 : atR τ2 9 G B m v0 := by rw [ht2]; exact sR4_at A1.1 _ _ _ _ _
  obtain ⟨b1, hb1⟩ : ∃ b1, b1 = 1 - b2 (spn F (vS (B / den) v)) := ⟨_, rfl⟩
  rw [← hb1] at g3
  have b01 : b1 = 0 ∨ b1 = 1 := by
    rw [hb1]
    by_cases z : spn F (vS (B / den) v)
    · rw [b2_t z]; exact Or.inl rfl
    · rw [b2_f z]; exact Or.inr rfl
  obtain ⟨o, ho⟩ : ∃ o, o = oOr (τ1 253 34) b1 := ⟨_, rfl⟩
  have o01 : o = 0 ∨ o = 1 := by
    rw [ho, o1 _ _ (by omega)]
    exact oOr01 hfl b01
  refine ⟨G, upS τ2 253 34 o, ?_, (f1.tr f2 (fun i j z => z)).put (by unfold jR; omega), ?_, ?_, set_ok g1.1 g2, fun S hS => ?_⟩
  · unfold mX12_putsProducts_B106
    rw [ppL109 ly.2.2.2.2.2.2.2.2.2.2.2.2.2.1 ly.2.2.2.2.2.2.2.2.2.2.2.2.2.2.2.2.2.2.1, hv, ← ht1]
    unfold mX12_putsProducts_B135
    have g3' : mX12_puts_ 253 9 den τ1 = some (b1, τ2) := g3
    rw [g3', mCall_some, ← ho, mG_pos o01, bnd_eq, bnd_eq]
  · unfold flg
    rw [upS_same]
    exact o01
  · obtain ⟨x1, x2, x3, x4, x5⟩ := A2
    refine ⟨?_, fun q hq => ?_, by rw [upS_ne (by omega)]; exact x3, by rw [upS_ne (by omega)]; exact x4, ?_⟩
    · unfold rL3
      rw [upS_ne (by omega), upS_ne (by omega), upS_ne (by omega), upS_ne (by omega)]
      exact x1
    · rw [← x2 q hq]
      exact congrFun (rowL_congr (upS_row (by omega))) _
    · rw [← x5]
      unfold rowV
      rw [upS_ne (by omega), upS_ne (by omega), upS_ne (by omega), upS_ne (by omega)]
  · rw [put_sem hB.1 g1 g2 hS]
    have q := hS.2.2.2 (B / den) v den hd.1 (div_pos hB.1 hd.1 hdB)
    rw [Int.ediv_mul_cancel hdB] at q
    rw [q]
/-- one product of the reference -/
theorem ppStep {τ : mSt} {al k r : Nat} {a b M d N B X : Int} {E F : Nat → V4} {u w : V4} {x : mSt → Option (Int × mSt)} {n : Nat} (hO : rO τ al a b M E) (hal : al < 8) (ha : a ≠ 0 ∧ -60 ≤ a ∧ a ≤ 60) (hb : b ≠ 0 ∧ -60 ≤ b ∧ b ≤ 60) (hu : elS τ k al u d) (hfl : flg τ) (hA : atR τ 9 F B (B * N) w) (hF : rOK (B * N) F) (hN : 1 ≤ N ∧ N ≤ 37210000) (hB : 0 < B) (hX : 0 < X ∧ X ≤ 72000000) (hBX : B ∣ X) (hdX : M * d ∣ X) (hr : r < 4) : ∃ L G τ', mX12_putsProducts_L2 253 (al : Int) (k : Int) x (n + 1) (r : Int) τ = mX12_putsProducts_L2 253 (al : Int) (k : Int) x n ((r : Int) + 1) τ' ∧ frm jR τ τ' ∧ flg τ' ∧ atR τ' 9 G L (L * N) v0 ∧ rOK (L * N) G ∧ 0 < L ∧ L ∣ X ∧ B ∣ L ∧ ∀ S, Grp S → (subL L G S ↔ (subL B F S ∧ S (vM a b (E r) u) (M * d))) := by
  have hO' := hO
  obtain ⟨hL, h2, h3, h4, h5, h6, h7⟩ := hO
  obtain ⟨u1, u2, u3, u4, u5, u6, u7⟩ := hu
  have ly := lay253 hL
  have M7 := (ord_facts ha hb h7).1
  have ok := (ord_ok h7).1.1
  have md := mul_rng (x := M) (y := d) (A := 7200) (B := 100) (by omega) (by omega) (by omega)
  have md0 : 0 < M * d := Int.mul_pos (by omega) (by omega)
  have BX := Int.le_of_dvd hX.1 hBX
  have rb := rB2_of ok r hr
  have vm := vM_rng (x := E r) (X := 7200) (Y := 100) ha.2 hb.2 (fun i hi => by have := rb i hi; omega) u5 (by omega)
  obtain ⟨τ1, ht1⟩ : ∃ τ1, τ1 = stV τ 265 (rowL τ al r) := ⟨_, rfl⟩
  have o1 : ∀ i j, i ≠ 265 → τ1 i j = τ i j := fun i j z => by rw [ht1, stV_ne _ _ _ _ _ z]
  have t1 := takesRow0_e (τ := τ) (l := al) (r := r) ly.2.2.2.2.2.2.2.2.2.2.2.2.2.2.2.1 ly.2.2.2.2.2.2.2.2.2.2.2.1 (by omega) hr
  rw [← ht1] at t1
  have f1 : frm jR τ τ1 := by rw [ht1]; exact (frm.rf τ).stV (fun j => by unfold jR; omega)
  have L1 : Lay τ1 := hL.frm f1 (fun i j z => jR_fix z)
  have t2 := takesOther_e u1 (lay253 L1).2.2.2.2.2.2.2.2.2.1 (lay253 L1).2.2.2.2.2.2.2.2.2.2.2.2.1
  obtain ⟨τ2, ht2⟩ : ∃ τ2, τ2 = stV τ1 266 (elV τ1 k) := ⟨_, rfl⟩
  rw [← ht2] at t2
  have o2 : ∀ i j, i ≠ 265 → i ≠ 266 → τ2 i j = τ i j := fun i j z y => by rw [ht2, stV_ne _ _ _ _ _ y, o1 _ _ z]
  have f2 : frm jR τ τ2 := by rw [ht2]; exact f1.stV (fun j => by unfold jR; omega)
  have L2 : Lay τ2 := hL.frm f2 (fun i j z => jR_fix z)
  have r265 : rowV τ2 265 = E r := by
    rw [← h2, ← rowV_stV τ 265 (rowL τ al r), ← ht1]
    unfold rowV
    rw [ht2, stV_ne _ _ _ _ _ (by omega), stV_ne _ _ _ _ _ (by omega), stV_ne _ _ _ _ _ (by omega), stV_ne _ _ _ _ _ (by omega)]
  have r266 : rowV τ2 266 = u := by
    rw [ht2, rowV_stV, ← u3]
    unfold elV
    rw [o1 _ _ (by omega), o1 _ _ (by omega), o1 _ _ (by omega), o1 _ _ (by omega)]
  have t3 := multiplies_e (τ := τ2) (a := a) (b := b) (lay253 L2).2.2.2.2.2.2.2.2.2.2.2.1 (lay253 L2).2.2.2.2.2.2.2.2.2.2.2.2.1 (lay253 L2).2.2.2.2.2.2.2.2.2.2.2.2.2.1
  rw [r265, r266] at t3
  obtain ⟨τ3, ht3⟩ : ∃ τ3, τ3 = stV τ2 267 (vM a b (E r) u) := ⟨_, rfl⟩
  rw [← ht3] at t3
  have o3 : ∀ i j, i ≠ 265 → i ≠ 266 → i ≠ 267 → τ3 i j = τ i j := fun i j z y v => by rw [ht3, stV_ne _ _ _ _ _ v, o2 _ _ z y]
  have f3 : frm jR τ τ3 := by rw [ht3]; exact f2.stV (fun j => by unfold jR; omega)
  have L3 : Lay τ3 := hL.frm f3 (fun i j z => jR_fix z)
  have r267 : rowV τ3 267 = vM a b (E r) u := by rw [ht3, rowV_stV]
  have A3 : atR τ3 9 F B (B * N) w := by
    obtain ⟨x1, x2, x3, x4, x5⟩ := hA
    refine ⟨lay_rL3 L3, fun q hq => ?_, by rw [o3 _ _ (by omega) (by omega) (by omega)]; exact x3, by rw [o3 _ _ (by omega) (by omega) (by omega)]; exact x4, ?_⟩
    · rw [← x2 q hq]
      exact congrFun (rowL_congr (funext fun j => o3 _ _ (by omega) (by omega) (by omega))) _
    · rw [← x5]
      unfold rowV
      rw [o3 _ _ (by omega) (by omega) (by omega), o3 _ _ (by omega) (by omega) (by omega), o3 _ _ (by omega) (by omega) (by omega), o3 _ _ (by omega) (by omega) (by omega)]
  have ly3 := lay253 L3
  obtain ⟨L0, c1, c2, c3, c4, c5, c6⟩ := lcm_facts hB md0
  obtain ⟨L, hLe⟩ : ∃ L, L = B / (Int.gcd B (M * d) : Int) * (M * d) := ⟨_, rfl⟩
  rw [← hLe] at L0 c1 c2 c3 c4 c5 c6
  obtain ⟨kk, hkk⟩ : ∃ kk, kk = L / B := ⟨_, rfl⟩
  rw [← hkk] at c3 c4
  have LX := c6 X hBX hdX
  have LX9 := Int.le_of_dvd hX.1 LX
  have mk : B * N * kk = L * N := by rw [← c3]; grind
  have LN := mul_rng (x := L) (y := N) (A := 72000000) (B := 37210000) (by omega) (by omega) (by omega)
  obtain ⟨τ4, ht4⟩ : ∃ τ4, τ4 = sR4 τ3 9 (fun r => vS kk (F r)) L (L * N) w := ⟨_, rfl⟩
  have A4 : atR τ4 9 (fun r => vS kk (F r)) L (L * N) w := by rw [ht4]; exact sR4_at A3.1 _ _ _ _ _
  have f4 : frm jR τ3 τ4 := by rw [ht4]; exact sR9_frm _ _ _ _ _
  have L4 : Lay τ4 := L3.frm f4 (fun i j z => jR_fix z)
  have o4 : ∀ i j, i ≠ 269 → i ≠ 270 → i ≠ 271 → i ≠ 272 → τ4 i j = τ3 i j := fun i j z1 z2 z3 z4 => by
    rw [ht4]
    unfold sR4
    rw [upS_ne (by omega), upS_ne (by omega), rl_ne _ _ _ _ _ _ ⟨z1, z4⟩]
  have r4 : rowV τ4 267 = vM a b (E r) u := by
    rw [← r267]
    unfold rowV
    rw [o4 _ _ (by omega) (by omega) (by omega) (by omega), o4 _ _ (by omega) (by omega) (by omega) (by omega), o4 _ _ (by omega) (by omega) (by omega) (by omega), o4 _ _ (by omega) (by omega) (by omega) (by omega)]
  have fl4 : flg τ4 := by
    unfold flg
    rw [o4 _ _ (by omega) (by omega) (by omega) (by omega), o3 _ _ (by omega) (by omega) (by omega)]
    exact hfl
  have okF : rOK (L * N) (fun r => vS kk (F r)) := by
    rw [← mk]
    exact rOK_vS c4 hF
  obtain ⟨G, τ', g1, g2, g3, g4, g5, g6⟩ := ppPut (al := al) (k := k) (r := (r : Int)) (x := x) (c := mX12_putsProducts_L2 253 (al : Int) (k : Int) x n) L4 A4 r4 fl4 okF c2 ⟨md0, by omega⟩ ⟨L0, by omega⟩ (by omega) (fun i hi => by have := vm i hi; omega)
  refine ⟨L, G, τ', ?_, (f3.tr f4 (fun i j z => z)).tr g2 (fun i j z => z), g3, g4, g5, L0, LX, c1, fun S hS => ?_⟩
  · have p1 : mX12_part 253 (k : Int) 4 τ3 = some (d, τ3) := by
      rw [part_e ly3.2.2.2.2.2.2.2.2.2.1 ⟨u1, by omega, by omega⟩, o3 _ _ (by omega) (by omega) (by omega)]
      exact congrArg (fun z => some (z, τ3)) u4
    have q270 : τ3 270 al = M := by rw [o3 _ _ (by omega) (by omega) (by omega)]; exact h3
    have q9 : τ3 270 9 = B := A3.2.2.1
    have g0 : (0 : Int) < Int.gcd B (M * d) := by
      have := Int.gcd_pos_of_ne_zero_left (M * d) (show B ≠ 0 by omega)
      omega
    have gB : (Int.gcd B (M * d) : Int) ≤ B := Int.le_of_dvd hB (Int.gcd_dvd_left _ _)
    have ly2 := lay253 L2
    rw [mX12_putsProducts_L2.eq_2, if_neg (by rw [wI_id (x := (r : Int)) (by omega)]; omega), t1, mCall_some, t2, mCall_some, gr' ly2.2.2.2.2.1 (by omega), gx258 _ (by omega), gr' ly2.2.2.2.2.2.1 (by omega), gx259 _ (by omega), wI_nat (k := al) (by omega), o2 _ _ (by omega) (by omega), o2 _ _ (by omega) (by omega), h5, h6, wI_id (x := a) (by omega), wI_id (x := b) (by omega), t3, mCall_some, gr' A3.1.2.1 (by omega), gx270 _ (by omega), p1, mCall_some, q270, bnd_eq, gr' A3.1.2.1 (by omega), gx270 _ (by omega), gr' A3.1.2.1 (by omega), gx270 _ (by omega), q9, com_e _ _ _ (by omega) (by omega), mCall_some, mG_pos (by rw [wL_id (x := (Int.gcd B (M * d) : Int)) (by omega)]; omega), wL_id (x := (Int.gcd B (M * d) : Int)) (by omega), wL_id (x := B) (by omega), Int.tdiv_eq_ediv_of_nonneg (by omega), ← hLe, bnd_eq, gr' A3.1.2.1 (by omega), gx270 _ (by omega), q9, wL_id (x := L) (by omega), wL_id (x := B) (by omega)]
    by_cases hLB : L = B
    · rw [if_pos hLB]
      have k1 : kk = 1 := by rw [hkk, hLB, Int.ediv_self (by omega)]
      have e : τ4 = τ3 := by
        rw [ht4]
        refine sR4_self ⟨A3.1, fun q hq => ?_, by rw [hLB]; exact A3.2.2.1, by rw [hLB]; exact A3.2.2.2.1, A3.2.2.2.2⟩
        show rowL τ3 9 q = vS kk (F q)
        rw [k1, vS_one]
        exact A3.2.1 q hq
      rw [← e]
      exact g1
    · rw [if_neg hLB, gr' A3.1.2.1 (by omega), gx270 _ (by omega), q9, mG_pos (by rw [wL_id (x := B) (by omega)]; omega), wL_id (x := B) (by omega), Int.tdiv_eq_ediv_of_nonneg (by omega), ← hkk]
      have sc := scales_at (k := kk) A3 (show 9 < 10 by omega)
      rw [c3, mk, ← ht4] at sc
      have sc' : mX12_scales 253 9 kk τ3 = some (0, τ4) := sc
      rw [sc', mCall_some]
      exact g1
  · rw [g6 S hS]
    have q := subL_vS (k := kk) (E := F) hB c4 hS
    rw [c3] at q
    rw [q]
theorem ppL2 {τ0 : mSt} {al k : Nat} {a b M d N X : Int} {E : Nat → V4} {u : V4} {x : mSt → Option (Int × mSt)} (hal : al < 8) (ha : a ≠ 0 ∧ -60 ≤ a ∧ a ≤ 60) (hb : b ≠ 0 ∧ -60 ≤ b ∧ b ≤ 60) (hN : 1 ≤ N ∧ N ≤ 37210000) (hX : 0 < X ∧ X ≤ 72000000) (hdX : M * d ∣ X) : ∀ (m r n : Nat) (τ : mSt) (B : Int) (F : Nat → V4) (w : V4), r + m = 4 → m < n → frm jR τ0 τ → rO τ al a b M E → elS τ k al u d → flg τ → atR τ 9 F B (B * N) w → rOK (B * N) F → 0 < B → B ∣ X → ∃ τ' L G w', mX12_putsProducts_L2 253 (al : Int) (k : Int) x n (r : Int) τ = x τ' ∧ frm jR τ0 τ' ∧ flg τ' ∧ atR τ' 9 G L (L * N) w' ∧ rOK (L * N) G ∧ 0 < L ∧ L ∣ X ∧ B ∣ L ∧ ∀ S, Grp S → (subL L G S ↔ (subL B F S ∧ ∀ r', r ≤ r' → r' < 4 → S (vM a b (E r') u) (M * d))) := by
  intro m
  induction m with
  | zero =>
    intro r n τ B F w h1 h2 h3 h4 h5 h6 h7 h8 h9 h10
    obtain ⟨n, rfl⟩ : ∃ z, n = z + 1 := ⟨n - 1, by omega⟩
    obtain rfl : r = 4 := by omega
    exact ⟨τ, B, F, w, by rw [mX12_putsProducts_L2.eq_2, if_pos (by decide)], h3, h6, h7, h8, h9, h10, Int.dvd_refl _, fun S _ => ⟨fun z => ⟨z, fun r' g1 g2 => by omega⟩, fun z => z.1⟩⟩
  | succ m ih =>
    intro r n τ B F w h1 h2 h3 h4 h5 h6 h7 h8 h9 h10
    obtain ⟨n, rfl⟩ : ∃ z, n = z + 1 := ⟨n - 1, by omega⟩
    have hr : r < 4 := by omega
    obtain ⟨L, G, τ1, p1, p2, p3, p4, p5, p6, p7, p9, p8⟩ := ppStep (n := n) (x := x) h4 hal ha hb h5 h6 h7 h8 hN h9 hX h10 hdX hr
    obtain ⟨τ', L', G', w', q1, q2, q3, q4, q5, q6, q7, q9, q8⟩ := ih (r + 1) n τ1 L G v0 (by omega) (by omega) (h3.tr p2 (fun i j z => z)) (rO_fr hal h4 p2) (elS_fr h5 p2) p3 p4 p5 p6 p7
    refine ⟨τ', L', G', w', by rw [p1, show (r : Int) + 1 = ((r + 1 : Nat) : Int) by omega]; exact q1, q2, q3, q4, q5, q6, q7, Int.dvd_trans p9 q9, fun S hS => ?_⟩
    rw [q8 S hS, p8 S hS]
    constructor
    · rintro ⟨⟨z1, z2⟩, z3⟩
      refine ⟨z1, fun r' g1 g2 => ?_⟩
      by_cases e : r' = r
      · rw [e]; exact z2
      · exact z3 r' (by omega) g2
    · rintro ⟨z1, z2⟩
      exact ⟨⟨z1, z2 r (by omega) hr⟩, fun r' g1 g2 => z2 r' (by omega) g2⟩
theorem pp_e {τ : mSt} {al k : Nat} {a b M d N X B : Int} {E F : Nat → V4} {u w : V4} (hal : al < 8) (ha : a ≠ 0 ∧ -60 ≤ a ∧ a ≤ 60) (hb : b ≠ 0 ∧ -60 ≤ b ∧ b ≤ 60) (hN : 1 ≤ N ∧ N ≤ 37210000) (hX : 0 < X ∧ X ≤ 72000000) (hdX : M * d ∣ X) (h4 : rO τ al a b M E) (h5 : elS τ k al u d) (h6 : flg τ) (h7 : atR τ 9 F B (B * N) w) (h8 : rOK (B * N) F) (h9 : 0 < B) (h10 : B ∣ X) : ∃ τ' L G w', mX12_putsProducts 253 (al : Int) (k : Int) τ = some (0, τ') ∧ frm jR τ τ' ∧ flg τ' ∧ atR τ' 9 G L (L * N) w' ∧ rOK (L * N) G ∧ 0 < L ∧ L ∣ X ∧ B ∣ L ∧ ∀ S, Grp S → (subL L G S ↔ (subL B F S ∧ ∀ r, r < 4 → S (vM a b (E r) u) (M * d))) := by
  obtain ⟨τ', L, G, w', q1, q2, q3, q4, q5, q6, q7, q9, q8⟩ := ppL2 (x := fun zσ => mX12_putsProducts_B158 253 (al : Int) (k : Int) zσ) hal ha hb hN hX hdX 4 0 mF τ B F w (by omega) (by unfold mF; omega) (frm.rf τ) h4 h5 h6 h7 h8 h9 h10
  refine ⟨τ', L, G, w', ?_, q2, q3, q4, q5, q6, q7, q9, fun S hS => ?_⟩
  · unfold mX12_putsProducts
    rw [gc253]
    exact q1
  · rw [q8 S hS]
    exact ⟨fun z => ⟨z.1, fun r g => z.2 r (by omega) g⟩, fun z => ⟨z.1, fun r _ g => z.2 r g⟩⟩

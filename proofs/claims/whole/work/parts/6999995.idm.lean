/-! left ideals: the class, whether it holds -/
theorem spn_all {N : Int} {G : Nat → V4} (hu : uSp N G) (q : V4) : spn G (vS N q) := by
  have e : vS N q = vC (idR N) q := by
    have e1 : vC (fun r => vS N (vE r)) q = vS N (vC vE q) := vS_rows (E := vE) q
    have e2 : vC vE q = q := by
      refine vg_ext fun i hi => ?_
      rw [vg_vC _ _ hi]
      refine lt4 (p := fun i => vg 0 q * vg i (vE 0) + (vg 1 q * vg i (vE 1) + (vg 2 q * vg i (vE 2) + vg 3 q * vg i (vE 3))) = vg i q) ?_ ?_ ?_ ?_ hi <;> simp [vg, vE]
    rw [e2] at e1
    exact e1.symm
  rw [e]
  exact spn_le (spn_sub G) (fun i hi => hu i hi) ⟨q, rfl⟩
theorem spn_mod {N : Int} {G : Nat → V4} (hu : uSp N G) {y w : V4} (h : ∀ i, i < 4 → vg i w = vg i y % N) : spn G w ↔ spn G y := by
  have e : y = vA w (vS N (vk (fun i => vg i y / N))) := vg_ext fun i hi => by
    rw [vg_vA _ _ hi, vg_vS _ _ hi, vg_vk _ hi, h i hi]
    have := Int.mul_ediv_add_emod (vg i y) N
    omega
  have a := spn_all hu (vk (fun i => vg i y / N))
  have sb := spn_sub G
  constructor
  · intro z
    rw [e]
    exact sb.2.1 _ _ z a
  · intro z
    have e2 : w = vA y (vS (-1) (vS N (vk (fun i => vg i y / N)))) := vg_ext fun i hi => by
      have := congrArg (vg i) e
      rw [vg_vA _ _ hi] at this
      rw [vg_vA _ _ hi, vg_vS (-1) _ hi, this]
      omega
    rw [e2]
    exact sb.2.1 _ _ z (sb.2.2 _ _ a)
theorem hasL2 {σ : mSt} {N : Int} {y w u : V4} {x : mSt → Option (Int × mSt)} (hL : Lay σ) (hN : 0 < N ∧ N ≤ 100000000) (h2 : σ 156 2 = N) (hy : rowV σ 163 = y) (hyr : ∀ i, i < 4 → -9223372036854775808 ≤ vg i y ∧ vg i y < 9223372036854775808) (hw : ∀ i, i < 4 → vg i w = vg i y % N) : ∀ (m i n : Nat), i + m = 4 → m < n → mX3_has_L2 156 163 x n (i : Int) (stV σ 162 (vMix i w u)) = x (stV σ 162 w) := by
  intro m
  induction m with
  | zero =>
    intro i n h1 h3
    obtain ⟨n, rfl⟩ : ∃ z, n = z + 1 := ⟨n - 1, by omega⟩
    obtain rfl : i = 4 := by omega
    rw [mX3_has_L2.eq_2, if_pos (by decide), vMix_4]
  | succ m ih =>
    intro i n h1 h3
    obtain ⟨n, rfl⟩ : ∃ z, n = z + 1 := ⟨n - 1, by omega⟩
    have hi : i < 4 := by omega
    have k163 : shp 163 = (21, 4) := by decide
    have k162 : shp 162 = (21, 4) := by decide
    have l1 : σ 156 1 = ((162 : Nat) : Int) := (lat_lay hL (show 156 ∈ latIds by decide)).2.2.2.2.1
    have yr := hyr i hi
    rw [mX3_has_L2.eq_2, if_neg (by rw [wI_id (x := (i : Int)) (by omega)]; omega), gr' (r := 162) (by rw [stV_ne _ _ _ _ _ (by omega)]; exact l1) (by omega), gx k163 _ (by omega), stV_ne _ _ _ _ _ (by omega), stV_ne _ _ _ _ _ (by omega), h2, wI_nat (k := i) (by omega), show σ 163 i = vg i y by rw [← hy, vg_rowV _ _ hi], rest_e' hN.1 yr (by omega), mCall_some, gx k162 _ (by omega), bnd_eq, bnd_eq, ← hw i hi, stV_up _ _ _ _ hi, vMix_s rfl, show (i : Int) + 1 = ((i + 1 : Nat) : Int) by omega]
    exact ih (i + 1) n (by omega) (by omega)
theorem exR_red {N : Int} {G : Nat → V4} (hG : rOK N G) (hR : Red G) (hN : N ≤ 100000000) : exR G := by
  refine ⟨hG.2.1, fun r i h1 h2 => ?_, fun i hi => ?_⟩
  · have := red_le hR r i h1 h2
    omega
  · have := Int.le_of_dvd hG.1 (dia_dvd hG.2.1 hG.2.2.2 hi)
    omega
/-- the ideal stands -/
def ilC (σ : mSt) (al : Nat) (a b M : Int) (E : Nat → V4) (N : Int) (G : Nat → V4) : Prop := idC σ al a b M E ∧ σ 146 0 = ((181 + 9 * al : Nat) : Int) ∧ atC σ 156 N G ∧ rOK N G ∧ Red G ∧ N ≤ 37210000
theorem ilC_fr {σ σ' : mSt} {al : Nat} {a b M N : Int} {E G : Nat → V4} (h : ilC σ al a b M E N G) (hf : frm (fun i _ => i = 162 ∨ i = 163 ∨ i = 189 + 9 * al) σ σ') : ilC σ' al a b M E N G := by
  obtain ⟨h1, h2, h3, h4⟩ := h
  have al8 := h1.2.1
  exact ⟨idC_fr h1 (hf.mono (fun i j z => by unfold jW oW; omega)), by rw [hf _ _ (by omega)]; exact h2, atC_congr h3 (hf _ _ (by omega)) (fun r hr j => hf _ _ (by omega)), h4⟩
theorem has_f {σ : mSt} {al : Nat} {a b M N : Int} {E G : Nat → V4} {y : V4} (h : ilC σ al a b M E N G) (hy : rowV σ 163 = y) (hyr : ∀ i, i < 4 → -1000000000000 ≤ vg i y ∧ vg i y ≤ 1000000000000) : ∃ σ', mX3_has 156 163 σ = some (b2 (spn G y), σ') ∧ frm (fun i _ => i = 162) σ σ' := by
  obtain ⟨h1, h2, h3, h4, h5, h6⟩ := h
  have hL := h1.1
  have l1 : σ 156 1 = ((162 : Nat) : Int) := (lat_lay hL (show 156 ∈ latIds by decide)).2.2.2.2.1
  obtain ⟨w, hw⟩ : ∃ w, w = vk (fun i => vg i y % N) := ⟨_, rfl⟩
  have hw2 : ∀ i, i < 4 → vg i w = vg i y % N := fun i hi => by rw [hw, vg_vk _ hi]
  have N0 := h4.1
  have wr : ∀ i, i < 4 → -N ≤ vg i w ∧ vg i w ≤ N := fun i hi => by
    rw [hw2 i hi]
    have := Int.emod_nonneg (vg i y) (show N ≠ 0 by omega)
    have := Int.emod_lt_of_pos (vg i y) N0
    omega
  have hE := exR_congr (fun r hr => (h3.2 r hr).symm) (exR_red h4 h5 (by omega))
  obtain ⟨z, e1, -⟩ := express_e (σ := σ) (o := 156) (w := 162) (x := w) (U := N) hL (by decide) (by decide) (by omega) hE (by omega) (exB_of hE.1 (by omega) wr)
  have l2 := hasL2 (u := rowV σ 162) (x := fun zσ => mX3_has_B29 156 163 zσ) hL ⟨N0, by omega⟩ h3.1 hy (fun i hi => by have := hyr i hi; omega) hw2 4 0 mF (by omega) (by unfold mF; omega)
  rw [vMix_c (fun i hi _ => by omega), stV_self] at l2
  refine ⟨stV σ 162 z, ?_, (frm.rf σ).stV (fun j => rfl)⟩
  unfold mX3_has
  rw [gc (n := 0) (by decide)]
  refine l2.trans ?_
  unfold mX3_has_B29
  rw [gr' (r := 162) (by rw [stV_ne _ _ _ _ _ (by omega)]; exact l1) (by omega), e1, mCall_some, mG_pos (b2_01 _), spn_congr h3.2, b2_iff (spn_mod h4.2.2.2 hw2)]
def qW (al i _j : Nat) : Prop := i = 162 ∨ i = 163 ∨ i = 189 + 9 * al
/-- whether it takes a factor from the right -/
theorem rightL4 {σ0 : mSt} {al k : Nat} {a b M d N : Int} {E G : Nat → V4} {u : V4} {x : Int → mSt → Option (Int × mSt)} : ∀ (m r n : Nat) (σ : mSt), r + m = 4 → m + 1 < n → frm (qW al) σ0 σ → ilC σ al a b M E N G → elC σ k al M E u d → ∃ σ' v, mX4_takesRight_L4 146 (165 + 2 * k) x n 1 (r : Int) σ = x v σ' ∧ frm (qW al) σ0 σ' ∧ v = b2 (∀ r' y, r ≤ r' → r' < 4 → vM a b u (E r') = vS d (vC E y) → spn G y) := by
  intro m
  induction m with
  | zero =>
    intro r n σ h1 h2 h3 h4 h5
    obtain ⟨n, rfl⟩ : ∃ z, n = z + 1 := ⟨n - 1, by omega⟩
    obtain rfl : r = 4 := by omega
    exact ⟨σ, 1, by rw [mX4_takesRight_L4.eq_2, if_pos (by decide)], h3, (b2_t (fun r y g1 g2 => by omega)).symm⟩
  | succ m ih =>
    intro r n σ h1 h2 h3 h4 h5
    obtain ⟨n, rfl⟩ : ∃ z, n = z + 1 := ⟨n - 1, by omega⟩
    have hr : r < 4 := by omega
    have h4' := h4
    obtain ⟨i1, i2, i3, i4, i5, i6⟩ := h4
    obtain ⟨-, y, σ1, p1, p2, p3, p4, p5⟩ := prodC i1 h5 hr
    have hL := i1.1
    have al8 := i1.2.1
    obtain ⟨l1, l2, l3, l4⟩ := el_lay hL k h5.1
    have p2' : frm (qW al) σ σ1 := p2.mono (fun i j z => Or.inr z)
    have I1 := ilC_fr h4' p2'
    obtain ⟨σ2, q1, q2⟩ := has_f I1 p3 p5
    have q2' : frm (qW al) σ1 σ2 := q2.mono (fun i j z => Or.inl z)
    have l146 : ∀ τ, Lay τ → τ 146 1 = ((156 : Nat) : Int) ∧ τ 146 2 = ((163 : Nat) : Int) := fun τ z => ⟨z.get 146 1 (by decide +kernel) (by decide +kernel), z.get 146 2 (by decide +kernel) (by decide +kernel)⟩
    have tE := (ord_ok i1.2.2.2.2.2.1).1.1.2.1
    have d0 := h5.2.2.2.2.2.1
    have uq : ∀ y', vM a b u (E r) = vS d (vC E y') → y' = y := fun y' g => by
      rw [p4] at g
      exact (vC_inj tE (vS_cancel (show d ≠ 0 by omega) g)).symm
    have st : mX4_takesRight_L4 146 (165 + 2 * k) x (n + 1) 1 (r : Int) σ = if wI (b2 (spn G y)) = 0 then mX4_takesRight_L4 146 (165 + 2 * k) x n 0 ((r : Int) + 1) σ2 else mX4_takesRight_L4 146 (165 + 2 * k) x n 1 ((r : Int) + 1) σ2 := by
      rw [mX4_takesRight_L4.eq_2, if_neg (by rw [wI_id (x := (r : Int)) (by omega)]; omega), if_neg (by decide), gr' i2 (by omega), gc l3, gr' l2 (by omega), gr' i2 (by omega), numbersOf_e hL al8 hr, mCall_some, gr' (l146 σ hL).2 (by omega), Int.toNat_natCast, h5.2.1, p1, mCall_some, if_neg (by decide), gr' (l146 σ1 I1.1.1).1 (by omega), gr' (l146 σ1 I1.1.1).2 (by omega), q1, mCall_some]
      rfl
    rw [st, show (r : Int) + 1 = ((r + 1 : Nat) : Int) by omega]
    have F2 : frm (qW al) σ0 σ2 := (h3.tr p2' (fun i j z => z)).tr q2' (fun i j z => z)
    by_cases hs : spn G y
    · rw [b2_t hs, if_neg (by decide)]
      obtain ⟨σ', v, w1, w2, w3⟩ := ih (r + 1) n σ2 (by omega) (by omega) F2 (ilC_fr I1 q2') (elC_fr (elC_fr h5 (fun i j z1 z2 => p2 i j (by unfold pW; omega))) (fun i j z1 z2 => q2 i j (by omega)))
      refine ⟨σ', v, w1, w2, ?_⟩
      rw [w3]
      refine b2_iff ⟨fun z r' y' g1 g2 g3 => ?_, fun z r' y' g1 g2 g3 => z r' y' (by omega) g2 g3⟩
      by_cases e : r' = r
      · rw [e] at g3
        rw [uq y' g3]
        exact hs
      · exact z r' y' (by omega) g2 g3
    · rw [b2_f hs, if_pos (by decide)]
      obtain ⟨n, rfl⟩ : ∃ z, n = z + 1 := ⟨n - 1, by omega⟩
      refine ⟨σ2, 0, ?_, F2, (b2_f (fun z => hs (z r y (by omega) hr p4))).symm⟩
      rw [mX4_takesRight_L4.eq_2]
      by_cases e : 4 ≤ wI ((r + 1 : Nat) : Int)
      · rw [if_pos e]
      · rw [if_neg e, if_pos (by decide)]
theorem right_e {σ : mSt} {al k : Nat} {a b M d N : Int} {E G : Nat → V4} {u : V4} (h4 : ilC σ al a b M E N G) (h5 : elC σ k al M E u d) : ∃ σ', mX4_takesRight 146 (165 + 2 * k) σ = some (b2 (∀ r y, r < 4 → vM a b u (E r) = vS d (vC E y) → spn G y), σ') ∧ frm (qW al) σ σ' := by
  obtain ⟨σ', v, w1, w2, w3⟩ := rightL4 (x := fun z2 zσ => mX4_takesRight_B69 146 (165 + 2 * k) z2 zσ) 4 0 mF σ (by omega) (by unfold mF; omega) (frm.rf σ) h4 h5
  refine ⟨σ', ?_, w2⟩
  unfold mX4_takesRight
  rw [gc146]
  refine w1.trans ?_
  unfold mX4_takesRight_B69
  rw [w3, mG_pos (b2_01 _), b2_iff ⟨fun z r y g1 g2 => z r y (by omega) g1 g2, fun z r y _ g1 g2 => z r y g1 g2⟩]
/-- whether it holds an element -/
theorem contains_e {σ : mSt} {al k : Nat} {a b M d N : Int} {E G : Nat → V4} {u : V4} (h : ilC σ al a b M E N G) (hk : k < 8) (hd : σ (165 + 2 * k) 1 = d) (hu : rowV σ (166 + 2 * k) = u) (ur : ∀ i, i < 4 → -1000000 ≤ vg i u ∧ vg i u ≤ 1000000) (dr : 1 ≤ d ∧ d ≤ 1000000) : ∃ σ', mX4_contains 146 (165 + 2 * k) σ = some (b2 (latS M E u d ∧ ∀ y, vS M u = vS d (vC E y) → spn G y), σ') ∧ frm (qW al) σ σ' := by
  have h' := h
  obtain ⟨i1, i2, i3, i4, i5, i6⟩ := h
  obtain ⟨h1, h2, h3, h4, h5, h6, ha, hb⟩ := i1
  obtain ⟨l1, l2, l3, l4⟩ := el_lay h1 k hk
  obtain ⟨k1, k2, k3, k4, k5, k6⟩ := ord_lay h1 h2
  have M7 := (ord_facts ha hb h6).1
  have ok := (ord_ok h6).1.1
  have hR := exR_congr (fun r hr => (h5.2 r hr).symm) (exR_ord ha hb h6)
  have br : ∀ i, i < 4 → -7200000000 ≤ vg i u * M ∧ vg i u * M ≤ 7200000000 := fun i hi => two_rng (ur i hi) (show 0 ≤ M ∧ M ≤ 7200 by omega) (by omega) (by decide)
  obtain ⟨y, ey, ey2⟩ := exprOver_e (O := 181 + 9 * al) (o := 182 + 9 * al) (num := 166 + 2 * k) (to := 163) (dv := d) (f := M) (U := 7200000000) h1 k1 k5 k3 (by omega) l4 (by decide) (by omega) (by omega) (by omega) (fun i hi => by rw [hu]; have := br i hi; omega) hR (by omega) (by
    rw [hu]
    exact exB_of hR.1 (by omega) (fun i hi => by rw [vg_vk _ hi]; exact div_rng (br i hi) dr.1))
  rw [hu] at ey ey2
  have eq1 : ((∀ i, i < 4 → d ∣ vg i u * M) ∧ spn (rwC σ (182 + 9 * al)) (vk (fun i => vg i u * M / d))) ↔ latS M E u d := by
    rw [spn_congr h5.2]
    exact (latS_div (by omega)).symm
  rw [b2_iff eq1] at ey
  have l146 : ∀ τ, Lay τ → τ 146 1 = ((156 : Nat) : Int) ∧ τ 146 2 = ((163 : Nat) : Int) := fun τ z => ⟨z.get 146 1 (by decide +kernel) (by decide +kernel), z.get 146 2 (by decide +kernel) (by decide +kernel)⟩
  have fr : frm (qW al) σ (stV σ 163 y) := (frm.rf σ).stV (fun j => Or.inr (Or.inl rfl))
  have I1 := ilC_fr h' fr
  have ex : mX6_express (181 + 9 * al) (165 + 2 * k) 163 σ = some (b2 (latS M E u d), stV σ 163 y) := by
    unfold mX6_express
    rw [gc k1, gc l3, gr' l2 (by omega), below_e h1 h2, mCall_some, h5.1, hd, ey, mCall_some, mG_pos (b2_01 _)]
  unfold mX4_contains
  rw [gc146, gr' i2 (by omega), gr' (l146 σ h1).2 (by omega), ex, mCall_some]
  by_cases hl : latS M E u d
  · have e2 := ey2 (eq1.mpr hl)
    have e0 := (eq1.mpr hl).1
    rw [vC_congr h5.2] at e2
    have e3 : vS M u = vS d (vC E y) := by
      refine vg_ext fun i hi => ?_
      rw [vg_vS _ _ hi, vg_vS _ _ hi, ← e2, vg_vk _ hi, Int.mul_ediv_cancel' (e0 i hi), Int.mul_comm]
    have yr := co_rng (W := 7200000000) (y := y) (exR_ord ha hb h6) (by omega) (fun i hi => by rw [← e2, vg_vk _ hi]; exact div_rng (br i hi) dr.1)
    obtain ⟨σ2, q1, q2⟩ := has_f I1 (rowV_stV _ _ _) (fun i hi => by have := yr i hi; omega)
    refine ⟨σ2, ?_, fr.tr q2 (fun i j z => Or.inl z)⟩
    rw [b2_t hl, if_neg (by decide), gr' (l146 _ I1.1.1).1 (by omega), gr' (l146 _ I1.1.1).2 (by omega), q1, mCall_some]
    by_cases hs : spn G y
    · rw [b2_t hs, if_neg (by decide), b2_t]
      refine ⟨hl, fun y' g => ?_⟩
      rw [e3] at g
      rw [← vC_inj ok.2.1 (vS_cancel (show d ≠ 0 by omega) g)]
      exact hs
    · rw [b2_f hs, if_pos (by decide), b2_f (fun z => hs (z.2 y e3))]
  · refine ⟨_, ?_, fr⟩
    rw [b2_f hl, if_pos (by decide), b2_f (fun z => hl z.1)]
theorem idLots_e {σ : mSt} {al : Nat} {a b M N : Int} {E G : Nat → V4} (h : ilC σ al a b M E N G) : mX4_lots 146 σ = some (vg 0 (G 0) * vg 1 (G 1) * vg 2 (G 2) * vg 3 (G 3), σ) := by
  obtain ⟨i1, i2, i3, i4⟩ := h
  have hL := i1.1
  obtain ⟨g1, g2, g3, g4, g5, g6⟩ := lat_lay hL (show 156 ∈ latIds by decide)
  have q : ∀ r, r < 4 → ∀ i, i < 4 → σ (156 + 2 + r) i = vg i (G r) := fun r hr i hi => by
    rw [← i3.2 r hr]
    unfold rwC
    rw [vg_rowV _ _ hi]
  unfold mX4_lots mX3_lots
  rw [gc146, gr' (r := 156) (hL.get 146 1 (by decide +kernel) (by decide +kernel)) (by omega), gc g1, gr' g4 (by omega), gx g2 _ (by omega), gr' (g6 0 (by omega)).2 (by omega), gx (g6 0 (by omega)).1 _ (by omega), gr' g4 (by omega), gx g2 _ (by omega), gr' (g6 1 (by omega)).2 (by omega), gx (g6 1 (by omega)).1 _ (by omega), gr' g4 (by omega), gx g2 _ (by omega), gr' (g6 2 (by omega)).2 (by omega), gx (g6 2 (by omega)).1 _ (by omega), gr' g4 (by omega), gx g2 _ (by omega), gr' (g6 3 (by omega)).2 (by omega), gx (g6 3 (by omega)).1 _ (by omega), mCall_some, q 0 (by omega) 0 (by omega), q 1 (by omega) 1 (by omega), q 2 (by omega) 2 (by omega), q 3 (by omega) 3 (by omega)]

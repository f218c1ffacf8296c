/-! goesOn: sums, row by row -/
def pS (E : Nat → V4) (k : Nat → Int) : Nat → V4
  | 0 => v0
  | c + 1 => vA (pS E k c) (vS (k c) (E c))
def pv (p : Int) (k : Nat → Int) : Nat → Int
  | 0 => 0
  | c + 1 => pv p k c * p + k c
def digs (p : Int) (k : Nat → Int) : Prop := ∀ i, i < 4 → 0 ≤ k i ∧ k i < p
theorem pS_at {E : Nat → V4} {k : Nat → Int} (tE : Tri E) {c : Nat} (hc : c < 4) : vg c (pS E k 4) = vg c (pS E k (c + 1)) := by
  have z : ∀ d, c < d → d < 4 → vg c (pS E k (d + 1)) = vg c (pS E k d) := fun d h1 h2 => by
    show vg c (vA (pS E k d) (vS (k d) (E d))) = _
    rw [vg_vA _ _ hc, vg_vS _ _ hc, tri_z tE d c h1 h2, Int.mul_zero, Int.add_zero]
  rcases (show c = 0 ∨ c = 1 ∨ c = 2 ∨ c = 3 by omega) with rfl | rfl | rfl | rfl
  · exact (z 3 (by omega) (by omega)).trans ((z 2 (by omega) (by omega)).trans (z 1 (by omega) (by omega)))
  · exact (z 3 (by omega) (by omega)).trans (z 2 (by omega) (by omega))
  · exact z 3 (by omega) (by omega)
  · rfl
theorem pS_rng {M p : Int} {E : Nat → V4} {k : Nat → Int} (hE : rB2 E M) (hk : digs p k) (hM : 0 ≤ M ∧ M ≤ 7200) (hp : p ≤ 60) : ∀ c, c ≤ 4 → ∀ i, i < 4 → -(432000 * c) ≤ vg i (pS E k c) ∧ vg i (pS E k c) ≤ 432000 * c := by
  intro c
  induction c with
  | zero => intro _ i hi; show _ ≤ vg i v0 ∧ vg i v0 ≤ _; rw [vg_v0 hi]; omega
  | succ c ih =>
    intro hc i hi
    have h := ih (by omega) i hi
    have e := hE c (by omega) i hi
    have d := hk c (by omega)
    have m := mul_rng (x := k c) (y := vg i (E c)) (A := 60) (B := 7200) (by omega) (by omega) (by omega)
    show _ ≤ vg i (vA (pS E k c) (vS (k c) (E c))) ∧ vg i (vA (pS E k c) (vS (k c) (E c))) ≤ _
    rw [vg_vA _ _ hi, vg_vS _ _ hi]
    push_cast
    omega
def t0F (a b : Int) (c : Nat) : Int := if c = 0 then 1 else if c = 1 then a else if c = 2 then b else a * b
/-- what does not go on, is not fit -/
theorem goes_fit {a b M d : Int} {E : Nat → V4} {x : V4} {c : Nat} (hE : rOK M E) (hd : 0 < d) (hc : c < 4) (h : fitS a b M E x d) : d ∣ 2 * t0F a b c * vg c x := by
  obtain ⟨S, s1, s2, s3, s4, s5⟩ := h
  have u : S (vE c) 1 := (subL_lat hE.1 s1).mp s4 _ _ (by omega) (uni_of hE.2.2.2 c hc)
  have w := (s3 _ _ (Int.mul_pos hd (by omega)) (s2 _ _ _ _ hd (by omega) s5 u)).1
  rw [Int.mul_one] at w
  rcases (show c = 0 ∨ c = 1 ∨ c = 2 ∨ c = 3 by omega) with rfl | rfl | rfl | rfl
  · simp only [vM, vE] at w
    have e : 2 * t0F a b 0 * vg 0 x = 2 * (x.1 * 1 + a * x.2.1 * 0 + b * x.2.2.1 * 0 - a * b * x.2.2.2 * 0) := by simp [t0F, vg]
    rw [e]; exact w
  · simp only [vM, vE] at w
    have e : 2 * t0F a b 1 * vg 1 x = 2 * (x.1 * 0 + a * x.2.1 * 1 + b * x.2.2.1 * 0 - a * b * x.2.2.2 * 0) := by simp [t0F, vg]; grind
    rw [e]; exact w
  · simp only [vM, vE] at w
    have e : 2 * t0F a b 2 * vg 2 x = 2 * (x.1 * 0 + a * x.2.1 * 0 + b * x.2.2.1 * 1 - a * b * x.2.2.2 * 0) := by simp [t0F, vg]; grind
    rw [e]; exact w
  · simp only [vM, vE] at w
    have e : 2 * t0F a b 3 * vg 3 x = -(2 * (x.1 * 0 + a * x.2.1 * 0 + b * x.2.2.1 * 0 - a * b * x.2.2.2 * 1)) := by simp [t0F, vg]; grind
    rw [e]; exact Int.dvd_neg.mpr w
theorem s138 {σ : mSt} (hL : Lay σ) : σ 114 5 = ((138 : Nat) : Int) ∧ ∀ c, c < 5 → σ 138 c = ((139 + c : Nat) : Int) := by
  refine ⟨hL.get 114 5 (by decide +kernel) (by decide +kernel), fun c hc => ?_⟩
  have h : ∀ c, c < 5 → fixR 138 c = true ∧ mS0 138 c = ((139 + c : Nat) : Int) := by decide +kernel
  exact hL.get 138 c (h c hc).1 (h c hc).2
theorem k139 {c : Nat} (hc : c < 5) : shp (139 + c) = (21, 4) := by
  have h : ∀ c, c < 5 → shp (139 + c) = (21, 4) := by decide
  exact h c hc
theorem goesL12 {σ : mSt} {c r : Nat} {d : Int} {u e : V4} {x : mSt → Option (Int × mSt)} (hL : Lay σ) (hc : c < 4) (hr : shp r = (21, 4)) (hr2 : r < 139 ∨ 144 ≤ r) (hd : wI d = d) (hu : rowV σ (139 + c) = u) (he : rowV σ r = e) : ∀ (m i N : Nat) (w : V4), i + m = 4 → m < N → mX2_goesOn_L12 114 (c : Int) d r x N (i : Int) (stV σ (139 + (c + 1)) (vMix i (vA u (vS d e)) w)) = x (stV σ (139 + (c + 1)) (vA u (vS d e))) := by
  obtain ⟨l5, l8⟩ := s138 hL
  have k138 : shp 138 = (27, 5) := by decide
  intro m
  induction m with
  | zero =>
    intro i N w h1 h2
    obtain ⟨N, rfl⟩ : ∃ q, N = q + 1 := ⟨N - 1, by omega⟩
    obtain rfl : i = 4 := by omega
    rw [mX2_goesOn_L12.eq_2, if_pos (by decide), vMix_4]
  | succ m ih =>
    intro i N w h1 h2
    obtain ⟨N, rfl⟩ : ∃ q, N = q + 1 := ⟨N - 1, by omega⟩
    have hi : i < 4 := by omega
    have q5 : stV σ (139 + (c + 1)) (vMix i (vA u (vS d e)) w) 114 5 = ((138 : Nat) : Int) := by rw [stV_ne _ _ _ _ _ (by omega)]; exact l5
    have q1 : stV σ (139 + (c + 1)) (vMix i (vA u (vS d e)) w) 138 (c + 1) = ((139 + (c + 1) : Nat) : Int) := by rw [stV_ne _ _ _ _ _ (by omega)]; exact l8 (c + 1) (by omega)
    have q0 : stV σ (139 + (c + 1)) (vMix i (vA u (vS d e)) w) 138 c = ((139 + c : Nat) : Int) := by rw [stV_ne _ _ _ _ _ (by omega)]; exact l8 c (by omega)
    rw [mX2_goesOn_L12.eq_2, if_neg (by rw [wI_id (x := (i : Int)) (by omega)]; omega), show (c : Int) + 1 = ((c + 1 : Nat) : Int) by omega, gr' q5 (by omega), gx k138 _ (by omega), wI_nat (k := c + 1) (by omega), gr' q1 (by omega), gr' q5 (by omega), gx k138 _ (by omega), wI_nat (k := c) (by omega), gr' q0 (by omega), gx (k139 (by omega)) _ (by omega), gx hr _ (by omega), gx (k139 (by omega)) _ (by omega), wI_nat (k := i) (by omega), stV_ne _ _ _ (139 + c) _ (by omega), stV_ne _ _ _ r _ (by omega), ← vg_rowV σ (139 + c) hi, ← vg_rowV σ r hi, hu, he, hd, bnd_eq, bnd_eq, stV_up _ _ _ _ hi, vMix_s (by rw [vg_vA _ _ hi, vg_vS _ _ hi]), show (i : Int) + 1 = ((i + 1 : Nat) : Int) by omega]
    exact ih (i + 1) N w (by omega) (by omega)
theorem goes_e {σ : mSt} {O o c : Nat} {a b M p d : Int} {u e : V4} (hL : Lay σ) (g0 : σ 114 0 = (O : Int)) (g1 : O ≠ 0) (g2 : shp O = (5, 0)) (hO : oFar O) (h0 : σ O 0 = a) (h1 : σ O 1 = b) (hc : c < 4) (hn : mX6_numbersOf O (c : Int) σ = some (((o + 2 + c : Nat) : Int), σ)) (ho : shp (o + 2 + c) = (21, 4)) (hoF : oFar o) (e2 : σ 114 2 = M * p) (hMp : 0 < M * p ∧ M * p ≤ 1000000) (ha : -60 ≤ a ∧ a ≤ 60) (hb : -60 ≤ b ∧ b ≤ 60) (hd : 0 ≤ d ∧ d ≤ 60) (hu : rowV σ (139 + c) = u) (he : rowV σ (o + 2 + c) = e) (hr : -10000000 ≤ vg c (vA u (vS d e)) ∧ vg c (vA u (vS d e)) ≤ 10000000) : mX2_goesOn 114 (c : Int) d σ = some (b2 (M * p ∣ 2 * t0F a b c * vg c (vA u (vS d e))), stV σ (139 + (c + 1)) (vA u (vS d e))) := by
  obtain ⟨l5, l8⟩ := s138 hL
  have k138 : shp 138 = (27, 5) := by decide
  have l12 := goesL12 (d := d) (x := fun zσ => mX2_goesOn_B52 114 (c : Int) d zσ) hL hc ho (by unfold oFar at hoF; omega) (wI_id (by omega)) hu he 4 0 mF (rowV σ (139 + (c + 1))) (by omega) (by unfold mF; omega)
  rw [vMix_c (fun i hi _ => by omega), stV_self] at l12
  have un : ∀ i j, i ≠ 139 + (c + 1) → stV σ (139 + (c + 1)) (vA u (vS d e)) i j = σ i j := fun i j z => stV_ne _ _ _ _ _ z
  have tr : -3600 ≤ t0F a b c ∧ t0F a b c ≤ 3600 := by
    have m := mul_rng (x := a) (y := b) (A := 60) (B := 60) (by omega) (by omega) (by omega)
    unfold t0F
    split
    · omega
    · split
      · omega
      · split <;> omega
  have mt := mul_rng (x := 2 * t0F a b c) (y := vg c (vA u (vS d e))) (A := 7200) (B := 10000000) (by omega) (by omega) (by omega)
  have q5 := (un 114 5 (by omega)).trans l5
  have q1 := (un 138 (c + 1) (by omega)).trans (l8 (c + 1) (by omega))
  have q0 := (un 114 0 (by omega)).trans g0
  have hO2 : O ≠ 139 + (c + 1) := by unfold oFar at hO; omega
  have B105 : mX2_goesOn_B105 114 (c : Int) d (t0F a b c) (stV σ (139 + (c + 1)) (vA u (vS d e))) = some (b2 (M * p ∣ 2 * t0F a b c * vg c (vA u (vS d e))), stV σ (139 + (c + 1)) (vA u (vS d e))) := by
    unfold mX2_goesOn_B105
    rw [show (c : Int) + 1 = ((c + 1 : Nat) : Int) by omega, gr' q5 (by omega), gx k138 _ (by omega), wI_nat (k := c + 1) (by omega), gr' q1 (by omega), gx (k139 (by omega)) _ (by omega), wI_nat (k := c) (by omega), un 114 2 (by omega), e2, vg_stV _ _ _ hc, div_e _ _ _ (by omega) (by omega), mCall_some]
    by_cases hdv : M * p ∣ 2 * t0F a b c * vg c (vA u (vS d e))
    · rw [b2_t ⟨by omega, hdv⟩, b2_t hdv, mG_pos (by decide)]
    · rw [b2_f (fun z => hdv z.2), b2_f hdv, mG_pos (by decide)]
  unfold mX2_goesOn
  rw [gc114, gr' g0 g1, hn, mCall_some, Int.toNat_natCast]
  refine l12.trans ?_
  unfold mX2_goesOn_B52
  rcases (show c = 0 ∨ c = 1 ∨ c = 2 ∨ c = 3 by omega) with rfl | rfl | rfl | rfl
  · rw [if_pos (by decide)]
    exact B105
  · rw [if_neg (by decide), if_pos (by decide), gr' q0 g1, gc g2, un O 0 hO2, h0]
    exact B105
  · rw [if_neg (by decide), if_neg (by decide), if_pos (by decide), gr' q0 g1, gc g2, un O 1 hO2, h1]
    exact B105
  · rw [if_neg (by decide), if_neg (by decide), if_neg (by decide), gr' q0 g1, gc g2, gr' q0 g1, gc g2, un O 0 hO2, un O 1 hO2, h0, h1]
    exact B105

/-! staysIn, isTwoSided's loops -/
def tW (i _j : Nat) : Prop := i = 265 ∨ i = 266 ∨ i = 267 ∨ i = 272
theorem tW_jR {i j : Nat} (h : tW i j) : jR i j := by unfold tW at h; unfold jR; omega
theorem ilR_fr {τ τ' : mSt} {al : Nat} {a b M N L : Int} {E G : Nat → V4} (h : ilR τ al a b M E N L G) (hf : frm tW τ τ') : ilR τ' al a b M E N L G := by
  obtain ⟨h1, h2, h3, h4, ⟨w, x1, x2, x3, x4, x5⟩, h6⟩ := h
  have h1' := rO_fr h2 h1 (hf.mono (fun i j z => tW_jR z))
  refine ⟨h1', h2, h3, h4, ⟨rowV τ' 272, lay_rL3 h1'.1, fun r hr => ?_, ?_, ?_, rfl⟩, h6⟩
  · rw [← x2 r hr]
    exact congrFun (rowL_congr (funext fun j => hf _ _ (by unfold tW; omega))) _
  · rw [hf _ _ (by unfold tW; omega)]; exact x3
  · rw [hf _ _ (by unfold tW; omega)]; exact x4
theorem siL42 {τ : mSt} {v1 v2 v3 v4 v5 v7 den : Int} {z : V4} {x : Int → mSt → Option (Int × mSt)} (l27 : τ 253 27 = ((267 : Nat) : Int)) (hu : rowV τ 267 = z) (hd : 0 < den ∧ den ≤ 1000000000000000000) (hb : ∀ i, i < 4 → -9223372036854775807 ≤ vg i z ∧ vg i z < 9223372036854775808) : ∀ (m i N : Nat) (g : Int), i + m = 4 → m < N → gcP den (fun _ => z) i g → ∃ g', gcP den (fun _ => z) 4 g' ∧ mX12_staysIn_L42 253 v1 v2 v3 v4 v5 v7 den x N g (i : Int) τ = x g' τ := by
  intro m
  induction m with
  | zero =>
    intro i N g h1 h2 h4
    obtain ⟨N, rfl⟩ : ∃ q, N = q + 1 := ⟨N - 1, by omega⟩
    obtain rfl : i = 4 := by omega
    exact ⟨g, h4, by rw [mX12_staysIn_L42.eq_2, if_pos (by decide)]⟩
  | succ m ih =>
    intro i N g h1 h2 h4
    obtain ⟨N, rfl⟩ : ∃ q, N = q + 1 := ⟨N - 1, by omega⟩
    have hi : i < 4 := by omega
    have st := gcP_step (M := den) (E := fun _ => z) (g := g) (r := 0) (c := i) (by omega) hi (by rw [Nat.mul_zero, Nat.zero_add]; exact h4)
    rw [Nat.mul_zero, Nat.zero_add] at st
    obtain ⟨g', g1, g2⟩ := ih (i + 1) N _ (by omega) (by omega) st
    refine ⟨g', g1, ?_⟩
    have gM := Int.le_of_dvd hd.1 h4.2.1
    have g0 := h4.1
    have b := hb i hi
    rw [mX12_staysIn_L42.eq_2, if_neg (by rw [wI_id (x := (i : Int)) (by omega)]; omega), gr' l27 (by omega), gx267 _ (by omega), wI_nat (by omega), ← vg_rowV τ 267 hi, hu, com_e _ _ _ (by omega) (by omega), mCall_some, bnd_eq, show (i : Int) + 1 = ((i + 1 : Nat) : Int) by omega]
    exact g2
theorem siL141 {τ : mSt} {v1 v2 v3 v4 v5 v7 den : Int} {z : V4} {x : Int → mSt → Option (Int × mSt)} (l27 : τ 253 27 = ((267 : Nat) : Int)) (hu : rowV τ 267 = z) (hd : 0 < den ∧ den ≤ 1000000000000000000) (hb : ∀ i, i < 4 → -9223372036854775807 ≤ vg i z ∧ vg i z < 9223372036854775808) : ∀ (m i N : Nat) (g : Int), i + m = 4 → m < N → gcP den (fun _ => z) i g → ∃ g', gcP den (fun _ => z) 4 g' ∧ mX12_staysIn_L141 253 v1 v2 v3 v4 v5 v7 den x N g (i : Int) τ = x g' τ := by
  intro m
  induction m with
  | zero =>
    intro i N g h1 h2 h4
    obtain ⟨N, rfl⟩ : ∃ q, N = q + 1 := ⟨N - 1, by omega⟩
    obtain rfl : i = 4 := by omega
    exact ⟨g, h4, by rw [mX12_staysIn_L141.eq_2, if_pos (by decide)]⟩
  | succ m ih =>
    intro i N g h1 h2 h4
    obtain ⟨N, rfl⟩ : ∃ q, N = q + 1 := ⟨N - 1, by omega⟩
    have hi : i < 4 := by omega
    have st := gcP_step (M := den) (E := fun _ => z) (g := g) (r := 0) (c := i) (by omega) hi (by rw [Nat.mul_zero, Nat.zero_add]; exact h4)
    rw [Nat.mul_zero, Nat.zero_add] at st
    obtain ⟨g', g1, g2⟩ := ih (i + 1) N _ (by omega) (by omega) st
    refine ⟨g', g1, ?_⟩
    have gM := Int.le_of_dvd hd.1 h4.2.1
    have g0 := h4.1
    have b := hb i hi
    rw [mX12_staysIn_L141.eq_2, if_neg (by rw [wI_id (x := (i : Int)) (by omega)]; omega), gr' l27 (by omega), gx267 _ (by omega), wI_nat (by omega), ← vg_rowV τ 267 hi, hu, com_e _ _ _ (by omega) (by omega), mCall_some, bnd_eq, show (i : Int) + 1 = ((i + 1 : Nat) : Int) by omega]
    exact g2
theorem siL71 {τ : mSt} {v1 v2 v3 v4 v5 v7 v9 g : Int} {z u : V4} {x : mSt → Option (Int × mSt)} (l25 : τ 253 25 = ((265 : Nat) : Int)) (l27 : τ 253 27 = ((267 : Nat) : Int)) (hu : rowV τ 267 = z) (hg : 0 < g ∧ g ≤ 1000000000000000000) (hdv : ∀ i, i < 4 → g ∣ vg i z) (hb : ∀ i, i < 4 → -9223372036854775807 ≤ vg i z ∧ vg i z < 9223372036854775808) : ∀ (m i N : Nat), i + m = 4 → m < N → mX12_staysIn_L71 253 v1 v2 v3 v4 v5 v7 v9 g x N (i : Int) (stV τ 265 (vMix i (ltV g z) u)) = x (stV τ 265 (ltV g z)) := by
  intro m
  induction m with
  | zero =>
    intro i N h1 h2
    obtain ⟨N, rfl⟩ : ∃ q, N = q + 1 := ⟨N - 1, by omega⟩
    obtain rfl : i = 4 := by omega
    rw [mX12_staysIn_L71.eq_2, if_pos (by decide), vMix_4]
  | succ m ih =>
    intro i N h1 h2
    obtain ⟨N, rfl⟩ : ∃ q, N = q + 1 := ⟨N - 1, by omega⟩
    have hi : i < 4 := by omega
    have b := hb i hi
    have wg : wL g = g := wL_id (x := g) (by omega)
    have wz : wL (vg i z) = vg i z := wL_id (x := vg i z) (by omega)
    have e : vg i (ltV g z) = vg i z / g := by unfold ltV; rw [vg_vk _ hi]
    rw [mX12_staysIn_L71.eq_2, if_neg (by rw [wI_id (x := (i : Int)) (by omega)]; omega), gr' (r := 265) (by rw [stV_ne _ _ _ _ _ (by omega)]; exact l25) (by omega), gr' (r := 267) (by rw [stV_ne _ _ _ _ _ (by omega)]; exact l27) (by omega), gx267 _ (by omega), mG_pos (by rw [wg]; omega), gx265 _ (by omega), wI_nat (k := i) (by omega), stV_ne _ _ _ _ _ (by omega), ← vg_rowV τ 267 hi, hu, wz, wg, Int.tdiv_eq_ediv_of_dvd (hdv i hi), bnd_eq, bnd_eq, ← e, stV_up _ _ _ _ hi, vMix_s rfl, show (i : Int) + 1 = ((i + 1 : Nat) : Int) by omega]
    exact ih (i + 1) N (by omega) (by omega)
theorem siL170 {τ : mSt} {v1 v2 v3 v4 v5 v7 v9 g : Int} {z u : V4} {x : mSt → Option (Int × mSt)} (l32 : τ 253 32 = ((272 : Nat) : Int)) (l27 : τ 253 27 = ((267 : Nat) : Int)) (hu : rowV τ 267 = z) (hg : 0 < g ∧ g ≤ 1000000000000000000) (hdv : ∀ i, i < 4 → g ∣ vg i z) (hb : ∀ i, i < 4 → -9223372036854775807 ≤ vg i z ∧ vg i z < 9223372036854775808) : ∀ (m i N : Nat), i + m = 4 → m < N → mX12_staysIn_L170 253 v1 v2 v3 v4 v5 v7 v9 g x N (i : Int) (stV τ 272 (vMix i (ltV g z) u)) = x (stV τ 272 (ltV g z)) := by
  intro m
  induction m with
  | zero =>
    intro i N h1 h2
    obtain ⟨N, rfl⟩ : ∃ q, N = q + 1 := ⟨N - 1, by omega⟩
    obtain rfl : i = 4 := by omega
    rw [mX12_staysIn_L170.eq_2, if_pos (by decide), vMix_4]
  | succ m ih =>
    intro i N h1 h2
    obtain ⟨N, rfl⟩ : ∃ q, N = q + 1 := ⟨N - 1, by omega⟩
    have hi : i < 4 := by omega
    have b := hb i hi
    have wg : wL g = g := wL_id (x := g) (by omega)
    have wz : wL (vg i z) = vg i z := wL_id (x := vg i z) (by omega)
    have e : vg i (ltV g z) = vg i z / g := by unfold ltV; rw [vg_vk _ hi]
    rw [mX12_staysIn_L170.eq_2, if_neg (by rw [wI_id (x := (i : Int)) (by omega)]; omega), gr' (r := 272) (by rw [stV_ne _ _ _ _ _ (by omega)]; exact l32) (by omega), gr' (r := 267) (by rw [stV_ne _ _ _ _ _ (by omega)]; exact l27) (by omega), gx267 _ (by omega), mG_pos (by rw [wg]; omega), gx272 _ (by omega), wI_nat (k := i) (by omega), stV_ne _ _ _ _ _ (by omega), ← vg_rowV τ 267 hi, hu, wz, wg, Int.tdiv_eq_ediv_of_dvd (hdv i hi), bnd_eq, bnd_eq, ← e, stV_up _ _ _ _ hi, vMix_s rfl, show (i : Int) + 1 = ((i + 1 : Nat) : Int) by omega]
    exact ih (i + 1) N (by omega) (by omega)
theorem ltV_g {den g : Int} {z : V4} (hg : gcP den (fun _ => z) 4 g) : vS g (ltV g z) = z ∧ g * (den / g) = den ∧ (∀ i, i < 4 → g ∣ vg i z) := by
  obtain ⟨g0, g1, g2, g3⟩ := hg
  have h : ∀ i, i < 4 → g ∣ vg i z := fun i hi => g2 0 i (by omega) hi (by omega)
  refine ⟨vg_ext fun i hi => ?_, Int.mul_ediv_cancel' g1, h⟩
  unfold ltV
  rw [vg_vS _ _ hi, vg_vk _ hi, Int.mul_ediv_cancel' (h i hi)]
theorem stays_e {τ : mSt} {al k s r : Nat} {a b M N L d : Int} {E G : Nat → V4} {u : V4} (h : ilR τ al a b M E N L G) (hu : elS τ k al u d) (hs : s < 4) (hr : r < 4) : ∃ τ', mX12_staysIn 253 (al : Int) (s : Int) (k : Int) (r : Int) a b τ = some (b2 (latS L G (vM a b (vM a b (E s) u) (E r)) (M * d * M)), τ') ∧ frm tW τ τ' := by
  have h' := h
  obtain ⟨hO, hal, ha, hb, ⟨w, hA⟩, ok, hN, hLr, hML⟩ := h
  obtain ⟨hL, g2, g3, g4, g5, g6, g7⟩ := hO
  obtain ⟨u1, u2, u3, u4, u5, u6, u7⟩ := hu
  have ly := lay253 hL
  have M7 := (ord_facts ha hb g7).1
  have okE := (ord_ok g7).1.1
  have rs := rB2_of okE s hs
  have rr := rB2_of okE r hr
  have md := mul_rng (x := M) (y := d) (A := 7200) (B := 100) (by omega) (by omega) (by omega)
  have md0 : 0 < M * d := Int.mul_pos (by omega) (by omega)
  have vm := vM_rng (x := E s) (X := 7200) (Y := 100) ha.2 hb.2 (fun i hi => by have := rs i hi; omega) u5 (by omega)
  obtain ⟨z1, hz1⟩ : ∃ z1, z1 = vM a b (E s) u := ⟨_, rfl⟩
  rw [← hz1] at vm
  obtain ⟨τ1, ht1⟩ : ∃ τ1, τ1 = stV τ 265 (rowL τ al s) := ⟨_, rfl⟩
  have f1 : frm tW τ τ1 := by rw [ht1]; exact (frm.rf τ).stV (fun j => Or.inl rfl)
  have F : ∀ ρ, frm tW τ ρ → Lay ρ := fun ρ z => hL.frm z (fun i j y => jR_fix (tW_jR y))
  have t1 := takesRow0_e (τ := τ) (l := al) (r := s) ly.2.2.2.2.2.2.2.2.2.2.2.2.2.2.2.1 ly.2.2.2.2.2.2.2.2.2.2.2.1 (by omega) hs
  rw [← ht1] at t1
  have ly1 := lay253 (F τ1 f1)
  have t2 := takesOther_e u1 ly1.2.2.2.2.2.2.2.2.2.1 ly1.2.2.2.2.2.2.2.2.2.2.2.2.1
  obtain ⟨τ2, ht2⟩ : ∃ τ2, τ2 = stV τ1 266 (elV τ1 k) := ⟨_, rfl⟩
  rw [← ht2] at t2
  have f2 : frm tW τ τ2 := by rw [ht2]; exact f1.stV (fun j => Or.inr (Or.inl rfl))
  have ly2 := lay253 (F τ2 f2)
  have r265 : rowV τ2 265 = E s := by
    rw [← g2, ← rowV_stV τ 265 (rowL τ al s), ← ht1]
    unfold rowV
    rw [ht2, stV_ne _ _ _ _ _ (by omega), stV_ne _ _ _ _ _ (by omega), stV_ne _ _ _ _ _ (by omega), stV_ne _ _ _ _ _ (by omega)]
  have r266 : rowV τ2 266 = u := by
    rw [ht2, rowV_stV, ← u3]
    unfold elV
    rw [f1 _ _ (by unfold tW; omega), f1 _ _ (by unfold tW; omega), f1 _ _ (by unfold tW; omega), f1 _ _ (by unfold tW; omega)]
  have t3 := multiplies_e (τ := τ2) (a := a) (b := b) ly2.2.2.2.2.2.2.2.2.2.2.2.1 ly2.2.2.2.2.2.2.2.2.2.2.2.2.1 ly2.2.2.2.2.2.2.2.2.2.2.2.2.2.1
  rw [r265, r266, ← hz1] at t3
  obtain ⟨τ3, ht3⟩ : ∃ τ3, τ3 = stV τ2 267 z1 := ⟨_, rfl⟩
  rw [← ht3] at t3
  have f3 : frm tW τ τ3 := by rw [ht3]; exact f2.stV (fun j => Or.inr (Or.inr (Or.inl rfl)))
  have ly3 := lay253 (F τ3 f3)
  have r267 : rowV τ3 267 = z1 := by rw [ht3, rowV_stV]
  have p1 : mX12_part 253 (k : Int) 4 τ3 = some (d, τ3) := by
    rw [part_e ly3.2.2.2.2.2.2.2.2.2.1 ⟨u1, by omega, by omega⟩, f3 _ _ (by unfold tW; omega)]
    exact congrArg (fun z => some (z, τ3)) u4
  have q270 : τ3 270 al = M := by rw [f3 _ _ (by unfold tW; omega)]; exact g3
  obtain ⟨h1, k1, l42⟩ := siL42 (v1 := (al : Int)) (v2 := (s : Int)) (v3 := (k : Int)) (v4 := (r : Int)) (v5 := a) (v7 := b) (den := M * d) (x := fun z11 zσ => mX12_staysIn_B68 253 (al : Int) (s : Int) (k : Int) (r : Int) a b (M * d) z11 zσ) ly3.2.2.2.2.2.2.2.2.2.2.2.2.2.1 r267 ⟨md0, by omega⟩ (fun i hi => by have := vm i hi; omega) 4 0 mF (M * d) (by omega) (by unfold mF; omega) (gcP_0 md0)
  obtain ⟨lt1, dn1, dv1⟩ := ltV_g k1
  have h1p := k1.1
  have h1m := Int.le_of_dvd md0 k1.2.1
  have l71 := siL71 (v1 := (al : Int)) (v2 := (s : Int)) (v3 := (k : Int)) (v4 := (r : Int)) (v5 := a) (v7 := b) (v9 := M * d) (u := rowV τ3 265) (x := fun zσ => mX12_staysIn_B100 253 (al : Int) (s : Int) (k : Int) (r : Int) a b (M * d) h1 zσ) ly3.2.2.2.2.2.2.2.2.2.2.2.1 ly3.2.2.2.2.2.2.2.2.2.2.2.2.2.1 r267 ⟨h1p, by omega⟩ dv1 (fun i hi => by have := vm i hi; omega) 4 0 mF (by omega) (by unfold mF; omega)
  rw [vMix_c (fun i hi _ => by omega), stV_self] at l71
  obtain ⟨y1, hy1⟩ : ∃ y1, y1 = ltV h1 z1 := ⟨_, rfl⟩
  rw [← hy1] at l71 lt1
  have yr : ∀ i, i < 4 → -(3721 * (7200 * 100)) ≤ vg i y1 ∧ vg i y1 ≤ 3721 * (7200 * 100) := fun i hi => by
    rw [hy1]
    unfold ltV
    rw [vg_vk _ hi]
    exact div_rng (vm i hi) (by omega)
  obtain ⟨τ4, ht4⟩ : ∃ τ4, τ4 = stV τ3 265 y1 := ⟨_, rfl⟩
  rw [← ht4] at l71
  have f4 : frm tW τ τ4 := by rw [ht4]; exact f3.stV (fun j => Or.inl rfl)
  have ly4 := lay253 (F τ4 f4)
  have rl4 : rowL τ4 al r = E r := by
    rw [← g2]
    exact congrFun (rowL_congr (funext fun j => f4 _ _ (by unfold tW; omega))) _
  have t5 := takesRow1_e (τ := τ4) (l := al) (r := r) ly4.2.2.2.2.2.2.2.2.2.2.2.2.2.2.2.1 ly4.2.2.2.2.2.2.2.2.2.2.2.2.1 (by omega) hr
  rw [rl4] at t5
  obtain ⟨τ5, ht5⟩ : ∃ τ5, τ5 = stV τ4 266 (E r) := ⟨_, rfl⟩
  rw [← ht5] at t5
  have f5 : frm tW τ τ5 := by rw [ht5]; exact f4.stV (fun j => Or.inr (Or.inl rfl))
  have ly5 := lay253 (F τ5 f5)
  have q265 : rowV τ5 265 = y1 := by
    rw [← rowV_stV τ3 265 y1, ← ht4]
    unfold rowV
    rw [ht5, stV_ne _ _ _ _ _ (by omega), stV_ne _ _ _ _ _ (by omega), stV_ne _ _ _ _ _ (by omega), stV_ne _ _ _ _ _ (by omega)]
  have q266 : rowV τ5 266 = E r := by rw [ht5, rowV_stV]
  have t6 := multiplies_e (τ := τ5) (a := a) (b := b) ly5.2.2.2.2.2.2.2.2.2.2.2.1 ly5.2.2.2.2.2.2.2.2.2.2.2.2.1 ly5.2.2.2.2.2.2.2.2.2.2.2.2.2.1
  obtain ⟨z2, hz2⟩ : ∃ z2, z2 = vM a b y1 (E r) := ⟨_, rfl⟩
  rw [q265, q266, ← hz2] at t6
  obtain ⟨τ6, ht6⟩ : ∃ τ6, τ6 = stV τ5 267 z2 := ⟨_, rfl⟩
  rw [← ht6] at t6
  have f6 : frm tW τ τ6 := by rw [ht6]; exact f5.stV (fun j => Or.inr (Or.inr (Or.inl rfl)))
  have ly6 := lay253 (F τ6 f6)
  have s267 : rowV τ6 267 = z2 := by rw [ht6, rowV_stV]
  have vm2 := vM_rng (x := y1) (y := E r) (X := 3721 * (7200 * 100)) (Y := 7200) ha.2 hb.2 yr (fun i hi => by have := rr i hi; omega) (by omega)
  rw [← hz2] at vm2
  obtain ⟨e1, he1⟩ : ∃ e1, e1 = M * d / h1 := ⟨_, rfl⟩
  rw [← he1] at dn1
  have e1p : 0 < e1 := by rw [he1]; exact div_pos md0 h1p k1.2.1
  have e1m : e1 ≤ M * d := by rw [he1]; exact Int.ediv_le_self _ (by omega)
  have em := mul_rng (x := e1) (y := M) (A := 720000) (B := 7200) (by omega) (by omega) (by omega)
  have em0 : 0 < e1 * M := Int.mul_pos e1p (by omega)
  have q270' : τ6 270 al = M := by rw [f6 _ _ (by unfold tW; omega)]; exact g3
  obtain ⟨h2, k2, l141⟩ := siL141 (v1 := (al : Int)) (v2 := (s : Int)) (v3 := (k : Int)) (v4 := (r : Int)) (v5 := a) (v7 := b) (den := e1 * M) (x := fun z11 zσ => mX12_staysIn_B167 253 (al : Int) (s : Int) (k : Int) (r : Int) a b (e1 * M) z11 zσ) ly6.2.2.2.2.2.2.2.2.2.2.2.2.2.1 s267 ⟨em0, by omega⟩ (fun i hi => by have := vm2 i hi; omega) 4 0 mF (e1 * M) (by omega) (by unfold mF; omega) (gcP_0 em0)
  obtain ⟨lt2, dn2, dv2⟩ := ltV_g k2
  have h2p := k2.1
  have h2m := Int.le_of_dvd em0 k2.2.1
  have l170 := siL170 (v1 := (al : Int)) (v2 := (s : Int)) (v3 := (k : Int)) (v4 := (r : Int)) (v5 := a) (v7 := b) (v9 := e1 * M) (u := rowV τ6 272) (x := fun zσ => mX12_staysIn_B199 253 (al : Int) (s : Int) (k : Int) (r : Int) a b (e1 * M) h2 zσ) ly6.2.2.2.2.2.2.2.2.2.2.2.2.2.2.2.2.2.2.1 ly6.2.2.2.2.2.2.2.2.2.2.2.2.2.1 s267 ⟨h2p, by omega⟩ dv2 (fun i hi => by have := vm2 i hi; omega) 4 0 mF (by omega) (by unfold mF; omega)
  rw [vMix_c (fun i hi _ => by omega), stV_self] at l170
  obtain ⟨y2, hy2⟩ : ∃ y2, y2 = ltV h2 z2 := ⟨_, rfl⟩
  rw [← hy2] at l170 lt2
  obtain ⟨τ7, ht7⟩ : ∃ τ7, τ7 = stV τ6 272 y2 := ⟨_, rfl⟩
  rw [← ht7] at l170
  have f7 : frm tW τ τ7 := by rw [ht7]; exact f6.stV (fun j => Or.inr (Or.inr (Or.inr rfl)))
  obtain ⟨-, -, -, -, ⟨w7, A7⟩, -⟩ := ilR_fr h' f7
  have w7y : w7 = y2 := by rw [← A7.2.2.2.2, ht7, rowV_stV]
  rw [w7y] at A7
  have LN := mul_rng (x := L) (y := N) (A := 72000000) (B := 37210000) (by omega) (by omega) (by omega)
  have y2r : ∀ i, i < 4 → -9223372036854775807 ≤ vg i y2 ∧ vg i y2 < 9223372036854775808 := fun i hi => by
    rw [hy2]
    unfold ltV
    rw [vg_vk _ hi]
    have := div_rng (a := vg i z2) (d := h2) (A := 9223372036854775807) (by have := vm2 i hi; omega) (by omega)
    omega
  obtain ⟨e2, he2⟩ : ∃ e2, e2 = e1 * M / h2 := ⟨_, rfl⟩
  rw [← he2] at dn2
  have e2p : 0 < e2 := by rw [he2]; exact div_pos em0 h2p k2.2.1
  have e2m : e2 ≤ e1 * M := by rw [he2]; exact Int.ediv_le_self _ (by omega)
  obtain ⟨w8, hb8⟩ := holdsBy_e (d := e2) A7 ⟨hLr.1, by omega⟩ (by omega) ok ⟨e2p, by omega⟩ y2r
  have iff1 : latS L G y2 e2 ↔ latS L G (vM a b (vM a b (E s) u) (E r)) (M * d * M) := by
    have g : Grp (latS L G) := latS_grp
    have a1 := g.2.2.2 h2 y2 e2 e2p h2p
    rw [lt2, dn2] at a1
    have a2 := g.2.2.2 h1 z2 (e1 * M) em0 h1p
    rw [← Int.mul_assoc, dn1] at a2
    rw [← a1, ← a2, ← hz1, ← lt1, vM_sl, ← hz2]
  refine ⟨stV τ7 272 w8, ?_, f7.stV (fun j => Or.inr (Or.inr (Or.inr rfl)))⟩
  unfold mX12_staysIn
  have wh1 : wL h1 = h1 := wL_id (x := h1) (by omega)
  have wh2 : wL h2 = h2 := wL_id (x := h2) (by omega)
  have wmd : wL (M * d) = M * d := wL_id (x := M * d) (by omega)
  have wem : wL (e1 * M) = e1 * M := wL_id (x := e1 * M) (by omega)
  rw [gc253, t1, mCall_some, t2, mCall_some, t3, mCall_some, gr' ly3.2.2.2.2.2.2.2.2.2.2.2.2.2.2.2.2.1 (by omega), gx270 _ (by omega), p1, mCall_some, wI_nat (k := al) (by omega), q270, bnd_eq]
  refine l42.trans ?_
  unfold mX12_staysIn_B68
  refine l71.trans ?_
  unfold mX12_staysIn_B100
  rw [mG_pos (by rw [wh1]; omega), wh1, wmd, Int.tdiv_eq_ediv_of_nonneg (by omega), ← he1, bnd_eq, t5, mCall_some, t6, mCall_some, gr' ly6.2.2.2.2.2.2.2.2.2.2.2.2.2.2.2.2.1 (by omega), gx270 _ (by omega), wI_nat (k := al) (by omega), q270', bnd_eq]
  refine l141.trans ?_
  unfold mX12_staysIn_B167
  refine l170.trans ?_
  unfold mX12_staysIn_B199
  rw [mG_pos (by rw [wh2]; omega), wh2, wem, Int.tdiv_eq_ediv_of_nonneg (by omega), ← he2, hb8, mCall_some, mG_pos (b2_01 _), b2_iff iff1]
/-! the three loops -/
theorem tsL94 {τ0 : mSt} {al k r : Nat} {a b M N L d : Int} {E G : Nat → V4} {u : V4} {v1 v2 v10 : Int} {x : mSt → Option (Int × mSt)} (hr : r < 4) : ∀ (m s n : Nat) (τ : mSt), s + m = 4 → m < n → frm tW τ0 τ → ilR τ al a b M E N L G → elS τ k al u d → ∃ τ', frm tW τ0 τ' ∧ ((∀ s', s ≤ s' → s' < 4 → latS L G (vM a b (vM a b (E s') u) (E r)) (M * d * M)) → mX12_isTwoSided_L94 253 v1 v2 (al : Int) a b (r : Int) v10 (k : Int) x n (s : Int) τ = x τ') ∧ ((¬ ∀ s', s ≤ s' → s' < 4 → latS L G (vM a b (vM a b (E s') u) (E r)) (M * d * M)) → mX12_isTwoSided_L94 253 v1 v2 (al : Int) a b (r : Int) v10 (k : Int) x n (s : Int) τ = some (0, τ')) := by
  intro m
  induction m with
  | zero =>
    intro s n τ h1 h2 h3 h4 h5
    obtain ⟨n, rfl⟩ : ∃ z, n = z + 1 := ⟨n - 1, by omega⟩
    obtain rfl : s = 4 := by omega
    exact ⟨τ, h3, fun _ => by rw [mX12_isTwoSided_L94.eq_2, if_pos (by decide)], fun z => absurd (fun s' g1 g2 => by omega) z⟩
  | succ m ih =>
    intro s n τ h1 h2 h3 h4 h5
    obtain ⟨n, rfl⟩ : ∃ z, n = z + 1 := ⟨n - 1, by omega⟩
    have hs : s < 4 := by omega
    obtain ⟨τ1, e1, e2⟩ := stays_e h4 h5 hs hr
    obtain ⟨τ2, i1, i2, i3⟩ := ih (s + 1) n τ1 (by omega) (by omega) (h3.tr e2 (fun i j z => z)) (ilR_fr h4 e2) (elS_fr h5 (e2.mono (fun i j z => tW_jR z)))
    have st : mX12_isTwoSided_L94 253 v1 v2 (al : Int) a b (r : Int) v10 (k : Int) x (n + 1) (s : Int) τ = if wI (b2 (latS L G (vM a b (vM a b (E s) u) (E r)) (M * d * M))) = 0 then some (0, τ1) else mX12_isTwoSided_L94 253 v1 v2 (al : Int) a b (r : Int) v10 (k : Int) x n ((s + 1 : Nat) : Int) τ1 := by
      rw [mX12_isTwoSided_L94.eq_2, if_neg (by rw [wI_id (x := (s : Int)) (by omega)]; omega), e1, mCall_some, bnd_eq, show (s : Int) + 1 = ((s + 1 : Nat) : Int) by omega]
    rw [st]
    by_cases hq : latS L G (vM a b (vM a b (E s) u) (E r)) (M * d * M)
    · rw [b2_t hq, if_neg (by decide)]
      refine ⟨τ2, i1, fun z => i2 (fun s' g1 g2 => z s' (by omega) g2), fun z => i3 (fun y => z (fun s' g1 g2 => ?_))⟩
      by_cases e : s' = s
      · rw [e]; exact hq
      · exact y s' (by omega) g2
    · rw [b2_f hq, if_pos (by decide)]
      exact ⟨τ1, h3.tr e2 (fun i j z => z), fun z => absurd (z s (by omega) hs) hq, fun _ => rfl⟩

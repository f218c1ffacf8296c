theorem cX_stV {σ : mSt} {k : Nat} {a b : Int} {E : Nat → V4} {v : V4} (hX : cX σ k a b E) (hk : k < 8) : cX (stV σ (189 + 9 * k) v) k a b E := by
  obtain ⟨hL, h0, h1, h2⟩ := hX
  have k2 := (ord_lay hL hk).2.1
  exact ⟨hL.stV k2, by rw [stV_ne _ _ _ _ _ (by omega)]; exact h0, by rw [stV_ne _ _ _ _ _ (by omega)]; exact h1, fun r hr => by rw [rwC_stV _ _ _ _ (by omega) r hr]; exact h2 r hr⟩
theorem conL50 {σ : mSt} {k : Nat} {a b left q nn : Int} {E : Nat → V4} (hX : cX σ k a b E) (hk : k < 8) (hE : cE E) (ha : a < 0 ∧ -60 ≤ a) (hb : b < 0 ∧ -60 ≤ b) (hl : 0 ≤ left ∧ left ≤ 625000000) (hq : q = fsq left / vg 0 (E 0)) (hm2 : 0 ≤ fsq left ∧ fsq left ≤ 25000) : ∀ (n : Nat) (j acc : Int) (v : V4) (N : Nat), j + n = q + 1 → -q ≤ j → n < N → ∃ v', mX6_countOfNorm_L50 (181 + 9 * k) nn left q (fun z6 zσ => mX6_countOfNorm_B124 (181 + 9 * k) nn z6 zσ) N acc j (stV σ (189 + 9 * k) v) = some (acc + sR (fun j => cF1 E (-a) (-b) (a * b) (left - (j * vg 0 (E 0)) * (j * vg 0 (E 0))) (j * vg 1 (E 0)) (j * vg 2 (E 0)) (j * vg 3 (E 0))) j q, stV σ (189 + 9 * k) v') := by
  have d0 := tri_d hE.1 0 (by omega)
  have d00 := hE.2.2 0 (by omega)
  have e1 := hE.2.1 0 1 (by omega) (by omega)
  have e2 := hE.2.1 0 2 (by omega) (by omega)
  have e3 := hE.2.1 0 3 (by omega) (by omega)
  obtain ⟨k1, k2, k3, k4, k5, k6⟩ := ord_lay hX.1 hk
  have q0 : 0 ≤ q := by rw [hq]; exact Int.ediv_nonneg hm2.1 (by omega)
  have q1 : q ≤ 25000 := by rw [hq]; have := Int.ediv_le_self (vg 0 (E 0)) hm2.1; omega
  have qd : q * vg 0 (E 0) ≤ fsq left := by rw [hq]; exact Int.ediv_mul_le _ (by omega)
  intro n
  induction n with
  | zero =>
    intro j acc v N h4 h5 h6
    obtain ⟨N, rfl⟩ : ∃ q, N = q + 1 := ⟨N - 1, by omega⟩
    refine ⟨v, ?_⟩
    rw [mX6_countOfNorm_L50.eq_2, wL_id (x := q) (by omega), wL_id (x := j) (by omega), if_pos (by omega), sR_empty _ (by omega), Int.add_zero]
    rfl
  | succ n ih =>
    intro j acc v N h4 h5 h6
    obtain ⟨N, rfl⟩ : ∃ q, N = q + 1 := ⟨N - 1, by omega⟩
    have jv : -(fsq left) ≤ j * vg 0 (E 0) ∧ j * vg 0 (E 0) ≤ fsq left := by
      have a1 := Int.mul_le_mul_of_nonneg_right (show j ≤ q by omega) (show 0 ≤ vg 0 (E 0) by omega)
      have a2 := Int.mul_le_mul_of_nonneg_right h5 (show 0 ≤ vg 0 (E 0) by omega)
      rw [Int.neg_mul] at a2
      omega
    have lo := left_ok (by1 := 1) (left := left) (m := fsq left) (v := j * vg 0 (E 0)) (by omega) (by omega) (by rw [Int.ediv_one]) jv.1 jv.2
    rw [Int.one_mul] at lo
    have b1 := mul_rng (x := j) (y := vg 1 (E 0)) (A := 25000) (B := vg 1 (E 1)) (by omega) (by omega) (by omega)
    have b2 := mul_rng (x := j) (y := vg 2 (E 0)) (A := 25000) (B := vg 2 (E 2)) (by omega) (by omega) (by omega)
    have b3 := mul_rng (x := j) (y := vg 3 (E 0)) (A := 25000) (B := vg 3 (E 3)) (by omega) (by omega) (by omega)
    obtain ⟨v', hv'⟩ := ih (j + 1) (acc + cF1 E (-a) (-b) (a * b) (left - j * vg 0 (E 0) * (j * vg 0 (E 0))) (j * vg 1 (E 0)) (j * vg 2 (E 0)) (j * vg 3 (E 0))) (vS j (E 0)) N (by omega) (by omega) (by omega)
    refine ⟨v', ?_⟩
    have step : ∀ (c : Nat) (u : V4) (M : Nat), c < 4 → mX6_countOfNorm_L61 (181 + 9 * k) nn left acc q j (fun zσ => mX6_countOfNorm_B91 (181 + 9 * k) nn left q (mX6_countOfNorm_L50 (181 + 9 * k) nn left q (fun z6 zσ => mX6_countOfNorm_B124 (181 + 9 * k) nn z6 zσ) N) (fun z6 zσ => mX6_countOfNorm_B124 (181 + 9 * k) nn z6 zσ) acc j zσ) (M + 1) (c : Int) (stV σ (189 + 9 * k) u) = mX6_countOfNorm_L61 (181 + 9 * k) nn left acc q j (fun zσ => mX6_countOfNorm_B91 (181 + 9 * k) nn left q (mX6_countOfNorm_L50 (181 + 9 * k) nn left q (fun z6 zσ => mX6_countOfNorm_B124 (181 + 9 * k) nn z6 zσ) N) (fun z6 zσ => mX6_countOfNorm_B124 (181 + 9 * k) nn z6 zσ) acc j zσ) M ((c + 1 : Nat) : Int) (stV σ (189 + 9 * k) (vU u c (j * vg c (E 0)))) := by
      intro c u M hc
      obtain ⟨n1, n2, n3⟩ := num_e (cX_stV (v := u) hX hk) hk (r := 0) (c := c) (by omega) hc
      rw [mX6_countOfNorm_L61.eq_2, if_neg (by rw [wI_id (by omega)]; omega), gr' (r := 189 + 9 * k) (by rw [stV_ne _ _ _ _ _ (by omega)]; exact k6) (by omega), show mX6_numbersOf (181 + 9 * k) 0 (stV σ (189 + 9 * k) u) = some (((184 + 9 * k + 0 : Nat) : Int), stV σ (189 + 9 * k) u) from n1, mCall_some, Int.toNat_natCast, gx n2 _ (by omega), gx k2 _ (by omega), bnd_eq, bnd_eq, wI_nat (by omega), n3, stV_up _ _ _ _ hc]
      rfl
    obtain ⟨f, hf⟩ := mF5
    rw [mX6_countOfNorm_L50.eq_2, wL_id (x := q) (by omega), wL_id (x := j) (by omega), if_neg (by omega), hf, show (0 : Int) = ((0 : Nat) : Int) from rfl, step 0 _ _ (by omega), step 1 _ _ (by omega), step 2 _ _ (by omega), step 3 _ _ (by omega), mX6_countOfNorm_L61.eq_2, if_pos (by decide), show vU (vU (vU (vU v 0 (j * vg 0 (E 0))) 1 (j * vg 1 (E 0))) 2 (j * vg 2 (E 0))) 3 (j * vg 3 (E 0)) = vS j (E 0) from rfl]
    unfold mX6_countOfNorm_B91
    have pv : ∀ i, i < 4 → stV σ (189 + 9 * k) (vS j (E 0)) (189 + 9 * k) i = j * vg i (E 0) := fun i hi => by rw [vg_stV _ _ _ hi, vg_vS _ _ hi]
    have sc := secondN_c (ρ := stV σ (189 + 9 * k) (vS j (E 0))) (left := left - j * vg 0 (E 0) * (j * vg 0 (E 0))) (cX_stV hX hk) hk hE ha hb (by omega) (pv 1 (by omega)) (pv 2 (by omega)) (pv 3 (by omega)) (by omega) (by omega) (by omega)
    rw [gr' (r := 189 + 9 * k) (by rw [stV_ne _ _ _ _ _ (by omega)]; exact k6) (by omega), gx k2 _ (by omega), gr' (r := 189 + 9 * k) (by rw [stV_ne _ _ _ _ _ (by omega)]; exact k6) (by omega), gx k2 _ (by omega), pv 0 (by omega), sc, mCall_some, bnd_eq, bnd_eq, hv', sR_lo _ (show j ≤ q by omega)]
    rw [Int.add_assoc]
theorem countOfNorm_c {σ : mSt} {k : Nat} {a b M nn : Int} {E : Nat → V4} (hX : cX σ k a b E) (hk : k < 8) (hE : cE E) (ha : a < 0 ∧ -60 ≤ a) (hb : b < 0 ∧ -60 ≤ b) (hM : σ (182 + 9 * k) 2 = M) (hM2 : 0 < M ∧ M ≤ 7200) (hn : 0 ≤ nn ∧ nn ≤ 12) : ∃ v', mX6_countOfNorm (181 + 9 * k) nn σ = some (cF0 E (-a) (-b) (a * b) (nn * M * M), stV σ (189 + 9 * k) v') := by
  have d0 := tri_d hE.1 0 (by omega)
  have d00 := hE.2.2 0 (by omega)
  obtain ⟨k1, k2, k3, k4, k5, k6⟩ := ord_lay hX.1 hk
  obtain ⟨n1, n2, n3⟩ := num_e hX hk (r := 0) (c := 0) (by omega) (by omega)
  have r1 := mul_rng (x := nn) (y := M) (A := 12) (B := 7200) (by omega) (by omega) (by omega)
  have r2 := mul_rng (x := nn * M) (y := M) (A := 12 * 7200) (B := 7200) (by omega) (by omega) (by omega)
  have r0 : 0 ≤ nn * M * M := Int.mul_nonneg (Int.mul_nonneg hn.1 (by omega)) (by omega)
  obtain ⟨er, f0, f1, f2⟩ := root_f (σ := σ) (n := nn * M * M) (by omega)
  have rm := fsq_le (m := 25000) (n := nn * M * M) (by omega) (by omega) (by omega)
  have q0 : 0 ≤ fsq (nn * M * M) / vg 0 (E 0) := Int.ediv_nonneg f0 (by omega)
  have q1 : fsq (nn * M * M) / vg 0 (E 0) ≤ 25000 := by have := Int.ediv_le_self (vg 0 (E 0)) f0; omega
  obtain ⟨v', hv'⟩ := conL50 (nn := nn) (left := nn * M * M) hX hk hE ha hb (by omega) rfl ⟨f0, rm⟩ (2 * (fsq (nn * M * M) / vg 0 (E 0)) + 1).toNat (-(fsq (nn * M * M) / vg 0 (E 0))) 0 (rowV σ (189 + 9 * k)) mF (by omega) (by omega) (by unfold mF; omega)
  refine ⟨v', ?_⟩
  unfold mX6_countOfNorm
  rw [stV_self] at hv'
  rw [gc k1, below_e hX.1 hk, mCall_some, below_e hX.1 hk, mCall_some, hM, wI_id (by omega), bnd_eq, show mX6_numbersOf (181 + 9 * k) 0 σ = some (((184 + 9 * k + 0 : Nat) : Int), σ) from n1, mCall_some, Int.toNat_natCast, gx n2 _ (by omega), bnd_eq, n3, wL_id (by omega), if_pos d0, er, mCall_some, quot_e _ _ _ d0 (by omega) (by omega), mCall_some, bnd_eq, hv', Int.zero_add]
  unfold cF0 loK hiK
  rw [Int.add_zero, Int.sub_zero]
/-! how many: the reference -/
def cSt (τ : mSt) (T : V4) (F : Int) : mSt := upS (stV τ 274 T) 253 35 F
theorem cSt_ne (τ : mSt) (T : V4) (F : Int) (i j : Nat) (h1 : i ≠ 274) (h2 : ¬ (i = 253 ∧ j = 35)) : cSt τ T F i j = τ i j := by
  unfold cSt
  rw [upS_ne h2, stV_ne _ _ _ _ _ h1]
theorem cSt_t (τ : mSt) (T : V4) (F : Int) {i : Nat} (hi : i < 4) : cSt τ T F 274 i = vg i T := by
  unfold cSt
  rw [upS_ne (by omega), vg_stV _ _ _ hi]
theorem cSt_u (τ : mSt) (T : V4) (F : Int) {i : Nat} (u : Int) (hi : i < 4) : upS (cSt τ T F) 274 i u = cSt τ (vU T i u) F := by
  unfold cSt
  rw [← stV_up _ _ _ _ hi]
  funext a b
  simp only [upS]
  grind
theorem cSt_f (τ : mSt) (T : V4) (F G : Int) : upS (cSt τ T F) 253 35 G = cSt τ T G := by
  unfold cSt
  funext a b
  simp only [upS]
  grind
noncomputable def wsF (T : V4) (E : Nat → V4) (r i : Nat) : Int := sumN (fun j => vg j T * vg r (E j)) i
theorem ctL98 {τ : mSt} {al r : Nat} {left by1 d F : Int} {T : V4} {rec : Nat → Int → Int → Int → mSt → Option (Int × mSt)} {xx : Int → mSt → Option (Int × mSt)} (hL : Lay τ) (hal : al < 8) (hr : r < 4) : ∀ (m i N : Nat), i + m = r → m < N → mX12_counts_L98 rec 253 (al : Int) (r : Int) left by1 d xx N (wsF T (rowL τ al) r i) (i : Int) (cSt τ T F) = xx (wsF T (rowL τ al) r r) (cSt τ T F) := by
  have l := lay253 hL
  intro m
  induction m with
  | zero =>
    intro i N h1 h2
    obtain ⟨N, rfl⟩ : ∃ q, N = q + 1 := ⟨N - 1, by omega⟩
    rw [mX12_counts_L98.eq_2, if_pos (by rw [wI_id (by omega), wI_id (by omega)]; omega), show i = r by omega]
  | succ m ih =>
    intro i N h1 h2
    obtain ⟨N, rfl⟩ : ∃ q, N = q + 1 := ⟨N - 1, by omega⟩
    rw [mX12_counts_L98.eq_2, if_neg (by rw [wI_id (by omega), wI_id (by omega)]; omega), gr' (r := 274) (by rw [cSt_ne _ _ _ _ _ (by omega) (by omega)]; exact l.2.2.2.2.2.2.2.2.2.2.2.2.2.2.2.2.2.2.2.2) (by omega), gx274 _ (by omega), get_e (by rw [cSt_ne _ _ _ _ _ (by omega) (by omega)]; exact l.2.2.2.2.2.2.2.2.2.2.2.2.2.2.2.1) ⟨by omega, by omega, by omega, by omega, by omega⟩, mCall_some, Int.toNat_natCast, Int.toNat_natCast, cSt_ne _ _ _ 269 _ (by omega) (by omega), rowL_at τ al (show i < 4 by omega) hr, bnd_eq, bnd_eq, wI_nat (by omega), cSt_t _ _ _ (by omega), show (i : Int) + 1 = ((i + 1 : Nat) : Int) by omega]
    exact ih (i + 1) N (by omega) (by omega)
theorem ctL134 {τ : mSt} {al r : Nat} {left by1 d t : Int} {rec : Nat → Int → Int → Int → mSt → Option (Int × mSt)} {xx : Int → mSt → Option (Int × mSt)} (hl : 0 ≤ left ∧ left ≤ 625000000) (hb : 1 ≤ by1 ∧ by1 ≤ 3600) : ∀ (m : Nat) (x : Int) (N : Nat), 0 ≤ x → x + m = fsq (left / by1) → m < N → mX12_counts_L134 rec 253 (al : Int) (r : Int) left by1 d t xx N x τ = xx (fsq (left / by1)) τ := by
  have q0 : 0 ≤ left / by1 := Int.ediv_nonneg hl.1 (by omega)
  have q1 : left / by1 ≤ left := Int.ediv_le_self _ hl.1
  obtain ⟨f0, f1, f2⟩ := fsq_p (n := left / by1) (by omega)
  have rm := fsq_le (m := 25000) (n := left / by1) (by omega) (by omega) (by omega)
  have key : ∀ y : Int, 0 ≤ y → y ≤ 25001 → (left < by1 * y * y ↔ left / by1 < y * y) ∧ -9223372036854775808 ≤ by1 * y * y ∧ by1 * y * y < 9223372036854775808 := by
    intro y y0 y1
    have a1 := mul_rng (x := by1) (y := y) (A := 3600) (B := 25001) (by omega) (by omega) (by omega)
    have a2 := mul_rng (x := by1 * y) (y := y) (A := 3600 * 25001) (B := 25001) a1 (by omega) (by omega)
    refine ⟨?_, by omega, by omega⟩
    rw [Int.ediv_lt_iff_lt_mul (by omega), Int.mul_assoc, Int.mul_comm (y * y) by1]
  intro m
  induction m with
  | zero =>
    intro x N h1 h2 h3
    obtain ⟨N, rfl⟩ : ∃ q, N = q + 1 := ⟨N - 1, by omega⟩
    have e : x = fsq (left / by1) := by omega
    obtain ⟨k1, k2⟩ := key (x + 1) (by omega) (by omega)
    rw [mX12_counts_L134.eq_2, wL_id (x := left) (by omega), wL_id (x := by1 * (x + 1) * (x + 1)) k2, if_pos (k1.mpr (by rw [e]; exact f2)), e]
  | succ m ih =>
    intro x N h1 h2 h3
    obtain ⟨N, rfl⟩ : ∃ q, N = q + 1 := ⟨N - 1, by omega⟩
    obtain ⟨k1, k2⟩ := key (x + 1) (by omega) (by omega)
    rw [mX12_counts_L134.eq_2, wL_id (x := left) (by omega), wL_id (x := by1 * (x + 1) * (x + 1)) k2, if_neg (fun z => by
      have := k1.mp z
      have := sq_mono (show 0 ≤ x + 1 by omega) (show x + 1 ≤ fsq (left / by1) by omega)
      omega), bnd_eq]
    exact ih (x + 1) N (by omega) (by omega) (by omega)
theorem ctL176 {τ : mSt} {al r : Nat} {left by1 d t m : Int} {T : V4} {G : Int → Int} {rec : Nat → Int → Int → Int → mSt → Option (Int × mSt)} (hL : Lay τ) (hal : al < 8) (hr : r < 4) (hd : 0 < d ∧ d ≤ 7200) (hm : 0 ≤ m ∧ m ≤ 25000) (ht : -10000000000 ≤ t ∧ t ≤ 10000000000)
    (hrec : ∀ (j F : Int) (T' : V4), loK m t d ≤ j → j ≤ hiK m t d → (∀ i, i < r → vg i T' = vg i T) → vg r T' = j → ∃ T'', (∀ i, i < r + 1 → vg i T'' = vg i T') ∧ rec 253 (al : Int) ((r + 1 : Nat) : Int) (left - by1 * ((t + j * d) * (t + j * d))) (cSt τ T' F) = some (0, cSt τ T'' (F + G j))) :
    ∀ (n : Nat) (j F : Int) (T' : V4) (N : Nat), j + 1 = loK m t d + n → j ≤ hiK m t d → (∀ i, i < r → vg i T' = vg i T) → n < N → ∃ T'', (∀ i, i < r → vg i T'' = vg i T) ∧ mX12_counts_L176 rec 253 (al : Int) (r : Int) left by1 d t m (fun zσ => mX12_counts_B236 rec 253 (al : Int) (r : Int) left zσ) N j (cSt τ T' F) = some (0, cSt τ T'' (F + sR G (loK m t d) j)) := by
  have l := lay253 hL
  intro n
  induction n with
  | zero =>
    intro j F T' N h1 h2 h3 h4
    obtain ⟨N, rfl⟩ : ∃ q, N = q + 1 := ⟨N - 1, by omega⟩
    refine ⟨T', h3, ?_⟩
    have hv : ¬ -m ≤ t + j * d := fun z => by have := (loK_iff hd.1).mpr z; omega
    have hv2 := (loK_iff (m := m) (t := t) hd.1).mp (Int.le_refl (loK m t d))
    have hv3 : -m - d ≤ t + j * d := by
      rw [show loK m t d = j + 1 by omega, Int.add_mul] at hv2
      omega
    rw [mX12_counts_L176.eq_2, wL_id (x := t + j * d) (by omega), wL_id (x := -m) (by omega), if_pos (by omega), sR_empty _ (by omega), Int.add_zero]
    rfl
  | succ n ih =>
    intro j F T' N h1 h2 h3 h4
    obtain ⟨N, rfl⟩ : ∃ q, N = q + 1 := ⟨N - 1, by omega⟩
    have hv := (loK_iff (m := m) (t := t) (k := j) hd.1).mp (by omega)
    have hv2 := (hiK_iff (m := m) (t := t) (k := j) hd.1).mp h2
    obtain ⟨T1, g1, g2⟩ := hrec j F (vU T' r j) (by omega) h2 (fun i hi => by rw [vg_vU _ _ _ (by omega), if_neg (by omega)]; exact h3 i hi) (by rw [vg_vU _ _ _ hr, if_pos rfl])
    obtain ⟨T2, g3, g4⟩ := ih (j - 1) (F + G j) T1 N (by omega) (by omega) (fun i hi => by rw [g1 i (by omega), vg_vU _ _ _ (by omega), if_neg (by omega)]; exact h3 i hi) (by omega)
    refine ⟨T2, g3, ?_⟩
    have e1 : left - by1 * (t + j * d) * (t + j * d) = left - by1 * ((t + j * d) * (t + j * d)) := by rw [Int.mul_assoc]
    rw [mX12_counts_L176.eq_2, wL_id (x := t + j * d) (by omega), wL_id (x := -m) (by omega), if_neg (by omega), bnd_eq, gr' (r := 274) (by rw [cSt_ne _ _ _ _ _ (by omega) (by omega)]; exact l.2.2.2.2.2.2.2.2.2.2.2.2.2.2.2.2.2.2.2.2) (by omega), gx274 _ (by omega), bnd_eq, wI_nat (by omega), cSt_u _ _ _ _ hr, e1, show (r : Int) + 1 = ((r + 1 : Nat) : Int) by omega, g2, mCall_some, bnd_eq, g4, sR_hi _ (show loK m t d ≤ j by omega), Int.add_assoc, Int.add_comm (G j)]
theorem ctB81 {τ : mSt} {al r : Nat} {left by1 d t m F : Int} {T : V4} {G : Int → Int} {rec : Nat → Int → Int → Int → mSt → Option (Int × mSt)} (hL : Lay τ) (hal : al < 8) (hr : r < 4) (hde : d = vg r (rowL τ al r)) (hd : 0 < d ∧ d ≤ 7200) (hl : 0 ≤ left ∧ left ≤ 625000000) (hb : 1 ≤ by1 ∧ by1 ≤ 3600) (hme : m = fsq (left / by1)) (hte : t = wsF T (rowL τ al) r r) (ht : -10000000000 ≤ t ∧ t ≤ 10000000000)
    (hrec : ∀ (j F : Int) (T' : V4), loK m t d ≤ j → j ≤ hiK m t d → (∀ i, i < r → vg i T' = vg i T) → vg r T' = j → ∃ T'', (∀ i, i < r + 1 → vg i T'' = vg i T') ∧ rec 253 (al : Int) ((r + 1 : Nat) : Int) (left - by1 * ((t + j * d) * (t + j * d))) (cSt τ T' F) = some (0, cSt τ T'' (F + G j))) :
    ∃ T'', (∀ i, i < r → vg i T'' = vg i T) ∧ mX12_counts_B81 rec 253 (al : Int) (r : Int) left by1 (cSt τ T F) = some (0, cSt τ T'' (F + sR G (loK m t d) (hiK m t d))) := by
  have l := lay253 hL
  have q0 : 0 ≤ left / by1 := Int.ediv_nonneg hl.1 (by omega)
  have q1 : left / by1 ≤ left := Int.ediv_le_self _ hl.1
  obtain ⟨f0, f1, f2⟩ := fsq_p (n := left / by1) (by omega)
  have rm := fsq_le (m := 25000) (n := left / by1) (by omega) (by omega) (by omega)
  rw [← hme] at f0 f1 f2 rm
  have lh := lo_hi (t := t) hd.1 f0
  obtain ⟨n, hn⟩ : ∃ n : Nat, hiK m t d + 1 = loK m t d + n := ⟨(hiK m t d + 1 - loK m t d).toNat, by omega⟩
  have nb : n < mF := by
    unfold hiK loK at *
    have b1 := div_rng (a := m - t) (d := d) (A := 100000000000) (by omega) (by omega)
    have b2 := div_rng (a := m + t) (d := d) (A := 100000000000) (by omega) (by omega)
    unfold mF
    omega
  obtain ⟨T'', g1, g2⟩ := ctL176 hL hal hr hd ⟨f0, rm⟩ ht hrec n (hiK m t d) F T mF hn (Int.le_refl _) (fun i _ => rfl) nb
  refine ⟨T'', g1, ?_⟩
  unfold mX12_counts_B81
  rw [get_e (by rw [cSt_ne _ _ _ _ _ (by omega) (by omega)]; exact l.2.2.2.2.2.2.2.2.2.2.2.2.2.2.2.1) ⟨by omega, by omega, by omega, by omega, by omega⟩, mCall_some, Int.toNat_natCast, cSt_ne _ _ _ 269 _ (by omega) (by omega), rowL_at τ al hr hr, ← hde]
  have l98 := ctL98 (rec := rec) (left := left) (by1 := by1) (d := d) (F := F) (T := T) (xx := fun z9 zσ => mX12_counts_B131 rec 253 (al : Int) (r : Int) left by1 d z9 zσ) hL hal hr r 0 mF (by omega) (by unfold mF; omega)
  rw [show wsF T (rowL τ al) r 0 = 0 from rfl] at l98
  refine l98.trans ?_
  rw [← hte]
  unfold mX12_counts_B131
  have l134 := ctL134 (τ := cSt τ T F) (al := al) (r := r) (rec := rec) (d := d) (t := t) (xx := fun z11 zσ => mX12_counts_B160 rec 253 (al : Int) (r : Int) left by1 d t z11 zσ) hl hb m.toNat 0 mF (by omega) (by rw [← hme]; omega) (by unfold mF; omega)
  refine l134.trans ?_
  rw [← hme]
  unfold mX12_counts_B160
  rw [fdiv_e _ _ _ hd.1 (by omega) (by omega), mCall_some]
  exact g2

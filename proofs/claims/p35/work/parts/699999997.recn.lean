/-! the class side of recn -/
theorem hoL {y p : Int} {xx : Int → mSt → Option (Int × mSt)} {σ : mSt} (hp : 2 ≤ p ∧ p < 2147483648) : ∀ (f : Nat) (t x : Int) (n : Nat), x ≠ 0 → -2147483648 ≤ x → x < 2147483648 → x.natAbs < 2 ^ f → f < n → 0 ≤ t → t + f ≤ 60 → mX5_howOften_L18 p y xx n t x σ = xx (t + ordF f p x) σ := by
  intro f
  induction f with
  | zero =>
    intro t x n h0 h1 h2 h3 h4
    rw [Nat.pow_zero] at h3
    omega
  | succ f ih =>
    intro t x n h0 h1 h2 h3 h4 h5 h6
    obtain ⟨n, rfl⟩ : ∃ q, n = q + 1 := ⟨n - 1, by omega⟩
    have tr : -2147483648 ≤ x.tmod p ∧ x.tmod p < 2147483648 := by
      have h : (x.tmod p).natAbs ≤ x.natAbs := by rw [Int.natAbs_tmod]; exact Nat.mod_le _ _
      by_cases hx : 0 ≤ x
      · have := Int.tmod_nonneg p hx; omega
      · have h3 := Int.tmod_nonneg p (show 0 ≤ -x by omega)
        rw [Int.neg_tmod] at h3
        omega
    rw [mX5_howOften_L18.eq_2, if_neg (by rw [wI_id (x := t) (by omega)]; omega), wI_id (x := p) (by omega), wL_id (x := p) (by omega), wL_id (x := x) (by omega), mG_pos (by omega), wL_id (x := x.tmod p) (by omega)]
    show _ = xx (t + (if x % p = 0 then ordF f p (x / p) + 1 else 0)) σ
    by_cases hd : p ∣ x
    · obtain ⟨y, rfl⟩ := hd
      have e1 : p * y / p = y := Int.mul_ediv_cancel_left _ (by omega)
      have e2 : (p * y).tdiv p = y := Int.mul_tdiv_cancel_left _ (by omega)
      have y0 : y ≠ 0 := fun z => h0 (by rw [z, Int.mul_zero])
      have ya : 2 * y.natAbs ≤ (p * y).natAbs := by
        rw [Int.natAbs_mul]
        exact Nat.mul_le_mul_right _ (by omega)
      rw [if_pos (Int.tmod_eq_zero_of_dvd ⟨y, rfl⟩), bnd_eq, bnd_eq, if_pos (Int.emod_eq_zero_of_dvd ⟨y, rfl⟩), e1, e2, ih (t + 1) y n y0 (by omega) (by omega) (by rw [Nat.pow_succ] at h3; omega) (by omega) (by omega) (by omega)]
      rw [show t + 1 + ordF f p y = t + (ordF f p y + 1) by omega]
    · rw [if_neg (fun z => hd (Int.dvd_of_tmod_eq_zero z)), if_neg (fun z => hd (Int.dvd_of_emod_eq_zero z)), Int.add_zero]
theorem ho_e {v p : Int} {σ : mSt} (hp : 2 ≤ p ∧ p < 2147483648) (f : Nat) (h0 : v ≠ 0) (h1 : -2147483648 ≤ v ∧ v < 2147483648) (h2 : v.natAbs < 2 ^ f) (hf : f ≤ 60) : mX5_howOften p v σ = some (ordF f p v, σ) := by
  unfold mX5_howOften
  rw [if_neg (by rw [wI_id (x := p) (by omega)]; omega), if_neg (by rw [wL_id (x := v) (by omega)]; exact h0), hoL hp f 0 v mF h0 h1.1 h1.2 h2 (by unfold mF; omega) (by omega) (by omega), Int.zero_add]
  rfl
theorem smL {v p : Int} {σ : mSt} (hp : 1 ≤ p ∧ p < 1000) : ∀ (m : Nat) (x : Int) (n : Nat), 0 ≤ x → x + m = p → m < n → (∀ y, 0 ≤ y → y < x → y * y % p ≠ v % p) → mX5_isSquareModulo_L10 v p (v % p) (fun zσ => mX5_isSquareModulo_B42 v p zσ) n x σ = some (b2 (sqm v p), σ) := by
  intro m
  induction m with
  | zero =>
    intro x n h1 h2 h3 h4
    obtain ⟨n, rfl⟩ : ∃ q, n = q + 1 := ⟨n - 1, by omega⟩
    rw [mX5_isSquareModulo_L10.eq_2, wI_id (x := p) (by omega), if_pos (by rw [wL_id (x := p) (by omega), wL_id (x := x) (by omega)]; omega), b2_f (fun ⟨y, y1, y2, y3⟩ => h4 y y1 (by omega) y3)]
    rfl
  | succ m ih =>
    intro x n h1 h2 h3 h4
    obtain ⟨n, rfl⟩ : ∃ q, n = q + 1 := ⟨n - 1, by omega⟩
    have r := mul_rng (x := x) (y := x) (A := 1000) (B := 1000) (by omega) (by omega) (by omega)
    have xx0 : 0 ≤ x * x := Int.mul_nonneg (by omega) (by omega)
    have m1 : 0 ≤ x * x % p := Int.emod_nonneg _ (by omega)
    have m2 : x * x % p < p := Int.emod_lt_of_pos _ (by omega)
    have m3 : 0 ≤ v % p := Int.emod_nonneg _ (by omega)
    have m4 : v % p < p := Int.emod_lt_of_pos _ (by omega)
    rw [mX5_isSquareModulo_L10.eq_2, wI_id (x := p) (by omega), if_neg (by rw [wL_id (x := p) (by omega), wL_id (x := x) (by omega)]; omega), wL_id (x := p) (by omega), mG_pos (by omega), wL_id (x := x * x) (by omega), Int.tmod_eq_emod_of_nonneg xx0, wL_id (x := x * x % p) (by omega), wL_id (x := v % p) (by omega)]
    by_cases hx : x * x % p = v % p
    · rw [if_pos hx, b2_t ⟨x, h1, by omega, hx⟩]
    · rw [if_neg hx, bnd_eq]
      exact ih (x + 1) n (by omega) (by omega) (by omega) (fun y y1 y2 => by
        by_cases hy : y = x
        · rw [hy]; exact hx
        · exact h4 y y1 (by omega))
theorem sm_e {v p : Int} {σ : mSt} (hp : 1 ≤ p ∧ p < 1000) (hv : -1000 ≤ v ∧ v ≤ 1000) : mX5_isSquareModulo v p σ = some (b2 (sqm v p), σ) := by
  unfold mX5_isSquareModulo
  rw [wI_id (x := p) (by omega), rest_e _ _ _ (by omega) (by omega) (by omega), mCall_some]
  exact smL hp p.toNat 0 mF (by omega) (by omega) (by unfold mF; omega) (fun y y1 y2 => by omega)
theorem par8 {a b oa ob : Int} (ha : ¬ (2 : Int) ∣ a) (hb : ¬ (2 : Int) ∣ b) (ra : -60 ≤ a ∧ a ≤ 60) (rb : -60 ≤ b ∧ b ≤ 60) (h1 : 0 ≤ oa ∧ oa ≤ 1) (h2 : 0 ≤ ob ∧ ob ≤ 1) : ∃ X : Int, ((a - 1).tdiv 2 * (b - 1).tdiv 2 + oa * (b * b - 1).tdiv 8) + ob * (a * a - 1).tdiv 8 = X ∧ X = (a - 1) / 2 * ((b - 1) / 2) + oa * ((b * b - 1) / 8) + ob * ((a * a - 1) / 8) ∧ -3000 ≤ X ∧ X ≤ 3000 := by
  have r1 := mul_rng (x := a) (y := a) (A := 60) (B := 60) ra ra (by omega)
  have r2 := mul_rng (x := b) (y := b) (A := 60) (B := 60) rb rb (by omega)
  have a0 : 0 ≤ a * a := by
    rcases Int.le_total 0 a with h | h
    · exact Int.mul_nonneg h h
    · exact Int.mul_nonneg_of_nonpos_of_nonpos h h
  have b0 : 0 ≤ b * b := by
    rcases Int.le_total 0 b with h | h
    · exact Int.mul_nonneg h h
    · exact Int.mul_nonneg_of_nonpos_of_nonpos h h
  have r3 := mul_rng (x := (a - 1) / 2) (y := (b - 1) / 2) (A := 31) (B := 31) (by omega) (by omega) (by omega)
  have r4 := mul_rng (x := oa) (y := (b * b - 1) / 8) (A := 1) (B := 450) (by omega) (by omega) (by omega)
  have r5 := mul_rng (x := ob) (y := (a * a - 1) / 8) (A := 1) (B := 450) (by omega) (by omega) (by omega)
  refine ⟨_, rfl, ?_, ?_⟩
  · rw [Int.tdiv_eq_ediv_of_dvd (show (2 : Int) ∣ a - 1 by omega), Int.tdiv_eq_ediv_of_dvd (show (2 : Int) ∣ b - 1 by omega), Int.tdiv_eq_ediv_of_dvd (sq8 ha), Int.tdiv_eq_ediv_of_dvd (sq8 hb)]
  · rw [Int.tdiv_eq_ediv_of_dvd (show (2 : Int) ∣ a - 1 by omega), Int.tdiv_eq_ediv_of_dvd (show (2 : Int) ∣ b - 1 by omega), Int.tdiv_eq_ediv_of_dvd (sq8 ha), Int.tdiv_eq_ediv_of_dvd (sq8 hb)]
    omega
theorem ram_e {a b p : Int} {σ : mSt} (ha : a ≠ 0 ∧ -60 ≤ a ∧ a ≤ 60 ∧ sqf a) (hb : b ≠ 0 ∧ -60 ≤ b ∧ b ≤ 60 ∧ sqf b) (hp : place p) : ∃ r : Int, mX7_isRamified 101 a b p σ = some (r, σ) ∧ (r = 0 ∨ r = 1) ∧ locQ a b p = 3 * r := by
  obtain ⟨a0, a1, a2, a3⟩ := ha
  obtain ⟨b0, b1, b2', b3⟩ := hb
  have wa : wI a = a := wI_id (x := a) (by omega)
  have wb : wI b = b := wI_id (x := b) (by omega)
  rcases hp with rfl | ⟨hp, hp1⟩
  · unfold mX7_isRamified mX7_isRamified_B16 locQ
    rw [gc101, if_pos (by decide), if_pos rfl, wa, wb]
    by_cases h1 : 0 ≤ a
    · rw [if_pos h1, if_neg (by omega)]
      exact ⟨0, rfl, Or.inl rfl, rfl⟩
    · rw [if_neg h1]
      by_cases h2 : 0 ≤ b
      · rw [if_pos h2, if_neg (by omega)]
        exact ⟨0, rfl, Or.inl rfl, rfl⟩
      · rw [if_neg h2, if_pos (by omega)]
        exact ⟨1, rfl, Or.inr rfl, rfl⟩
  · have hp2 := hp.1
    have wp : wI p = p := wI_id (x := p) (by omega)
    obtain ⟨oa, -⟩ := ord_sqf a0 ⟨a1, a2⟩ a3 hp2 4
    obtain ⟨ob, -⟩ := ord_sqf b0 ⟨b1, b2'⟩ b3 hp2 4
    obtain ⟨ua1, ua2, ua3⟩ := su_rng a0 ⟨a1, a2⟩ a3 hp2
    obtain ⟨ub1, ub2, ub3⟩ := su_rng b0 ⟨b1, b2'⟩ b3 hp2
    -- down to the sides without p
    have down : ∀ o, mX7_isRamified_B72 101 a b p (if p ∣ a then 1 else 0) (if p ∣ b then 1 else 0) (su a p) (su b p) σ = o → mX7_isRamified 101 a b p σ = o := fun o z => by
      unfold mX7_isRamified
      rw [gc101, if_neg (by rw [wp]; omega), wa, ho_e ⟨hp2, by omega⟩ 6 a0 (by omega) (by omega) (by omega), mCall_some, wb, ho_e ⟨hp2, by omega⟩ 6 b0 (by omega) (by omega) (by omega), mCall_some, oa, ob]
      have e2 : ∀ t0, t0 = su a p → mX7_isRamified_B52 101 a b p (if p ∣ a then 1 else 0) (if p ∣ b then 1 else 0) t0 σ = o := fun t0 ht => by
        unfold mX7_isRamified_B52
        rw [wb, wp, ht]
        by_cases hB : p ∣ b
        · rw [if_pos hB, if_pos (by decide), quot_e _ _ _ (by omega) (by omega) (by omega), mCall_some]
          unfold su at z
          rw [if_pos hB, if_pos hB] at z
          unfold su
          exact z
        · rw [if_neg hB, if_neg (by decide)]
          unfold su at z
          rw [if_neg hB, if_neg hB] at z
          unfold su
          exact z
      by_cases hA : p ∣ a
      · rw [if_pos (by rw [if_pos hA]; decide), wp, quot_e _ _ _ (by omega) (by omega) (by omega), mCall_some]
        exact e2 _ (by unfold su; rw [if_pos hA])
      · rw [if_neg (by rw [if_neg hA]; decide)]
        exact e2 _ (by unfold su; rw [if_neg hA])
    by_cases h2 : p = 2
    · subst h2
      have q : ∀ P : Prop, ∀ [Decidable P], (0 : Int) ≤ (if P then 1 else 0) ∧ (if P then (1 : Int) else 0) ≤ 1 := fun P _ => by split <;> omega
      have qa := q (2 ∣ a)
      have qb := q (2 ∣ b)
      have r1 := mul_rng (x := su a 2) (y := su a 2) (A := 60) (B := 60) ⟨ua1, ua2⟩ ⟨ua1, ua2⟩ (by omega)
      have r2 := mul_rng (x := su b 2) (y := su b 2) (A := 60) (B := 60) ⟨ub1, ub2⟩ ⟨ub1, ub2⟩ (by omega)
      obtain ⟨X, x1, x2, x3, x4⟩ := par8 ua3 ub3 ⟨ua1, ua2⟩ ⟨ub1, ub2⟩ qa qb
      have eq : locQ a b 2 = 3 * (X % 2) := by
        unfold locQ
        rw [if_neg (by decide), if_pos rfl, x2]
        rfl
      have run : mX7_isRamified 101 a b 2 σ = some (X % 2, σ) := down _ (by
        unfold mX7_isRamified_B72
        have wA : ∀ P : Prop, ∀ [Decidable P], wI (if P then (1 : Int) else 0) = (if P then 1 else 0) := fun P _ => by split <;> rfl
        rw [if_pos (by decide), mG_pos (by decide), mG_pos (by decide), wL_id (x := su a 2 - 1) (by omega), wL_id (x := su b 2 - 1) (by omega), wL_id (x := su b 2 * su b 2 - 1) (by omega), wL_id (x := su a 2 * su a 2 - 1) (by omega), show wL 2 = 2 by decide, show wL 8 = 8 by decide, wA, wA, x1, bnd_eq, wL_id (x := X) (by omega)]
        have tm : (X.tmod 2 = 0) ↔ X % 2 = 0 := ⟨fun z => Int.emod_eq_zero_of_dvd (Int.dvd_of_tmod_eq_zero z), fun z => Int.tmod_eq_zero_of_dvd (Int.dvd_of_emod_eq_zero z)⟩
        have tr : wL (X.tmod 2) = X.tmod 2 := wL_id (by
          have h : (X.tmod 2).natAbs ≤ X.natAbs := by rw [Int.natAbs_tmod]; exact Nat.mod_le _ _
          omega)
        rw [tr]
        by_cases z : X % 2 = 0
        · rw [if_pos (tm.mpr z), z]
        · rw [if_neg (fun y => z (tm.mp y)), show X % 2 = 1 by omega])
      exact ⟨X % 2, run, by omega, eq⟩
    · have hp3 : 2 < p := by omega
      have pod : ¬ 2 ∣ p := by
        rintro ⟨w, hw⟩
        by_cases h4 : 4 ≤ p
        · exact hp.2 2 (by omega) (by omega) (by rw [hw]; omega)
        · omega
      have la := sm_e (σ := σ) (p := p) (v := su a p) ⟨by omega, hp1⟩ (by omega)
      have lb := sm_e (σ := σ) (p := p) (v := su b p) ⟨by omega, hp1⟩ (by omega)
      have c0 : wI ((wI ((wI (p - 1)).tdiv (wI 2))).tmod (wI 2)) = (p - 1) / 2 % 2 := by
        rw [wI_id (x := p - 1) (by omega), show wI 2 = 2 from rfl, Int.tdiv_eq_ediv_of_dvd (by omega), wI_id (x := (p - 1) / 2) (by omega), Int.tmod_eq_emod_of_nonneg (by omega), wI_id (x := (p - 1) / 2 % 2) (by omega)]
      have mid : ∀ t : Int, (t = 0 ∨ t = 1) → ∃ r : Int, mX7_isRamified_B175 101 a b p (if p ∣ a then 1 else 0) (if p ∣ b then 1 else 0) (su a p) (su b p) t σ = some (r, σ) ∧ (r = 0 ∨ r = 1) ∧ r = (t + b2 (p ∣ b ∧ ¬ sqm (su a p) p) + b2 (p ∣ a ∧ ¬ sqm (su b p) p)) % 2 := fun t ht => by
        have fin : ∀ u : Int, (u = 0 ∨ u = 1) → ∃ r : Int, mX7_isRamified_B204 101 a b p (if p ∣ a then 1 else 0) (su b p) u σ = some (r, σ) ∧ (r = 0 ∨ r = 1) ∧ r = (u + b2 (p ∣ a ∧ ¬ sqm (su b p) p)) % 2 := fun u hu => by
          unfold mX7_isRamified_B204 mX7_isRamified_B229
          by_cases hA : p ∣ a
          · rw [if_pos hA, if_pos (by decide), lb, mCall_some, wI_b2]
            by_cases hs : sqm (su b p) p
            · refine ⟨u, ?_, hu, ?_⟩
              · rw [b2_t hs, if_neg (by decide), mG_pos hu]
              · rw [b2_f (p := p ∣ a ∧ ¬ sqm (su b p) p) (fun z => z.2 hs)]; omega
            · refine ⟨1 - u, ?_, by omega, ?_⟩
              · rw [b2_f hs, if_pos rfl]
                rcases hu with rfl | rfl
                · rw [if_pos (by decide), mG_pos (by decide)]; rfl
                · rw [if_neg (by decide), mG_pos (by decide)]; rfl
              · rw [b2_t (p := p ∣ a ∧ ¬ sqm (su b p) p) ⟨hA, hs⟩]; omega
          · refine ⟨u, ?_, hu, ?_⟩
            · rw [if_neg hA, if_neg (by decide), mG_pos hu]
            · rw [b2_f (p := p ∣ a ∧ ¬ sqm (su b p) p) (fun z => hA z.1)]; omega
        unfold mX7_isRamified_B175 mX7_isRamified_B202
        by_cases hB : p ∣ b
        · rw [if_pos (by rw [if_pos hB]; decide), la, mCall_some, wI_b2]
          by_cases hs : sqm (su a p) p
          · obtain ⟨r, e1, e2, e3⟩ := fin t ht
            refine ⟨r, ?_, e2, ?_⟩
            · rw [b2_t hs, if_neg (by decide)]; exact e1
            · rw [b2_f (p := p ∣ b ∧ ¬ sqm (su a p) p) (fun z => z.2 hs)]; omega
          · obtain ⟨r, e1, e2, e3⟩ := fin (1 - t) (by omega)
            refine ⟨r, ?_, e2, ?_⟩
            · rw [b2_f hs, if_pos rfl]
              rcases ht with rfl | rfl
              · rw [if_pos (by decide)]; exact e1
              · rw [if_neg (by decide)]; exact e1
            · rw [b2_t (p := p ∣ b ∧ ¬ sqm (su a p) p) ⟨hB, hs⟩]; omega
        · obtain ⟨r, e1, e2, e3⟩ := fin t ht
          refine ⟨r, ?_, e2, ?_⟩
          · rw [if_neg (by rw [if_neg hB]; decide)]; exact e1
          · rw [b2_f (p := p ∣ b ∧ ¬ sqm (su a p) p) (fun z => hB z.1)]; omega
      have eq : locQ a b p = 3 * ((b2 (p ∣ a ∧ p ∣ b ∧ (p - 1) / 2 % 2 = 1) + b2 (p ∣ b ∧ ¬ sqm (su a p) p) + b2 (p ∣ a ∧ ¬ sqm (su b p) p)) % 2) := by
        unfold locQ
        rw [if_neg (by omega), if_neg h2]
        rfl
      have go : ∀ t, (t = 0 ∨ t = 1) → t = b2 (p ∣ a ∧ p ∣ b ∧ (p - 1) / 2 % 2 = 1) → mX7_isRamified_B72 101 a b p (if p ∣ a then 1 else 0) (if p ∣ b then 1 else 0) (su a p) (su b p) σ = mX7_isRamified_B175 101 a b p (if p ∣ a then 1 else 0) (if p ∣ b then 1 else 0) (su a p) (su b p) t σ → ∃ r : Int, mX7_isRamified 101 a b p σ = some (r, σ) ∧ (r = 0 ∨ r = 1) ∧ locQ a b p = 3 * r := fun t ht h1 h2 => by
        obtain ⟨r, e1, e2, e3⟩ := mid t ht
        exact ⟨r, down _ (h2.trans e1), e2, by rw [eq, e3, h1]⟩
      by_cases hA : p ∣ a
      · by_cases hB : p ∣ b
        · by_cases hc : (p - 1) / 2 % 2 = 1
          · refine go 1 (Or.inr rfl) (b2_t ⟨hA, hB, hc⟩).symm ?_
            unfold mX7_isRamified_B72
            rw [if_neg (by rw [wp]; exact h2), if_pos (by rw [if_pos hA]; decide), if_pos (by rw [if_pos hB]; decide), mG_pos (by decide), if_pos (by rw [c0]; exact hc)]
          · refine go 0 (Or.inl rfl) (b2_f (fun z => hc z.2.2)).symm ?_
            unfold mX7_isRamified_B72 mX7_isRamified_B174
            rw [if_neg (by rw [wp]; exact h2), if_pos (by rw [if_pos hA]; decide), if_pos (by rw [if_pos hB]; decide), mG_pos (by decide), if_neg (by rw [c0]; exact hc)]
        · refine go 0 (Or.inl rfl) (b2_f (fun z => hB z.2.1)).symm ?_
          unfold mX7_isRamified_B72 mX7_isRamified_B174
          rw [if_neg (by rw [wp]; exact h2), if_pos (by rw [if_pos hA]; decide), if_neg (by rw [if_neg hB]; decide)]
      · refine go 0 (Or.inl rfl) (b2_f (fun z => hA z.1)).symm ?_
        unfold mX7_isRamified_B72 mX7_isRamified_B174
        rw [if_neg (by rw [wp]; exact h2), if_neg (by rw [if_neg hA]; decide)]
def pwF (q g x : Int) : Nat → Int → Int → Int
  | 0, _, _ => 0
  | f + 1, k, v => if q ≤ k then 0 else if v * g % q = x then k else pwF q g x f (k + 1) (v * g % q)
theorem pwF_rng (q g x : Int) : ∀ (f : Nat) (k v : Int), 0 ≤ k → 0 ≤ q → 0 ≤ pwF q g x f k v ∧ pwF q g x f k v ≤ q := by
  intro f
  induction f with
  | zero => intro k v _ h; exact ⟨Int.le_refl _, h⟩
  | succ f ih =>
    intro k v h1 h2
    have := ih (k + 1) (v * g % q) (by omega) h2
    show 0 ≤ (if q ≤ k then 0 else if v * g % q = x then k else pwF q g x f (k + 1) (v * g % q)) ∧ (if q ≤ k then 0 else if v * g % q = x then k else pwF q g x f (k + 1) (v * g % q)) ≤ q
    split
    · omega
    · split
      · omega
      · exact this
theorem pwL {p q g : Int} {σ : mSt} (hq : 2 ≤ q ∧ q ≤ 50) (hg : 0 ≤ g ∧ g < q) (hp : 0 ≤ p ∧ p < 1000) : ∀ (f : Nat) (k v : Int) (n : Nat), 0 ≤ v → v < q → 0 ≤ k → k ≤ q → q < k + f → f ≤ n → mX7_powerThatIs_L6 101 p g q (fun zσ => mX7_powerThatIs_B41 101 p g q zσ) n v k σ = some (pwF q g (p % q) f k v, σ) := by
  intro f
  induction f with
  | zero => intro k v n h1 h2 h3 h4 h5; omega
  | succ f ih =>
    intro k v n h1 h2 h3 h4 h5 h6
    obtain ⟨n, rfl⟩ : ∃ q, n = q + 1 := ⟨n - 1, by omega⟩
    have m1 : 0 ≤ p % q := Int.emod_nonneg _ (by omega)
    have m2 : p % q < q := Int.emod_lt_of_pos _ (by omega)
    have r := mul_rng (x := v) (y := g) (A := 50) (B := 50) (by omega) (by omega) (by omega)
    have r0 : 0 ≤ v * g := Int.mul_nonneg h1 hg.1
    have n1 : 0 ≤ v * g % q := Int.emod_nonneg _ (by omega)
    have n2 : v * g % q < q := Int.emod_lt_of_pos _ (by omega)
    rw [mX7_powerThatIs_L6.eq_2, wI_id (x := q) (by omega), wI_id (x := k) (by omega), wL_id (x := q) (by omega), wI_id (x := g) (by omega)]
    show _ = some ((if q ≤ k then 0 else if v * g % q = p % q then k else pwF q g (p % q) f (k + 1) (v * g % q)), σ)
    by_cases hk : q ≤ k
    · rw [if_pos hk, if_pos hk]
      rfl
    · rw [if_neg hk, if_neg hk, mG_pos (by omega), wL_id (x := v * g) (by omega), Int.tmod_eq_emod_of_nonneg r0, bnd_eq, mG_pos (by omega), wI_id (x := p) (by omega), Int.tmod_eq_emod_of_nonneg hp.1, wI_id (x := p % q) (by omega), wL_id (x := p % q) (by omega), wL_id (x := v * g % q) (by omega)]
      by_cases hv : v * g % q = p % q
      · rw [if_pos hv, if_pos hv]
      · rw [if_neg hv, if_neg hv, bnd_eq]
        exact ih (k + 1) (v * g % q) n n1 n2 (by omega) (by omega) (by omega) (by omega)
theorem pw_e {p q g : Int} {σ : mSt} (hq : 2 ≤ q ∧ q ≤ 50) (hg : 0 ≤ g ∧ g < q) (hp : 0 ≤ p ∧ p < 1000) : mX7_powerThatIs 101 p g q σ = some (pwF q g (p % q) 60 1 1, σ) := by
  unfold mX7_powerThatIs
  rw [gc101, pwL hq hg hp 60 1 1 mF (by omega) (by omega) (by omega) (by omega) (by omega) (by unfold mF; omega)]
theorem pw_t : ∀ q ∈ qs, (if pwF q 2 1 60 1 1 = q - 1 then genQ q = 2 else pwF q 3 1 60 1 1 = q - 1 ∧ genQ q = 3) ∧ ∀ x : Fin 43, 1 ≤ (x.val : Int) → (x.val : Int) < q → pwF q (genQ q) (x.val : Int) 60 1 1 % 3 = dlgF q (genQ q) (x.val : Int) 44 0 1 % 3 := by decide +kernel
theorem leastG_e {q : Int} {σ : mSt} (hq : q ∈ qs) : mX7_leastGenerator 101 q σ = some (genQ q, σ) := by
  obtain ⟨⟨h1, h2⟩, -, -⟩ := gen_t q hq
  obtain ⟨h4, -⟩ := pw_t q hq
  obtain ⟨f, hf⟩ := mF5
  have wq : wI q = q := wI_id (x := q) (by omega)
  have one : (1 : Int) % q = 1 := Int.emod_eq_of_lt (by omega) (by omega)
  have c2 := pw_e (σ := σ) (p := 1) (q := q) (g := 2) (by omega) (by omega) (by omega)
  have c3 := pw_e (σ := σ) (p := 1) (q := q) (g := 3) (by omega) (by omega) (by omega)
  have r2 := pwF_rng q 2 1 60 1 1 (by omega) (by omega)
  have r3 := pwF_rng q 3 1 60 1 1 (by omega) (by omega)
  rw [one] at c2 c3
  unfold mX7_leastGenerator
  rw [gc101, hf, mX7_leastGenerator_L2.eq_2, wq, if_neg (by rw [show wI 2 = 2 by decide]; omega), c2, mCall_some, wI_id (x := q - 1) (by omega), wI_id (x := pwF q 2 1 60 1 1) (by omega)]
  by_cases hc : pwF q 2 1 60 1 1 = q - 1
  · rw [if_pos hc] at h4
    rw [if_pos hc, h4]
  · rw [if_neg hc] at h4
    rw [if_neg hc, bnd_eq, show (2 : Int) + 1 = 3 from rfl, mX7_leastGenerator_L2.eq_2, wq, if_neg (by rw [show wI 3 = 3 by decide]; omega), c3, mCall_some, wI_id (x := q - 1) (by omega), wI_id (x := pwF q 3 1 60 1 1) (by omega), if_pos h4.1, h4.2]
theorem pw_mod {p q : Int} (hq : q ∈ qs) (hp : prm p) (hne : p ≠ q) (t : Int) : t * pwF q (genQ q) (p % q) 60 1 1 % 3 = t * dlg q p % 3 := by
  obtain ⟨⟨h1, h2⟩, -, -⟩ := gen_t q hq
  have md := prm_mod hp (show 2 ≤ q by omega) hne
  have tr := (pw_t q hq).2 ⟨(p % q).toNat, by omega⟩ (by show 1 ≤ (((p % q).toNat : Nat) : Int); omega) (by show (((p % q).toNat : Nat) : Int) < q; omega)
  rw [show ((⟨(p % q).toNat, by omega⟩ : Fin 43).val : Int) = p % q by show (((p % q).toNat : Nat) : Int) = p % q; omega] at tr
  unfold dlg
  rw [Int.mul_emod, tr, ← Int.mul_emod]

/-! the class side of solve -/
theorem shr1 {x : Int} (h : -9223372036854775808 ≤ x ∧ x < 9223372036854775808) : oShrL x 1 = x / 2 := by
  unfold oShrL
  rw [show ((Int32.ofInt 1).toInt64 &&& 63 : Int64) = 1 by decide, ← Int64.toInt_toBitVec, Int64.toBitVec_shiftRight, BitVec.sshiftRight_eq', BitVec.toInt_sshiftRight]
  rw [show (Int64.ofInt x).toBitVec.toInt = x from wL_id h]
  rw [Int.shiftRight_eq_div_pow]
  rfl
theorem rtL7 {n : Int} {σ : mSt} {xx : Int → mSt → Option (Int × mSt)} (hn : -1000000000000000000 ≤ n ∧ n < 1152921504606846976) : ∀ (b : Nat) (f : Int) (N : Nat), b ≤ 29 → 0 ≤ f → f + 2 * 2 ^ b ≤ 1073741824 → (0 ≤ n → f * f ≤ n ∧ n < (f + 2 * 2 ^ b) * (f + 2 * 2 ^ b)) → (n < 0 → f = 0) → b + 1 < N → ∃ r, mX5_root_L7 n xx N f (2 ^ b : Nat) σ = xx r σ ∧ 0 ≤ r ∧ (0 ≤ n → r * r ≤ n ∧ n < (r + 1) * (r + 1)) ∧ (n < 0 → r = 0) := by
  intro b
  induction b with
  | zero =>
    intro f N h1 h2 h3 h4 h5 h6
    obtain ⟨N, rfl⟩ : ∃ q, N = q + 1 + 1 := ⟨N - 2, by omega⟩
    have hs := mul_rng (x := f + 1) (y := f + 1) (A := 1073741824) (B := 1073741824) (by omega) (by omega) (by omega)
    have hs0 : 0 ≤ (f + 1) * (f + 1) := Int.mul_nonneg (by omega) (by omega)
    rw [mX5_root_L7.eq_2, if_neg (by rw [wL_id (by decide)]; decide), bnd_eq, show f + ((2 ^ 0 : Nat) : Int) = f + 1 from rfl, wL_id (x := n) (by omega), wL_id (x := (f + 1) * (f + 1)) (by omega)]
    have e0 : oShrL ((2 ^ 0 : Nat) : Int) 1 = 0 := by rw [shr1 (by decide)]; decide
    by_cases hc : n < (f + 1) * (f + 1)
    · rw [if_pos hc, bnd_eq, e0, mX5_root_L7.eq_2, if_pos (by decide)]
      exact ⟨f, rfl, h2, fun h => ⟨(h4 h).1, hc⟩, h5⟩
    · rw [if_neg hc, bnd_eq, e0, mX5_root_L7.eq_2, if_pos (by decide)]
      refine ⟨f + 1, rfl, by omega, fun h => ⟨by omega, ?_⟩, fun h => by omega⟩
      have := (h4 h).2
      rw [show f + 2 * 2 ^ 0 = f + 1 + 1 by omega] at this
      exact this
  | succ b ih =>
    intro f N h1 h2 h3 h4 h5 h6
    obtain ⟨N, rfl⟩ : ∃ q, N = q + 1 := ⟨N - 1, by omega⟩
    obtain ⟨B, hB⟩ : ∃ B : Int, B = 2 ^ b := ⟨_, rfl⟩
    have hB1 : 1 ≤ B := by
      have := Int.pow_pos (m := b) (show (0 : Int) < 2 by decide)
      rw [hB]
      omega
    have eB : ((2 ^ (b + 1) : Nat) : Int) = 2 * B := by rw [hB, Nat.pow_succ]; push_cast; omega
    have eB2 : (2 : Int) ^ (b + 1) = 2 * B := by rw [hB, Int.pow_succ]; omega
    have eBn : ((2 ^ b : Nat) : Int) = B := by rw [hB]; push_cast; rfl
    rw [eB2] at h3 h4
    have hs := mul_rng (x := f + 2 * B) (y := f + 2 * B) (A := 1073741824) (B := 1073741824) (by omega) (by omega) (by omega)
    have hs0 : 0 ≤ (f + 2 * B) * (f + 2 * B) := Int.mul_nonneg (by omega) (by omega)
    have e0 : oShrL ((2 ^ (b + 1) : Nat) : Int) 1 = ((2 ^ b : Nat) : Int) := by rw [eB, eBn, shr1 (by omega)]; omega
    rw [mX5_root_L7.eq_2, if_neg (by rw [eB, wL_id (by omega)]; omega), bnd_eq, e0, eB, wL_id (x := n) (by omega), wL_id (x := (f + 2 * B) * (f + 2 * B)) (by omega)]
    by_cases hc : n < (f + 2 * B) * (f + 2 * B)
    · rw [if_pos hc, bnd_eq]
      exact ih f N (by omega) h2 (by rw [← hB]; omega) (fun h => ⟨(h4 h).1, by rw [← hB]; exact hc⟩) h5 (by omega)
    · rw [if_neg hc, bnd_eq]
      refine ih (f + 2 * B) N (by omega) (by omega) (by rw [← hB]; omega) (fun h => ⟨by omega, ?_⟩) (fun h => by omega) (by omega)
      rw [← hB]
      have := (h4 h).2
      rw [show f + 2 * (2 * B) = f + 2 * B + 2 * B by omega] at this
      exact this
theorem root_e {n : Int} {σ : mSt} (hn : -1000000000000000000 ≤ n ∧ n < 1152921504606846976) : ∃ r, mX5_root n σ = some (r, σ) ∧ 0 ≤ r ∧ (0 ≤ n → r * r ≤ n ∧ n < (r + 1) * (r + 1)) ∧ (n < 0 → r = 0) := by
  unfold mX5_root
  exact rtL7 hn 29 0 mF (by omega) (by omega) (by decide) (fun h => ⟨by omega, by exact hn.2⟩) (fun _ => rfl) (by unfold mF; omega)
theorem sq_lt {a b : Int} (h0 : 0 ≤ a) (h : a < b) : a * a < b * b := by
  have := sq_mono (show 0 ≤ a + 1 by omega) (show a + 1 ≤ b by omega)
  have e : (a + 1) * (a + 1) = a * a + 2 * a + 1 := by grind
  omega
theorem sq_inj {r t : Int} (hr : 0 ≤ r) (ht : 0 ≤ t) (h : r * r = t * t) : r = t := by
  rcases Int.lt_trichotomy r t with h1 | h1 | h1
  · have := sq_lt hr h1
    omega
  · exact h1
  · have := sq_lt ht h1
    omega
noncomputable def isq (n : Int) : Int := @dite Int (∃ r : Int, 0 ≤ r ∧ r * r = n) (Classical.propDecidable _) (fun h => Classical.choose h) (fun _ => -1)
theorem isq_t {n r : Int} (hr : 0 ≤ r) (h : r * r = n) : isq n = r := by
  have hx : ∃ r : Int, 0 ≤ r ∧ r * r = n := ⟨r, hr, h⟩
  have := Classical.choose_spec hx
  unfold isq
  rw [dif_pos hx]
  exact sq_inj this.1 hr (by rw [this.2, h])
theorem isq_f {n : Int} (h : ¬ ∃ r : Int, 0 ≤ r ∧ r * r = n) : isq n = -1 := by
  unfold isq
  rw [dif_neg h]
/-- the class's test: the root times itself is the number -/
theorem root_isq {n r : Int} (hr : 0 ≤ r) (h1 : 0 ≤ n → r * r ≤ n ∧ n < (r + 1) * (r + 1)) (h2 : n < 0 → r = 0) : (r * r = n ∧ isq n = r) ∨ (r * r ≠ n ∧ isq n = -1) := by
  by_cases h : r * r = n
  · exact Or.inl ⟨h, isq_t hr h⟩
  · refine Or.inr ⟨h, isq_f (fun ⟨t, t0, t1⟩ => ?_)⟩
    have n0 : 0 ≤ n := by rw [← t1]; exact Int.mul_nonneg t0 t0
    obtain ⟨a, b⟩ := h1 n0
    rcases Int.lt_trichotomy t r with q | q | q
    · have := sq_lt t0 q
      omega
    · rw [q] at t1
      exact h t1
    · have := sq_mono (show 0 ≤ r + 1 by omega) (show r + 1 ≤ t by omega)
      omega
noncomputable def soY (a b z : Int) : Nat → Int → Option (Int × Int × Int)
  | 0, _ => none
  | m + 1, y => if isq (a * y * y + b * z * z) < 0 ∨ (y = 0 ∧ z = 0) then soY a b z m (y + 1) else some (isq (a * y * y + b * z * z), y, z)
noncomputable def soZ (a b : Int) : Nat → Int → Option (Int × Int × Int)
  | 0, _ => none
  | m + 1, z => (soY a b z 8 0).elim (soZ a b m (z + 1)) some
def spS (σ : mSt) (a b x y z : Int) : mSt := upS (upS (upS (upS (upS σ 145 0 a) 145 1 b) 145 2 x) 145 3 y) 145 4 z
theorem spS_x (σ : mSt) (a b x y z v : Int) : upS (spS σ a b x y z) 145 2 v = spS σ a b v y z := by
  funext i k
  unfold spS
  simp only [upS]
  grind
theorem spS_y (σ : mSt) (a b x y z v : Int) : upS (spS σ a b x y z) 145 3 v = spS σ a b x v z := by
  funext i k
  unfold spS
  simp only [upS]
  grind
theorem spS_z (σ : mSt) (a b x y z v : Int) : upS (spS σ a b x y z) 145 4 v = spS σ a b x y v := by
  funext i k
  unfold spS
  simp only [upS]
  grind
theorem spS_at (σ : mSt) (a b x y z : Int) : spS σ a b x y z 145 0 = a ∧ spS σ a b x y z 145 1 = b ∧ spS σ a b x y z 145 2 = x ∧ spS σ a b x y z 145 3 = y ∧ spS σ a b x y z 145 4 = z := by
  unfold spS
  refine ⟨?_, ?_, ?_, ?_, ?_⟩ <;> simp [upS]
theorem spS_ne (σ : mSt) (a b x y z : Int) (i k : Nat) (h : i ≠ 145) : spS σ a b x y z i k = σ i k := by
  unfold spS
  rw [upS_ne (by omega), upS_ne (by omega), upS_ne (by omega), upS_ne (by omega), upS_ne (by omega)]
theorem sv_rng {a b y z : Int} (ha : -60 ≤ a ∧ a ≤ 60) (hb : -60 ≤ b ∧ b ≤ 60) (hy : 0 ≤ y ∧ y ≤ 8) (hz : 0 ≤ z ∧ z ≤ 8) : -10000 ≤ a * y * y + b * z * z ∧ a * y * y + b * z * z ≤ 10000 := by
  have h1 := mul_rng (x := a) (y := y) (A := 60) (B := 8) (by omega) (by omega) (by omega)
  have h2 := mul_rng (x := a * y) (y := y) (A := 480) (B := 8) (by omega) (by omega) (by omega)
  have h3 := mul_rng (x := b) (y := z) (A := 60) (B := 8) (by omega) (by omega) (by omega)
  have h4 := mul_rng (x := b * z) (y := z) (A := 480) (B := 8) (by omega) (by omega) (by omega)
  omega
theorem slL44 {σ : mSt} {a b z v1 v3 : Int} {xx : mSt → Option (Int × mSt)} (ha : -60 ≤ a ∧ a ≤ 60) (hb : -60 ≤ b ∧ b ≤ 60) (hz : 0 ≤ z ∧ z ≤ 8) : ∀ (m : Nat) (x y : Int) (N : Nat), 0 ≤ y → y + m = 8 → m < N → ¬ (y = 0 ∧ z = 0) → (∃ t, soY a b z m y = some t ∧ mX9_solve_L44 145 v1 v3 xx N (spS σ a b x y z) = some (1, spS σ a b t.1 t.2.1 t.2.2)) ∨ (soY a b z m y = none ∧ ∃ x', mX9_solve_L44 145 v1 v3 xx N (spS σ a b x y z) = xx (spS σ a b x' 8 z)) := by
  intro m
  induction m with
  | zero =>
    intro x y N h1 h2 h3 h4
    obtain ⟨N, rfl⟩ : ∃ q, N = q + 1 := ⟨N - 1, by omega⟩
    obtain ⟨s0, s1, s2, s3, s4⟩ := spS_at σ a b x y z
    refine Or.inr ⟨rfl, x, ?_⟩
    rw [mX9_solve_L44.eq_2, s3, if_pos (by rw [wL_id (by omega)]; omega), show y = 8 by omega]
  | succ m ih =>
    intro x y N h1 h2 h3 h4
    obtain ⟨N, rfl⟩ : ∃ q, N = q + 1 := ⟨N - 1, by omega⟩
    obtain ⟨s0, s1, s2, s3, s4⟩ := spS_at σ a b x y z
    have sr := sv_rng ha hb (show 0 ≤ y ∧ y ≤ 8 by omega) hz
    obtain ⟨r, er, r0, r1, r2⟩ := root_e (σ := spS σ a b x y z) (n := a * y * y + b * z * z) (by omega)
    have hri := root_isq r0 r1 r2
    rw [mX9_solve_L44.eq_2, s0, s1, s3, s4, if_neg (by rw [wL_id (by omega)]; omega), bnd_eq, er, mCall_some, bnd_eq, spS_x]
    obtain ⟨q0, q1, q2, q3, q4⟩ := spS_at σ a b r y z
    have rr : 0 ≤ r * r ∧ r * r ≤ 10000 := by
      refine ⟨Int.mul_nonneg r0 r0, ?_⟩
      by_cases hn : 0 ≤ a * y * y + b * z * z
      · have := (r1 hn).1; omega
      · rw [r2 (by omega)]; omega
    rw [q2, wL_id (x := r * r) (by omega), wL_id (x := a * y * y + b * z * z) (by omega)]
    show (∃ t, (if isq (a * y * y + b * z * z) < 0 ∨ (y = 0 ∧ z = 0) then soY a b z m (y + 1) else some (isq (a * y * y + b * z * z), y, z)) = some t ∧ _) ∨ ((if isq (a * y * y + b * z * z) < 0 ∨ (y = 0 ∧ z = 0) then soY a b z m (y + 1) else some (isq (a * y * y + b * z * z), y, z)) = none ∧ _)
    rcases hri with ⟨e1, e2⟩ | ⟨e1, e2⟩
    · rw [if_pos e1, e2, if_neg (by omega)]
      exact Or.inl ⟨(r, y, z), rfl, rfl⟩
    · rw [if_neg e1, e2, if_pos (by omega), bnd_eq, spS_y, q3]
      exact ih r (y + 1) N (by omega) (by omega) (by omega) (by omega)
theorem slL15 {σ : mSt} {a b v1 v3 : Int} (ha : -60 ≤ a ∧ a ≤ 60) (hb : -60 ≤ b ∧ b ≤ 60) : ∀ (m : Nat) (x y z : Int) (N : Nat), 0 ≤ z → z + m = 8 → m < N → (∃ t, soZ a b m z = some t ∧ mX9_solve_L15 145 v1 v3 (fun zσ => mX9_solve_B138 145 v1 v3 zσ) N (spS σ a b x y z) = some (1, spS σ a b t.1 t.2.1 t.2.2)) ∨ (soZ a b m z = none ∧ ∃ x' y' z', mX9_solve_L15 145 v1 v3 (fun zσ => mX9_solve_B138 145 v1 v3 zσ) N (spS σ a b x y z) = some (0, spS σ a b x' y' z')) := by
  intro m
  induction m with
  | zero =>
    intro x y z N h1 h2 h3
    obtain ⟨N, rfl⟩ : ∃ q, N = q + 1 := ⟨N - 1, by omega⟩
    obtain ⟨s0, s1, s2, s3, s4⟩ := spS_at σ a b x y z
    refine Or.inr ⟨rfl, x, y, z, ?_⟩
    rw [mX9_solve_L15.eq_2, s4, if_pos (by rw [wL_id (by omega)]; omega)]
    rfl
  | succ m ih =>
    intro x y z N h1 h2 h3
    obtain ⟨N, rfl⟩ : ∃ q, N = q + 1 := ⟨N - 1, by omega⟩
    obtain ⟨s0, s1, s2, s3, s4⟩ := spS_at σ a b x y z
    rw [mX9_solve_L15.eq_2, s4, if_neg (by rw [wL_id (by omega)]; omega), wL_id (x := z) (by omega)]
    have st : ∀ (m2 : Nat) (y0 : Int), 0 ≤ y0 → y0 + m2 = 8 → ¬ (y0 = 0 ∧ z = 0) → soY a b z 8 0 = soY a b z m2 y0 → (∃ t, soZ a b (m + 1) z = some t ∧ mX9_solve_B41 145 v1 v3 (mX9_solve_L15 145 v1 v3 (fun zσ => mX9_solve_B138 145 v1 v3 zσ) N) (fun zσ => mX9_solve_B138 145 v1 v3 zσ) 145 y0 (spS σ a b x y z) = some (1, spS σ a b t.1 t.2.1 t.2.2)) ∨ (soZ a b (m + 1) z = none ∧ ∃ x' y' z', mX9_solve_B41 145 v1 v3 (mX9_solve_L15 145 v1 v3 (fun zσ => mX9_solve_B138 145 v1 v3 zσ) N) (fun zσ => mX9_solve_B138 145 v1 v3 zσ) 145 y0 (spS σ a b x y z) = some (0, spS σ a b x' y' z')) := by
      intro m2 y0 g1 g2 g3 g4
      unfold mX9_solve_B41
      rw [gc145, bnd_eq, spS_y]
      have l := slL44 (σ := σ) (v1 := v1) (v3 := v3) (xx := fun zσ => mX9_solve_B125 145 v1 v3 (mX9_solve_L15 145 v1 v3 (fun zσ => mX9_solve_B138 145 v1 v3 zσ) N) (fun zσ => mX9_solve_B138 145 v1 v3 zσ) zσ) ha hb (show 0 ≤ z ∧ z ≤ 8 by omega) m2 x y0 mF g1 g2 (by unfold mF; omega) g3
      show (∃ t, (soY a b z 8 0).elim (soZ a b m (z + 1)) some = some t ∧ _) ∨ ((soY a b z 8 0).elim (soZ a b m (z + 1)) some = none ∧ _)
      rw [g4]
      rcases l with ⟨t, e1, e2⟩ | ⟨e1, x', e2⟩
      · rw [e1]
        exact Or.inl ⟨t, rfl, e2⟩
      · rw [e1, e2]
        unfold mX9_solve_B125
        rw [bnd_eq, spS_z, (spS_at σ a b x' 8 z).2.2.2.2]
        exact ih x' 8 (z + 1) N (by omega) (by omega) (by omega)
    by_cases hz : z = 0
    · rw [if_pos hz]
      refine st 7 1 (by omega) (by omega) (by omega) ?_
      show (if isq (a * 0 * 0 + b * z * z) < 0 ∨ ((0 : Int) = 0 ∧ z = 0) then soY a b z 7 (0 + 1) else _) = _
      rw [if_pos (Or.inr ⟨rfl, hz⟩)]
      rfl
    · rw [if_neg hz]
      exact st 8 0 (by omega) (by omega) (by omega) rfl
theorem solve_c {σ : mSt} {a b : Int} (ha : -60 ≤ a ∧ a ≤ 60) (hb : -60 ≤ b ∧ b ≤ 60) : (∃ t, soZ a b 8 0 = some t ∧ mX9_solve 145 a b σ = some (1, spS σ a b t.1 t.2.1 t.2.2)) ∨ (soZ a b 8 0 = none ∧ ∃ x' y' z', mX9_solve 145 a b σ = some (0, spS σ a b x' y' z')) := by
  unfold mX9_solve
  rw [gc145, bnd_eq, bnd_eq, bnd_eq, show upS (upS (upS σ 145 0 a) 145 1 b) 145 4 0 = spS σ a b (σ 145 2) (σ 145 3) 0 by
    funext i k
    unfold spS
    simp only [upS]
    grind]
  exact slL15 ha hb 8 (σ 145 2) (σ 145 3) 0 mF (by omega) (by omega) (by unfold mF; omega)
theorem soY_rng {a b z : Int} (ha : -60 ≤ a ∧ a ≤ 60) (hb : -60 ≤ b ∧ b ≤ 60) (hz : 0 ≤ z ∧ z ≤ 8) : ∀ (m : Nat) (y : Int) (t : Int × Int × Int), 0 ≤ y → y + m = 8 → soY a b z m y = some t → (0 ≤ t.1 ∧ t.1 ≤ 10000) ∧ (0 ≤ t.2.1 ∧ t.2.1 ≤ 8) ∧ t.2.2 = z := by
  intro m
  induction m with
  | zero => intro y t h1 h2 h; cases h
  | succ m ih =>
    intro y t h1 h2 h
    have sr := sv_rng ha hb (show 0 ≤ y ∧ y ≤ 8 by omega) hz
    have h' : (if isq (a * y * y + b * z * z) < 0 ∨ (y = 0 ∧ z = 0) then soY a b z m (y + 1) else some (isq (a * y * y + b * z * z), y, z)) = some t := h
    by_cases hc : isq (a * y * y + b * z * z) < 0 ∨ (y = 0 ∧ z = 0)
    · rw [if_pos hc] at h'
      exact ih (y + 1) t (by omega) (by omega) h'
    · rw [if_neg hc] at h'
      cases h'
      refine ⟨⟨by omega, ?_⟩, ⟨h1, (show y ≤ 8 by omega)⟩, rfl⟩
      simp only
      by_cases hx : ∃ r : Int, 0 ≤ r ∧ r * r = a * y * y + b * z * z
      · obtain ⟨r, r0, r1⟩ := hx
        rw [isq_t r0 r1]
        rcases Int.lt_or_le 10000 r with q | q
        · have := sq_mono (show (0 : Int) ≤ 10000 by omega) (show 10000 ≤ r by omega)
          omega
        · exact q
      · rw [isq_f hx]; omega
theorem soZ_rng {a b : Int} (ha : -60 ≤ a ∧ a ≤ 60) (hb : -60 ≤ b ∧ b ≤ 60) : ∀ (m : Nat) (z : Int) (t : Int × Int × Int), 0 ≤ z → z + m = 8 → soZ a b m z = some t → (0 ≤ t.1 ∧ t.1 ≤ 10000) ∧ (0 ≤ t.2.1 ∧ t.2.1 ≤ 8) ∧ 0 ≤ t.2.2 ∧ t.2.2 ≤ 8 := by
  intro m
  induction m with
  | zero => intro z t h1 h2 h; cases h
  | succ m ih =>
    intro z t h1 h2 h
    have h' : (soY a b z 8 0).elim (soZ a b m (z + 1)) some = some t := h
    cases hy : soY a b z 8 0 with
    | none =>
      rw [hy] at h'
      exact ih (z + 1) t (by omega) (by omega) h'
    | some u =>
      rw [hy] at h'
      have e : u = t := Option.some.inj h'
      subst e
      have := soY_rng ha hb (show 0 ≤ z ∧ z ≤ 8 by omega) 8 0 u (by omega) (by omega) hy
      exact ⟨this.1, this.2.1, by omega, by omega⟩

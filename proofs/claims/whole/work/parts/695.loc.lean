/-! LOCAL INDEXES, as the reference reckons them -/
theorem ofL4 {v p : Int} {xx : Int → mSt → Option (Int × mSt)} {σ : mSt} (hp : 2 ≤ p ∧ p < 2147483648) : ∀ (f : Nat) (t x : Int) (n : Nat), x ≠ 0 → -2147483648 ≤ x → x < 2147483648 → x.natAbs < 2 ^ f → f < n → mX12_often_L4 v p xx n t x σ = xx (t + ordF f p x) σ := by
  intro f
  induction f with
  | zero =>
    intro t x n h0 h1 h2 h3 h4
    rw [Nat.pow_zero] at h3
    omega
  | succ f ih =>
    intro t x n h0 h1 h2 h3 h4
    obtain ⟨n, rfl⟩ : ∃ q, n = q + 1 := ⟨n - 1, by omega⟩
    rw [mX12_often_L4.eq_2, wI_id (x := p) (by omega), wI_id (x := x) (by omega), mG_pos (by omega)]
    have tr : -2147483648 ≤ x.tmod p ∧ x.tmod p < 2147483648 := by
      have h : (x.tmod p).natAbs ≤ x.natAbs := by rw [Int.natAbs_tmod]; exact Nat.mod_le _ _
      by_cases hx : 0 ≤ x
      · have := Int.tmod_nonneg p hx; omega
      · have h3 := Int.tmod_nonneg p (show 0 ≤ -x by omega)
        rw [Int.neg_tmod] at h3
        omega
    rw [wI_id tr]
    show _ = xx (t + (if x % p = 0 then ordF f p (x / p) + 1 else 0)) σ
    by_cases hd : p ∣ x
    · obtain ⟨y, rfl⟩ := hd
      have e1 : p * y / p = y := Int.mul_ediv_cancel_left _ (by omega)
      have e2 : (p * y).tdiv p = y := Int.mul_tdiv_cancel_left _ (by omega)
      have y0 : y ≠ 0 := fun z => h0 (by rw [z, Int.mul_zero])
      have ya : 2 * y.natAbs ≤ (p * y).natAbs := by
        rw [Int.natAbs_mul]
        exact Nat.mul_le_mul_right _ (by omega)
      rw [if_pos (Int.tmod_eq_zero_of_dvd ⟨y, rfl⟩), bnd_eq, bnd_eq, if_pos (Int.emod_eq_zero_of_dvd ⟨y, rfl⟩), e1, e2, ih (t + 1) y n y0 (by omega) (by omega) (by rw [Nat.pow_succ] at h3; omega) (by omega)]
      rw [show t + 1 + ordF f p y = t + (ordF f p y + 1) by omega]
    · rw [if_neg (fun z => hd (Int.dvd_of_tmod_eq_zero z)), if_neg (fun z => hd (Int.dvd_of_emod_eq_zero z)), Int.add_zero]
theorem often_e {v p : Int} {σ : mSt} (hp : 2 ≤ p ∧ p < 2147483648) (f : Nat) (h0 : v ≠ 0) (h1 : -2147483648 ≤ v ∧ v < 2147483648) (h2 : v.natAbs < 2 ^ f) (hf : f < 1000) : mX12_often v p σ = some (ordF f p v, σ) := by
  unfold mX12_often
  rw [ofL4 hp f 0 v mF h0 h1.1 h1.2 h2 (by unfold mF; omega), Int.zero_add]
  rfl
def witF : Nat → Int → Int → Int
  | 0, _, n => n
  | f + 1, p, n => if n % p = 0 then witF f p (n / p) else n
theorem wtL2 {v p : Int} {xx : Int → mSt → Option (Int × mSt)} {σ : mSt} (hp : 2 ≤ p ∧ p < 2147483648) : ∀ (f : Nat) (x : Int) (n : Nat), x ≠ 0 → -2147483648 ≤ x → x < 2147483648 → x.natAbs < 2 ^ f → f < n → mX12_without_L2 v p xx n x σ = xx (witF f p x) σ := by
  intro f
  induction f with
  | zero =>
    intro x n h0 h1 h2 h3 h4
    rw [Nat.pow_zero] at h3
    omega
  | succ f ih =>
    intro x n h0 h1 h2 h3 h4
    obtain ⟨n, rfl⟩ : ∃ q, n = q + 1 := ⟨n - 1, by omega⟩
    rw [mX12_without_L2.eq_2, wI_id (x := p) (by omega), wI_id (x := x) (by omega), mG_pos (by omega)]
    have tr : -2147483648 ≤ x.tmod p ∧ x.tmod p < 2147483648 := by
      have h : (x.tmod p).natAbs ≤ x.natAbs := by rw [Int.natAbs_tmod]; exact Nat.mod_le _ _
      by_cases hx : 0 ≤ x
      · have := Int.tmod_nonneg p hx; omega
      · have h3 := Int.tmod_nonneg p (show 0 ≤ -x by omega)
        rw [Int.neg_tmod] at h3
        omega
    rw [wI_id tr]
    show _ = xx (if x % p = 0 then witF f p (x / p) else x) σ
    by_cases hd : p ∣ x
    · obtain ⟨y, rfl⟩ := hd
      have e1 : p * y / p = y := Int.mul_ediv_cancel_left _ (by omega)
      have e2 : (p * y).tdiv p = y := Int.mul_tdiv_cancel_left _ (by omega)
      have y0 : y ≠ 0 := fun z => h0 (by rw [z, Int.mul_zero])
      have ya : 2 * y.natAbs ≤ (p * y).natAbs := by
        rw [Int.natAbs_mul]
        exact Nat.mul_le_mul_right _ (by omega)
      rw [if_pos (Int.tmod_eq_zero_of_dvd ⟨y, rfl⟩), bnd_eq, if_pos (Int.emod_eq_zero_of_dvd ⟨y, rfl⟩), e1, e2]
      exact ih y n y0 (by omega) (by omega) (by rw [Nat.pow_succ] at h3; omega) (by omega)
    · rw [if_neg (fun z => hd (Int.dvd_of_tmod_eq_zero z)), if_neg (fun z => hd (Int.dvd_of_emod_eq_zero z))]
theorem without_e {v p : Int} {σ : mSt} (hp : 2 ≤ p ∧ p < 2147483648) (f : Nat) (h0 : v ≠ 0) (h1 : -2147483648 ≤ v ∧ v < 2147483648) (h2 : v.natAbs < 2 ^ f) (hf : f < 1000) : mX12_without v p σ = some (witF f p v, σ) := by
  unfold mX12_without
  rw [wtL2 hp f v mF h0 h1.1 h1.2 h2 (by unfold mF; omega)]
  rfl
/-- a number without squares, once less by a prime -/
def su (a p : Int) : Int := if p ∣ a then a / p else a
theorem sq_free {a p : Int} (h0 : a ≠ 0) (h1 : -60 ≤ a ∧ a ≤ 60) (hs : sqf a) (hp : 2 ≤ p) : ¬ p * p ∣ a := by
  intro h
  by_cases h8 : p < 8
  · exact hs p hp h8 (Int.emod_eq_zero_of_dvd h)
  · have := sq_mono (show (0 : Int) ≤ 8 by omega) (show 8 ≤ p by omega)
    have h2 := Int.le_of_dvd (by omega) (Int.dvd_natAbs.mpr h)
    omega
theorem ord_sqf {a p : Int} (h0 : a ≠ 0) (h1 : -60 ≤ a ∧ a ≤ 60) (hs : sqf a) (hp : 2 ≤ p) (f : Nat) : ordF (f + 2) p a = (if p ∣ a then 1 else 0) ∧ witF (f + 2) p a = su a p := by
  have nd := sq_free h0 h1 hs hp
  unfold su
  show (if a % p = 0 then (if a / p % p = 0 then ordF f p (a / p / p) + 1 else 0) + 1 else 0) = _ ∧ (if a % p = 0 then (if a / p % p = 0 then witF f p (a / p / p) else a / p) else a) = _
  by_cases hd : p ∣ a
  · rw [if_pos (Int.emod_eq_zero_of_dvd hd), if_pos hd, if_pos hd, if_pos (Int.emod_eq_zero_of_dvd hd)]
    obtain ⟨y, rfl⟩ := hd
    rw [Int.mul_ediv_cancel_left _ (by omega)]
    have ny : ¬ y % p = 0 := fun z => nd (by
      obtain ⟨w, rfl⟩ := Int.dvd_of_emod_eq_zero z
      exact ⟨w, by rw [Int.mul_assoc]⟩)
    rw [if_neg ny, if_neg ny]
    exact ⟨rfl, rfl⟩
  · rw [if_neg (fun z => hd (Int.dvd_of_emod_eq_zero z)), if_neg hd, if_neg hd, if_neg (fun z => hd (Int.dvd_of_emod_eq_zero z))]
    exact ⟨rfl, rfl⟩
theorem su_rng {a p : Int} (h0 : a ≠ 0) (h1 : -60 ≤ a ∧ a ≤ 60) (hs : sqf a) (hp : 2 ≤ p) : -60 ≤ su a p ∧ su a p ≤ 60 ∧ ¬ p ∣ su a p := by
  have nd := sq_free h0 h1 hs hp
  unfold su
  by_cases hd : p ∣ a
  · rw [if_pos hd]
    obtain ⟨y, rfl⟩ := hd
    rw [Int.mul_ediv_cancel_left _ (by omega)]
    have ya : 2 * y.natAbs ≤ (p * y).natAbs := by
      rw [Int.natAbs_mul]
      exact Nat.mul_le_mul_right _ (by omega)
    refine ⟨by omega, by omega, fun ⟨w, hw⟩ => nd ⟨w, ?_⟩⟩
    rw [hw, Int.mul_assoc]
  · rw [if_neg hd]
    exact ⟨h1.1, h1.2, hd⟩
theorem odd_e {v : Int} {σ : mSt} (h : -2147483648 ≤ v ∧ v < 2147483648) : mX12_odd v σ = some (v % 2, σ) := by
  unfold mX12_odd
  rw [mG_pos (by decide), wI_id h, show wI 2 = 2 from rfl]
  have : v.tmod 2 = 0 ↔ v % 2 = 0 := ⟨fun z => Int.emod_eq_zero_of_dvd (Int.dvd_of_tmod_eq_zero z), fun z => Int.tmod_eq_zero_of_dvd (Int.dvd_of_emod_eq_zero z)⟩
  have tr : wI (v.tmod 2) = v.tmod 2 := wI_id (by
    have h : (v.tmod 2).natAbs ≤ v.natAbs := by rw [Int.natAbs_tmod]; exact Nat.mod_le _ _
    by_cases hx : 0 ≤ v
    · have := Int.tmod_nonneg 2 hx; omega
    · have h3 := Int.tmod_nonneg 2 (show 0 ≤ -v by omega)
      rw [Int.neg_tmod] at h3
      omega)
  rw [tr]
  by_cases hz : v % 2 = 0
  · rw [if_pos (this.mpr hz), hz]
  · rw [if_neg (fun z => hz (this.mp z)), show v % 2 = 1 by omega]
theorem side_e {u : Int} {σ : mSt} (h : -60 ≤ u ∧ u ≤ 60) (ho : ¬ 2 ∣ u) : mX12_side u σ = some ((u - 1) / 2 % 2, σ) := by
  unfold mX12_side
  have hd : (2 : Int) ∣ u - 1 := by omega
  rw [mG_pos (by decide), wI_id (by omega), show wI 2 = 2 from rfl, Int.tdiv_eq_ediv_of_dvd hd, odd_e (by omega), mCall_some]
theorem sq8 {u : Int} (ho : ¬ 2 ∣ u) : (8 : Int) ∣ u * u - 1 := by
  obtain ⟨k, rfl⟩ : ∃ k, u = 2 * k + 1 := ⟨u / 2, by omega⟩
  have h2 : (2 : Int) ∣ k * (k + 1) := by
    rcases (show k % 2 = 0 ∨ (k + 1) % 2 = 0 by omega) with h | h
    · obtain ⟨w, hw⟩ := Int.dvd_of_emod_eq_zero h
      exact ⟨w * (k + 1), by rw [hw]; grind⟩
    · obtain ⟨w, hw⟩ := Int.dvd_of_emod_eq_zero h
      exact ⟨k * w, by rw [hw]; grind⟩
  obtain ⟨w, hw⟩ := h2
  exact ⟨w, by grind⟩
theorem width_e {u : Int} {σ : mSt} (h : -60 ≤ u ∧ u ≤ 60) (ho : ¬ 2 ∣ u) : mX12_width u σ = some ((u * u - 1) / 8 % 2, σ) := by
  have r := mul_rng (x := u) (y := u) (A := 60) (B := 60) h h (by omega)
  unfold mX12_width
  rw [mG_pos (by decide), wI_id (x := u * u - 1) (by omega), show wI 8 = 8 from rfl, Int.tdiv_eq_ediv_of_dvd (sq8 ho), odd_e (by omega), mCall_some]
theorem par2 (x y z w r s : Int) : (x % 2 * (y % 2) + r * (z % 2) + s * (w % 2)) % 2 = (x * y + r * z + s * w) % 2 := by
  have e1 := Int.mul_emod x y 2
  have e2 := Int.mul_emod r z 2
  have e3 := Int.mul_emod s w 2
  have f2 := Int.mul_emod r (z % 2) 2
  have f3 := Int.mul_emod s (w % 2) 2
  rw [Int.emod_emod] at f2 f3
  have g1 := Int.mul_emod (x % 2) (y % 2) 2
  rw [Int.emod_emod, Int.emod_emod] at g1
  omega
theorem legL10 {v p : Int} {σ : mSt} (hp : 2 < p ∧ p < 1000) : ∀ (m : Nat) (x : Int) (n : Nat), 1 ≤ x → x + m = p → m < n → (∀ y, 1 ≤ y → y < x → y * y % p ≠ v % p) → mX12_legendre_L10 v p (v % p) (fun zσ => mX12_legendre_B32 v p zσ) n x σ = some (2 * b2 (∃ y, 1 ≤ y ∧ y < p ∧ y * y % p = v % p) - 1, σ) := by
  intro m
  induction m with
  | zero =>
    intro x n h1 h2 h3 h4
    obtain ⟨n, rfl⟩ : ∃ q, n = q + 1 := ⟨n - 1, by omega⟩
    rw [mX12_legendre_L10.eq_2, if_pos (by rw [wI_id (by omega), wI_id (by omega)]; omega), b2_f (fun ⟨y, y1, y2, y3⟩ => h4 y y1 (by omega) y3)]
    rfl
  | succ m ih =>
    intro x n h1 h2 h3 h4
    obtain ⟨n, rfl⟩ : ∃ q, n = q + 1 := ⟨n - 1, by omega⟩
    have r := mul_rng (x := x) (y := x) (A := 1000) (B := 1000) (by omega) (by omega) (by omega)
    have xx0 : 0 ≤ x * x := Int.mul_nonneg (by omega) (by omega)
    have m1 : 0 ≤ x * x % p := Int.emod_nonneg _ (by omega)
    have m2 : x * x % p < p := Int.emod_lt_of_pos _ (by omega)
    have m3 : 0 ≤ v % p := Int.emod_nonneg _ (by omega)
    have m4 : v % p < p := Int.emod_lt_of_pos _ (by omega)
    rw [mX12_legendre_L10.eq_2, if_neg (by rw [wI_id (by omega), wI_id (by omega)]; omega), wI_id (x := p) (by omega), mG_pos (by omega), wI_id (x := x * x) (by omega), Int.tmod_eq_emod_of_nonneg xx0, wI_id (x := x * x % p) (by omega), wI_id (x := v % p) (by omega)]
    by_cases hx : x * x % p = v % p
    · rw [if_pos hx, b2_t ⟨x, h1, by omega, hx⟩]
      rfl
    · rw [if_neg hx, bnd_eq]
      exact ih (x + 1) n (by omega) (by omega) (by omega) (fun y y1 y2 => by
        by_cases hy : y = x
        · rw [hy]; exact hx
        · exact h4 y y1 (by omega))
theorem legendre_e {v p : Int} {σ : mSt} (hp : 2 < p ∧ p < 1000) (hv : -60 ≤ v ∧ v ≤ 60) (hd : ¬ p ∣ v) : mX12_legendre v p σ = some (2 * b2 (sqm v p) - 1, σ) := by
  have t1 : v.tmod p + p = v % p + (if 0 ≤ v ∨ p ∣ v then p else 0) := by
    by_cases h : 0 ≤ v ∨ p ∣ v
    · rw [Int.tmod_eq_emod, if_pos h, if_pos h]; omega
    · rw [Int.tmod_eq_emod, if_neg h, if_neg h]; omega
  have m3 : 0 ≤ v % p := Int.emod_nonneg _ (by omega)
  have m4 : v % p < p := Int.emod_lt_of_pos _ (by omega)
  have t2 : (v.tmod p + p).tmod p = v % p := by
    rw [t1, Int.tmod_eq_emod_of_nonneg (by split <;> omega)]
    split
    · rw [Int.add_emod_right, Int.emod_emod]
    · rw [Int.add_zero, Int.emod_emod]
  have t3 : -1000 ≤ v.tmod p + p ∧ v.tmod p + p < 3000 := by rw [t1]; split <;> omega
  unfold mX12_legendre
  rw [wI_id (x := p) (by omega), mG_pos (by omega), wI_id (x := v) (by omega), wI_id (x := v.tmod p + p) (by omega), t2, bnd_eq]
  have := legL10 (σ := σ) (v := v) hp (p - 1).toNat 1 mF (by omega) (by omega) (by unfold mF; omega) (fun y y1 y2 => by omega)
  rw [this, b2_iff (q := sqm v p)]
  constructor
  · rintro ⟨y, y1, y2, y3⟩
    exact ⟨y, by omega, y2, y3⟩
  · rintro ⟨y, y1, y2, y3⟩
    refine ⟨y, ?_, y2, y3⟩
    rcases Int.lt_or_eq_of_le y1 with h | h
    · omega
    · exfalso
      rw [← h, Int.mul_zero, Int.zero_emod] at y3
      exact hd (Int.dvd_of_emod_eq_zero y3.symm)
theorem quatAt_e {a b p : Int} {σ : mSt} (ha : a ≠ 0 ∧ -60 ≤ a ∧ a ≤ 60 ∧ sqf a) (hb : b ≠ 0 ∧ -60 ≤ b ∧ b ≤ 60 ∧ sqf b) (hp : place p) : mX12_quaternionAt a b p σ = some (locQ a b p, σ) := by
  obtain ⟨a0, a1, a2, a3⟩ := ha
  obtain ⟨b0, b1, b2', b3⟩ := hb
  rcases hp with rfl | ⟨hp, hp1⟩
  · unfold mX12_quaternionAt mX12_quaternionAt_B16 locQ
    rw [if_pos (by decide), if_pos rfl, wI_id (x := a) (by omega), wI_id (x := b) (by omega)]
    by_cases h1 : 0 ≤ a
    · rw [if_pos h1, if_neg (by omega)]
    · rw [if_neg h1]
      by_cases h2 : 0 ≤ b
      · rw [if_pos h2, if_neg (by omega)]
      · rw [if_neg h2, if_pos (by omega)]
  · have hp2 := hp.1
    obtain ⟨oa, wa⟩ := ord_sqf a0 ⟨a1, a2⟩ a3 hp2 4
    obtain ⟨ob, wb⟩ := ord_sqf b0 ⟨b1, b2'⟩ b3 hp2 4
    obtain ⟨ua1, ua2, ua3⟩ := su_rng a0 ⟨a1, a2⟩ a3 hp2
    obtain ⟨ub1, ub2, ub3⟩ := su_rng b0 ⟨b1, b2'⟩ b3 hp2
    unfold mX12_quaternionAt
    rw [wI_id (x := p) (by omega), if_neg (by omega), often_e ⟨hp2, by omega⟩ 6 a0 (by omega) (by omega) (by omega), mCall_some, often_e ⟨hp2, by omega⟩ 6 b0 (by omega) (by omega) (by omega), mCall_some, without_e ⟨hp2, by omega⟩ 6 a0 (by omega) (by omega) (by omega), mCall_some, without_e ⟨hp2, by omega⟩ 6 b0 (by omega) (by omega) (by omega), mCall_some, oa, ob, wa, wb]
    by_cases h2 : p = 2
    · subst h2
      unfold locQ
      have r1 := mul_rng (x := su a 2) (y := su a 2) (A := 60) (B := 60) ⟨ua1, ua2⟩ ⟨ua1, ua2⟩ (by omega)
      have q : ∀ P : Prop, ∀ [Decidable P], (0 : Int) ≤ (if P then 1 else 0) ∧ (if P then (1 : Int) else 0) ≤ 1 := fun P _ => by split <;> omega
      have qa := q (2 ∣ a)
      have qb := q (2 ∣ b)
      rw [if_pos rfl, side_e ⟨ua1, ua2⟩ ua3, mCall_some, side_e ⟨ub1, ub2⟩ ub3, mCall_some, width_e ⟨ub1, ub2⟩ ub3, mCall_some, width_e ⟨ua1, ua2⟩ ua3, mCall_some, if_neg (show ¬ (2 : Int) = 0 by decide), if_pos (show (2 : Int) = 2 from rfl)]
      have p1 : 0 ≤ (su a 2 - 1) / 2 % 2 * ((su b 2 - 1) / 2 % 2) ∧ (su a 2 - 1) / 2 % 2 * ((su b 2 - 1) / 2 % 2) ≤ 1 := by
        rcases (show (su a 2 - 1) / 2 % 2 = 0 ∨ (su a 2 - 1) / 2 % 2 = 1 by omega) with h | h <;> rw [h] <;> omega
      have p2 : ∀ (r z : Int), 0 ≤ r → r ≤ 1 → 0 ≤ r * (z % 2) ∧ r * (z % 2) ≤ 1 := fun r z h1 h2 => by
        rcases (show r = 0 ∨ r = 1 by omega) with h | h <;> rw [h] <;> omega
      have p3 := p2 _ ((su b 2 * su b 2 - 1) / 8) qa.1 qa.2
      have p4 := p2 _ ((su a 2 * su a 2 - 1) / 8) qb.1 qb.2
      rw [odd_e (by omega), mCall_some, par2]
      have e : ∀ X : Int, (if wI (X % 2) = 1 then some ((3 : Int), σ) else some (0, σ)) = some (3 * (X % 2), σ) := fun X => by
        rw [wI_id (by omega)]
        by_cases h : X % 2 = 1
        · rw [if_pos h, h]
          rfl
        · rw [if_neg h, show X % 2 = 0 by omega]
          rfl
      exact e _
    · have hp3 : 2 < p := by omega
      have pp : (p - 1) / 2 % 2 = 0 ∨ (p - 1) / 2 % 2 = 1 := by omega
      have pod : ¬ 2 ∣ p := by
        rintro ⟨w, hw⟩
        by_cases h4 : 4 ≤ p
        · exact hp.2 2 (by omega) (by omega) (by rw [hw]; omega)
        · omega
      have tdp : (wI (p - 1)).tdiv (wI 2) = (p - 1) / 2 := by
        rw [wI_id (by omega), show wI 2 = 2 from rfl, Int.tdiv_eq_ediv_of_dvd (by omega)]
      have la := legendre_e (σ := σ) ⟨hp3, hp1⟩ ⟨ua1, ua2⟩ ua3
      have lb := legendre_e (σ := σ) ⟨hp3, hp1⟩ ⟨ub1, ub2⟩ ub3
      have B177 : ∀ X : Int, mX12_quaternionAt_B177 a b p X σ = some (if 0 ≤ wI X then 0 else 3, σ) := fun X => by
        unfold mX12_quaternionAt_B177
        split <;> rfl
      have o1 : mX12_odd 1 σ = some (1, σ) := odd_e (by omega)
      have o0 : mX12_odd 0 σ = some (0, σ) := odd_e (by omega)
      have op := odd_e (v := (p - 1) / 2) (σ := σ) (by omega)
      have w0 : wI 0 = 0 := rfl
      have w1 : wI 1 = 1 := rfl
      have wm : wI (-1) = -1 := rfl
      unfold locQ
      rw [if_neg h2, if_neg (show ¬ p = 0 by omega), if_neg h2]
      show _ = some (3 * ((b2 (p ∣ a ∧ p ∣ b ∧ (p - 1) / 2 % 2 = 1) + b2 (p ∣ b ∧ ¬ sqm (su a p) p) + b2 (p ∣ a ∧ ¬ sqm (su b p) p)) % 2), σ)
      by_cases hA : p ∣ a
      · by_cases hB : p ∣ b
        · rw [if_pos hA, if_pos hB, if_neg (by decide)]
          unfold mX12_quaternionAt_B102 mX12_quaternionAt_B135
          rw [o1, mCall_some, if_pos (by decide), o1, mCall_some, if_pos (by decide), mG_pos (by decide), tdp, op, mCall_some]
          unfold mX12_quaternionAt_B136 mX12_quaternionAt_B158
          simp only [o1, mCall_some, la, lb, bnd_eq, B177]
          by_cases hs1 : sqm (su a p) p <;> by_cases hs2 : sqm (su b p) p <;> rcases pp with hpp | hpp <;> simp [hpp, hA, hB, hs1, hs2, b2, w0, w1, wm]
        · rw [if_pos hA, if_neg hB, if_neg (by decide)]
          unfold mX12_quaternionAt_B102 mX12_quaternionAt_B135
          rw [o1, mCall_some, if_pos (by decide), o0, mCall_some, if_neg (by decide)]
          unfold mX12_quaternionAt_B136 mX12_quaternionAt_B158
          simp only [o0, o1, mCall_some, la, lb, bnd_eq, B177]
          by_cases hs2 : sqm (su b p) p <;> simp [hA, hB, hs2, b2, w0, w1, wm]
      · by_cases hB : p ∣ b
        · rw [if_neg hA, if_pos hB, if_pos (by decide), if_neg (by decide)]
          unfold mX12_quaternionAt_B102 mX12_quaternionAt_B135
          rw [o0, mCall_some, if_neg (by decide)]
          unfold mX12_quaternionAt_B136 mX12_quaternionAt_B158
          simp only [o0, o1, mCall_some, la, lb, bnd_eq, B177]
          by_cases hs1 : sqm (su a p) p <;> simp [hA, hB, hs1, b2, w0, w1, wm]
        · rw [if_neg hA, if_neg hB, if_pos (by decide), if_pos (by decide)]
          simp [hA, hB, b2]

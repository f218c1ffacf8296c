/-! how many: the class -/
def cE (E : Nat → V4) : Prop := Tri E ∧ (∀ r i, r < i → i < 4 → 0 ≤ vg i (E r) ∧ vg i (E r) < vg i (E i)) ∧ ∀ i, i < 4 → vg i (E i) ≤ 7200
def cX (ρ : mSt) (k : Nat) (a b : Int) (E : Nat → V4) : Prop := Lay ρ ∧ ρ (181 + 9 * k) 0 = a ∧ ρ (181 + 9 * k) 1 = b ∧ ∀ r, r < 4 → rwC ρ (182 + 9 * k) r = E r
theorem num_e {ρ : mSt} {k r c : Nat} {a b : Int} {E : Nat → V4} (hX : cX ρ k a b E) (hk : k < 8) (hr : r < 4) (hc : c < 4) : mX6_numbersOf (181 + 9 * k) (r : Int) ρ = some (((184 + 9 * k + r : Nat) : Int), ρ) ∧ shp (184 + 9 * k + r) = (21, 4) ∧ ρ (184 + 9 * k + r) c = vg c (E r) := by
  obtain ⟨hL, h0, h1, h2⟩ := hX
  have k3 := (ord_lay hL hk).2.2.1
  have s := ((lat_lay hL k3).2.2.2.2.2 r hr).1
  rw [show 182 + 9 * k + 2 + r = 184 + 9 * k + r by omega] at s
  refine ⟨numbersOf_e hL hk hr, s, ?_⟩
  rw [← h2 r hr, ← rwC_at ρ (182 + 9 * k) hc, show 182 + 9 * k + 2 + r = 184 + 9 * k + r by omega]
theorem ab_pos {a b : Int} (ha : a < 0 ∧ -60 ≤ a) (hb : b < 0 ∧ -60 ≤ b) : 1 ≤ a * b ∧ a * b ≤ 3600 := by
  have h1 := Int.mul_le_mul (show 1 ≤ -a by omega) (show 1 ≤ -b by omega) (by omega) (by omega)
  have h2 := Int.mul_le_mul (show -a ≤ 60 by omega) (show -b ≤ 60 by omega) (by omega) (by omega)
  rw [Int.neg_mul, Int.mul_neg, Int.neg_neg] at h1 h2
  omega
theorem fourth_c {ρ : mSt} {k : Nat} {a b left t : Int} {E : Nat → V4} (hX : cX ρ k a b E) (hk : k < 8) (hE : cE E) (ha : a < 0 ∧ -60 ≤ a) (hb : b < 0 ∧ -60 ≤ b) (hl : 0 ≤ left ∧ left ≤ 625000000) (ht : -10000000000 ≤ t ∧ t ≤ 10000000000) : mX6_countFourth (181 + 9 * k) left t ρ = some (cF3 (a * b) (vg 3 (E 3)) left t, ρ) ∧ 0 ≤ cF3 (a * b) (vg 3 (E 3)) left t ∧ cF3 (a * b) (vg 3 (E 3)) left t ≤ 2 := by
  have hab := ab_pos ha hb
  obtain ⟨n1, n2, n3⟩ := num_e hX hk (r := 3) (c := 3) (by omega) (by omega)
  obtain ⟨hL, h0, h1, h2⟩ := hX
  have d0 := tri_d hE.1 3 (by omega)
  have d1 := hE.2.2 3 (by omega)
  have k1 := (ord_lay hL hk).1
  have q0 : 0 ≤ left / (a * b) := Int.ediv_nonneg hl.1 (by omega)
  have q1 : left / (a * b) ≤ left := Int.ediv_le_self _ hl.1
  obtain ⟨er, r0, r1, r2⟩ := root_f (σ := ρ) (n := left / (a * b)) (by omega)
  have rm := fsq_le (m := 25000) (n := left / (a * b)) (by omega) (by omega) (by omega)
  rw [cF3_c (by omega) d0 ⟨hl.1, by omega⟩]
  obtain ⟨m, hm⟩ : ∃ m, m = fsq (left / (a * b)) := ⟨_, rfl⟩
  rw [← hm] at er r0 r1 r2 rm ⊢
  have mm0 : 0 ≤ m * m := Int.mul_nonneg r0 r0
  obtain ⟨d, hd⟩ : ∃ d, d = vg 3 (E 3) := ⟨_, rfl⟩
  rw [← hd] at d0 d1 n3 ⊢
  constructor
  · unfold mX6_countFourth
    rw [gc k1, h0, h1, div_e _ _ _ (by omega) (by omega), mCall_some]
    by_cases c1 : a * b ∣ left
    · rw [b2_t ⟨by omega, c1⟩, if_neg (by decide), h0, h1, quot_e _ _ _ (by omega) (by omega) (by omega), mCall_some, er, mCall_some, wL_id (x := m * m) (by omega), wL_id (x := left / (a * b)) (by omega)]
      by_cases c2 : m * m = left / (a * b)
      · have B79 : ∀ t0 : Int, mX6_countFourth_B79 (181 + 9 * k) left t m d t0 ρ = some (t0 + (if m ≠ 0 ∧ d ∣ -m - t then 1 else 0), ρ) := by
          intro t0
          unfold mX6_countFourth_B79
          rw [wL_id (x := m) (by omega)]
          by_cases m0 : m = 0
          · rw [if_pos m0, if_neg (fun z => z.1 m0), Int.add_zero]
          · rw [if_neg m0, div_e _ _ _ (by omega) (by omega), mCall_some]
            by_cases c3 : d ∣ -m - t
            · rw [b2_t ⟨by omega, c3⟩, if_neg (by decide), if_pos ⟨m0, c3⟩]
            · rw [b2_f (fun z => c3 z.2), if_pos (by decide), if_neg (fun z => c3 z.2), Int.add_zero]
        rw [if_pos c2, if_pos ⟨c1, c2⟩, show (3 : Int) = ((3 : Nat) : Int) from rfl, n1, mCall_some, Int.toNat_natCast, gx n2 _ (by omega), bnd_eq, n3, div_e _ _ _ (by omega) (by omega), mCall_some]
        by_cases c3 : d ∣ m - t
        · rw [b2_t ⟨by omega, c3⟩, if_neg (by decide), B79, if_pos c3]
        · rw [b2_f (fun z => c3 z.2), if_pos (by decide), B79, if_neg c3]
      · rw [if_neg c2, if_neg (fun z => c2 z.2)]
    · rw [b2_f (fun z => c1 z.2), if_pos (by decide), if_neg (fun z => c1 z.1)]
  · split
    · split <;> split <;> omega
    · omega
theorem least_e {ρ : mSt} {k : Nat} {m t d : Int} (hO : shp (181 + 9 * k) = (5, 0)) (hd : 0 < d ∧ d ≤ 7200) (hm : 0 ≤ m ∧ m ≤ 25000) (ht : -10000000000 ≤ t ∧ t ≤ 10000000000) : mX6_leastFrom (181 + 9 * k) (-m) t d ρ = some (t + loK m t d * d, ρ) := by
  unfold mX6_leastFrom
  rw [gc hO, rest_e _ _ _ hd.1 (by omega) (by omega), mCall_some]
  have := Int.mul_ediv_add_emod (m + t) d
  unfold loK
  rw [show t - -m = m + t by omega, Int.neg_mul, Int.mul_comm ((m + t) / d) d]
  rw [show -m + (m + t) % d = t + -(d * ((m + t) / d)) by omega]
theorem kb {k t d m T : Int} (hd : 0 < d) (hm : 0 ≤ m ∧ m ≤ 25000) (hT : 0 ≤ T) (ht : -(T * d) ≤ t ∧ t ≤ T * d) (h1 : -m ≤ t + k * d) (h2 : t + k * d ≤ m) : -(25000 + T) ≤ k ∧ k ≤ 25000 + T := by
  have e1 : k * d ≤ (25000 + T) * d := by
    have := Int.mul_le_mul_of_nonneg_left (show 1 ≤ d by omega) (show (0 : Int) ≤ 25000 by omega)
    rw [Int.add_mul]
    omega
  have e2 : -(25000 + T) * d ≤ k * d := by
    have := Int.mul_le_mul_of_nonneg_left (show 1 ≤ d by omega) (show (0 : Int) ≤ 25000 by omega)
    rw [Int.neg_mul, Int.add_mul]
    omega
  exact ⟨Int.le_of_mul_le_mul_right e2 hd, Int.le_of_mul_le_mul_right e1 hd⟩
theorem lo_hi {m t d : Int} (hd : 0 < d) (hm : 0 ≤ m) : loK m t d ≤ hiK m t d + 1 := by
  rcases Int.lt_or_le (hiK m t d + 1) (loK m t d) with h | h
  · exfalso
    have h1 : ¬ hiK m t d + 1 ≤ hiK m t d := by omega
    have h2 : ¬ loK m t d ≤ hiK m t d + 1 := by omega
    rw [hiK_iff hd] at h1
    rw [loK_iff hd] at h2
    omega
  · exact h
theorem third_L {ρ : mSt} {k : Nat} {a b left t2 t3 m : Int} {E : Nat → V4} (hX : cX ρ k a b E) (hk : k < 8) (hE : cE E) (ha : a < 0 ∧ -60 ≤ a) (hb : b < 0 ∧ -60 ≤ b) (hl : 0 ≤ left ∧ left ≤ 625000000) (h2 : -(75000 * vg 2 (E 2)) ≤ t2 ∧ t2 ≤ 75000 * vg 2 (E 2)) (h3 : -1000000000 ≤ t3 ∧ t3 ≤ 1000000000) (hm : m = fsq (left / -b)) (hm2 : 0 ≤ m ∧ m ≤ 25000) : ∀ (n : Nat) (j acc : Int) (N : Nat), j + n = hiK m t2 (vg 2 (E 2)) + 1 → loK m t2 (vg 2 (E 2)) ≤ j → n < N → mX6_countThird_L38 (181 + 9 * k) left t2 t3 (vg 2 (E 2)) m (fun z7 zσ => mX6_countThird_B108 (181 + 9 * k) left t2 t3 z7 zσ) N acc (t2 + j * vg 2 (E 2)) ρ = some (acc + sR (fun q => cF3 (a * b) (vg 3 (E 3)) (left - -b * ((t2 + q * vg 2 (E 2)) * (t2 + q * vg 2 (E 2)))) (t3 + q * vg 3 (E 2))) j (hiK m t2 (vg 2 (E 2))), ρ) := by
  have d0 := tri_d hE.1 2 (by omega)
  have d1 := hE.2.2 2 (by omega)
  have e23 := hE.2.1 2 3 (by omega) (by omega)
  have d3 := hE.2.2 3 (by omega)
  obtain ⟨n1, n2, n3⟩ := num_e hX hk (r := 2) (c := 3) (by omega) (by omega)
  intro n
  induction n with
  | zero =>
    intro j acc N h4 h5 h6
    obtain ⟨N, rfl⟩ : ∃ q, N = q + 1 := ⟨N - 1, by omega⟩
    have hj : j = hiK m t2 (vg 2 (E 2)) + 1 := by omega
    have hv : ¬ t2 + j * vg 2 (E 2) ≤ m := fun z => by have := (hiK_iff d0).mpr z; omega
    have hv2 := (hiK_iff (m := m) (t := t2) d0).mp (Int.le_refl (hiK m t2 (vg 2 (E 2))))
    have hv3 : t2 + j * vg 2 (E 2) ≤ m + vg 2 (E 2) := by rw [hj, Int.add_mul]; omega
    rw [mX6_countThird_L38.eq_2, wL_id (x := m) (by omega), wL_id (x := t2 + j * vg 2 (E 2)) (by omega), if_pos (by omega), sR_empty _ (by omega), Int.add_zero]
    rfl
  | succ n ih =>
    intro j acc N h4 h5 h6
    obtain ⟨N, rfl⟩ : ∃ q, N = q + 1 := ⟨N - 1, by omega⟩
    have hv := (hiK_iff (m := m) (t := t2) (k := j) d0).mp (by omega)
    have hv2 := (loK_iff (m := m) (t := t2) d0).mp h5
    have jb := kb (T := 75000) d0 hm2 (by omega) h2 hv2 hv
    have je := mul_rng (x := j) (y := vg 3 (E 2)) (A := 100000) (B := 7200) (by omega) (by omega) (by omega)
    have lo := left_ok (by1 := -b) (left := left) (m := m) (v := t2 + j * vg 2 (E 2)) (by omega) (by omega) hm hv2 hv
    have fo := fourth_c (left := left - -b * ((t2 + j * vg 2 (E 2)) * (t2 + j * vg 2 (E 2)))) (t := t3 + j * vg 3 (E 2)) hX hk hE ha hb (by omega) (by omega)
    have q : (t2 + j * vg 2 (E 2) - t2) / vg 2 (E 2) = j := by
      rw [show t2 + j * vg 2 (E 2) - t2 = j * vg 2 (E 2) by omega, Int.mul_ediv_cancel _ (by omega)]
    have e1 : left + b * (t2 + j * vg 2 (E 2)) * (t2 + j * vg 2 (E 2)) = left - -b * ((t2 + j * vg 2 (E 2)) * (t2 + j * vg 2 (E 2))) := by
      rw [Int.neg_mul, Int.mul_assoc]
      omega
    rw [mX6_countThird_L38.eq_2, wL_id (x := m) (by omega), wL_id (x := t2 + j * vg 2 (E 2)) (by omega), if_neg (by omega), wL_id (x := vg 2 (E 2)) (by omega), if_neg (by omega), quot_e _ _ _ d0 (by omega) (by omega), mCall_some, q, show (2 : Int) = ((2 : Nat) : Int) from rfl, n1, mCall_some, Int.toNat_natCast, gx n2 _ (by omega), n3, hX.2.2.1, e1, fo.1, mCall_some, bnd_eq, bnd_eq, show t2 + j * vg 2 (E 2) + vg 2 (E 2) = t2 + (j + 1) * vg 2 (E 2) by rw [Int.add_mul]; omega, ih (j + 1) _ N (by omega) (by omega) (by omega)]
    rw [sR_lo _ (show j ≤ hiK m t2 (vg 2 (E 2)) by omega)]
    rw [Int.add_assoc]
theorem third_c {ρ : mSt} {k : Nat} {a b left t2 t3 : Int} {E : Nat → V4} (hX : cX ρ k a b E) (hk : k < 8) (hE : cE E) (ha : a < 0 ∧ -60 ≤ a) (hb : b < 0 ∧ -60 ≤ b) (hl : 0 ≤ left ∧ left ≤ 625000000) (h2 : -(75000 * vg 2 (E 2)) ≤ t2 ∧ t2 ≤ 75000 * vg 2 (E 2)) (h3 : -1000000000 ≤ t3 ∧ t3 ≤ 1000000000) : mX6_countThird (181 + 9 * k) left t2 t3 ρ = some (cF2 E (-b) (a * b) left t2 t3, ρ) := by
  have d0 := tri_d hE.1 2 (by omega)
  have d1 := hE.2.2 2 (by omega)
  obtain ⟨n1, n2, n3⟩ := num_e hX hk (r := 2) (c := 2) (by omega) (by omega)
  have k1 := (ord_lay hX.1 hk).1
  have q0 : 0 ≤ left / -b := Int.ediv_nonneg hl.1 (by omega)
  have q1 : left / -b ≤ left := Int.ediv_le_self _ hl.1
  obtain ⟨er, r0, r1, r2⟩ := root_f (σ := ρ) (n := left / -b) (by omega)
  have rm := fsq_le (m := 25000) (n := left / -b) (by omega) (by omega) (by omega)
  have lh := lo_hi (t := t2) d0 r0
  obtain ⟨n, hn⟩ : ∃ n : Nat, loK (fsq (left / -b)) t2 (vg 2 (E 2)) + n = hiK (fsq (left / -b)) t2 (vg 2 (E 2)) + 1 := ⟨(hiK (fsq (left / -b)) t2 (vg 2 (E 2)) + 1 - loK (fsq (left / -b)) t2 (vg 2 (E 2))).toNat, by omega⟩
  have nb : n < mF := by
    have a1 := (hiK_iff (m := fsq (left / -b)) (t := t2) d0).mp (Int.le_refl (hiK (fsq (left / -b)) t2 (vg 2 (E 2))))
    have a2 := (loK_iff (m := fsq (left / -b)) (t := t2) d0).mp (Int.le_refl (loK (fsq (left / -b)) t2 (vg 2 (E 2))))
    unfold hiK loK at *
    have b1 := div_rng (a := fsq (left / -b) - t2) (d := vg 2 (E 2)) (A := 1000000000) (by omega) (by omega)
    have b2 := div_rng (a := fsq (left / -b) + t2) (d := vg 2 (E 2)) (A := 1000000000) (by omega) (by omega)
    unfold mF
    omega
  have := third_L (left := left) (t2 := t2) (t3 := t3) hX hk hE ha hb hl h2 h3 rfl ⟨r0, rm⟩ n (loK (fsq (left / -b)) t2 (vg 2 (E 2))) 0 mF hn (Int.le_refl _) nb
  unfold mX6_countThird
  rw [gc k1, show (2 : Int) = ((2 : Nat) : Int) from rfl, n1, mCall_some, Int.toNat_natCast, gx n2 _ (by omega), bnd_eq, n3, hX.2.2.1, quot_e _ _ _ (by omega) (by omega) (by omega), mCall_some, er, mCall_some, least_e k1 ⟨d0, by omega⟩ ⟨r0, rm⟩ (by omega), mCall_some]
  refine this.trans ?_
  rw [Int.zero_add]
  rfl
theorem second_L {ρ : mSt} {k : Nat} {a b left t1 t2 t3 m : Int} {E : Nat → V4} (hX : cX ρ k a b E) (hk : k < 8) (hE : cE E) (ha : a < 0 ∧ -60 ≤ a) (hb : b < 0 ∧ -60 ≤ b) (hl : 0 ≤ left ∧ left ≤ 625000000) (p1 : ρ (189 + 9 * k) 1 = t1) (p2 : ρ (189 + 9 * k) 2 = t2) (p3 : ρ (189 + 9 * k) 3 = t3) (h1 : -(25000 * vg 1 (E 1)) ≤ t1 ∧ t1 ≤ 25000 * vg 1 (E 1)) (h2 : -(25000 * vg 2 (E 2)) ≤ t2 ∧ t2 ≤ 25000 * vg 2 (E 2)) (h3 : -(25000 * vg 3 (E 3)) ≤ t3 ∧ t3 ≤ 25000 * vg 3 (E 3)) (hm : m = fsq (left / -a)) (hm2 : 0 ≤ m ∧ m ≤ 25000) : ∀ (n : Nat) (j acc : Int) (N : Nat), j + n = hiK m t1 (vg 1 (E 1)) + 1 → loK m t1 (vg 1 (E 1)) ≤ j → n < N → mX6_countSecond_L42 (181 + 9 * k) left (vg 1 (E 1)) m (fun z3 zσ => mX6_countSecond_B144 (181 + 9 * k) left z3 zσ) N acc (t1 + j * vg 1 (E 1)) ρ = some (acc + sR (fun q => cF2 E (-b) (a * b) (left - -a * ((t1 + q * vg 1 (E 1)) * (t1 + q * vg 1 (E 1)))) (t2 + q * vg 2 (E 1)) (t3 + q * vg 3 (E 1))) j (hiK m t1 (vg 1 (E 1))), ρ) := by
  have d0 := tri_d hE.1 1 (by omega)
  have d1 := hE.2.2 1 (by omega)
  have d2 := hE.2.2 2 (by omega)
  have d3 := hE.2.2 3 (by omega)
  have e12 := hE.2.1 1 2 (by omega) (by omega)
  have e13 := hE.2.1 1 3 (by omega) (by omega)
  obtain ⟨k1, k2, k3, k4, k5, k6⟩ := ord_lay hX.1 hk
  obtain ⟨n1, n2, n3⟩ := num_e hX hk (r := 1) (c := 2) (by omega) (by omega)
  obtain ⟨-, -, n4⟩ := num_e hX hk (r := 1) (c := 3) (by omega) (by omega)
  intro n
  induction n with
  | zero =>
    intro j acc N h4 h5 h6
    obtain ⟨N, rfl⟩ : ∃ q, N = q + 1 := ⟨N - 1, by omega⟩
    have hj : j = hiK m t1 (vg 1 (E 1)) + 1 := by omega
    have hv : ¬ t1 + j * vg 1 (E 1) ≤ m := fun z => by have := (hiK_iff d0).mpr z; omega
    have hv2 := (hiK_iff (m := m) (t := t1) d0).mp (Int.le_refl (hiK m t1 (vg 1 (E 1))))
    have hv3 : t1 + j * vg 1 (E 1) ≤ m + vg 1 (E 1) := by rw [hj, Int.add_mul]; omega
    rw [mX6_countSecond_L42.eq_2, wL_id (x := m) (by omega), wL_id (x := t1 + j * vg 1 (E 1)) (by omega), if_pos (by omega), sR_empty _ (by omega), Int.add_zero]
    rfl
  | succ n ih =>
    intro j acc N h4 h5 h6
    obtain ⟨N, rfl⟩ : ∃ q, N = q + 1 := ⟨N - 1, by omega⟩
    have hv := (hiK_iff (m := m) (t := t1) (k := j) d0).mp (by omega)
    have hv2 := (loK_iff (m := m) (t := t1) d0).mp h5
    have jb := kb (T := 25000) d0 hm2 (by omega) h1 hv2 hv
    have je := mul_rng (x := j) (y := vg 2 (E 1)) (A := 50000) (B := vg 2 (E 2)) (by omega) (by omega) (by omega)
    have je3 := mul_rng (x := j) (y := vg 3 (E 1)) (A := 50000) (B := 7200) (by omega) (by omega) (by omega)
    have lo := left_ok (by1 := -a) (left := left) (m := m) (v := t1 + j * vg 1 (E 1)) (by omega) (by omega) hm hv2 hv
    have fo := third_c (left := left - -a * ((t1 + j * vg 1 (E 1)) * (t1 + j * vg 1 (E 1)))) (t2 := t2 + j * vg 2 (E 1)) (t3 := t3 + j * vg 3 (E 1)) hX hk hE ha hb (by omega) (by omega) (by omega)
    have q : (t1 + j * vg 1 (E 1) - t1) / vg 1 (E 1) = j := by
      rw [show t1 + j * vg 1 (E 1) - t1 = j * vg 1 (E 1) by omega, Int.mul_ediv_cancel _ (by omega)]
    have e1 : left + a * (t1 + j * vg 1 (E 1)) * (t1 + j * vg 1 (E 1)) = left - -a * ((t1 + j * vg 1 (E 1)) * (t1 + j * vg 1 (E 1))) := by
      rw [Int.neg_mul, Int.mul_assoc]
      omega
    rw [mX6_countSecond_L42.eq_2, wL_id (x := m) (by omega), wL_id (x := t1 + j * vg 1 (E 1)) (by omega), if_neg (by omega), wL_id (x := vg 1 (E 1)) (by omega), if_neg (by omega), gr' k6 (by omega), gx k2 _ (by omega), p1, quot_e _ _ _ d0 (by omega) (by omega), mCall_some, q, gr' k6 (by omega), gx k2 _ (by omega), show (1 : Int) = ((1 : Nat) : Int) from rfl, n1, mCall_some, Int.toNat_natCast, gx n2 _ (by omega), bnd_eq, gr' k6 (by omega), gx k2 _ (by omega), n1, mCall_some, Int.toNat_natCast, gx n2 _ (by omega), bnd_eq, n3, n4, p2, p3, hX.2.1, e1, fo, mCall_some, bnd_eq, bnd_eq, show t1 + j * vg 1 (E 1) + vg 1 (E 1) = t1 + (j + 1) * vg 1 (E 1) by rw [Int.add_mul]; omega, ih (j + 1) _ N (by omega) (by omega) (by omega)]
    rw [sR_lo _ (show j ≤ hiK m t1 (vg 1 (E 1)) by omega)]
    rw [Int.add_assoc]
theorem secondN_c {ρ : mSt} {k : Nat} {a b left t1 t2 t3 : Int} {E : Nat → V4} (hX : cX ρ k a b E) (hk : k < 8) (hE : cE E) (ha : a < 0 ∧ -60 ≤ a) (hb : b < 0 ∧ -60 ≤ b) (hl : 0 ≤ left ∧ left ≤ 625000000) (p1 : ρ (189 + 9 * k) 1 = t1) (p2 : ρ (189 + 9 * k) 2 = t2) (p3 : ρ (189 + 9 * k) 3 = t3) (h1 : -(25000 * vg 1 (E 1)) ≤ t1 ∧ t1 ≤ 25000 * vg 1 (E 1)) (h2 : -(25000 * vg 2 (E 2)) ≤ t2 ∧ t2 ≤ 25000 * vg 2 (E 2)) (h3 : -(25000 * vg 3 (E 3)) ≤ t3 ∧ t3 ≤ 25000 * vg 3 (E 3)) : mX6_countSecond (181 + 9 * k) left ρ = some (cF1 E (-a) (-b) (a * b) left t1 t2 t3, ρ) := by
  have d0 := tri_d hE.1 1 (by omega)
  have d1 := hE.2.2 1 (by omega)
  obtain ⟨n1, n2, n3⟩ := num_e hX hk (r := 1) (c := 1) (by omega) (by omega)
  obtain ⟨k1, k2, k3, k4, k5, k6⟩ := ord_lay hX.1 hk
  have q0 : 0 ≤ left / -a := Int.ediv_nonneg hl.1 (by omega)
  have q1 : left / -a ≤ left := Int.ediv_le_self _ hl.1
  obtain ⟨er, r0, r1, r2⟩ := root_f (σ := ρ) (n := left / -a) (by omega)
  have rm := fsq_le (m := 25000) (n := left / -a) (by omega) (by omega) (by omega)
  have lh := lo_hi (t := t1) d0 r0
  obtain ⟨n, hn⟩ : ∃ n : Nat, loK (fsq (left / -a)) t1 (vg 1 (E 1)) + n = hiK (fsq (left / -a)) t1 (vg 1 (E 1)) + 1 := ⟨(hiK (fsq (left / -a)) t1 (vg 1 (E 1)) + 1 - loK (fsq (left / -a)) t1 (vg 1 (E 1))).toNat, by omega⟩
  have nb : n < mF := by
    unfold hiK loK at *
    have b1 := div_rng (a := fsq (left / -a) - t1) (d := vg 1 (E 1)) (A := 1000000000) (by omega) (by omega)
    have b2 := div_rng (a := fsq (left / -a) + t1) (d := vg 1 (E 1)) (A := 1000000000) (by omega) (by omega)
    unfold mF
    omega
  have := second_L (left := left) hX hk hE ha hb hl p1 p2 p3 h1 h2 h3 rfl ⟨r0, rm⟩ n (loK (fsq (left / -a)) t1 (vg 1 (E 1))) 0 mF hn (Int.le_refl _) nb
  unfold mX6_countSecond
  rw [gc k1, show (1 : Int) = ((1 : Nat) : Int) from rfl, n1, mCall_some, Int.toNat_natCast, gx n2 _ (by omega), bnd_eq, n3, hX.2.1, quot_e _ _ _ (by omega) (by omega) (by omega), mCall_some, er, mCall_some, gr' k6 (by omega), gx k2 _ (by omega), p1, least_e k1 ⟨d0, by omega⟩ ⟨r0, rm⟩ (by omega), mCall_some]
  refine this.trans ?_
  rw [Int.zero_add]
  rfl

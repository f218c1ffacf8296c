/-! sums over all places -/
theorem okAB_l : ∀ a ∈ valsL, ∀ b ∈ valsL, okAB a b = true := by
  intro a ha b hb
  have h0 : a ∈ ([-59, -58, -57, -55, -53, -51, -47, -46] : List Int) ++ [-43, -42, -41, -39, -38, -37, -35, -34, -33, -31, -30, -29, -26, -23, -22, -21, -19, -17, -15, -14, -13, -11, -10, -7, -6, -5, -3, -2, -1, 1, 2, 3, 5, 6, 7, 10, 11, 13, 14, 15, 17, 19, 21, 22, 23, 26, 29, 30, 31, 33, 34, 35, 37, 38, 39, 41, 42, 43, 46, 47, 51, 53, 55, 57, 58, 59] := ha
  rcases List.mem_append.mp h0 with g | r0
  · exact List.all_eq_true.mp (List.all_eq_true.mp okAB_0 a g) b hb
  have h1 : a ∈ ([-43, -42, -41, -39, -38, -37, -35, -34] : List Int) ++ [-33, -31, -30, -29, -26, -23, -22, -21, -19, -17, -15, -14, -13, -11, -10, -7, -6, -5, -3, -2, -1, 1, 2, 3, 5, 6, 7, 10, 11, 13, 14, 15, 17, 19, 21, 22, 23, 26, 29, 30, 31, 33, 34, 35, 37, 38, 39, 41, 42, 43, 46, 47, 51, 53, 55, 57, 58, 59] := r0
  rcases List.mem_append.mp h1 with g | r1
  · exact List.all_eq_true.mp (List.all_eq_true.mp okAB_1 a g) b hb
  have h2 : a ∈ ([-33, -31, -30, -29, -26, -23, -22, -21] : List Int) ++ [-19, -17, -15, -14, -13, -11, -10, -7, -6, -5, -3, -2, -1, 1, 2, 3, 5, 6, 7, 10, 11, 13, 14, 15, 17, 19, 21, 22, 23, 26, 29, 30, 31, 33, 34, 35, 37, 38, 39, 41, 42, 43, 46, 47, 51, 53, 55, 57, 58, 59] := r1
  rcases List.mem_append.mp h2 with g | r2
  · exact List.all_eq_true.mp (List.all_eq_true.mp okAB_2 a g) b hb
  have h3 : a ∈ ([-19, -17, -15, -14, -13, -11, -10, -7] : List Int) ++ [-6, -5, -3, -2, -1, 1, 2, 3, 5, 6, 7, 10, 11, 13, 14, 15, 17, 19, 21, 22, 23, 26, 29, 30, 31, 33, 34, 35, 37, 38, 39, 41, 42, 43, 46, 47, 51, 53, 55, 57, 58, 59] := r2
  rcases List.mem_append.mp h3 with g | r3
  · exact List.all_eq_true.mp (List.all_eq_true.mp okAB_3 a g) b hb
  have h4 : a ∈ ([-6, -5, -3, -2, -1, 1, 2, 3] : List Int) ++ [5, 6, 7, 10, 11, 13, 14, 15, 17, 19, 21, 22, 23, 26, 29, 30, 31, 33, 34, 35, 37, 38, 39, 41, 42, 43, 46, 47, 51, 53, 55, 57, 58, 59] := r3
  rcases List.mem_append.mp h4 with g | r4
  · exact List.all_eq_true.mp (List.all_eq_true.mp okAB_4 a g) b hb
  have h5 : a ∈ ([5, 6, 7, 10, 11, 13, 14, 15] : List Int) ++ [17, 19, 21, 22, 23, 26, 29, 30, 31, 33, 34, 35, 37, 38, 39, 41, 42, 43, 46, 47, 51, 53, 55, 57, 58, 59] := r4
  rcases List.mem_append.mp h5 with g | r5
  · exact List.all_eq_true.mp (List.all_eq_true.mp okAB_5 a g) b hb
  have h6 : a ∈ ([17, 19, 21, 22, 23, 26, 29, 30] : List Int) ++ [31, 33, 34, 35, 37, 38, 39, 41, 42, 43, 46, 47, 51, 53, 55, 57, 58, 59] := r5
  rcases List.mem_append.mp h6 with g | r6
  · exact List.all_eq_true.mp (List.all_eq_true.mp okAB_6 a g) b hb
  have h7 : a ∈ ([31, 33, 34, 35, 37, 38, 39, 41] : List Int) ++ [42, 43, 46, 47, 51, 53, 55, 57, 58, 59] := r6
  rcases List.mem_append.mp h7 with g | r7
  · exact List.all_eq_true.mp (List.all_eq_true.mp okAB_7 a g) b hb
  have h8 : a ∈ ([42, 43, 46, 47, 51, 53, 55, 57] : List Int) ++ [58, 59] := r7
  rcases List.mem_append.mp h8 with g | r8
  · exact List.all_eq_true.mp (List.all_eq_true.mp okAB_8 a g) b hb
  exact List.all_eq_true.mp (List.all_eq_true.mp okAB_9 a r8) b hb
theorem vals_t : ∀ x : Fin 121, ((x.val : Int) - 60 ≠ 0 ∧ ∀ k : Fin 8, 2 ≤ k.val → ((x.val : Int) - 60) % ((k.val : Int) * (k.val : Int)) ≠ 0) → ((x.val : Int) - 60) ∈ valsL := by decide +kernel
theorem vals_in {a : Int} (h0 : a ≠ 0) (h1 : -60 ≤ a ∧ a ≤ 60) (hs : sqf a) : a ∈ valsL := by
  have := vals_t ⟨(a + 60).toNat, by omega⟩
  rw [show (((⟨(a + 60).toNat, by omega⟩ : Fin 121).val : Int) - 60) = a by show (((a + 60).toNat : Int) - 60) = a; omega] at this
  exact this ⟨h0, fun k hk => hs (k.val : Int) (by omega) (by have := k.isLt; omega)⟩
theorem pl_t : ∀ o : Fin 60, (plM.testBit o.val = true ↔ (o.val = 0 ∨ (2 ≤ o.val ∧ ∀ k : Fin 60, 2 ≤ k.val → k.val * k.val ≤ o.val → o.val % k.val ≠ 0))) := by decide +kernel
theorem place_t {o : Nat} (h : o < 60) : place (o : Int) ↔ plM.testBit o = true := by
  rw [pl_t ⟨o, h⟩]
  constructor
  · rintro (e | ⟨⟨e1, e2⟩, -⟩)
    · exact Or.inl (by show o = 0; omega)
    · refine Or.inr ⟨by show 2 ≤ o; omega, fun k hk hk2 hk3 => ?_⟩
      have hk2 : k.val * k.val ≤ o := hk2
      have hk3 : o % k.val = 0 := hk3
      have hk4 : ((k.val * k.val : Nat) : Int) ≤ (o : Int) := by omega
      rw [Int.natCast_mul] at hk4
      refine e2 (k.val : Int) (by omega) hk4 ?_
      rw [← Int.natCast_emod, hk3]; rfl
  · rintro (e | ⟨e1, e2⟩)
    · exact Or.inl (by have : o = 0 := e; omega)
    · have e1 : 2 ≤ o := e1
      refine Or.inr ⟨⟨by omega, fun k hk hk2 hk3 => ?_⟩, by omega⟩
      obtain ⟨q, rfl⟩ := Int.eq_ofNat_of_zero_le (show 0 ≤ k by omega)
      have h4 : ((q * q : Nat) : Int) ≤ (o : Int) := by rw [Int.natCast_mul]; exact hk2
      have h3 : q * q ≤ o := by omega
      have h5 : q < 60 := by
        by_cases c : q < 60
        · exact c
        · have := Nat.mul_le_mul (show 60 ≤ q by omega) (show 60 ≤ q by omega); omega
      refine e2 ⟨q, h5⟩ (by show 2 ≤ q; omega) h3 ?_
      show o % q = 0
      have : ((o % q : Nat) : Int) = 0 := by rw [Int.natCast_emod]; exact hk3
      omega
theorem sq_t : ∀ p : Fin 60, plM.testBit p.val = true → 3 ≤ p.val → ∀ x : Fin 60, x.val < p.val → ((qrM p.val).testBit x.val = true ↔ ∃ y : Fin 60, y.val < p.val ∧ y.val * y.val % p.val = x.val) := by decide +kernel
theorem sqB_e {u : Int} {p : Nat} (hp : p < 60) (h1 : plM.testBit p = true) (h3 : 3 ≤ p) : sqm u (p : Int) ↔ sqB u (p : Int) = true := by
  have hu1 : 0 ≤ u % (p : Int) := Int.emod_nonneg _ (by omega)
  have hu2 : u % (p : Int) < (p : Int) := Int.emod_lt_of_pos _ (by omega)
  unfold sqB
  rw [Int.toNat_natCast]
  have := sq_t ⟨p, hp⟩ h1 h3 ⟨(u % (p : Int)).toNat, by omega⟩ (by show (u % (p : Int)).toNat < p; omega)
  refine Iff.trans ?_ this.symm
  constructor
  · rintro ⟨x, x0, x1, x2⟩
    obtain ⟨q, rfl⟩ := Int.eq_ofNat_of_zero_le x0
    refine ⟨⟨q, by omega⟩, by show q < p; omega, ?_⟩
    show q * q % p = (u % (p : Int)).toNat
    have : ((q * q % p : Nat) : Int) = u % (p : Int) := by rw [Int.natCast_emod, Int.natCast_mul]; exact x2
    omega
  · rintro ⟨y, y1, y2⟩
    have y1 : y.val < p := y1
    have y2 : y.val * y.val % p = (u % (p : Int)).toNat := y2
    refine ⟨(y.val : Int), by omega, by omega, ?_⟩
    rw [← Int.natCast_mul, ← Int.natCast_emod, y2]
    omega
theorem b2_if {p : Prop} [inst : Decidable p] : b2 p = if p then 1 else 0 := by
  by_cases h : p
  · rw [b2_t h, if_pos h]
  · rw [b2_f h, if_neg h]
theorem hsC_e {a b : Int} {p : Nat} (hp : p < 60) (h1 : plM.testBit p = true) : locQ a b (p : Int) = hsC a b (p : Int) := by
  unfold locQ hsC
  by_cases c0 : (p : Int) = 0
  · rw [if_pos c0, if_pos c0]
  · rw [if_neg c0, if_neg c0]
    by_cases c2 : (p : Int) = 2
    · rw [if_pos c2, if_pos c2]
    · rw [if_neg c2, if_neg c2]
      have h3 : 3 ≤ p := by
        by_cases c : p = 1
        · subst c; exact absurd h1 (by decide)
        · omega
      have e : ∀ u : Int, (¬ sqm u (p : Int)) ↔ sqB u (p : Int) = false := fun u => by rw [sqB_e hp h1 h3]; exact Bool.not_eq_true _ ▸ Iff.rfl
      rw [b2_if, b2_cg (and_congr_right fun _ => e _), b2_cg (q := (p : Int) ∣ a ∧ sqB _ _ = false) (and_congr_right fun _ => e _), b2_if, b2_if]
theorem sumN_up {f : Nat → Int} {n : Nat} : ∀ m : Nat, n ≤ m → (∀ o, n ≤ o → o < m → f o = 0) → sumN f m = sumN f n
  | 0, h, _ => by rw [show n = 0 by omega]
  | m + 1, h, hf => by
    by_cases c : n = m + 1
    · rw [c]
    · show sumN f m + f m = _
      rw [hf m (by omega) (by omega), Int.add_zero]
      exact sumN_up m (by omega) (fun o h1 h2 => hf o h1 (by omega))
noncomputable def fQ2 (a b : Int) (o : Nat) : Int := b2 (place (o : Int)) * locQ a b (o : Int)
theorem fQ2_60 (a b : Int) : ∀ n : Nat, n ≤ 60 → sumN (fQ2 a b) n = cS60 a b n
  | 0, _ => rfl
  | n + 1, h => by
    show sumN (fQ2 a b) n + fQ2 a b n = cS60 a b n + _
    rw [fQ2_60 a b n (by omega)]
    congr 1
    unfold fQ2
    by_cases c : plM.testBit n = true
    · rw [b2_t ((place_t (by omega)).mpr c), if_pos c, Int.one_mul, hsC_e (by omega) c]
    · rw [b2_f (fun z => c ((place_t (by omega)).mp z)), if_neg c, Int.zero_mul]
theorem fQ2_big {a b : Int} (ha : a ≠ 0 ∧ -60 ≤ a ∧ a ≤ 60) (hb : b ≠ 0 ∧ -60 ≤ b ∧ b ≤ 60) {o : Nat} (h : 60 ≤ o) : fQ2 a b o = 0 := by
  unfold fQ2
  by_cases c : place (o : Int)
  · have hp := c.resolve_left (by omega)
    have h61 : o ≠ 60 := fun z => by
      subst z
      exact hp.1.2 2 (by decide) (by decide) (by decide)
    have nd : ∀ x : Int, x ≠ 0 → -60 ≤ x ∧ x ≤ 60 → ¬ (o : Int) ∣ x := fun x h0 hx hd => by
      have := Int.le_of_dvd (show 0 < (x.natAbs : Int) by omega) (Int.dvd_natAbs.mpr hd)
      omega
    have na := nd a ha.1 ha.2
    have nb := nd b hb.1 hb.2
    unfold locQ
    rw [b2_t c, Int.one_mul, if_neg (by omega), if_neg (by omega), b2_f (p := (o : Int) ∣ a ∧ (o : Int) ∣ b ∧ _) (fun z => na z.1), b2_f (p := (o : Int) ∣ b ∧ _) (fun z => nb z.1), b2_f (p := (o : Int) ∣ a ∧ _) (fun z => na z.1)]
    decide
  · rw [b2_f c, Int.zero_mul]
theorem pair_tot {a b : Int} (ha : a ≠ 0 ∧ -60 ≤ a ∧ a ≤ 60 ∧ sqf a) (hb : b ≠ 0 ∧ -60 ≤ b ∧ b ≤ 60 ∧ sqf b) : sumN (fQ2 a b) 1000 % 6 = 0 := by
  rw [sumN_up (n := 60) 1000 (by decide) (fun o h1 _ => fQ2_big ⟨ha.1, ha.2.1, ha.2.2.1⟩ ⟨hb.1, hb.2.1, hb.2.2.1⟩ h1), fQ2_60 a b 60 (by decide)]
  have := okAB_l a (vals_in ha.1 ⟨ha.2.1, ha.2.2.1⟩ ha.2.2.2) b (vals_in hb.1 ⟨hb.2.1, hb.2.2.1⟩ hb.2.2.2)
  unfold okAB at this
  rw [Bool.and_eq_true] at this
  exact of_decide_eq_true this.1
theorem sqM_t : ∀ i j : Fin 78, sqM.testBit (78 * i.val + j.val) = true → ∃ r : Fin 78, r.val * r.val = 78 * i.val + j.val := by decide +kernel
theorem slY_e {a b z : Int} (ha : -60 ≤ a ∧ a ≤ 60) (hb : -60 ≤ b ∧ b ≤ 60) (hz : 0 ≤ z ∧ z < 8) : ∀ n : Nat, n ≤ 8 → slY a b z n = true → ∃ y r : Int, 0 ≤ y ∧ y < 8 ∧ ¬ (y = 0 ∧ z = 0) ∧ 0 ≤ r ∧ r * r = a * y * y + b * z * z
  | 0, _, h => by cases h
  | n + 1, hn, h => by
    unfold slY at h
    rw [Bool.or_eq_true] at h
    rcases h with h | h
    · rw [Bool.and_eq_true, Bool.and_eq_true] at h
      obtain ⟨⟨g1, g2⟩, g3⟩ := h
      have g1 := of_decide_eq_true g1
      have g3 : ¬ ((n : Int) = 0 ∧ z = 0) := fun q => by
        have e1 : n = 0 := by omega
        rw [decide_eq_true e1, decide_eq_true q.2] at g3
        cases g3
      have hr : a * (n : Int) * (n : Int) + b * z * z ≤ 5880 := by
        have h1 : a * (n : Int) * (n : Int) ≤ 60 * 7 * 7 := by
          rw [Int.mul_assoc, Int.mul_assoc]
          have hn7 : (n : Int) * (n : Int) ≤ 7 * 7 := Int.mul_le_mul (by omega) (by omega) (by omega) (by decide)
          have hn0 : 0 ≤ (n : Int) * (n : Int) := Int.mul_nonneg (by omega) (by omega)
          exact Int.le_trans (Int.mul_le_mul_of_nonneg_right ha.2 hn0) (Int.mul_le_mul_of_nonneg_left hn7 (by decide))
        have h2 : b * z * z ≤ 60 * 7 * 7 := by
          rw [Int.mul_assoc, Int.mul_assoc]
          have hn7 : z * z ≤ 7 * 7 := Int.mul_le_mul (by omega) (by omega) (by omega) (by decide)
          have hn0 : 0 ≤ z * z := Int.mul_nonneg (by omega) (by omega)
          exact Int.le_trans (Int.mul_le_mul_of_nonneg_right hb.2 hn0) (Int.mul_le_mul_of_nonneg_left hn7 (by decide))
        omega
      obtain ⟨V, hV⟩ : ∃ V, V = (a * (n : Int) * (n : Int) + b * z * z).toNat := ⟨_, rfl⟩
      rw [← hV] at g2
      have hV2 : 78 * (V / 78) + V % 78 = V := Nat.div_add_mod V 78
      obtain ⟨r, hr2⟩ := sqM_t ⟨V / 78, by omega⟩ ⟨V % 78, Nat.mod_lt _ (by decide)⟩ (by show sqM.testBit (78 * (V / 78) + V % 78) = true; rw [hV2]; exact g2)
      have hr2 : r.val * r.val = 78 * (V / 78) + V % 78 := hr2
      rw [hV2, hV] at hr2
      refine ⟨(n : Int), (r.val : Int), by omega, by omega, g3, by omega, ?_⟩
      rw [← Int.natCast_mul, hr2]
      omega
    · exact slY_e ha hb hz n (by omega) h
theorem slZ_e {a b : Int} (ha : -60 ≤ a ∧ a ≤ 60) (hb : -60 ≤ b ∧ b ≤ 60) : ∀ n : Nat, n ≤ 8 → slZ a b n = true → ∃ y z r : Int, 0 ≤ y ∧ y < 8 ∧ 0 ≤ z ∧ z < 8 ∧ ¬ (y = 0 ∧ z = 0) ∧ 0 ≤ r ∧ r * r = a * y * y + b * z * z
  | 0, _, h => by cases h
  | n + 1, hn, h => by
    unfold slZ at h
    rw [Bool.or_eq_true] at h
    rcases h with h | h
    · obtain ⟨y, r, g1, g2, g3, g4, g5⟩ := slY_e ha hb (z := (n : Int)) (by omega) 8 (by decide) h
      exact ⟨y, n, r, g1, g2, by omega, by omega, g3, g4, g5⟩
    · exact slZ_e ha hb n (by omega) h
theorem pair_sol {a b : Int} (ha : a ≠ 0 ∧ -60 ≤ a ∧ a ≤ 60 ∧ sqf a) (hb : b ≠ 0 ∧ -60 ≤ b ∧ b ≤ 60 ∧ sqf b) (h : ∀ p, place p → locQ a b p = 0) : soZ a b 8 0 ≠ none := by
  have h0 : sumN (fQ2 a b) 60 = 0 := sumN_0 60 (fun o _ => by
    unfold fQ2
    by_cases c : place (o : Int)
    · rw [h _ c, Int.mul_zero]
    · rw [b2_f c, Int.zero_mul])
  rw [fQ2_60 a b 60 (by decide)] at h0
  have := okAB_l a (vals_in ha.1 ⟨ha.2.1, ha.2.2.1⟩ ha.2.2.2) b (vals_in hb.1 ⟨hb.2.1, hb.2.2.1⟩ hb.2.2.2)
  unfold okAB at this
  rw [Bool.and_eq_true, Bool.or_eq_true] at this
  rcases this.2 with g | g
  · exact absurd h0 (of_decide_eq_true g)
  · exact soZ_ex (slZ_e ⟨ha.2.1, ha.2.2.1⟩ ⟨hb.2.1, hb.2.2.1⟩ 8 (by decide) g)
/-- all places' sum is the list's -/
theorem list_tot {σ : mSt} {s k : Nat} (hP : iPlaces σ 6 s) (hk : k < 6) : sumN (lx σ k) s = sumN (fun o => b2 (place (o : Int)) * loc σ k (o : Int)) 1000 := by
  have hpl := hP.2.2.2.1
  have := sum_re (f := fun o => b2 (place (o : Int)) * loc σ k (o : Int)) (L := σ 102) (s := s) hP.2.2.1 (fun i hi => (place_rng (hpl i hi)).1) (fun o ho hn => by
    show b2 (place (o : Int)) * loc σ k (o : Int) = 0
    by_cases c : place (o : Int)
    · rw [hP.2.2.2.2.2 k _ hk c hn, Int.mul_zero]
    · rw [b2_f c, Int.zero_mul]) 1000 s (by decide) (Nat.le_refl _) (fun j hj => (place_rng (hpl j hj)).2) (fun j h1 h2 => by omega)
  rw [this]
  refine sumN_cg s (fun i hi => ?_)
  have hp := hpl i hi
  have e : (((σ 102 i).toNat : Nat) : Int) = σ 102 i := by have := (place_rng hp).1; omega
  rw [e, b2_t hp, Int.one_mul]
  rfl

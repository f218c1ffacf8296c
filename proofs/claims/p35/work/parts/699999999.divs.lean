/-! the class side of divs -/
theorem lst_cg {σ : mSt} {s : Nat} {X Y : Int → Prop} (h : lst σ s X) (hc : ∀ y, X y ↔ Y y) : lst σ s Y := ⟨h.1, h.2.1, h.2.2.1, h.2.2.2.1, fun x => (hc x).symm.trans (h.2.2.2.2 x)⟩
theorem fcN_big : ∀ c : Nat, 6 ≤ c → 5040 ≤ fcN c := by
  intro c
  induction c with
  | zero => intro h; omega
  | succ c ih =>
    intro h
    by_cases h5 : c = 5
    · rw [h5]; decide
    · have i := ih (by omega)
      have := Int.mul_le_mul_of_nonneg_left (show (1 : Int) ≤ (c : Int) + 2 by omega) (show 0 ≤ fcN c by omega)
      show 5040 ≤ fcN c * ((c : Int) + 2)
      omega
theorem fcN_mid : ∀ c : Nat, 4 ≤ c → 120 ≤ fcN c := by
  intro c
  induction c with
  | zero => intro h; omega
  | succ c ih =>
    intro h
    by_cases h5 : c = 3
    · rw [h5]; decide
    · have i := ih (by omega)
      have := Int.mul_le_mul_of_nonneg_left (show (1 : Int) ≤ (c : Int) + 2 by omega) (show 0 ≤ fcN c by omega)
      show 120 ≤ fcN c * ((c : Int) + 2)
      omega
theorem fcN_pos : ∀ c : Nat, 1 ≤ fcN c := by
  intro c
  induction c with
  | zero => exact Int.le_refl _
  | succ c ih =>
    have := Int.mul_le_mul_of_nonneg_left (show (1 : Int) ≤ (c : Int) + 2 by omega) (show 0 ≤ fcN c by omega)
    show 1 ≤ fcN c * ((c : Int) + 2)
    omega
theorem no_div {n : Int} (h1 : 1 ≤ n) (h2 : n ≤ 999) (h : ∀ d : Int, 2 ≤ d → d < 1000 → ¬ d ∣ n) : n = 1 := by
  by_cases c : n = 1
  · exact c
  · exact absurd (Int.dvd_refl n) (h n (by omega) (by omega))
theorem dvL7 {v n0 : Int} {X : Int → Prop} {b : Nat} {x : mSt → Option (Int × mSt)} (hn0 : 1 ≤ n0 ∧ n0 ≤ 999) (hb : b ≤ 58) : ∀ (m : Nat) (j n : Int) (c s N : Nat) (σ : mSt), j + m = 1000 → 2 ≤ j → m < N → 1 ≤ n → n ∣ n0 → (∀ d : Int, 2 ≤ d → d < j → ¬ d ∣ n) → (c : Int) + 2 ≤ j → n * fcN c ≤ n0 → s ≤ b + c → lst σ s (fun y => X y ∨ (prm y ∧ y ∣ n0 ∧ ¬ y ∣ n)) → ∃ s' σ' c', mX7_noteDivisors_L7 101 v x N n j σ = x σ' ∧ frm noW σ σ' ∧ σ' 101 1 = σ 101 1 ∧ s' ≤ b + c' ∧ fcN c' ≤ n0 ∧ lst σ' s' (fun y => X y ∨ (prm y ∧ y ∣ n0)) := by
  intro m
  induction m with
  | zero =>
    intro j n c s N σ e1 e2 e3 e4 e5 e6 e7 e8 e9 e10
    obtain ⟨N, rfl⟩ : ∃ q, N = q + 1 := ⟨N - 1, by omega⟩
    have hn : n ≤ n0 := Int.le_of_dvd (by omega) e5
    have n1 := no_div e4 (by omega) (fun d z1 z2 => e6 d z1 (by omega))
    refine ⟨s, σ, c, ?_, frm.rf σ, rfl, e9, by rw [n1] at e8; omega, lst_cg e10 (fun y => ?_)⟩
    · rw [mX7_noteDivisors_L7.eq_2, if_pos (by rw [wI_id (x := j) (by omega)]; omega)]
    · rw [n1]
      constructor
      · rintro (z | ⟨z1, z2, _⟩)
        · exact Or.inl z
        · exact Or.inr ⟨z1, z2⟩
      · rintro (z | ⟨z1, z2⟩)
        · exact Or.inl z
        · refine Or.inr ⟨z1, z2, fun z => ?_⟩
          have := Int.le_of_dvd (by omega) z
          have := z1.1
          omega
  | succ m ih =>
    intro j n c s N σ e1 e2 e3 e4 e5 e6 e7 e8 e9 e10
    obtain ⟨N, rfl⟩ : ∃ q, N = q + 1 := ⟨N - 1, by omega⟩
    have hn : n ≤ n0 := Int.le_of_dvd (by omega) e5
    have fp := fcN_pos c
    have m1 : 0 ≤ n % j := Int.emod_nonneg _ (by omega)
    have m2 : n % j < j := Int.emod_lt_of_pos _ (by omega)
    have wj : wI j = j := wI_id (x := j) (by omega)
    have wn : wI n = n := wI_id (x := n) (by omega)
    have fle : fcN c ≤ n * fcN c := by
      have := Int.mul_le_mul_of_nonneg_right e4 (show 0 ≤ fcN c by omega)
      omega
    rw [mX7_noteDivisors_L7.eq_2, wj, wn, if_neg (by omega)]
    by_cases h1 : n ≤ 1
    · have n1 : n = 1 := by omega
      refine ⟨s, σ, c, by rw [if_pos h1], frm.rf σ, rfl, e9, by omega, lst_cg e10 (fun y => ?_)⟩
      rw [n1]
      constructor
      · rintro (z | ⟨z1, z2, _⟩)
        · exact Or.inl z
        · exact Or.inr ⟨z1, z2⟩
      · rintro (z | ⟨z1, z2⟩)
        · exact Or.inl z
        · refine Or.inr ⟨z1, z2, fun z => ?_⟩
          have := Int.le_of_dvd (by omega) z
          have := z1.1
          omega
    · rw [if_neg h1, mG_pos (by omega), Int.tmod_eq_emod_of_nonneg (by omega), wI_id (x := n % j) (by omega)]
      obtain ⟨n', q1, q2, q3, q4, q5, q6⟩ := strip (v := v) (p := j) (x := fun z2 zσ => mX7_noteDivisors_B56 101 v (mX7_noteDivisors_L7 101 v x N) x z2 j zσ) (σ := σ) ⟨e2, by omega⟩ 10 0 n mF e4 (by omega) (by omega) (by unfold mF; omega) (by omega) (by omega)
      have d' : ∀ d : Int, 2 ≤ d → d < j + 1 → ¬ d ∣ n' := fun d z1 z2 z => by
        by_cases z3 : d = j
        · rw [z3] at z; exact q4 z
        · exact e6 d z1 (by omega) (Int.dvd_trans z q3)
      by_cases hd : j ∣ n
      · have pj : prm j := ⟨e2, fun k k1 k2 k3 => by
          have kk := Int.mul_le_mul_of_nonneg_right k1 (show 0 ≤ k by omega)
          exact e6 k k1 (by omega) (Int.dvd_trans (Int.dvd_of_emod_eq_zero k3) hd)⟩
        have c5 : c ≤ 5 := by
          rcases Nat.lt_or_ge c 6 with z | z
          · omega
          · have := fcN_big c z; omega
        obtain ⟨s1, σ1, r1, r2, r3, r4, r5⟩ := note_e (v := j) e10 (by omega) (by omega)
        obtain ⟨n2, p1, p2, p3, p4, p5, p6⟩ := strip (v := v) (p := j) (x := fun z2 zσ => mX7_noteDivisors_B56 101 v (mX7_noteDivisors_L7 101 v x N) x z2 j zσ) (σ := σ1) ⟨e2, by omega⟩ 10 0 n mF e4 (by omega) (by omega) (by unfold mF; omega) (by omega) (by omega)
        have d2 : ∀ d : Int, 2 ≤ d → d < j + 1 → ¬ d ∣ n2 := fun d z1 z2 z => by
          by_cases z3 : d = j
          · rw [z3] at z; exact p4 z
          · exact e6 d z1 (by omega) (Int.dvd_trans z p3)
        have cnt : n2 * fcN (c + 1) ≤ n0 := by
          have a1 : n2 * fcN (c + 1) = (n2 * ((c : Int) + 2)) * fcN c := by
            show n2 * (fcN c * ((c : Int) + 2)) = _
            grind
          have a2 : n2 * ((c : Int) + 2) ≤ n2 * j := Int.mul_le_mul_of_nonneg_left e7 (by omega)
          have a3 : n2 * ((c : Int) + 2) ≤ n := by have := p5 hd; omega
          have a4 := Int.mul_le_mul_of_nonneg_right a3 (show 0 ≤ fcN c by omega)
          omega
        have cg : ∀ y, ((X y ∨ (prm y ∧ y ∣ n0 ∧ ¬ y ∣ n)) ∨ y = j) ↔ (X y ∨ (prm y ∧ y ∣ n0 ∧ ¬ y ∣ n2)) := fun y => by
          constructor
          · rintro ((z | ⟨z1, z2, z3⟩) | z)
            · exact Or.inl z
            · exact Or.inr ⟨z1, z2, fun w => z3 (Int.dvd_trans w p3)⟩
            · rw [z]; exact Or.inr ⟨pj, Int.dvd_trans hd e5, p4⟩
          · rintro (z | ⟨z1, z2, z3⟩)
            · exact Or.inl (Or.inl z)
            · by_cases w : y ∣ n
              · by_cases w2 : y ∣ j
                · exact Or.inr (prm_dvd pj w2 z1.1)
                · exact absurd ((p6 y z1 w2).mp w) z3
              · exact Or.inl (Or.inr ⟨z1, z2, w⟩)
        obtain ⟨s2, σ2, c2, t1, t2, t3, t4, t5, t6⟩ := ih (j + 1) n2 (c + 1) s1 N σ1 (by omega) (by omega) (by omega) p2 (Int.dvd_trans p3 e5) d2 (by omega) cnt (by omega) (lst_cg r5 cg)
        · refine ⟨s2, σ2, c2, ?_, r2.tr t2 (fun _ _ z => z), by rw [t3, r3], t4, t5, t6⟩
          rw [if_pos (Int.emod_eq_zero_of_dvd hd), r1, mCall_some]
          unfold mX7_noteDivisors_B30
          rw [p1]
          unfold mX7_noteDivisors_B56
          rw [bnd_eq]
          exact t1
      · have cnt : n' * fcN c ≤ n0 := by
          have a3 : n' ≤ n := Int.le_of_dvd (by omega) q3
          have a4 := Int.mul_le_mul_of_nonneg_right a3 (show 0 ≤ fcN c by omega)
          omega
        have cg : ∀ y, (X y ∨ (prm y ∧ y ∣ n0 ∧ ¬ y ∣ n)) ↔ (X y ∨ (prm y ∧ y ∣ n0 ∧ ¬ y ∣ n')) := fun y => by
          constructor
          · rintro (z | ⟨z1, z2, z3⟩)
            · exact Or.inl z
            · exact Or.inr ⟨z1, z2, fun w => z3 (Int.dvd_trans w q3)⟩
          · rintro (z | ⟨z1, z2, z3⟩)
            · exact Or.inl z
            · refine Or.inr ⟨z1, z2, fun w => ?_⟩
              by_cases w2 : y ∣ j
              · have yj := Int.le_of_dvd (by omega) w2
                by_cases w3 : y = j
                · rw [w3] at w; exact hd w
                · exact e6 y z1.1 (by omega) w
              · exact z3 ((q6 y z1 w2).mp w)
        obtain ⟨s2, σ2, c2, t1, t2, t3, t4, t5, t6⟩ := ih (j + 1) n' c s N σ (by omega) (by omega) (by omega) q2 (Int.dvd_trans q3 e5) d' (by omega) cnt e9 (lst_cg e10 cg)
        · refine ⟨s2, σ2, c2, ?_, t2, t3, t4, t5, t6⟩
          rw [if_neg (fun z => hd (Int.dvd_of_emod_eq_zero z))]
          unfold mX7_noteDivisors_B30
          rw [q1]
          unfold mX7_noteDivisors_B56
          rw [bnd_eq]
          exact t1
theorem dv_e {σ : mSt} {s : Nat} {v : Int} {X : Int → Prop} (h : lst σ s X) (hs : s ≤ 58) (hv : v ≠ 0 ∧ -999 ≤ v ∧ v ≤ 999) : ∃ s' σ' c', mX7_noteDivisors 101 v σ = some (0, σ') ∧ frm noW σ σ' ∧ σ' 101 1 = σ 101 1 ∧ s' ≤ s + c' ∧ fcN c' ≤ (v.natAbs : Int) ∧ lst σ' s' (fun y => X y ∨ (prm y ∧ y ∣ v)) := by
  obtain ⟨s2, σ2, c2, t1, t2, t3, t4, t5, t6⟩ := dvL7 (v := v) (n0 := (v.natAbs : Int)) (X := X) (b := s) (x := fun zσ => mX7_noteDivisors_B62 101 v zσ) (by omega) hs 998 2 (v.natAbs : Int) 0 s mF σ (by omega) (by omega) (by unfold mF; omega) (by omega) (Int.dvd_refl _) (fun d z1 z2 => by omega) (by omega) (by show (v.natAbs : Int) * 1 ≤ _; omega) (by omega) (lst_cg h (fun y => ⟨Or.inl, fun z => z.elim id (fun ⟨_, z2, z3⟩ => absurd z2 z3)⟩))
  refine ⟨s2, σ2, c2, ?_, t2, t3, t4, t5, lst_cg t6 (fun y => ?_)⟩
  · unfold mX7_noteDivisors
    rw [gc101, absI_e _ _ (by omega), mCall_some]
    exact t1
  · rw [Int.dvd_natAbs]

/-! rows made less by those behind them: one step -/
def redAt (F : Nat → V4) (r i : Nat) : Prop := 0 ≤ vg i (F r) ∧ vg i (F r) < vg i (F i)
theorem red_mk {F : Nat → V4} (h : ∀ r i, r < i → i < 4 → redAt F r i) : Red F := ⟨h 0 1 (by omega) (by omega), h 0 2 (by omega) (by omega), h 0 3 (by omega) (by omega), h 1 2 (by omega) (by omega), h 1 3 (by omega) (by omega), h 2 3 (by omega) (by omega)⟩
def stS (E F : Nat → V4) : Prop := Tri F ∧ (∀ S : V4 → Prop, Sub4 S → (rws S F ↔ rws S E)) ∧ ∀ j, j < 4 → vg j (F j) = vg j (E j)
theorem stS_rf {E : Nat → V4} (h : Tri E) : stS E E := ⟨h, fun _ _ => Iff.rfl, fun _ _ => rfl⟩
def rdS (M : Int) (F : Nat → V4) (r c : Nat) (v : V4) : Prop := r < c ∧ c < 4 ∧ (∀ i, i < c → vg i v = vg i (F r)) ∧ vg c v = vg c (F r) % vg c (F c) ∧ ∀ i, c < i → i < 4 → ∃ k, vg i v = vg i (F r) - vg c (F r) / vg c (F c) * vg i (F c) + k * M
theorem rdS_step {M : Int} {E F : Nat → V4} {r c : Nat} {v : V4} (hu : uSp M E) (h : stS E F) (hr : rdS M F r c v) : stS E (sRow F r v) := by
  obtain ⟨tF, h2, h3⟩ := h
  obtain ⟨r1, r2, r3, r4, r5⟩ := hr
  have uF : uSp M F := fun i hi => by
    have : rws (spn F) E := (h2 _ (spn_sub F)).mp rws_spn
    exact spn_le (spn_sub F) this (hu i hi)
  have zc := tri_z tF c
  have dc := tri_d tF c r2
  refine ⟨tri_mk (fun j hj => ?_) (fun j i hi hj => ?_), fun S hS => ?_, fun j hj => ?_⟩
  · by_cases hjr : j = r
    · rw [hjr, sRow_c, r3 r r1]; exact tri_d tF r (by omega)
    · rw [sRow_n _ _ _ hjr]; exact tri_d tF j hj
  · by_cases hjr : j = r
    · rw [hjr, sRow_c, r3 i (by omega)]; exact tri_z tF r i (by omega) (by omega)
    · rw [sRow_n _ _ _ hjr]; exact tri_z tF j i hi hj
  · rw [← h2 S hS, rws_sRow (show r < 4 by omega), rws_sp (show r < 4 by omega)]
    have key : (∀ j, j < 4 → j ≠ r → S (F j)) → (S v ↔ S (F r)) := by
      intro hj
      have hc := hj c r2 (by omega)
      have tl : ∀ i, c < i → i < 4 → S (vS M (vE i)) := fun i hi hi4 => tail_in tF uF hS (c := c) (fun j hj1 hj4 => hj j hj4 (by omega)) (by omega) hi4
      obtain ⟨t0, t1, t2⟩ := hS
      have em := Int.mul_ediv_add_emod (vg c (F r)) (vg c (F c))
      constructor
      · intro hv
        refine S_shift ⟨t0, t1, t2⟩ (M := M) (y := vA v (vS (vg c (F r) / vg c (F c)) (F c))) (fun i hi => ?_) (t1 _ _ hv (t2 _ _ hc))
        rw [vg_vA _ _ hi, vg_vS _ _ hi]
        rcases (show i < c ∨ i = c ∨ c < i by omega) with h | h | h
        · exact ⟨0, by rw [r3 i h, zc i h r2]; omega, Or.inl rfl⟩
        · refine ⟨0, ?_, Or.inl rfl⟩
          rw [h, r4, Int.mul_comm (vg c (F r) / vg c (F c))]
          omega
        · obtain ⟨k, hk⟩ := r5 i h hi
          exact ⟨-k, by rw [hk, Int.neg_mul]; omega, Or.inr (tl i h hi)⟩
      · intro hv
        refine S_shift ⟨t0, t1, t2⟩ (M := M) (y := vA (F r) (vS (-(vg c (F r) / vg c (F c))) (F c))) (fun i hi => ?_) (t1 _ _ hv (t2 _ _ hc))
        rw [vg_vA _ _ hi, vg_vS _ _ hi, Int.neg_mul]
        rcases (show i < c ∨ i = c ∨ c < i by omega) with h | h | h
        · exact ⟨0, by rw [r3 i h, zc i h r2]; omega, Or.inl rfl⟩
        · refine ⟨0, ?_, Or.inl rfl⟩
          rw [h, r4, Int.mul_comm (vg c (F r) / vg c (F c))]
          omega
        · obtain ⟨k, hk⟩ := r5 i h hi
          exact ⟨k, by rw [hk]; omega, Or.inr (tl i h hi)⟩
    constructor
    · rintro ⟨a, b⟩
      exact ⟨(key b).mp a, b⟩
    · rintro ⟨a, b⟩
      exact ⟨(key b).mpr a, b⟩
  · by_cases hjr : j = r
    · rw [hjr, sRow_c, r3 r r1]; exact h3 r (by omega)
    · rw [sRow_n _ _ _ hjr]; exact h3 j hj
theorem rdS_dia {M : Int} {F : Nat → V4} {r c : Nat} {v : V4} (hr : rdS M F r c v) {j : Nat} : vg j (sRow F r v j) = vg j (F j) := by
  by_cases hjr : j = r
  · rw [hjr, sRow_c, hr.2.2.1 r hr.1]
  · rw [sRow_n _ _ _ hjr]
theorem rdS_at {M : Int} {F : Nat → V4} {r c : Nat} {v : V4} (tF : Tri F) (hr : rdS M F r c v) : redAt (sRow F r v) r c := by
  have dc := tri_d tF c hr.2.1
  unfold redAt
  rw [rdS_dia hr, sRow_c, hr.2.2.2.1]
  exact ⟨Int.emod_nonneg _ (by omega), Int.emod_lt_of_pos _ dc⟩
theorem rdS_ne {M : Int} {F : Nat → V4} {r c : Nat} {v : V4} (hr : rdS M F r c v) {r' i : Nat} (h : redAt F r' i) (hn : r' ≠ r ∨ i < c) : redAt (sRow F r v) r' i := by
  unfold redAt at h ⊢
  rw [rdS_dia hr]
  by_cases hrr : r' = r
  · rw [hrr, sRow_c, hr.2.2.1 i (by omega), ← hrr]; exact h
  · rw [sRow_n _ _ _ hrr]; exact h
/-! the class -/
def rdC (F : Nat → V4) (r c : Nat) : V4 := vA (F r) (vS (-(vg c (F r) / vg c (F c))) (F c))
theorem rdC_S {M : Int} {F : Nat → V4} {r c : Nat} (tF : Tri F) (hr : r < c) (hc : c < 4) : rdS M F r c (rdC F r c) := by
  have zc := tri_z tF c
  refine ⟨hr, hc, fun i hi => ?_, ?_, fun i h1 h2 => ⟨0, ?_⟩⟩
  · unfold rdC
    rw [vg_vA _ _ (by omega), vg_vS _ _ (by omega), zc i hi hc]
    omega
  · unfold rdC
    have em := Int.mul_ediv_add_emod (vg c (F r)) (vg c (F c))
    rw [vg_vA _ _ hc, vg_vS _ _ hc, Int.neg_mul, Int.mul_comm (vg c (F r) / vg c (F c))]
    omega
  · unfold rdC
    rw [vg_vA _ _ h2, vg_vS _ _ h2, Int.neg_mul]
    omega
theorem setL38 {σ : mSt} {o r c : Nat} {q : Int} {F : Nat → V4} {w : V4} {x : mSt → Option (Int × mSt)} (hL : Lay σ) (ho : o ∈ latIds) (hrc : r < c) (hc : c < 4) (hq : q = vg c (F r) / vg c (F c)) : ∀ (m i N : Nat), i + m = 4 → m < N → mX3_settle_L38 o (r : Int) (c : Int) q x N (i : Int) (cl σ o (sRow F r (vMix i (rdC F r c) (F r))) w) = x (cl σ o (sRow F r (rdC F r c)) w) := by
  intro m
  induction m with
  | zero =>
    intro i N h1 h2
    obtain ⟨N, rfl⟩ : ∃ q, N = q + 1 := ⟨N - 1, by omega⟩
    rw [mX3_settle_L38.eq_2, if_pos (by rw [wI_id (by omega)]; omega), show i = 4 by omega, vMix_4]
  | succ m ih =>
    intro i N h1 h2
    obtain ⟨N, rfl⟩ : ∃ q, N = q + 1 := ⟨N - 1, by omega⟩
    have hi : i < 4 := by omega
    obtain ⟨k1, k2, k3, k4, k5, k6, k7⟩ := cl_lay (sRow F r (vMix i (rdC F r c) (F r))) w hL ho
    have rd1 := cl_r σ o (sRow F r (vMix i (rdC F r c) (F r))) w (show r < 4 by omega) hi
    rw [sRow_c, vMix_i hi] at rd1
    have rd2 := cl_r σ o (sRow F r (vMix i (rdC F r c) (F r))) w hc hi
    rw [sRow_n _ _ _ (by omega)] at rd2
    have up := cl_row σ o (sRow F r (vMix i (rdC F r c) (F r))) w (vg i (F r) - q * vg i (F c)) (show r < 4 by omega) hi
    rw [sRow_c, sRow_sRow, vMix_s (by unfold rdC; rw [vg_vA _ _ hi, vg_vS _ _ hi, hq, Int.neg_mul]; omega)] at up
    rw [mX3_settle_L38.eq_2, if_neg (by rw [wI_id (by omega)]; omega), gr' k4 (by omega), gx k2 _ (by omega), wI_nat (by omega), gr' (k7 r (by omega)).2 (by omega), gx (k7 r (by omega)).1 _ (by omega), gr' k4 (by omega), gx k2 _ (by omega), wI_nat (by omega), gr' (k7 c hc).2 (by omega), gx (k7 c hc).1 _ (by omega), wI_nat (by omega), rd1, rd2, bnd_eq, bnd_eq, up, show (i : Int) + 1 = ((i + 1 : Nat) : Int) by omega]
    exact ih (i + 1) N (by omega) (by omega)
/-- how great the row's numbers are -/
def rB (F : Nat → V4) (r : Nat) (K : Int) : Prop := ∀ j, r < j → j < 4 → -(K * vg j (F j)) ≤ vg j (F r) ∧ vg j (F r) ≤ K * vg j (F j)
theorem rB_step {F : Nat → V4} {r c : Nat} {K : Int} (tF : Tri F) (hr : r < c) (hc : c < 4) (hK : 1 ≤ K) (h : rB F r K) (hred : ∀ i, c < i → i < 4 → redAt F c i) : rB (sRow F r (rdC F r c)) r (2 * K) := by
  intro j hj hj4
  have dj := tri_d tF j hj4
  have dc := tri_d tF c hc
  have hh := h j hj hj4
  have KK := Int.mul_le_mul_of_nonneg_right hK (show 0 ≤ vg j (F j) by omega)
  rw [rdS_dia (rdC_S (M := 1) tF hr hc), sRow_c, Int.mul_assoc]
  obtain ⟨-, -, s3, s4, -⟩ := rdC_S (M := 1) tF hr hc
  rcases (show j < c ∨ j = c ∨ c < j by omega) with h1 | h1 | h1
  · rw [s3 j h1]
    omega
  · have e1 := Int.emod_nonneg (vg c (F r)) (show vg c (F c) ≠ 0 by omega)
    have e2 := Int.emod_lt_of_pos (vg c (F r)) dc
    subst h1
    rw [s4]
    omega
  · have q := div_rng2 (a := vg c (F r)) (d := vg c (F c)) (A := K) (by omega) (h c hr hc)
    have rj := hred j h1 hj4
    unfold redAt at rj
    have m := mul_rng (x := vg c (F r) / vg c (F c)) (y := vg j (F c)) (A := K) (B := vg j (F j)) q (by omega) (by omega)
    unfold rdC
    rw [vg_vA _ _ hj4, vg_vS _ _ hj4, Int.neg_mul]
    omega
theorem setL10 {σ : mSt} {o r : Nat} {E : Nat → V4} {M : Int} {w : V4} {x : mSt → Option (Int × mSt)} (hL : Lay σ) (ho : o ∈ latIds) (hu : uSp M E) (hd : ∀ j, j < 4 → vg j (E j) ≤ 1000000000) : ∀ (m c : Nat) (F : Nat → V4) (K : Int) (N : Nat), c + m = 4 → r < c → m < N → stS E F → 1 ≤ K → K * 2 ^ m ≤ 8000000000 → rB F r K → (∀ r' i, r < r' → r' < i → i < 4 → redAt F r' i) → (∀ i, r < i → i < c → redAt F r i) → ∃ F', stS E F' ∧ (∀ r' i, r ≤ r' → r' < i → i < 4 → redAt F' r' i) ∧ (∀ r', r' < r → F' r' = F r') ∧ mX3_settle_L10 o (r : Int) x N (c : Int) (cl σ o F w) = x (cl σ o F' w) := by
  intro m
  induction m with
  | zero =>
    intro c F K N h1 h2 h3 h4 h5 h6 h7 h8 h9
    obtain ⟨N, rfl⟩ : ∃ q, N = q + 1 := ⟨N - 1, by omega⟩
    refine ⟨F, h4, fun r' i g1 g2 g3 => ?_, fun _ _ => rfl, by rw [mX3_settle_L10.eq_2, if_pos (by rw [wI_id (by omega)]; omega)]⟩
    by_cases hrr : r' = r
    · rw [hrr] at g2 ⊢; exact h9 i g2 (by omega)
    · exact h8 r' i (by omega) g2 g3
  | succ m ih =>
    intro c F K N h1 h2 h3 h4 h5 h6 h7 h8 h9
    obtain ⟨N, rfl⟩ : ∃ q, N = q + 1 := ⟨N - 1, by omega⟩
    have hc : c < 4 := by omega
    have tF := h4.1
    have s := rdC_S (M := M) tF h2 hc
    obtain ⟨k1, k2, k3, k4, k5, k6, k7⟩ := cl_lay F w hL ho
    have dc := tri_d tF c hc
    have db : vg c (F c) ≤ 1000000000 := by rw [h4.2.2 c hc]; exact hd c hc
    have kb := h7 c h2 hc
    have pw : 1 ≤ (2 : Int) ^ m := by
      have := Int.pow_pos (m := m) (show (0 : Int) < 2 by decide)
      omega
    have K8 : K * 2 ≤ 8000000000 := by
      rw [Int.pow_succ, ← Int.mul_assoc, Int.mul_comm (K * 2 ^ m), ← Int.mul_assoc] at h6
      have := Int.mul_le_mul_of_nonneg_left pw (show 0 ≤ 2 * K by omega)
      omega
    have kk := mul_rng (x := K) (y := vg c (F c)) (A := 4000000000) (B := 1000000000) (by omega) (by omega) (by omega)
    obtain ⟨F', g1, g2, g3, g4⟩ := ih (c + 1) (sRow F r (rdC F r c)) (2 * K) N (by omega) (by omega) (by omega) (rdS_step hu h4 s) (by omega) (by rw [Int.pow_succ] at h6; rw [Int.mul_comm 2 K, Int.mul_assoc, Int.mul_comm 2]; exact h6) (rB_step tF h2 hc h5 h7 (fun i p1 p2 => h8 c i h2 p1 p2)) (fun r' i p1 p2 p3 => rdS_ne s (h8 r' i p1 p2 p3) (Or.inl (by omega))) (fun i p1 p2 => by
      by_cases hic : i = c
      · rw [hic]; exact rdS_at tF s
      · exact rdS_ne s (h9 i p1 (by omega)) (Or.inr (by omega)))
    refine ⟨F', g1, g2, fun r' hr' => by rw [g3 r' hr', sRow_n _ _ _ (by omega)], ?_⟩
    have l38 := setL38 (F := F) (w := w) (x := fun zσ => mX3_settle_B73 o (r : Int) (mX3_settle_L10 o (r : Int) x N) x (c : Int) zσ) hL ho h2 hc rfl (4 - c) c mF (by omega) (by unfold mF; omega)
    rw [vMix_c (fun i hi _ => s.2.2.1 i hi), sRow_self] at l38
    rw [mX3_settle_L10.eq_2, if_neg (by rw [wI_id (by omega)]; omega), gr' k4 (by omega), gx k2 _ (by omega), wI_nat (by omega), gr' (k7 r (by omega)).2 (by omega), gx (k7 r (by omega)).1 _ (by omega), gr' k4 (by omega), gx k2 _ (by omega), wI_nat (by omega), gr' (k7 c hc).2 (by omega), gx (k7 c hc).1 _ (by omega), cl_r _ _ _ _ (by omega) hc, cl_r _ _ _ _ hc hc, quot_e _ _ _ dc (by omega) (by omega), mCall_some]
    refine l38.trans ?_
    unfold mX3_settle_B73
    rw [bnd_eq, show (c : Int) + 1 = ((c + 1 : Nat) : Int) by omega]
    exact g4
theorem rB_in {M : Int} {F : Nat → V4} {r : Nat} (hM : 0 < M) (tF : Tri F) (h : ∀ i, r < i → i < 4 → 0 ≤ vg i (F r) ∧ vg i (F r) < M) : rB F r M := fun j hj hj4 => by
  have := tri_d tF j hj4
  have m := Int.mul_le_mul_of_nonneg_left (show 1 ≤ vg j (F j) by omega) (show 0 ≤ M by omega)
  have := h j hj hj4
  omega
theorem setL2 {σ : mSt} {o : Nat} {E : Nat → V4} {M : Int} {w : V4} {x : mSt → Option (Int × mSt)} (hL : Lay σ) (ho : o ∈ latIds) (hE : rOK M E) (hM : M ≤ 1000000000) (hd : ∀ j, j < 4 → vg j (E j) ≤ 1000000000) : ∀ (m : Nat) (F : Nat → V4) (N : Nat), m ≤ 3 → m < N → stS E F → (∀ r', r' < m → F r' = E r') → (∀ r' i, m ≤ r' → r' < i → i < 4 → redAt F r' i) → ∃ F', setS E F' ∧ mX3_settle_L2 o x N ((m : Int) - 1) (cl σ o F w) = x (cl σ o F' w) := by
  obtain ⟨e0, e1, e2, e3⟩ := hE
  intro m
  induction m with
  | zero =>
    intro F N h1 h2 h3 h4 h5
    obtain ⟨N, rfl⟩ : ∃ q, N = q + 1 := ⟨N - 1, by omega⟩
    exact ⟨F, ⟨h3.1, red_mk (fun r i h1 h2 => h5 r i (by omega) h1 h2), h3.2.1, h3.2.2⟩, by rw [mX3_settle_L2.eq_2, if_pos (by decide)]⟩
  | succ m ih =>
    intro F N h1 h2 h3 h4 h5
    obtain ⟨N, rfl⟩ : ∃ q, N = q + 1 := ⟨N - 1, by omega⟩
    have p8 : (2 : Int) ^ (4 - (m + 1)) ≤ 8 := by
      rcases (show m = 0 ∨ m = 1 ∨ m = 2 by omega) with rfl | rfl | rfl <;> decide
    obtain ⟨F', g1, g2, g3, g4⟩ := setL10 (r := m) (w := w) (x := fun zσ => mX3_settle_B79 o (mX3_settle_L2 o x N) x (m : Int) zσ) hL ho e3 hd (4 - (m + 1)) (m + 1) F M mF (by omega) (by omega) (by unfold mF; omega) h3 (by omega) (by
      have := Int.mul_le_mul (show M ≤ 1000000000 by omega) p8 (by have := Int.pow_pos (m := 4 - (m + 1)) (show (0 : Int) < 2 by decide); omega) (by omega)
      omega) (rB_in (M := M) e0 h3.1 (fun i p1 p2 => by rw [h4 m (by omega)]; exact e2 m i p1 p2)) (fun r' i p1 p2 p3 => h5 r' i (by omega) p2 p3) (fun i p1 p2 => by omega)
    obtain ⟨F'', i1, i2⟩ := ih F' N (by omega) (by omega) g1 (fun r' hr' => by rw [g3 r' hr', h4 r' (by omega)]) (fun r' i p1 p2 p3 => g2 r' i p1 p2 p3)
    refine ⟨F'', i1, ?_⟩
    rw [mX3_settle_L2.eq_2, if_neg (by rw [wI_id (by omega)]; omega), bnd_eq, show ((m + 1 : Nat) : Int) - 1 + 1 = ((m + 1 : Nat) : Int) by omega, show ((m + 1 : Nat) : Int) - 1 = (m : Int) by omega, g4]
    unfold mX3_settle_B79
    rw [bnd_eq, show (m : Int) + (-1) = (m : Int) - 1 by omega]
    exact i2
theorem settle_e {σ : mSt} {o : Nat} {M : Int} {E : Nat → V4} (hL : Lay σ) (ho : o ∈ latIds) (hM : M ≤ 1000000000) (hr : ∀ r, r < 4 → rwC σ o r = E r) (hE : rOK M E) (hd : ∀ j, j < 4 → vg j (E j) ≤ 1000000000) : ∃ F, setS E F ∧ mX3_settle o σ = some (0, stQ σ o F 16) := by
  have k1 := (lat_lay hL ho).1
  have e : cl σ o E (rowV σ (o + 6)) = σ := by
    refine Eq.trans ?_ (cl_self σ o)
    unfold cl
    congr 1
    funext a b
    unfold stQ
    by_cases h : o + 2 ≤ a ∧ a < o + 6 ∧ b < 4 ∧ 4 * (a - (o + 2)) + b < 16
    · rw [if_pos h, if_pos h, hr _ (by omega)]
    · rw [if_neg h, if_neg h]
  obtain ⟨F, g1, g2⟩ := setL2 (w := rowV σ (o + 6)) (x := fun zσ => mX3_settle_B85 o zσ) hL ho hE hM hd 3 E mF (by omega) (by unfold mF; omega) (stS_rf hE.2.1) (fun _ _ => rfl) (fun r' i p1 p2 p3 => by omega)
  rw [e] at g2
  refine ⟨F, g1, ?_⟩
  unfold mX3_settle
  rw [gc k1]
  refine g2.trans ?_
  unfold mX3_settle_B85 cl
  congr 2
  funext a b
  by_cases h1 : a = o + 6
  · by_cases h2 : b < 4
    · rw [h1, vg_stV _ _ _ h2, vg_rowV _ _ h2, stQ_ne _ _ _ _ _ _ (by omega)]
    · unfold stV st4
      simp only [upS]
      rw [if_neg (by omega), if_neg (by omega), if_neg (by omega), if_neg (by omega)]
  · rw [stV_ne _ _ _ _ _ h1]

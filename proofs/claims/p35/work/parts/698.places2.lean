/-! the class side of places2 -/
def cnF (X : Nat → Int) : Nat → Nat → Int
  | 0, _ => 0
  | m + 1, i => (if X i = 0 then 0 else 1) + cnF X m (i + 1)
def clF (L X : Nat → Int) : Nat → Nat → Int → Int
  | 0, _, _ => -2
  | m + 1, i, left => if X i = 0 then clF L X m (i + 1) left else if left = 0 then L i else clF L X m (i + 1) (left - 1)
theorem lx_rng (σ : mSt) (k i : Nat) : 0 ≤ lx σ k i ∧ lx σ k i ≤ 5 := loc_rng σ k _
theorem hmL4 {σ : mSt} {n s k : Nat} {xx : Int → mSt → Option (Int × mSt)} (hL : Lay σ) (hP : iPlaces σ n s) (hn : n ≤ 8) (hk : k < n) : ∀ (m i N : Nat) (c : Int), i + m = s → m < N → mX7_howMany_L4 101 (k : Int) xx N c (i : Int) σ = xx (c + cnF (lx σ k) m i) σ := by
  obtain ⟨s64, p2, p3, p4, p5, p6⟩ := hP
  obtain ⟨k1, k2, k3, k4, k5, k6⟩ := places_lay hL
  intro m
  induction m with
  | zero =>
    intro i N c h1 h2
    obtain ⟨N, rfl⟩ : ∃ q, N = q + 1 := ⟨N - 1, by omega⟩
    rw [mX7_howMany_L4.eq_2, p2, if_pos (by rw [wI_id (by omega), wI_id (by omega)]; omega)]
    show _ = xx (c + 0) σ
    rw [Int.add_zero]
  | succ m ih =>
    intro i N c h1 h2
    obtain ⟨N, rfl⟩ : ∃ q, N = q + 1 := ⟨N - 1, by omega⟩
    have r := lx_rng σ k i
    have e : σ (104 + k) i = lx σ k i := p5 k i hk (by omega)
    rw [mX7_howMany_L4.eq_2, p2, if_neg (by rw [wI_id (by omega), wI_id (by omega)]; omega), gr' k5 (by omega), gx k3 _ (by omega), wI_nat (by omega), gr' (k6 k (by omega)).2 (by omega), gx (k6 k (by omega)).1 _ (by omega), wI_nat (by omega), e, wI_id (x := lx σ k i) (by omega)]
    show _ = xx (c + ((if lx σ k i = 0 then 0 else 1) + cnF (lx σ k) m (i + 1))) σ
    by_cases h0 : lx σ k i = 0
    · rw [if_pos h0, if_pos h0, bnd_eq, bnd_eq, show (i : Int) + 1 = ((i + 1 : Nat) : Int) by omega, ih (i + 1) N _ (by omega) (by omega)]
      rw [show c + 0 + cnF (lx σ k) m (i + 1) = c + (0 + cnF (lx σ k) m (i + 1)) by omega]
    · rw [if_neg h0, if_neg h0, bnd_eq, bnd_eq, show (i : Int) + 1 = ((i + 1 : Nat) : Int) by omega, ih (i + 1) N _ (by omega) (by omega)]
      rw [show c + 1 + cnF (lx σ k) m (i + 1) = c + (1 + cnF (lx σ k) m (i + 1)) by omega]
theorem poL5 {σ : mSt} {n s k : Nat} {v2 : Int} (hL : Lay σ) (hP : iPlaces σ n s) (hn : n ≤ 8) (hk : k < n) : ∀ (m i N : Nat) (c : Int), i + m = s → m < N → -100 ≤ c → c < 2147483648 → mX7_placeOf_L5 101 (k : Int) v2 (fun zσ => mX7_placeOf_B47 101 (k : Int) v2 zσ) N c (i : Int) σ = some (clF (σ 102) (lx σ k) m i c, σ) ∨ c < 0 := by
  obtain ⟨s64, p2, p3, p4, p5, p6⟩ := hP
  obtain ⟨k1, k2, k3, k4, k5, k6⟩ := places_lay hL
  intro m
  induction m with
  | zero =>
    intro i N c h1 h2 h3 h4
    obtain ⟨N, rfl⟩ : ∃ q, N = q + 1 := ⟨N - 1, by omega⟩
    refine Or.inl ?_
    rw [mX7_placeOf_L5.eq_2, p2, if_pos (by rw [wI_id (by omega), wI_id (by omega)]; omega)]
    rfl
  | succ m ih =>
    intro i N c h1 h2 h3 h4
    obtain ⟨N, rfl⟩ : ∃ q, N = q + 1 := ⟨N - 1, by omega⟩
    by_cases hc : c < 0
    · exact Or.inr hc
    refine Or.inl ?_
    have r := lx_rng σ k i
    have e : σ (104 + k) i = lx σ k i := p5 k i hk (by omega)
    rw [mX7_placeOf_L5.eq_2, p2, if_neg (by rw [wI_id (by omega), wI_id (by omega)]; omega), gr' k5 (by omega), gx k3 _ (by omega), wI_nat (by omega), gr' (k6 k (by omega)).2 (by omega), gx (k6 k (by omega)).1 _ (by omega), wI_nat (by omega), e, wI_id (x := lx σ k i) (by omega)]
    show _ = some ((if lx σ k i = 0 then clF (σ 102) (lx σ k) m (i + 1) c else if c = 0 then σ 102 i else clF (σ 102) (lx σ k) m (i + 1) (c - 1)), σ)
    by_cases h0 : lx σ k i = 0
    · rw [if_pos h0, if_pos h0, bnd_eq, show (i : Int) + 1 = ((i + 1 : Nat) : Int) by omega]
      exact (ih (i + 1) N c (by omega) (by omega) h3 h4).resolve_right hc
    · rw [if_neg h0, if_neg h0, wI_id (x := c) (by omega)]
      by_cases hc0 : c = 0
      · rw [if_pos hc0, if_pos hc0, gr' k4 (by omega), gx k2 _ (by omega)]
      · rw [if_neg hc0, if_neg hc0, bnd_eq, bnd_eq, show (i : Int) + 1 = ((i + 1 : Nat) : Int) by omega, show c + -1 = c - 1 by omega]
        exact (ih (i + 1) N (c - 1) (by omega) (by omega) (by omega) (by omega)).resolve_right (by omega)
def gdF (X : Nat → Int) : Nat → Nat → Int → Int
  | 0, _, g => g
  | m + 1, i, g => gdF X m (i + 1) (Int.gcd g (X i))
theorem idx_t : ∀ g ∈ [(6 : Int), 3, 2, 1], ∀ v ∈ [(0 : Int), 1, 2, 3, 4, 5], (Int.gcd g v : Int) ∈ [(6 : Int), 3, 2, 1] ∧ (v = 0 → (Int.gcd g v : Int) = g) ∧ (v ≠ 0 → 6 / (Int.gcd g v : Int) = if 6 / g = (if v = 3 then 2 else if v % 2 = 0 then 3 else 6) ∨ 6 / g = 1 then (if v = 3 then 2 else if v % 2 = 0 then 3 else 6) else 6) := by decide
theorem lx_in (σ : mSt) (k i : Nat) : lx σ k i ∈ [(0 : Int), 1, 2, 3, 4, 5] := by
  have := lx_rng σ k i
  simp
  omega
theorem gdF_in (X : Nat → Int) (hX : ∀ i, X i ∈ [(0 : Int), 1, 2, 3, 4, 5]) : ∀ m i g, g ∈ [(6 : Int), 3, 2, 1] → gdF X m i g ∈ [(6 : Int), 3, 2, 1] := by
  intro m
  induction m with
  | zero => intro i g h; exact h
  | succ m ih => intro i g h; exact ih (i + 1) _ (idx_t g h _ (hX i)).1
theorem ixL7 {σ : mSt} {n s k : Nat} {xx : Int → mSt → Option (Int × mSt)} (hL : Lay σ) (hP : iPlaces σ n s) (hn : n ≤ 8) (hk : k < n) : ∀ (m i N : Nat) (g : Int), i + m = s → m < N → g ∈ [(6 : Int), 3, 2, 1] → mX7_indexOf_L7 101 (k : Int) xx N g (i : Int) σ = xx (gdF (lx σ k) m i g) σ := by
  obtain ⟨s64, p2, p3, p4, p5, p6⟩ := hP
  obtain ⟨k1, k2, k3, k4, k5, k6⟩ := places_lay hL
  intro m
  induction m with
  | zero =>
    intro i N g h1 h2 h3
    obtain ⟨N, rfl⟩ : ∃ q, N = q + 1 := ⟨N - 1, by omega⟩
    rw [mX7_indexOf_L7.eq_2, p2, if_pos (by rw [wI_id (by omega), wI_id (by omega)]; omega)]
    rfl
  | succ m ih =>
    intro i N g h1 h2 h3
    obtain ⟨N, rfl⟩ : ∃ q, N = q + 1 := ⟨N - 1, by omega⟩
    have r := lx_rng σ k i
    have e : σ (104 + k) i = lx σ k i := p5 k i hk (by omega)
    have g6 : -100 ≤ g ∧ g ≤ 100 := by simp at h3; omega
    rw [mX7_indexOf_L7.eq_2, p2, if_neg (by rw [wI_id (by omega), wI_id (by omega)]; omega), gr' k5 (by omega), gx k3 _ (by omega), wI_nat (by omega), gr' (k6 k (by omega)).2 (by omega), gx (k6 k (by omega)).1 _ (by omega), wI_nat (by omega), e, wI_id (x := lx σ k i) (by omega), gcd_e _ _ _ (by omega) (by omega), mCall_some, bnd_eq, show (i : Int) + 1 = ((i + 1 : Nat) : Int) by omega]
    exact ih (i + 1) N _ (by omega) (by omega) (idx_t g h3 _ (lx_in σ k i)).1
theorem indexOf_c {σ : mSt} {n s k : Nat} (hL : Lay σ) (hP : iPlaces σ n s) (hn : n ≤ 8) (hk : k < n) : mX7_indexOf 101 (k : Int) σ = some (6 / gdF (lx σ k) s 0 6, σ) := by
  have s64 := hP.1
  have := ixL7 (xx := fun z2 zσ => mX7_indexOf_B37 101 (k : Int) z2 zσ) hL hP hn hk s 0 mF 6 (by omega) (by unfold mF; omega) (by decide)
  have gi := gdF_in (lx σ k) (lx_in σ k) s 0 6 (by decide)
  have g6 : 0 < gdF (lx σ k) s 0 6 ∧ gdF (lx σ k) s 0 6 ≤ 6 := by simp at gi; omega
  unfold mX7_indexOf
  rw [gc101]
  refine this.trans ?_
  unfold mX7_indexOf_B37
  rw [quot_e _ _ _ g6.1 (by omega) (by omega), mCall_some]

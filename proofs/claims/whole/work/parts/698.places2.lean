/-! place, index, alike, classes, due -/
def cnF (X : Nat → Int) : Nat → Nat → Int
  | 0, _ => 0
  | m + 1, i => (if X i = 0 then 0 else 1) + cnF X m (i + 1)
def clF (L X : Nat → Int) : Nat → Nat → Int → Int
  | 0, _, _ => -2
  | m + 1, i, left => if X i = 0 then clF L X m (i + 1) left else if left = 0 then L i else clF L X m (i + 1) (left - 1)
theorem cnF_rng (X : Nat → Int) : ∀ m i, 0 ≤ cnF X m i ∧ cnF X m i ≤ m := by
  intro m
  induction m with
  | zero => intro i; exact ⟨Int.le_refl _, Int.le_refl _⟩
  | succ m ih =>
    intro i
    have := ih (i + 1)
    show 0 ≤ (if X i = 0 then 0 else 1) + cnF X m (i + 1) ∧ (if X i = 0 then 0 else 1) + cnF X m (i + 1) ≤ _
    split <;> omega
theorem lx_rng (σ : mSt) (k i : Nat) : 0 ≤ lx σ k i ∧ lx σ k i ≤ 5 := loc_rng σ k _
theorem hmL4 {σ : mSt} {n s k : Nat} {xx : Int → mSt → Option (Int × mSt)} (hL : Lay σ) (hP : iPlaces σ n s) (hn : n ≤ 8) (hk : k < n) : ∀ (m i N : Nat) (c : Int), i + m = s → m < N → mX7_howMany_L4 101 (k : Int) xx N c (i : Int) σ = xx (c + cnF (lx σ k) m i) σ := by
  obtain ⟨s64, p2, p3, p4, p5, p6⟩ := hP
  obtain ⟨k1, k2, k3, k4, k5, k6⟩ := places_lay hL
  intro m
  induction m with
  | zero =>
    intro i N c h1 h2
    obtain ⟨N, rfl⟩ : ∃ q, N = q + 1 := ⟨N - 1, by omega⟩
    rw [mX7_howMany_L4.eq_2, p2, if_pos (by rw [wI_id (by omega), wI_id (by omega)]; omega)]
    show _ = xx (c + 0) σ
    rw [Int.add_zero]
  | succ m ih =>
    intro i N c h1 h2
    obtain ⟨N, rfl⟩ : ∃ q, N = q + 1 := ⟨N - 1, by omega⟩
    have r := lx_rng σ k i
    have e : σ (104 + k) i = lx σ k i := p5 k i hk (by omega)
    rw [mX7_howMany_L4.eq_2, p2, if_neg (by rw [wI_id (by omega), wI_id (by omega)]; omega), gr' k5 (by omega), gx k3 _ (by omega), wI_nat (by omega), gr' (k6 k (by omega)).2 (by omega), gx (k6 k (by omega)).1 _ (by omega), wI_nat (by omega), e, wI_id (x := lx σ k i) (by omega)]
    show _ = xx (c + ((if lx σ k i = 0 then 0 else 1) + cnF (lx σ k) m (i + 1))) σ
    by_cases h0 : lx σ k i = 0
    · rw [if_pos h0, if_pos h0, bnd_eq, bnd_eq, show (i : Int) + 1 = ((i + 1 : Nat) : Int) by omega, ih (i + 1) N _ (by omega) (by omega)]
      rw [show c + 0 + cnF (lx σ k) m (i + 1) = c + (0 + cnF (lx σ k) m (i + 1)) by omega]
    · rw [if_neg h0, if_neg h0, bnd_eq, bnd_eq, show (i : Int) + 1 = ((i + 1 : Nat) : Int) by omega, ih (i + 1) N _ (by omega) (by omega)]
      rw [show c + 1 + cnF (lx σ k) m (i + 1) = c + (1 + cnF (lx σ k) m (i + 1)) by omega]
theorem poL5 {σ : mSt} {n s k : Nat} {v2 : Int} (hL : Lay σ) (hP : iPlaces σ n s) (hn : n ≤ 8) (hk : k < n) : ∀ (m i N : Nat) (c : Int), i + m = s → m < N → -100 ≤ c → c < 2147483648 → mX7_placeOf_L5 101 (k : Int) v2 (fun zσ => mX7_placeOf_B47 101 (k : Int) v2 zσ) N c (i : Int) σ = some (clF (σ 102) (lx σ k) m i c, σ) ∨ c < 0 := by
  obtain ⟨s64, p2, p3, p4, p5, p6⟩ := hP
  obtain ⟨k1, k2, k3, k4, k5, k6⟩ := places_lay hL
  intro m
  induction m with
  | zero =>
    intro i N c h1 h2 h3 h4
    obtain ⟨N, rfl⟩ : ∃ q, N = q + 1 := ⟨N - 1, by omega⟩
    refine Or.inl ?_
    rw [mX7_placeOf_L5.eq_2, p2, if_pos (by rw [wI_id (by omega), wI_id (by omega)]; omega)]
    rfl
  | succ m ih =>
    intro i N c h1 h2 h3 h4
    obtain ⟨N, rfl⟩ : ∃ q, N = q + 1 := ⟨N - 1, by omega⟩
    by_cases hc : c < 0
    · exact Or.inr hc
    refine Or.inl ?_
    have r := lx_rng σ k i
    have e : σ (104 + k) i = lx σ k i := p5 k i hk (by omega)
    rw [mX7_placeOf_L5.eq_2, p2, if_neg (by rw [wI_id (by omega), wI_id (by omega)]; omega), gr' k5 (by omega), gx k3 _ (by omega), wI_nat (by omega), gr' (k6 k (by omega)).2 (by omega), gx (k6 k (by omega)).1 _ (by omega), wI_nat (by omega), e, wI_id (x := lx σ k i) (by omega)]
    show _ = some ((if lx σ k i = 0 then clF (σ 102) (lx σ k) m (i + 1) c else if c = 0 then σ 102 i else clF (σ 102) (lx σ k) m (i + 1) (c - 1)), σ)
    by_cases h0 : lx σ k i = 0
    · rw [if_pos h0, if_pos h0, bnd_eq, show (i : Int) + 1 = ((i + 1 : Nat) : Int) by omega]
      exact (ih (i + 1) N c (by omega) (by omega) h3 h4).resolve_right hc
    · rw [if_neg h0, if_neg h0, wI_id (x := c) (by omega)]
      by_cases hc0 : c = 0
      · rw [if_pos hc0, if_pos hc0, gr' k4 (by omega), gx k2 _ (by omega)]
      · rw [if_neg hc0, if_neg hc0, bnd_eq, bnd_eq, show (i : Int) + 1 = ((i + 1 : Nat) : Int) by omega, show c + -1 = c - 1 by omega]
        exact (ih (i + 1) N (c - 1) (by omega) (by omega) (by omega) (by omega)).resolve_right (by omega)
theorem rpL31 {τ : mSt} {B n s k : Nat} {v2 : Int} (hL : Lay τ) (hB : iBook τ B n) (hP : iPlaces τ n s) (hk : k < n) (hv : -1 ≤ v2 ∧ v2 < 2147483648) : ∀ (m i N : Nat) (c : Int), i + m = s → m < N → 0 ≤ c → c ≤ i → (v2 ≠ -1 → c ≤ v2) → mX12_place_L31 253 (k : Int) v2 (fun z3 zσ => mX12_place_B59 253 (k : Int) v2 z3 zσ) N c (pbF (τ 102) (lx τ k) m i) τ = some ((if v2 = -1 then c + cnF (lx τ k) m i else clF (τ 102) (lx τ k) m i (v2 - c)), τ) := by
  have s64 := hP.1
  intro m
  induction m with
  | zero =>
    intro i N c h1 h2 h3 h4 h5
    obtain ⟨N, rfl⟩ : ∃ q, N = q + 1 := ⟨N - 1, by omega⟩
    rw [mX12_place_L31.eq_2]
    unfold pbF mX12_place_B59
    rw [if_pos (by decide), wI_id (x := v2) (by omega)]
    by_cases hv1 : v2 = -1
    · rw [if_pos hv1, if_pos hv1]
      show some (c, τ) = some (c + 0, τ)
      rw [Int.add_zero]
    · rw [if_neg hv1, if_neg hv1]
      rfl
  | succ m ih =>
    intro i N c h1 h2 h3 h4 h5
    obtain ⟨N, rfl⟩ : ∃ q, N = q + 1 := ⟨N - 1, by omega⟩
    have pr := place_rng (hP.2.2.2.1 i (by omega))
    unfold pbF
    show _ = some ((if v2 = -1 then c + ((if lx τ k i = 0 then 0 else 1) + cnF (lx τ k) m (i + 1)) else (if lx τ k i = 0 then clF (τ 102) (lx τ k) m (i + 1) (v2 - c) else if v2 - c = 0 then τ 102 i else clF (τ 102) (lx τ k) m (i + 1) (v2 - c - 1))), τ)
    by_cases h0 : lx τ k i = 0
    · rw [if_pos h0, if_pos h0, if_pos h0, ih (i + 1) (N + 1) c (by omega) (by omega) h3 (by omega) h5, Int.zero_add]
    · rw [if_neg h0, if_neg h0, if_neg h0, mX12_place_L31.eq_2, wI_id (x := τ 102 i) (by omega), if_neg (by omega), wI_id (x := c) (by omega), wI_id (x := v2) (by omega)]
      by_cases hc : c = v2
      · rw [if_pos hc, if_neg (by omega), if_pos (by omega)]
      · rw [if_neg hc, bnd_eq, behind_i hL hB hP hk h1, mCall_some, ih (i + 1) N (c + 1) (by omega) (by omega) (by omega) (by omega) (fun h => by have := h5 h; omega)]
        by_cases hv1 : v2 = -1
        · rw [if_pos hv1, if_pos hv1, show c + 1 + cnF (lx τ k) m (i + 1) = c + (1 + cnF (lx τ k) m (i + 1)) by omega]
        · have := h5 hv1
          rw [if_neg hv1, if_neg hv1, if_neg (by omega), show v2 - (c + 1) = v2 - c - 1 by omega]
theorem lx_up (σ : mSt) (k : Nat) : lx (upS σ 253 0 0) k = lx σ k := by
  funext i
  unfold lx
  rw [loc_congr (fun i _ _ => upS_row (by omega)), upS_row (by omega)]
theorem places_up {σ : mSt} {n s : Nat} (h : iPlaces σ n s) (hn : n ≤ 8) : iPlaces (upS σ 253 0 0) n s := iPlaces_congr h hn (fun i hi => upS_row (by omega))
theorem pr_place (σ : mSt) (h : Inv σ) (a1 : Int) (h1 : i32 a1) (a2 : Int) (h2 : i32 a2) : ∃ b s b2 s2, mX11_place 0 a1 a2 σ = some (b, s) ∧ mX12_place 253 a1 a2 s = some (b2, s2) ∧ wI b = wI b2 ∧ Inv s2 := by
  have hI := h
  obtain ⟨hL, hb, t, B, n, s, hT, hB, hP, hE, hO⟩ := h
  have hn := hB.2.1
  have ht := hI.scr (scr_t (σ := σ) (v := 0))
  have hBt := book_up (v := 0) hB
  have hPt := places_up hP hn
  have h2' := h2
  unfold i32 at h2'
  have k1 := (places_lay hL).1
  have s64 := hP.1
  by_cases hv : (0 ≤ a1 ∧ a1 < (n : Int)) ∧ -1 ≤ a2
  · obtain ⟨hv, hp⟩ := hv
    obtain ⟨k, rfl, hk⟩ := told_nat hv
    refine ⟨(if a2 = -1 then cnF (lx σ k) s 0 else clF (σ 102) (lx σ k) s 0 a2), σ, (if a2 = -1 then cnF (lx σ k) s 0 else clF (σ 102) (lx σ k) s 0 a2), upS σ 253 0 0, ?_, ?_, rfl, ht⟩
    · unfold mX11_place
      rw [gc0, told_t hB hk, mCall_some, if_neg (by decide), wI_id h2, if_pos hp]
      by_cases hm : a2 = -1
      · rw [if_pos hm, if_pos hm, gr' (lay0 hL).2.2.1 (by omega)]
        unfold mX7_howMany
        have := hmL4 (xx := fun z2 zσ => mX7_howMany_B37 101 (k : Int) z2 zσ) hL hP hn hk s 0 mF 0 (by omega) (by unfold mF; omega)
        rw [show ((0 : Nat) : Int) = 0 from rfl] at this
        rw [gc101, this, Int.zero_add]
        rfl
      · rw [if_neg hm, if_neg hm, gr' (lay0 hL).2.2.1 (by omega)]
        unfold mX7_placeOf
        have := (poL5 (v2 := a2) hL hP hn hk s 0 mF a2 (by omega) (by unfold mF; omega) (by omega) (by omega)).resolve_right (by omega)
        rw [show ((0 : Nat) : Int) = 0 from rfl] at this
        rw [gc101, this, mCall_some]
    · unfold mX12_place
      have := rpL31 (v2 := a2) ht.1 hBt hPt hk ⟨hp, by omega⟩ s 0 mF 0 (by omega) (by unfold mF; omega) (by omega) (by omega) (fun _ => by omega)
      rw [gc253, bnd_eq, toldr_t ht.1 hBt hk, mCall_some, if_neg (by decide), wI_id h2, if_pos hp, behind_0 ht.1 hBt hPt hk, mCall_some, this, lx_up, upS_row (by omega), Int.zero_add, Int.sub_zero]
  · refine ⟨-2, σ, -2, upS σ 253 0 0, ?_, ?_, rfl, ht⟩
    · unfold mX11_place
      refine mR_eq (mR_G (by decide) (mR_callE (told_c hB h1) (mR_if (fun z => mR_ret ⟨rfl, rfl⟩) (fun z => ?_))))
      have := b2p z
      exact mR_neg (by rw [wI_id h2]; exact fun z2 => hv ⟨this, z2⟩) (mR_ret ⟨rfl, rfl⟩)
    · unfold mX12_place
      refine mR_eq (mR_G (by decide) (mR_bnd (mR_callE (told_r ht.1 hBt h1) (mR_if (fun z => mR_ret ⟨rfl, rfl⟩) (fun z => ?_)))))
      have := b2p z
      exact mR_neg (by rw [wI_id h2]; exact fun z2 => hv ⟨this, z2⟩) (mR_ret ⟨rfl, rfl⟩)
/-! index -/
def gdF (X : Nat → Int) : Nat → Nat → Int → Int
  | 0, _, g => g
  | m + 1, i, g => gdF X m (i + 1) (Int.gcd g (X i))
theorem idx_t : ∀ g ∈ [(6 : Int), 3, 2, 1], ∀ v ∈ [(0 : Int), 1, 2, 3, 4, 5], (Int.gcd g v : Int) ∈ [(6 : Int), 3, 2, 1] ∧ (v = 0 → (Int.gcd g v : Int) = g) ∧ (v ≠ 0 → 6 / (Int.gcd g v : Int) = if 6 / g = (if v = 3 then 2 else if v % 2 = 0 then 3 else 6) ∨ 6 / g = 1 then (if v = 3 then 2 else if v % 2 = 0 then 3 else 6) else 6) := by decide
theorem lx_in (σ : mSt) (k i : Nat) : lx σ k i ∈ [(0 : Int), 1, 2, 3, 4, 5] := by
  have := lx_rng σ k i
  simp
  omega
theorem gdF_in (X : Nat → Int) (hX : ∀ i, X i ∈ [(0 : Int), 1, 2, 3, 4, 5]) : ∀ m i g, g ∈ [(6 : Int), 3, 2, 1] → gdF X m i g ∈ [(6 : Int), 3, 2, 1] := by
  intro m
  induction m with
  | zero => intro i g h; exact h
  | succ m ih => intro i g h; exact ih (i + 1) _ (idx_t g h _ (hX i)).1
theorem ixL7 {σ : mSt} {n s k : Nat} {xx : Int → mSt → Option (Int × mSt)} (hL : Lay σ) (hP : iPlaces σ n s) (hn : n ≤ 8) (hk : k < n) : ∀ (m i N : Nat) (g : Int), i + m = s → m < N → g ∈ [(6 : Int), 3, 2, 1] → mX7_indexOf_L7 101 (k : Int) xx N g (i : Int) σ = xx (gdF (lx σ k) m i g) σ := by
  obtain ⟨s64, p2, p3, p4, p5, p6⟩ := hP
  obtain ⟨k1, k2, k3, k4, k5, k6⟩ := places_lay hL
  intro m
  induction m with
  | zero =>
    intro i N g h1 h2 h3
    obtain ⟨N, rfl⟩ : ∃ q, N = q + 1 := ⟨N - 1, by omega⟩
    rw [mX7_indexOf_L7.eq_2, p2, if_pos (by rw [wI_id (by omega), wI_id (by omega)]; omega)]
    rfl
  | succ m ih =>
    intro i N g h1 h2 h3
    obtain ⟨N, rfl⟩ : ∃ q, N = q + 1 := ⟨N - 1, by omega⟩
    have r := lx_rng σ k i
    have e : σ (104 + k) i = lx σ k i := p5 k i hk (by omega)
    have g6 : -100 ≤ g ∧ g ≤ 100 := by simp at h3; omega
    rw [mX7_indexOf_L7.eq_2, p2, if_neg (by rw [wI_id (by omega), wI_id (by omega)]; omega), gr' k5 (by omega), gx k3 _ (by omega), wI_nat (by omega), gr' (k6 k (by omega)).2 (by omega), gx (k6 k (by omega)).1 _ (by omega), wI_nat (by omega), e, wI_id (x := lx σ k i) (by omega), gcd_e _ _ _ (by omega) (by omega), mCall_some, bnd_eq, show (i : Int) + 1 = ((i + 1 : Nat) : Int) by omega]
    exact ih (i + 1) N _ (by omega) (by omega) (idx_t g h3 _ (lx_in σ k i)).1
theorem indexOf_c {σ : mSt} {n s k : Nat} (hL : Lay σ) (hP : iPlaces σ n s) (hn : n ≤ 8) (hk : k < n) : mX7_indexOf 101 (k : Int) σ = some (6 / gdF (lx σ k) s 0 6, σ) := by
  have s64 := hP.1
  have := ixL7 (xx := fun z2 zσ => mX7_indexOf_B37 101 (k : Int) z2 zσ) hL hP hn hk s 0 mF 6 (by omega) (by unfold mF; omega) (by decide)
  have gi := gdF_in (lx σ k) (lx_in σ k) s 0 6 (by decide)
  have g6 : 0 < gdF (lx σ k) s 0 6 ∧ gdF (lx σ k) s 0 6 ≤ 6 := by simp at gi; omega
  unfold mX7_indexOf
  rw [gc101]
  refine this.trans ?_
  unfold mX7_indexOf_B37
  rw [quot_e _ _ _ g6.1 (by omega) (by omega), mCall_some]
theorem ixL9 {τ : mSt} {B n s k : Nat} (hL : Lay τ) (hB : iBook τ B n) (hP : iPlaces τ n s) (hk : k < n) : ∀ (m i N : Nat) (g : Int), i + m = s → m < N → g ∈ [(6 : Int), 3, 2, 1] → mX12_indexOf_L9 253 (k : Int) (fun z2 zσ => mX12_indexOf_B76 253 (k : Int) z2 zσ) N (6 / g) (pbF (τ 102) (lx τ k) m i) τ = some (6 / gdF (lx τ k) m i g, τ) := by
  have s64 := hP.1
  intro m
  induction m with
  | zero =>
    intro i N g h1 h2 h3
    obtain ⟨N, rfl⟩ : ∃ q, N = q + 1 := ⟨N - 1, by omega⟩
    rw [mX12_indexOf_L9.eq_2]
    unfold pbF
    rw [if_pos (by decide)]
    rfl
  | succ m ih =>
    intro i N g h1 h2 h3
    obtain ⟨N, rfl⟩ : ∃ q, N = q + 1 := ⟨N - 1, by omega⟩
    have hpl := hP.2.2.2.1 i (by omega)
    have pr := place_rng hpl
    have r := lx_rng τ k i
    obtain ⟨t1, t2, t3⟩ := idx_t g h3 _ (lx_in τ k i)
    show _ = some (6 / gdF (lx τ k) m (i + 1) (Int.gcd g (lx τ k i)), τ)
    unfold pbF
    by_cases h0 : lx τ k i = 0
    · rw [if_pos h0, ih (i + 1) (N + 1) g (by omega) (by omega) h3, t2 h0]
    · have g6 : 0 < g ∧ g ≤ 6 := by simp at h3; omega
      have q6 : 0 ≤ 6 / g ∧ 6 / g ≤ 6 := by simp at h3; rcases h3 with h | h | h | h <;> rw [h] <;> decide
      have st : ∀ of : Int, 0 ≤ of ∧ of ≤ 6 → 6 / (Int.gcd g (lx τ k i) : Int) = (if 6 / g = of ∨ 6 / g = 1 then of else 6) → mX12_indexOf_B45 253 (k : Int) (mX12_indexOf_L9 253 (k : Int) (fun z2 zσ => mX12_indexOf_B76 253 (k : Int) z2 zσ) N) (fun z2 zσ => mX12_indexOf_B76 253 (k : Int) z2 zσ) (6 / g) (τ 102 i) of τ = some (6 / gdF (lx τ k) m (i + 1) (Int.gcd g (lx τ k i)), τ) := by
        intro of ho he
        have go : ∀ X, X = 6 / (Int.gcd g (lx τ k i) : Int) → mX12_indexOf_B65 253 (k : Int) (mX12_indexOf_L9 253 (k : Int) (fun z2 zσ => mX12_indexOf_B76 253 (k : Int) z2 zσ) N) (fun z2 zσ => mX12_indexOf_B76 253 (k : Int) z2 zσ) (τ 102 i) X τ = some (6 / gdF (lx τ k) m (i + 1) (Int.gcd g (lx τ k i)), τ) := by
          intro X hX
          unfold mX12_indexOf_B65
          rw [behind_i hL hB hP hk h1, mCall_some, hX]
          exact ih (i + 1) N _ (by omega) (by omega) t1
        unfold mX12_indexOf_B45 mX12_indexOf_B58
        rw [wI_id (x := 6 / g) (by omega), wI_id (x := of) (by omega)]
        by_cases c1 : 6 / g = of
        · rw [if_pos c1]
          exact go _ (by rw [he, if_pos (Or.inl c1)])
        · rw [if_neg c1]
          by_cases c2 : 6 / g = 1
          · rw [if_pos c2]
            exact go _ (by rw [he, if_pos (Or.inr c2)])
          · rw [if_neg c2]
            exact go _ (by rw [he, if_neg (fun z => z.elim c1 c2)])
      rw [if_neg h0, mX12_indexOf_L9.eq_2, wI_id (x := τ 102 i) (by omega), if_neg (by omega), localOf_e9 hL hB hk hpl, mCall_some, show loc τ k (τ 102 i) = lx τ k i from rfl, wI_id (x := lx τ k i) (by omega)]
      have t3' := t3 h0
      by_cases c3 : lx τ k i = 3
      · rw [if_pos c3] at t3' ⊢
        exact st 2 (by omega) t3'
      · rw [if_neg c3] at t3' ⊢
        rw [odd_e (by omega), mCall_some, wI_id (x := lx τ k i % 2) (by omega)]
        by_cases c2 : lx τ k i % 2 = 0
        · rw [if_pos c2] at t3' ⊢
          exact st 3 (by omega) t3'
        · rw [if_neg c2] at t3' ⊢
          exact st 6 (by omega) t3'
theorem indexOf_r {τ : mSt} {B n s k : Nat} (hL : Lay τ) (hB : iBook τ B n) (hP : iPlaces τ n s) (hk : k < n) : mX12_indexOf 253 (k : Int) τ = some (6 / gdF (lx τ k) s 0 6, τ) := by
  have s64 := hP.1
  unfold mX12_indexOf
  rw [gc253, behind_0 hL hB hP hk, mCall_some]
  exact ixL9 hL hB hP hk s 0 mF 6 (by omega) (by unfold mF; omega) (by decide)
theorem pr_index (σ : mSt) (h : Inv σ) (a1 : Int) (h1 : i32 a1) : ∃ b s b2 s2, mX11_index 0 a1 σ = some (b, s) ∧ mX12_index 253 a1 s = some (b2, s2) ∧ wI b = wI b2 ∧ Inv s2 := by
  have hI := h
  obtain ⟨hL, hb, t, B, n, s, hT, hB, hP, hE, hO⟩ := h
  have hn := hB.2.1
  have ht := hI.scr (scr_t (σ := σ) (v := 0))
  have hBt := book_up (v := 0) hB
  have hPt := places_up hP hn
  by_cases hv : 0 ≤ a1 ∧ a1 < (n : Int)
  · obtain ⟨k, rfl, hk⟩ := told_nat hv
    refine ⟨6 / gdF (lx σ k) s 0 6, σ, 6 / gdF (lx σ k) s 0 6, upS σ 253 0 0, ?_, ?_, rfl, ht⟩
    · unfold mX11_index
      rw [gc0, told_t hB hk, mCall_some, if_neg (by decide), gr' (lay0 hL).2.2.1 (by omega), indexOf_c hL hP hn hk, mCall_some]
    · unfold mX12_index
      rw [gc253, bnd_eq, toldr_t ht.1 hBt hk, mCall_some, if_neg (by decide), indexOf_r ht.1 hBt hPt hk, mCall_some, lx_up]
  · refine ⟨-1, σ, -1, upS σ 253 0 0, ?_, ?_, rfl, ht⟩
    · unfold mX11_index
      exact mR_eq (mR_G (by decide) (mR_callE (told_c hB h1) (mR_pos (by rw [wI_b2]; exact b2_f hv) (mR_ret ⟨rfl, rfl⟩))))
    · unfold mX12_index
      exact mR_eq (mR_G (by decide) (mR_bnd (mR_callE (told_r ht.1 hBt h1) (mR_pos (by rw [wI_b2]; exact b2_f hv) (mR_ret ⟨rfl, rfl⟩)))))

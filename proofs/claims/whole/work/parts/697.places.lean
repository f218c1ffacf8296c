/-! PLACES: the list of the class, the walk of the reference -/
theorem places_lay {σ : mSt} (hL : Lay σ) : shp 101 = (6, 0) ∧ shp 102 = (20, 64) ∧ shp 103 = (26, 8) ∧ σ 101 2 = ((102 : Nat) : Int) ∧ σ 101 3 = ((103 : Nat) : Int) ∧ ∀ k, k < 8 → shp (104 + k) = (20, 64) ∧ σ 103 k = ((104 + k : Nat) : Int) := by
  have h : ∀ k, k < 8 → shp (104 + k) = (20, 64) ∧ fixR 103 k = true ∧ mS0 103 k = ((104 + k : Nat) : Int) := by decide +kernel
  exact ⟨by decide, by decide, by decide, hL.get _ _ (by decide +kernel) (by decide +kernel), hL.get _ _ (by decide +kernel) (by decide +kernel), fun k hk => ⟨(h k hk).1, hL.get _ _ (h k hk).2.1 (h k hk).2.2⟩⟩
theorem loc_rng (σ : mSt) (k : Nat) (p : Int) : 0 ≤ loc σ k p ∧ loc σ k p ≤ 5 := locF_rng _ _ _ _ _ 9 k p
theorem place_rng {p : Int} (h : place p) : 0 ≤ p ∧ p < 1000 := by
  rcases h with rfl | ⟨h, h2⟩
  · omega
  · have := h.1
    omega
theorem sixL2 {σ : mSt} {n s k : Nat} {p : Int} (hL : Lay σ) (hP : iPlaces σ n s) (hn : n ≤ 8) (hk : k < n) (hp : -2147483648 ≤ p ∧ p < 2147483648) : ∀ (m i N : Nat), i + m = s → m < N → (∀ j, j < i → σ 102 j ≠ p) → mX7_sixthsAt_L2 101 (k : Int) p (fun zσ => mX7_sixthsAt_B35 101 (k : Int) p zσ) N (i : Int) σ = some ((if ∃ j, j < s ∧ σ 102 j = p then loc σ k p else 0), σ) := by
  obtain ⟨s64, p2, p3, p4, p5, p6⟩ := hP
  obtain ⟨k1, k2, k3, k4, k5, k6⟩ := places_lay hL
  intro m
  induction m with
  | zero =>
    intro i N h1 h2 h3
    obtain ⟨N, rfl⟩ : ∃ q, N = q + 1 := ⟨N - 1, by omega⟩
    rw [mX7_sixthsAt_L2.eq_2, p2, if_pos (by rw [wI_id (by omega), wI_id (by omega)]; omega), if_neg (fun ⟨j, j1, j2⟩ => h3 j (by omega) j2)]
    rfl
  | succ m ih =>
    intro i N h1 h2 h3
    obtain ⟨N, rfl⟩ : ∃ q, N = q + 1 := ⟨N - 1, by omega⟩
    have pr := place_rng (p4 i (by omega))
    rw [mX7_sixthsAt_L2.eq_2, p2, if_neg (by rw [wI_id (by omega), wI_id (by omega)]; omega), gr' k4 (by omega), gx k2 _ (by omega), wI_nat (by omega), wI_id (x := σ 102 i) (by omega), wI_id (x := p) hp]
    by_cases he : σ 102 i = p
    · rw [if_pos he, gr' k5 (by omega), gx k3 _ (by omega), wI_nat (by omega), gr' (k6 k (by omega)).2 (by omega), gx (k6 k (by omega)).1 _ (by omega), if_pos ⟨i, by omega, he⟩, p5 k i hk (by omega), he]
    · rw [if_neg he, bnd_eq, show (i : Int) + 1 = ((i + 1 : Nat) : Int) by omega]
      exact ih (i + 1) N (by omega) (by omega) (fun j hj => by
        by_cases hji : j = i
        · rw [hji]; exact he
        · exact h3 j (by omega))
theorem sixthsAt_e {σ : mSt} {n s k : Nat} {p : Int} (hL : Lay σ) (hP : iPlaces σ n s) (hn : n ≤ 8) (hk : k < n) (hp : place p ∨ (1000 ≤ p ∧ p < 2147483648)) : mX7_sixthsAt 101 (k : Int) p σ = some ((if p < 1000 then loc σ k p else 0), σ) := by
  have pr : 0 ≤ p ∧ p < 2147483648 := by
    rcases hp with h | h
    · have := place_rng h; omega
    · omega
  unfold mX7_sixthsAt
  have := sixL2 (p := p) hL hP hn hk (by omega) s 0 mF (by omega) (by have := hP.1; unfold mF; omega) (fun j hj => by omega)
  rw [gc101]
  refine this.trans ?_
  obtain ⟨s64, p2, p3, p4, p5, p6⟩ := hP
  by_cases h : p < 1000
  · rw [if_pos h]
    have hpl : place p := hp.resolve_right (by omega)
    by_cases he : ∃ j, j < s ∧ σ 102 j = p
    · rw [if_pos he]
    · rw [if_neg he, p6 k p hk hpl (fun i hi z => he ⟨i, hi, z⟩)]
  · rw [if_neg h, if_neg (fun ⟨j, j1, j2⟩ => by have := place_rng (p4 j j1); omega)]
def pbF (L X : Nat → Int) : Nat → Nat → Int
  | 0, _ => -1
  | m + 1, i => if X i = 0 then pbF L X m (i + 1) else L i
noncomputable def lx (σ : mSt) (k : Nat) : Nat → Int := fun i => loc σ k (σ 102 i)
theorem pbL4 {τ : mSt} {B n s k : Nat} {v2 : Int} (hL : Lay τ) (hB : iBook τ B n) (hP : iPlaces τ n s) (hk : k < n) : ∀ (q p i m N : Nat), p + q = 1000 → i + m = s → (∀ j, j < i → τ 102 j < (p : Int)) → (∀ j, i ≤ j → j < s → (p : Int) ≤ τ 102 j) → q < N → mX12_placeBehind_L4 253 (k : Int) v2 (fun zσ => mX12_placeBehind_B39 253 (k : Int) v2 zσ) N (p : Int) τ = some (pbF (τ 102) (lx τ k) m i, τ) := by
  obtain ⟨s64, p2, p3, p4, p5, p6⟩ := hP
  intro q
  induction q with
  | zero =>
    intro p i m N h1 h2 h3 h4 h5
    obtain ⟨N, rfl⟩ : ∃ q, N = q + 1 := ⟨N - 1, by omega⟩
    have m0 : m = 0 := by
      rcases Nat.eq_zero_or_pos m with h | h
      · exact h
      · have a := h4 i (by omega) (by omega)
        have b := place_rng (p4 i (by omega))
        omega
    subst m0
    rw [mX12_placeBehind_L4.eq_2, if_pos (by rw [wI_id (by omega)]; omega)]
    rfl
  | succ q ih =>
    intro p i m N h1 h2 h3 h4 h5
    obtain ⟨N, rfl⟩ : ∃ q, N = q + 1 := ⟨N - 1, by omega⟩
    rw [mX12_placeBehind_L4.eq_2, if_neg (by rw [wI_id (by omega)]; omega), wI_id (x := (p : Int)) (by omega)]
    have nx : ∀ i' m', i' + m' = s → (∀ j, j < i' → τ 102 j < ((p + 1 : Nat) : Int)) → (∀ j, i' ≤ j → j < s → ((p + 1 : Nat) : Int) ≤ τ 102 j) → mX12_placeBehind_L4 253 (k : Int) v2 (fun zσ => mX12_placeBehind_B39 253 (k : Int) v2 zσ) N ((p : Int) + 1) τ = some (pbF (τ 102) (lx τ k) m' i', τ) := fun i' m' a b c => by
      rw [show (p : Int) + 1 = ((p + 1 : Nat) : Int) by omega]
      exact ih (p + 1) i' m' N (by omega) a b c (by omega)
    by_cases hpl : place (p : Int)
    · have B22 : mX12_placeBehind_B22 253 (k : Int) v2 (mX12_placeBehind_L4 253 (k : Int) v2 (fun zσ => mX12_placeBehind_B39 253 (k : Int) v2 zσ) N) (fun zσ => mX12_placeBehind_B39 253 (k : Int) v2 zσ) (p : Int) τ = some (pbF (τ 102) (lx τ k) m i, τ) := by
        unfold mX12_placeBehind_B22
        have lr := loc_rng τ k (p : Int)
        rw [localOf_e9 hL hB hk hpl, mCall_some, wI_id (x := loc τ k p) (by omega)]
        by_cases hi : i < s ∧ τ 102 i = (p : Int)
        · obtain ⟨m, rfl⟩ : ∃ z, m = z + 1 := ⟨m - 1, by omega⟩
          show _ = some ((if lx τ k i = 0 then pbF (τ 102) (lx τ k) m (i + 1) else τ 102 i), τ)
          have e : lx τ k i = loc τ k (p : Int) := by unfold lx; rw [hi.2]
          rw [e]
          by_cases h0 : loc τ k (p : Int) = 0
          · rw [if_pos h0, if_pos h0, bnd_eq]
            exact nx (i + 1) m (by omega) (fun j hj => by
              by_cases hji : j = i
              · rw [hji, hi.2]; omega
              · have := h3 j (by omega); omega) (fun j h6 h7 => by have := p3 i j (by omega) h7; omega)
          · rw [if_neg h0, if_neg h0, hi.2]
        · have h0 : loc τ k (p : Int) = 0 := p6 k p hk hpl (fun j hj => by
            by_cases hji : j < i
            · have := h3 j hji; omega
            · by_cases hje : j = i
              · rw [hje]; exact fun z => hi ⟨by omega, z⟩
              · have a := p3 i j (by omega) hj
                have b := h4 i (by omega) (by omega)
                omega)
          rw [if_pos h0, bnd_eq]
          exact nx i m h2 (fun j hj => by have := h3 j hj; omega) (fun j h6 h7 => by
            have a := h4 j h6 h7
            by_cases hje : j = i
            · have : τ 102 i ≠ (p : Int) := fun z => hi ⟨by omega, z⟩
              rw [hje] at a ⊢
              omega
            · have b := p3 i j (by omega) h7
              have c := h4 i (by omega) (by omega)
              omega)
      by_cases hp0 : (p : Int) = 0
      · rw [if_pos hp0]
        exact B22
      · have hpm : prm (p : Int) := by
          rcases hpl with h | h
          · exact absurd h hp0
          · exact h.1
        rw [if_neg hp0, rprime_e _ (by omega) (by omega), mCall_some, b2_t hpm, if_neg (by decide)]
        exact B22
    · have hp0 : ¬ (p : Int) = 0 := fun z => hpl (Or.inl z)
      have hpm : ¬ prm (p : Int) := fun z => hpl (Or.inr ⟨z, by omega⟩)
      rw [if_neg hp0, rprime_e _ (by omega) (by omega), mCall_some, b2_f hpm, if_pos (by decide), bnd_eq]
      exact nx i m h2 (fun j hj => by have := h3 j hj; omega) (fun j h6 h7 => by
        have a := h4 j h6 h7
        have b : τ 102 j ≠ (p : Int) := fun z => hpl (by rw [← z]; exact p4 j h7)
        omega)
theorem behind_e {τ : mSt} {B n s k : Nat} {v : Int} (hL : Lay τ) (hB : iBook τ B n) (hP : iPlaces τ n s) (hk : k < n) (i m : Nat) (him : i + m = s) (hv : -1 ≤ v ∧ v < 1000) (h3 : ∀ j, j < i → τ 102 j ≤ v) (h4 : ∀ j, i ≤ j → j < s → v < τ 102 j) : mX12_placeBehind 253 (k : Int) v τ = some (pbF (τ 102) (lx τ k) m i, τ) := by
  unfold mX12_placeBehind
  rw [gc253, bnd_eq, show v + 1 = (((v + 1).toNat : Nat) : Int) by omega]
  exact pbL4 hL hB hP hk (1000 - (v + 1).toNat) (v + 1).toNat i m mF (by omega) him (fun j hj => by have := h3 j hj; omega) (fun j h5 h6 => by have := h4 j h5 h6; omega) (by unfold mF; omega)
theorem behind_0 {τ : mSt} {B n s k : Nat} (hL : Lay τ) (hB : iBook τ B n) (hP : iPlaces τ n s) (hk : k < n) : mX12_placeBehind 253 (k : Int) (-1) τ = some (pbF (τ 102) (lx τ k) s 0, τ) :=
  behind_e hL hB hP hk 0 s (by omega) (by omega) (fun j hj => by omega) (fun j h1 h2 => by have := place_rng (hP.2.2.2.1 j h2); omega)
theorem behind_i {τ : mSt} {B n s k i m : Nat} (hL : Lay τ) (hB : iBook τ B n) (hP : iPlaces τ n s) (hk : k < n) (him : i + (m + 1) = s) : mX12_placeBehind 253 (k : Int) (τ 102 i) τ = some (pbF (τ 102) (lx τ k) m (i + 1), τ) := by
  obtain ⟨s64, p2, p3, p4, p5, p6⟩ := hP
  have pr := place_rng (p4 i (by omega))
  refine behind_e hL hB ⟨s64, p2, p3, p4, p5, p6⟩ hk (i + 1) m (by omega) (by omega) (fun j hj => ?_) (fun j h1 h2 => p3 i j (by omega) h2)
  by_cases hji : j = i
  · rw [hji]; omega
  · have := p3 j i (by omega) (by omega)
    omega
theorem told_t {σ : mSt} {B n k : Nat} (hB : iBook σ B n) (hk : k < n) : mX11_isTold 0 (k : Int) σ = some (1, σ) := by
  have := hB.2.1
  rw [told_c hB (by unfold i32; omega), b2_t ⟨by omega, by omega⟩]
theorem toldr_t {σ : mSt} {B n k : Nat} (hL : Lay σ) (hB : iBook σ B n) (hk : k < n) : mX12_isAlgebra 253 (k : Int) σ = some (1, σ) := by
  have := hB.2.1
  rw [told_r hL hB (by unfold i32; omega), b2_t ⟨by omega, by omega⟩]
theorem told_nat {n : Nat} {a : Int} (h : 0 ≤ a ∧ a < (n : Int)) : ∃ k : Nat, a = (k : Int) ∧ k < n := ⟨a.toNat, by omega, by omega⟩
theorem pr_local (σ : mSt) (h : Inv σ) (a1 : Int) (h1 : i32 a1) (a2 : Int) (h2 : i32 a2) : ∃ b s b2 s2, mX11_local 0 a1 a2 σ = some (b, s) ∧ mX12_local 253 a1 a2 s = some (b2, s2) ∧ wI b = wI b2 ∧ Inv s2 := by
  have hI := h
  obtain ⟨hL, hb, t, B, n, s0, hT, hB, hP, hE, hO⟩ := h
  have hn := hB.2.1
  have ht := hI.scr (scr_t (σ := σ) (v := 0))
  have hBt := book_up (v := 0) hB
  have h2' := h2
  unfold i32 at h2'
  have lc : ∀ k p, loc (upS σ 253 0 0) k p = loc σ k p := fun k p => loc_congr (fun i _ _ => upS_row (by omega)) k p
  by_cases hv : (0 ≤ a1 ∧ a1 < (n : Int)) ∧ (a2 = 0 ∨ (prm a2 ∧ a2 ≤ 60000))
  · obtain ⟨hv, hp⟩ := hv
    obtain ⟨k, rfl, hk⟩ := told_nat hv
    have six := sixthsAt_e (p := a2) hL hP hn hk (by
      rcases hp with h | h
      · exact Or.inl (Or.inl h)
      · by_cases h3 : a2 < 1000
        · exact Or.inl (Or.inr ⟨h.1, h3⟩)
        · exact Or.inr (by omega))
    refine ⟨(if a2 < 1000 then loc σ k a2 else 0), σ, (if a2 < 1000 then loc σ k a2 else 0), upS σ 253 0 0, ?_, ?_, rfl, ht⟩
    · have e29 : mX11_local_B29 0 (k : Int) a2 σ = some ((if a2 < 1000 then loc σ k a2 else 0), σ) := by
        unfold mX11_local_B29
        rw [gr' (lay0 hL).2.2.1 (by omega), six, mCall_some]
      unfold mX11_local
      rw [gc0, told_t hB hk, mCall_some, if_neg (by decide), wI_id h2, if_pos (by omega)]
      rcases hp with h | h
      · rw [if_pos h]; exact e29
      · by_cases h0 : a2 = 0
        · rw [if_pos h0]; exact e29
        · rw [if_neg h0, prime_e _ h2', mCall_some, b2_t h, if_neg (by decide)]
          exact e29
    · have e40 : mX12_local_B40 253 (k : Int) a2 (upS σ 253 0 0) = some ((if a2 < 1000 then loc σ k a2 else 0), upS σ 253 0 0) := by
        unfold mX12_local_B40
        rw [wI_id h2]
        by_cases h3 : a2 < 1000
        · rw [if_neg (by omega), if_pos h3, localOf_e9 ht.1 hBt hk (by
            rcases hp with h | h
            · exact Or.inl h
            · exact Or.inr ⟨h.1, h3⟩), mCall_some, lc]
        · rw [if_pos (by omega), if_neg h3]
      unfold mX12_local
      rw [gc253, bnd_eq, toldr_t ht.1 hBt hk, mCall_some, if_neg (by decide), wI_id h2]
      by_cases h0 : a2 = 0
      · rw [if_pos h0]; exact e40
      · have h := hp.resolve_left h0
        have := h.1.1
        rw [if_neg h0, within_e _ 2 60000 _ (by omega) (by omega) (by omega), mCall_some, b2_t ⟨this, h.2⟩, if_neg (by decide), rprime_e _ (by omega) h.2, mCall_some, b2_t h.1, if_neg (by decide)]
        exact e40
  · refine ⟨-1, σ, -1, upS σ 253 0 0, ?_, ?_, rfl, ht⟩
    · unfold mX11_local
      refine mR_eq (mR_G (by decide) (mR_callE (told_c hB h1) (mR_if (fun z => mR_ret ⟨rfl, rfl⟩) (fun z => ?_))))
      have := b2p z
      rw [wI_id h2]
      refine mR_if (fun z2 => mR_if (fun z3 => absurd ⟨this, Or.inl z3⟩ hv) (fun z3 => mR_callE (prime_e _ h2' _) (mR_pos (by rw [wI_b2]; exact b2_f (fun z4 => hv ⟨this, Or.inr z4⟩)) (mR_ret ⟨rfl, rfl⟩)))) (fun _ => mR_ret ⟨rfl, rfl⟩)
    · unfold mX12_local
      refine mR_eq (mR_G (by decide) (mR_bnd (mR_callE (told_r ht.1 hBt h1) (mR_if (fun z => mR_ret ⟨rfl, rfl⟩) (fun z => ?_)))))
      have := b2p z
      rw [wI_id h2]
      refine mR_if (fun z3 => absurd ⟨this, Or.inl z3⟩ hv) (fun z3 => mR_callE (within_e _ 2 60000 _ (by omega) (by omega) (by omega)) (mR_if (fun z4 => mR_ret ⟨rfl, rfl⟩) (fun z4 => ?_)))
      have w := b2p z4
      exact mR_callE (rprime_e _ (by omega) w.2 _) (mR_pos (by rw [wI_b2]; exact b2_f (fun z5 => hv ⟨this, Or.inr ⟨z5, w.2⟩⟩)) (mR_ret ⟨rfl, rfl⟩))

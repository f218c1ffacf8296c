/-! the class side of ones -/
theorem sign_c {σ : mSt} (hL : Lay σ) {B k i : Nat} (h : B = 37 ∨ B = 69) (hk : k < 8) (hi : i < 4) : mX0_sign B (k : Int) (i : Int) σ = some (σ (B + 24 + k) i, σ) := by
  obtain ⟨l0, l1, l2, l3, l4, l5, l6, l7, m1, m2, m3, m4, m5, m6, m7, mk⟩ := book_lay hL h
  obtain ⟨k1, k2, k3, k4, k5, k6⟩ := mk k hk
  unfold mX0_sign
  rw [mG_pos (isC_of l0), gr' l7 (by omega), gx m7 _ (by omega), wI_nat (k := k) (by omega), gr' k3 (by omega), gx k6 _ (by omega), wI_nat (k := i) (by omega)]
theorem term_c {σ : mSt} (hL : Lay σ) {B k i : Nat} (h : B = 37 ∨ B = 69) (hk : k < 8) (hi : i < 4) : mX0_term B (k : Int) (i : Int) σ = some (σ (B + 15 + k) i, σ) := by
  obtain ⟨l0, l1, l2, l3, l4, l5, l6, l7, m1, m2, m3, m4, m5, m6, m7, mk⟩ := book_lay hL h
  obtain ⟨k1, k2, k3, k4, k5, k6⟩ := mk k hk
  unfold mX0_term
  rw [mG_pos (isC_of l0), gr' l6 (by omega), gx m6 _ (by omega), wI_nat (k := k) (by omega), gr' k2 (by omega), gx k5 _ (by omega), wI_nat (k := i) (by omega)]
def oneW (k i _j : Nat) : Prop := i = 104 + k
theorem oneW_fix {k i j : Nat} (hk : k < 8) (h : oneW k i j) : fixR i j = false := by
  have : ∀ k, k < 8 → (shp (104 + k)).1 = 20 := by decide +kernel
  exact fixR_data (Or.inl (by rw [h]; exact this k hk)) j
/-- quaternion -/
theorem onesQ {D k s : Nat} {a b : Int} {L : Nat → Int} {x : mSt → Option (Int × mSt)} (hk : k < 8) (hs : s ≤ 64) (hpl : ∀ i, i < s → place (L i)) (ha : a ≠ 0 ∧ -60 ≤ a ∧ a ≤ 60 ∧ sqf a) (hb : b ≠ 0 ∧ -60 ≤ b ∧ b ≤ 60 ∧ sqf b) : ∀ (m i N : Nat) (σ : mSt), i + m = s → m < N → Lay σ → σ 101 0 = (s : Int) → σ 102 = L → (∀ j, j < i → σ (104 + k) j = locQ a b (L j)) → ∃ σ', mX7_reckonOne_L47 101 D (k : Int) a b x N (i : Int) σ = x σ' ∧ frm (oneW k) σ σ' ∧ ∀ j, j < s → σ' (104 + k) j = locQ a b (L j) := by
  intro m
  induction m with
  | zero =>
    intro i N σ e1 e2 hL h0 h2 hr
    obtain ⟨N, rfl⟩ : ∃ q, N = q + 1 := ⟨N - 1, by omega⟩
    refine ⟨σ, ?_, frm.rf σ, fun j hj => hr j (by omega)⟩
    rw [mX7_reckonOne_L47.eq_2, h0, if_pos (by rw [wI_id (x := (s : Int)) (by omega), wI_id (x := (i : Int)) (by omega)]; omega)]
  | succ m ih =>
    intro i N σ e1 e2 hL h0 h2 hr
    obtain ⟨N, rfl⟩ : ∃ q, N = q + 1 := ⟨N - 1, by omega⟩
    obtain ⟨k1, k2, k3, k4, k5, k6⟩ := places_lay hL
    obtain ⟨k7, k8⟩ := k6 k hk
    obtain ⟨r, q1, q2, q3⟩ := ram_e (σ := σ) ha hb (hpl i (by omega))
    obtain ⟨σ1, e⟩ : ∃ z, z = upS σ (104 + k) i (3 * r) := ⟨_, rfl⟩
    have f1 : frm (oneW k) σ σ1 := by rw [e]; exact frm.one rfl
    have o : ∀ a', a' ≠ 104 + k → σ1 a' = σ a' := fun a' ha' => by rw [e]; exact upS_row ha'
    obtain ⟨σ2, p1, p2, p3⟩ := ih (i + 1) N σ1 (by omega) (by omega) (hL.frm f1 (fun _ _ z => oneW_fix hk z)) (by rw [o _ (by omega), h0]) (by rw [o _ (by omega), h2]) (fun j hj => by
      by_cases c : j = i
      · rw [c, e, upS_same, q3]
      · rw [e, upS_ne (by omega)]; exact hr j (by omega))
    refine ⟨σ2, ?_, f1.tr p2 (fun _ _ z => z), p3⟩
    rw [mX7_reckonOne_L47.eq_2, h0, if_neg (by rw [wI_id (x := (s : Int)) (by omega), wI_id (x := (i : Int)) (by omega)]; omega), gr' k5 (by omega), gx k3 _ (by omega), wI_nat (k := k) (by omega), gr' k8 (by omega), gr' k4 (by omega), gx k2 _ (by omega), wI_nat (k := i) (by omega), h2, q1, mCall_some]
    rcases q2 with rfl | rfl
    · rw [if_pos (by decide), gx k7 _ (by omega), bnd_eq, bnd_eq, show upS σ (104 + k) i 0 = σ1 by rw [e]; rfl]
      exact p1
    · rw [if_neg (by decide), gx k7 _ (by omega), bnd_eq, bnd_eq, show upS σ (104 + k) i 3 = σ1 by rw [e]; rfl]
      exact p1
/-- cyclic -/
noncomputable def cyV (q b : Int) (L : Nat → Int) (j : Nat) : Int := if L j = 0 ∨ L j = q then 0 else locC1 q b (L j)
theorem cyV_rng (q b : Int) (L : Nat → Int) (j : Nat) : 0 ≤ cyV q b L j ∧ cyV q b L j ≤ 4 := by
  unfold cyV
  have := locC1_rng q b (L j)
  split <;> omega
theorem cySum_rng (q b : Int) (L : Nat → Int) : ∀ j : Nat, 0 ≤ sumN (cyV q b L) j ∧ sumN (cyV q b L) j ≤ 4 * (j : Int) := by
  intro j
  induction j with
  | zero => exact ⟨Int.le_refl _, Int.le_refl _⟩
  | succ j ih =>
    have := cyV_rng q b L j
    show 0 ≤ sumN (cyV q b L) j + cyV q b L j ∧ sumN (cyV q b L) j + cyV q b L j ≤ 4 * ((j + 1 : Nat) : Int)
    omega
theorem onesC {k s : Nat} {q b : Int} {L : Nat → Int} {x : Int → Int → mSt → Option (Int × mSt)} (hk : k < 8) (hs : s ≤ 64) (hpl : ∀ i, i < s → place (L i)) (hq : q ∈ qs) (hb : b ≠ 0 ∧ -999 ≤ b ∧ b ≤ 999) : ∀ (m i N : Nat) (v6 : Int) (σ : mSt), i + m = s → m < N → Lay σ → σ 101 0 = (s : Int) → σ 102 = L → (∀ j, j < i → σ (104 + k) j = cyV q b L j) → ((v6 = -1 ∧ ∀ j, j < i → L j ≠ q) ∨ ∃ j : Nat, v6 = (j : Int) ∧ j < i ∧ L j = q) → ∃ v6' σ', mX7_reckonCyclic_L16 101 (k : Int) q b (genQ q) x N (sumN (cyV q b L) i) v6 (i : Int) σ = x (sumN (cyV q b L) s) v6' σ' ∧ frm (oneW k) σ σ' ∧ (∀ j, j < s → σ' (104 + k) j = cyV q b L j) ∧ ((v6' = -1 ∧ ∀ j, j < s → L j ≠ q) ∨ ∃ j : Nat, v6' = (j : Int) ∧ j < s ∧ L j = q) := by
  obtain ⟨⟨g1, g2⟩, -, -⟩ := gen_t q hq
  intro m
  induction m with
  | zero =>
    intro i N v6 σ e1 e2 hL h0 h2 hr hv
    obtain ⟨N, rfl⟩ : ∃ q, N = q + 1 := ⟨N - 1, by omega⟩
    have is : i = s := by omega
    subst is
    refine ⟨v6, σ, ?_, frm.rf σ, hr, hv⟩
    rw [mX7_reckonCyclic_L16.eq_2, h0, if_pos (Int.le_refl _)]
  | succ m ih =>
    intro i N v6 σ e1 e2 hL h0 h2 hr hv
    obtain ⟨N, rfl⟩ : ∃ q, N = q + 1 := ⟨N - 1, by omega⟩
    obtain ⟨k1, k2, k3, k4, k5, k6⟩ := places_lay hL
    obtain ⟨k7, k8⟩ := k6 k hk
    have pr := place_rng (hpl i (by omega))
    have sr := cySum_rng q b L i
    have cr := cyV_rng q b L i
    have se : sumN (cyV q b L) (i + 1) = sumN (cyV q b L) i + cyV q b L i := rfl
    -- the end of a step
    have fin : ∀ (v : Int) (w6 : Int) (σ1 : mSt), v = cyV q b L i → frm (oneW k) σ σ1 → σ1 (104 + k) i = v → (∀ j, j ≠ i → σ1 (104 + k) j = σ (104 + k) j) → ((w6 = -1 ∧ ∀ j, j < i + 1 → L j ≠ q) ∨ ∃ j : Nat, w6 = (j : Int) ∧ j < i + 1 ∧ L j = q) → ∃ v6' σ', mX7_reckonCyclic_B97 101 (k : Int) q b (genQ q) (mX7_reckonCyclic_L16 101 (k : Int) q b (genQ q) x N) x (sumN (cyV q b L) i) w6 (i : Int) σ1 = x (sumN (cyV q b L) s) v6' σ' ∧ frm (oneW k) σ σ' ∧ (∀ j, j < s → σ' (104 + k) j = cyV q b L j) ∧ ((v6' = -1 ∧ ∀ j, j < s → L j ≠ q) ∨ ∃ j : Nat, v6' = (j : Int) ∧ j < s ∧ L j = q) := by
      intro v w6 σ1 hv1 f1 h1 h1' hw6
      have hL1 := hL.frm f1 (fun _ _ z => oneW_fix hk z)
      have o : ∀ a', a' ≠ 104 + k → σ1 a' = σ a' := fun a' ha' => funext fun j => f1 a' j ha'
      obtain ⟨l1, l2, l3, l4, l5, l6⟩ := places_lay hL1
      obtain ⟨v6', σ', z1, z2, z3, z4⟩ := ih (i + 1) N w6 σ1 (by omega) (by omega) hL1 (by rw [o _ (by omega), h0]) (by rw [o _ (by omega), h2]) (fun j hj => by
        by_cases c : j = i
        · rw [c, h1, hv1]
        · rw [h1' j c]; exact hr j (by omega)) hw6
      refine ⟨v6', σ', ?_, f1.tr z2 (fun _ _ z => z), z3, z4⟩
      unfold mX7_reckonCyclic_B97
      rw [gr' l5 (by omega), gx l3 _ (by omega), wI_nat (k := k) (by omega), gr' (l6 k hk).2 (by omega), gx (l6 k hk).1 _ (by omega), wI_nat (k := i) (by omega), bnd_eq, bnd_eq, h1, hv1, ← se]
      exact z1
    rw [mX7_reckonCyclic_L16.eq_2, h0, if_neg (by rw [wI_id (x := (s : Int)) (by omega), wI_id (x := (i : Int)) (by omega)]; omega), gr' k4 (by omega), gx k2 _ (by omega), bnd_eq, gr' k5 (by omega), gx k3 _ (by omega), wI_nat (k := k) (by omega), gr' k8 (by omega), gx k7 _ (by omega), wI_nat (k := i) (by omega), bnd_eq, h2, wI_id (x := L i) (by omega), wI_id (x := q) (by omega)]
    obtain ⟨σ1, e⟩ : ∃ z, z = upS σ (104 + k) i 0 := ⟨_, rfl⟩
    have f1 : frm (oneW k) σ σ1 := by rw [e]; exact frm.one rfl
    rw [← e]
    by_cases c1 : L i = q
    · rw [if_pos c1]
      exact fin 0 _ σ1 (by unfold cyV; rw [if_pos (Or.inr c1)]) f1 (by rw [e, upS_same]) (fun j hj => by rw [e, upS_ne (by omega)]) (Or.inr ⟨i, rfl, by omega, c1⟩)
    · have hv' : ((v6 = -1 ∧ ∀ j, j < i + 1 → L j ≠ q) ∨ ∃ j : Nat, v6 = (j : Int) ∧ j < i + 1 ∧ L j = q) := by
        rcases hv with ⟨a1, a2⟩ | ⟨j, a1, a2, a3⟩
        · refine Or.inl ⟨a1, fun j hj => ?_⟩
          by_cases c : j = i
          · rw [c]; exact c1
          · exact a2 j (by omega)
        · exact Or.inr ⟨j, a1, by omega, a3⟩
      rw [if_neg c1]
      by_cases c2 : L i ≤ 1
      · rw [if_pos c2]
        have l0 : L i = 0 := by
          rcases hpl i (by omega) with z | ⟨z, _⟩
          · exact z
          · have := z.1; omega
        exact fin 0 _ σ1 (by unfold cyV; rw [if_pos (Or.inl l0)]) f1 (by rw [e, upS_same]) (fun j hj => by rw [e, upS_ne (by omega)]) hv'
      · have pp : prm (L i) := by
          rcases hpl i (by omega) with z | ⟨z, _⟩
          · omega
          · exact z
        have hg : 0 ≤ genQ q ∧ genQ q < q := by unfold genQ; split <;> omega
        have ot := ordF_rng (L i) 10 b
        have pt := pwF_rng q (genQ q) (L i % q) 60 1 1 (by omega) (by omega)
        have m0 : 0 ≤ ordF 10 (L i) b * pwF q (genQ q) (L i % q) 60 1 1 := Int.mul_nonneg (by omega) (by omega)
        have mr := mul_rng (x := ordF 10 (L i) b) (y := pwF q (genQ q) (L i % q) 60 1 1) (A := 10) (B := 50) (by omega) (by omega) (by omega)
        have hL1 := hL.frm f1 (fun _ _ z => oneW_fix hk z)
        obtain ⟨l1, l2, l3, l4, l5, l6⟩ := places_lay hL1
        have pm := pw_mod hq pp c1 (ordF 10 (L i) b)
        rw [if_neg c2, wI_id (x := b) (by omega), ho_e ⟨by omega, by omega⟩ 10 hb.1 (by omega) (by omega) (by omega), mCall_some, pw_e (by omega) hg (by omega), mCall_some, bnd_eq, gr' l5 (by omega), gx l3 _ (by omega), gr' (l6 k hk).2 (by omega), mG_pos (by decide), gx (l6 k hk).1 _ (by omega), bnd_eq, wI_id (x := ordF 10 (L i) b * pwF q (genQ q) (L i % q) 60 1 1) (by omega), show wI 3 = 3 by decide, Int.tmod_eq_emod_of_nonneg m0]
        refine fin (2 * (ordF 10 (L i) b * pwF q (genQ q) (L i % q) 60 1 1 % 3)) _ _ ?_ (f1.put rfl) (by rw [upS_same]) (fun j hj => by rw [upS_ne (by omega), e, upS_ne (by omega)]) hv'
        unfold cyV locC1
        rw [if_neg (by omega), pm]
theorem sum_re {f : Nat → Int} {L : Nat → Int} {s : Nat} (hi : ∀ i j, i < j → j < s → L i < L j) (h0 : ∀ i, i < s → 0 ≤ L i) (hf : ∀ o : Nat, o < 1000 → (∀ i, i < s → L i ≠ (o : Int)) → f o = 0) : ∀ (N i : Nat), N ≤ 1000 → i ≤ s → (∀ j, j < i → L j < (N : Int)) → (∀ j, i ≤ j → j < s → (N : Int) ≤ L j) → sumN f N = sumN (fun j => f (L j).toNat) i := by
  intro N
  induction N with
  | zero =>
    intro i _ h1 h2 _
    by_cases c : i = 0
    · rw [c]; rfl
    · have a := h2 0 (by omega)
      have b := h0 0 (by omega)
      omega
  | succ N ih =>
    intro i hN h1 h2 h3
    show sumN f N + f N = _
    by_cases c : 0 < i ∧ L (i - 1) = (N : Int)
    · obtain ⟨i, rfl⟩ : ∃ q, i = q + 1 := ⟨i - 1, by omega⟩
      have c2 : L i = (N : Int) := c.2
      rw [ih i (by omega) (by omega) (fun j hj => by have := hi j i hj (by omega); omega) (fun j z1 z2 => by
        by_cases ji : j = i
        · rw [ji]; omega
        · have := hi i j (by omega) z2; omega)]
      show _ = sumN (fun j => f (L j).toNat) i + f (L i).toNat
      rw [c2]
      rfl
    · have lt : ∀ j, j < i → L j < (N : Int) := fun j hj => by
        have a := h2 j hj
        by_cases ji : j = i - 1
        · have : L j ≠ (N : Int) := fun z => c ⟨by omega, by rw [← ji]; exact z⟩
          omega
        · have := hi j (i - 1) (by omega) (by omega)
          have := h2 (i - 1) (by omega)
          omega
      rw [ih i (by omega) h1 lt (fun j z1 z2 => by have := h3 j z1 z2; omega), hf N (by omega) (fun j hj z => by
        by_cases ji : j < i
        · have := lt j ji; omega
        · have := h3 j (by omega) hj; omega), Int.add_zero]
theorem cy_tot {q b : Int} {L : Nat → Int} {s : Nat} (hi : ∀ i j, i < j → j < s → L i < L j) (hpl : ∀ i, i < s → place (L i)) (hc : ∀ y, prm y → y < 1000 → y ∣ b → ∃ i, i < s ∧ L i = y) : sumN (fun o => b2 (prm o ∧ (o : Int) ≠ q ∧ (o : Int) ∣ b) * locC1 q b o) 1000 = sumN (cyV q b L) s := by
  rw [sum_re hi (fun i h => (place_rng (hpl i h)).1) (fun o ho hn => by
    rw [b2_f (fun z => by
      obtain ⟨i, i1, i2⟩ := hc o z.1 (by omega) z.2.2
      exact hn i i1 i2), Int.zero_mul]) 1000 s (by omega) (by omega) (fun j hj => by have := place_rng (hpl j hj); omega) (fun j z1 z2 => by omega)]
  refine sumN_cg s (fun j hj => ?_)
  have pr := place_rng (hpl j hj)
  rw [show ((L j).toNat : Int) = L j by omega]
  unfold cyV
  by_cases c : L j = 0 ∨ L j = q
  · rw [if_pos c, b2_f (fun z => by
      rcases c with c | c
      · rw [c] at z; have := z.1.1; omega
      · exact z.2.1 c), Int.zero_mul]
  · rw [if_neg c]
    by_cases d : L j ∣ b
    · have pp : prm (L j) := by
        rcases hpl j hj with z | z
        · exact absurd (Or.inl z) c
        · exact z.1
      rw [b2_t ⟨pp, fun z => c (Or.inr z), d⟩, Int.one_mul]
    · rw [locC1_0 d, Int.mul_zero]
theorem onesCy {k s : Nat} {q b : Int} {L : Nat → Int} {σ : mSt} (hk : k < 8) (hs : s ≤ 64) (hpl : ∀ i, i < s → place (L i)) (hi : ∀ i j, i < j → j < s → L i < L j) (hq : q ∈ qs) (hb : b ≠ 0 ∧ -999 ≤ b ∧ b ≤ 999) (hc : ∀ y, prm y → y < 1000 → y ∣ b → ∃ i, i < s ∧ L i = y) (hL : Lay σ) (h0 : σ 101 0 = (s : Int)) (h2 : σ 102 = L) : ∃ σ', mX7_reckonCyclic 101 (k : Int) q b σ = some (0, σ') ∧ frm (oneW k) σ σ' ∧ ∀ j, j < s → σ' (104 + k) j = locC q b (L j) := by
  obtain ⟨⟨g1, g2⟩, -, -⟩ := gen_t q hq
  obtain ⟨v6, σ1, e1, e2, e3, e4⟩ := onesC (x := fun z5 z6 zσ => mX7_reckonCyclic_B117 101 (k : Int) q b z5 z6 zσ) hk hs hpl hq hb s 0 mF (-1) σ (by omega) (by unfold mF; omega) hL h0 h2 (fun j hj => by omega) (Or.inl ⟨rfl, fun j hj => by omega⟩)
  have sr := cySum_rng q b L s
  have run : mX7_reckonCyclic 101 (k : Int) q b σ = mX7_reckonCyclic_B117 101 (k : Int) q b (sumN (cyV q b L) s) v6 σ1 := by
    unfold mX7_reckonCyclic
    rw [gc101, leastG_e hq, mCall_some]
    exact e1
  have ne : ∀ j, L j ≠ q → cyV q b L j = locC q b (L j) := fun j hj => by
    unfold cyV locC
    by_cases c : L j = 0
    · rw [if_pos (Or.inl c), if_pos c]
    · rw [if_neg (fun z => z.elim c hj), if_neg c, if_neg hj]
  rcases e4 with ⟨rfl, e5⟩ | ⟨j0, rfl, e5, e6⟩
  · refine ⟨σ1, ?_, e2, fun j hj => by rw [e3 j hj]; exact ne j (e5 j hj)⟩
    rw [run]
    unfold mX7_reckonCyclic_B117
    rw [if_pos (by decide)]
  · have hL1 := hL.frm e2 (fun _ _ z => oneW_fix hk z)
    obtain ⟨l1, l2, l3, l4, l5, l6⟩ := places_lay hL1
    refine ⟨upS σ1 (104 + k) j0 (-(sumN (cyV q b L) s) % 6), ?_, e2.put rfl, fun j hj => ?_⟩
    · rw [run]
      unfold mX7_reckonCyclic_B117
      rw [if_neg (by rw [wI_id (x := (j0 : Int)) (by omega)]; omega), gr' l5 (by omega), gx l3 _ (by omega), wI_nat (k := k) (by omega), gr' (l6 k hk).2 (by omega), wI_id (x := -(sumN (cyV q b L) s)) (by omega), rest_e _ _ _ (by omega) (by omega) (by omega), mCall_some, gx (l6 k hk).1 _ (by omega), wI_nat (k := j0) (by omega), bnd_eq]
    · by_cases c : j = j0
      · rw [c, upS_same, e6]
        unfold locC
        rw [if_neg (by omega), if_pos rfl, cy_tot hi hpl hc]
      · rw [upS_ne (by omega), e3 j hj]
        refine ne j (fun z => ?_)
        rcases Nat.lt_or_gt_of_ne c with w | w
        · have := hi j j0 w e5; omega
        · have := hi j0 j w hj; omega

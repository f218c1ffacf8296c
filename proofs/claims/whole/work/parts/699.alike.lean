/-! alike, classes, due -/
def alk (σ : mSt) (k o : Nat) : Prop := ∀ p, place p → loc σ k p = loc σ o p
theorem alk_list {σ : mSt} {n s k o : Nat} (hP : iPlaces σ n s) (hk : k < n) (ho : o < n) : alk σ k o ↔ ∀ j, j < s → lx σ k j = lx σ o j := by
  obtain ⟨s64, p2, p3, p4, p5, p6⟩ := hP
  constructor
  · intro h j hj
    exact h _ (p4 j hj)
  · intro h p hp
    by_cases he : ∃ j, j < s ∧ σ 102 j = p
    · obtain ⟨j, hj, rfl⟩ := he
      exact h j hj
    · rw [p6 k p hk hp (fun i hi z => he ⟨i, hi, z⟩), p6 o p ho hp (fun i hi z => he ⟨i, hi, z⟩)]
theorem alL5 {σ : mSt} {n s k o : Nat} (hL : Lay σ) (hP : iPlaces σ n s) (hn : n ≤ 8) (hk : k < n) (ho : o < n) : ∀ (m i N : Nat), i + m = s → m < N → mX7_areAlike_L5 101 (k : Int) (o : Int) (fun z3 zσ => mX7_areAlike_B51 101 (k : Int) (o : Int) z3 zσ) N (b2 (∀ j, j < i → lx σ k j = lx σ o j)) (i : Int) σ = some (b2 (∀ j, j < s → lx σ k j = lx σ o j), σ) := by
  obtain ⟨s64, p2, p3, p4, p5, p6⟩ := hP
  obtain ⟨k1, k2, k3, k4, k5, k6⟩ := places_lay hL
  have fin : ∀ P : Prop, mX7_areAlike_B51 101 (k : Int) (o : Int) (b2 P) σ = some (b2 P, σ) := fun P => by
    unfold mX7_areAlike_B51
    rw [mG_pos (b2_01 P)]
  intro m
  induction m with
  | zero =>
    intro i N h1 h2
    obtain ⟨N, rfl⟩ : ∃ q, N = q + 1 := ⟨N - 1, by omega⟩
    rw [mX7_areAlike_L5.eq_2, p2, if_pos (by rw [wI_id (by omega), wI_id (by omega)]; omega), fin, show i = s by omega]
  | succ m ih =>
    intro i N h1 h2
    obtain ⟨N, rfl⟩ : ∃ q, N = q + 1 := ⟨N - 1, by omega⟩
    have r := lx_rng σ k i
    have r' := lx_rng σ o i
    have e : σ (104 + k) i = lx σ k i := p5 k i hk (by omega)
    have e' : σ (104 + o) i = lx σ o i := p5 o i ho (by omega)
    rw [mX7_areAlike_L5.eq_2, p2, if_neg (by rw [wI_id (by omega), wI_id (by omega)]; omega)]
    by_cases ha : ∀ j, j < i → lx σ k j = lx σ o j
    · have nx := ih (i + 1) N (by omega) (by omega)
      rw [b2_t ha, if_neg (by decide), gr' k5 (by omega), gx k3 _ (by omega), wI_nat (by omega), gr' (k6 k (by omega)).2 (by omega), gx (k6 k (by omega)).1 _ (by omega), gr' k5 (by omega), gx k3 _ (by omega), wI_nat (by omega), gr' (k6 o (by omega)).2 (by omega), gx (k6 o (by omega)).1 _ (by omega), wI_nat (by omega), e, e', wI_id (x := lx σ k i) (by omega), wI_id (x := lx σ o i) (by omega)]
      by_cases hi : lx σ k i = lx σ o i
      · rw [b2_t (fun j hj => by
          by_cases hji : j = i
          · rw [hji]; exact hi
          · exact ha j (by omega))] at nx
        rw [if_pos hi, bnd_eq, show (i : Int) + 1 = ((i + 1 : Nat) : Int) by omega]
        exact nx
      · rw [b2_f (fun z => hi (z i (by omega)))] at nx
        rw [if_neg hi, bnd_eq, show (i : Int) + 1 = ((i + 1 : Nat) : Int) by omega]
        exact nx
    · rw [b2_f ha, if_pos (by decide)]
      have := fin (∀ j, j < i → lx σ k j = lx σ o j)
      rw [b2_f ha] at this
      rw [this, b2_f (fun z => ha (fun j hj => z j (by omega)))]
theorem areAlike_c {σ : mSt} {n s k o : Nat} (hL : Lay σ) (hP : iPlaces σ n s) (hn : n ≤ 8) (hk : k < n) (ho : o < n) : mX7_areAlike 101 (k : Int) (o : Int) σ = some (b2 (alk σ k o), σ) := by
  have s64 := hP.1
  have := alL5 hL hP hn hk ho s 0 mF (by omega) (by unfold mF; omega)
  rw [b2_t (fun j hj => by omega)] at this
  unfold mX7_areAlike
  rw [gc101, b2_iff (alk_list hP hk ho)]
  exact this
theorem alL2 {τ : mSt} {B n k o : Nat} (hL : Lay τ) (hB : iBook τ B n) (hk : k < n) (ho : o < n) : ∀ (q p N : Nat), p + q = 1000 → q < N → (∀ p' : Int, place p' → p' < (p : Int) → loc τ k p' = loc τ o p') → mX12_areAlike_L2 253 (k : Int) (o : Int) (fun zσ => mX12_areAlike_B43 253 (k : Int) (o : Int) zσ) N (p : Int) τ = some (b2 (alk τ k o), τ) := by
  intro q
  induction q with
  | zero =>
    intro p N h1 h2 h3
    obtain ⟨N, rfl⟩ : ∃ q, N = q + 1 := ⟨N - 1, by omega⟩
    rw [mX12_areAlike_L2.eq_2, if_pos (by rw [wI_id (by omega)]; omega), b2_t (show alk τ k o from fun p' hp => h3 p' hp (by have := place_rng hp; omega))]
    rfl
  | succ q ih =>
    intro p N h1 h2 h3
    obtain ⟨N, rfl⟩ : ∃ q, N = q + 1 := ⟨N - 1, by omega⟩
    rw [mX12_areAlike_L2.eq_2, if_neg (by rw [wI_id (by omega)]; omega), wI_id (x := (p : Int)) (by omega)]
    have nx : (place (p : Int) → loc τ k (p : Int) = loc τ o (p : Int)) → mX12_areAlike_L2 253 (k : Int) (o : Int) (fun zσ => mX12_areAlike_B43 253 (k : Int) (o : Int) zσ) N ((p : Int) + 1) τ = some (b2 (alk τ k o), τ) := fun h => by
      rw [show (p : Int) + 1 = ((p + 1 : Nat) : Int) by omega]
      exact ih (p + 1) N (by omega) (by omega) (fun p' hp hlt => by
        by_cases he : p' = (p : Int)
        · rw [he]; exact h (by rw [← he]; exact hp)
        · exact h3 p' hp (by omega))
    by_cases hpl : place (p : Int)
    · have B20 : mX12_areAlike_B20 253 (k : Int) (o : Int) (mX12_areAlike_L2 253 (k : Int) (o : Int) (fun zσ => mX12_areAlike_B43 253 (k : Int) (o : Int) zσ) N) (fun zσ => mX12_areAlike_B43 253 (k : Int) (o : Int) zσ) (p : Int) τ = some (b2 (alk τ k o), τ) := by
        have r1 := loc_rng τ k (p : Int)
        have r2 := loc_rng τ o (p : Int)
        unfold mX12_areAlike_B20
        rw [localOf_e9 hL hB hk hpl, mCall_some, localOf_e9 hL hB ho hpl, mCall_some, wI_id (x := loc τ k (p : Int)) (by omega), wI_id (x := loc τ o (p : Int)) (by omega)]
        by_cases he : loc τ k (p : Int) = loc τ o (p : Int)
        · rw [if_pos he, bnd_eq]
          exact nx (fun _ => he)
        · rw [if_neg he, b2_f (fun z => he (z _ hpl))]
      by_cases hp0 : (p : Int) = 0
      · rw [if_pos hp0]
        exact B20
      · have hpm : prm (p : Int) := by
          rcases hpl with h | h
          · exact absurd h hp0
          · exact h.1
        rw [if_neg hp0, rprime_e _ (by omega) (by omega), mCall_some, b2_t hpm, if_neg (by decide)]
        exact B20
    · have hp0 : ¬ (p : Int) = 0 := fun z => hpl (Or.inl z)
      have hpm : ¬ prm (p : Int) := fun z => hpl (Or.inr ⟨z, by omega⟩)
      rw [if_neg hp0, rprime_e _ (by omega) (by omega), mCall_some, b2_f hpm, if_pos (by decide), bnd_eq]
      exact nx (fun z => absurd z hpl)
theorem areAlike_r {τ : mSt} {B n k o : Nat} (hL : Lay τ) (hB : iBook τ B n) (hk : k < n) (ho : o < n) : mX12_areAlike 253 (k : Int) (o : Int) τ = some (b2 (alk τ k o), τ) := by
  unfold mX12_areAlike
  rw [gc253]
  exact alL2 hL hB hk ho 1000 0 mF (by omega) (by unfold mF; omega) (fun p' hp h => by have := place_rng hp; omega)
theorem alk_up (σ : mSt) (k o : Nat) : alk (upS σ 253 0 0) k o ↔ alk σ k o := by
  unfold alk
  simp only [loc_congr (σ := σ) (σ' := upS σ 253 0 0) (fun i _ _ => upS_row (by omega))]
theorem pr_alike (σ : mSt) (h : Inv σ) (a1 : Int) (h1 : i32 a1) (a2 : Int) (h2 : i32 a2) : ∃ b s b2 s2, mX11_alike 0 a1 a2 σ = some (b, s) ∧ mX12_alike 253 a1 a2 s = some (b2, s2) ∧ wI b = wI b2 ∧ Inv s2 := by
  have hI := h
  obtain ⟨hL, hb, t, B, n, s, hT, hB, hP, hE, hO⟩ := h
  have hn := hB.2.1
  have ht := hI.scr (scr_t (σ := σ) (v := 0))
  have hBt := book_up (v := 0) hB
  by_cases hv : (0 ≤ a1 ∧ a1 < (n : Int)) ∧ (0 ≤ a2 ∧ a2 < (n : Int))
  · obtain ⟨hv1, hv2⟩ := hv
    obtain ⟨k, rfl, hk⟩ := told_nat hv1
    obtain ⟨o, rfl, ho⟩ := told_nat hv2
    refine ⟨b2 (alk σ k o), σ, b2 (alk σ k o), upS σ 253 0 0, ?_, ?_, rfl, ht⟩
    · unfold mX11_alike
      rw [gc0, told_t hB hk, mCall_some, if_neg (by decide), told_t hB ho, mCall_some, if_neg (by decide), gr' (lay0 hL).2.2.1 (by omega), areAlike_c hL hP hn hk ho, mCall_some, wI_b2]
      by_cases hq : alk σ k o
      · rw [b2_t hq, if_neg (by decide)]
      · rw [b2_f hq, if_pos rfl]
    · unfold mX12_alike
      rw [gc253, bnd_eq, toldr_t ht.1 hBt hk, mCall_some, if_neg (by decide), toldr_t ht.1 hBt ho, mCall_some, if_neg (by decide), areAlike_r ht.1 hBt hk ho, mCall_some, wI_b2, b2_iff (alk_up σ k o)]
      by_cases hq : alk σ k o
      · rw [b2_t hq, if_neg (by decide)]
      · rw [b2_f hq, if_pos rfl]
  · refine ⟨-1, σ, -1, upS σ 253 0 0, ?_, ?_, rfl, ht⟩
    · unfold mX11_alike
      refine mR_eq (mR_G (by decide) (mR_callE (told_c hB h1) (mR_if (fun z => mR_ret ⟨rfl, rfl⟩) (fun z => ?_))))
      have := b2p z
      exact mR_callE (told_c hB h2) (mR_pos (by rw [wI_b2]; exact b2_f (fun z2 => hv ⟨this, z2⟩)) (mR_ret ⟨rfl, rfl⟩))
    · unfold mX12_alike mX12_alike_B38
      refine mR_eq (mR_G (by decide) (mR_bnd (mR_callE (told_r ht.1 hBt h1) (mR_if (fun z => mR_ret ⟨rfl, rfl⟩) (fun z => ?_)))))
      have := b2p z
      exact mR_callE (told_r ht.1 hBt h2) (mR_pos (by rw [wI_b2]; exact b2_f (fun z2 => hv ⟨this, z2⟩)) (mR_ret ⟨rfl, rfl⟩))
/-! classes -/
noncomputable def clsF (σ : mSt) (n : Nat) : Int := sumN (fun i => b2 (∀ j, j < i → ¬ alk σ i j)) n
theorem clL20 {σ : mSt} {B n s i : Nat} {v1 : Int} {xx : Int → mSt → Option (Int × mSt)} (hL : Lay σ) (hP : iPlaces σ n s) (hn : n ≤ 8) (hi : i < n) : ∀ (m j N : Nat), j + m = i → m < N → mX11_classes_L20 0 v1 (i : Int) xx N (b2 (∀ l, l < j → ¬ alk σ i l)) (j : Int) σ = xx (b2 (∀ l, l < i → ¬ alk σ i l)) σ := by
  intro m
  induction m with
  | zero =>
    intro j N h1 h2
    obtain ⟨N, rfl⟩ : ∃ q, N = q + 1 := ⟨N - 1, by omega⟩
    rw [mX11_classes_L20.eq_2, if_pos (by rw [wI_id (by omega), wI_id (by omega)]; omega), show j = i by omega]
  | succ m ih =>
    intro j N h1 h2
    obtain ⟨N, rfl⟩ : ∃ q, N = q + 1 := ⟨N - 1, by omega⟩
    rw [mX11_classes_L20.eq_2, if_neg (by rw [wI_id (by omega), wI_id (by omega)]; omega), wI_b2]
    have nx := ih (j + 1) N (by omega) (by omega)
    by_cases ha : ∀ l, l < j → ¬ alk σ i l
    · rw [b2_t ha, if_neg (by decide), gr' (lay0 hL).2.2.1 (by omega), areAlike_c hL hP hn hi (by omega), mCall_some, wI_b2]
      by_cases hq : alk σ i j
      · rw [b2_f (fun z => z j (by omega) hq)] at nx
        rw [b2_t hq, if_neg (by decide), bnd_eq, show (j : Int) + 1 = ((j + 1 : Nat) : Int) by omega]
        exact nx
      · rw [b2_t (fun l hl => by
          by_cases he : l = j
          · rw [he]; exact hq
          · exact ha l (by omega))] at nx
        rw [b2_f hq, if_pos rfl, bnd_eq, show (j : Int) + 1 = ((j + 1 : Nat) : Int) by omega]
        exact nx
    · rw [b2_f ha, if_pos rfl, b2_f (fun z => ha (fun l hl => z l (by omega)))]
theorem clL24 {τ : mSt} {B n i : Nat} {v1 : Int} {xx : Int → mSt → Option (Int × mSt)} (hL : Lay τ) (hB : iBook τ B n) (hi : i < n) : ∀ (m j N : Nat), j + m = i → m < N → mX12_classes_L24 253 v1 (i : Int) xx N (b2 (∀ l, l < j → ¬ alk τ i l)) (j : Int) τ = xx (b2 (∀ l, l < i → ¬ alk τ i l)) τ := by
  have hn := hB.2.1
  intro m
  induction m with
  | zero =>
    intro j N h1 h2
    obtain ⟨N, rfl⟩ : ∃ q, N = q + 1 := ⟨N - 1, by omega⟩
    rw [mX12_classes_L24.eq_2, if_pos (by rw [wI_id (by omega), wI_id (by omega)]; omega), show j = i by omega]
  | succ m ih =>
    intro j N h1 h2
    obtain ⟨N, rfl⟩ : ∃ q, N = q + 1 := ⟨N - 1, by omega⟩
    rw [mX12_classes_L24.eq_2, if_neg (by rw [wI_id (by omega), wI_id (by omega)]; omega), wI_b2]
    have nx := ih (j + 1) N (by omega) (by omega)
    have sy : alk τ j i ↔ alk τ i j := ⟨fun h p hp => (h p hp).symm, fun h p hp => (h p hp).symm⟩
    by_cases ha : ∀ l, l < j → ¬ alk τ i l
    · rw [b2_t ha, if_neg (by decide), areAlike_r hL hB (show j < n by omega) hi, mCall_some, wI_b2, b2_iff sy]
      by_cases hq : alk τ i j
      · rw [b2_f (fun z => z j (by omega) hq)] at nx
        rw [b2_t hq, if_neg (by decide), bnd_eq, show (j : Int) + 1 = ((j + 1 : Nat) : Int) by omega]
        exact nx
      · rw [b2_t (fun l hl => by
          by_cases he : l = j
          · rw [he]; exact hq
          · exact ha l (by omega))] at nx
        rw [b2_f hq, if_pos rfl, bnd_eq, show (j : Int) + 1 = ((j + 1 : Nat) : Int) by omega]
        exact nx
    · rw [b2_f ha, if_pos rfl, b2_f (fun z => ha (fun l hl => z l (by omega)))]
theorem clL4 {σ : mSt} {B n s : Nat} (hL : Lay σ) (hB : iBook σ B n) (hP : iPlaces σ n s) : ∀ (m i N : Nat), i + m = n → m < N → mX11_classes_L4 0 (fun z1 zσ => mX11_classes_B73 0 z1 zσ) N (clsF σ i) (i : Int) σ = some (clsF σ n, σ) := by
  have hB2 := hB
  obtain ⟨q1, hn, q3, q4, q5, q6, q7⟩ := hB2
  have sz : mX0_size B σ = some ((n : Int), σ) := by
    unfold mX0_size
    rw [mG_pos (by rcases q1 with rfl | rfl <;> decide), q5]
  intro m
  induction m with
  | zero =>
    intro i N h1 h2
    obtain ⟨N, rfl⟩ : ∃ q, N = q + 1 := ⟨N - 1, by omega⟩
    rw [mX11_classes_L4.eq_2, gr' q3 (by omega), sz, mCall_some, if_pos (by rw [wI_id (by omega), wI_id (by omega)]; omega), show i = n by omega]
    rfl
  | succ m ih =>
    intro i N h1 h2
    obtain ⟨N, rfl⟩ : ∃ q, N = q + 1 := ⟨N - 1, by omega⟩
    rw [mX11_classes_L4.eq_2, gr' q3 (by omega), sz, mCall_some, if_neg (by rw [wI_id (by omega), wI_id (by omega)]; omega)]
    have := clL20 (v1 := clsF σ i) (xx := fun z3 zσ => mX11_classes_B55 0 (mX11_classes_L4 0 (fun z1 zσ => mX11_classes_B73 0 z1 zσ) N) (fun z1 zσ => mX11_classes_B73 0 z1 zσ) (clsF σ i) (i : Int) z3 zσ) (B := B) hL hP hn (show i < n by omega) i 0 mF (by omega) (by unfold mF; omega)
    rw [b2_t (fun l hl => by omega)] at this
    refine this.trans ?_
    have nx := ih (i + 1) N (by omega) (by omega)
    have e : clsF σ (i + 1) = clsF σ i + b2 (∀ l, l < i → ¬ alk σ i l) := rfl
    unfold mX11_classes_B55
    rw [wI_b2]
    by_cases hq : ∀ l, l < i → ¬ alk σ i l
    · rw [b2_t hq] at e
      rw [b2_t hq, if_neg (by decide), bnd_eq, bnd_eq, show (i : Int) + 1 = ((i + 1 : Nat) : Int) by omega, ← e]
      exact nx
    · rw [b2_f hq] at e
      rw [b2_f hq, if_pos rfl, bnd_eq, bnd_eq, show (i : Int) + 1 = ((i + 1 : Nat) : Int) by omega, ← e]
      exact nx
theorem clL9 {τ : mSt} {B n : Nat} (hL : Lay τ) (hB : iBook τ B n) : ∀ (m i N : Nat), i + m = n → m < N → mX12_classes_L9 253 (fun z1 zσ => mX12_classes_B74 253 z1 zσ) N (clsF τ i) (i : Int) τ = some (clsF τ n, τ) := by
  have hB2 := hB
  obtain ⟨q1, hn, q3, q4, q5, q6, q7⟩ := hB2
  have l := lay253 hL
  intro m
  induction m with
  | zero =>
    intro i N h1 h2
    obtain ⟨N, rfl⟩ : ∃ q, N = q + 1 := ⟨N - 1, by omega⟩
    rw [mX12_classes_L9.eq_2, gr' l.2.1 (by omega), gx255 _ (by omega), q6, if_pos (by rw [wI_id (by omega), wI_id (by omega)]; omega), show i = n by omega]
    rfl
  | succ m ih =>
    intro i N h1 h2
    obtain ⟨N, rfl⟩ : ∃ q, N = q + 1 := ⟨N - 1, by omega⟩
    rw [mX12_classes_L9.eq_2, gr' l.2.1 (by omega), gx255 _ (by omega), q6, if_neg (by rw [wI_id (by omega), wI_id (by omega)]; omega)]
    have := clL24 (v1 := clsF τ i) (xx := fun z3 zσ => mX12_classes_B56 253 (mX12_classes_L9 253 (fun z1 zσ => mX12_classes_B74 253 z1 zσ) N) (fun z1 zσ => mX12_classes_B74 253 z1 zσ) (clsF τ i) (i : Int) z3 zσ) hL hB (show i < n by omega) i 0 mF (by omega) (by unfold mF; omega)
    rw [b2_t (fun l hl => by omega)] at this
    refine this.trans ?_
    have nx := ih (i + 1) N (by omega) (by omega)
    have e : clsF τ (i + 1) = clsF τ i + b2 (∀ l, l < i → ¬ alk τ i l) := rfl
    unfold mX12_classes_B56
    rw [wI_b2]
    by_cases hq : ∀ l, l < i → ¬ alk τ i l
    · rw [b2_t hq] at e
      rw [b2_t hq, if_neg (by decide), bnd_eq, bnd_eq, show (i : Int) + 1 = ((i + 1 : Nat) : Int) by omega, ← e]
      exact nx
    · rw [b2_f hq] at e
      rw [b2_f hq, if_pos rfl, bnd_eq, bnd_eq, show (i : Int) + 1 = ((i + 1 : Nat) : Int) by omega, ← e]
      exact nx
theorem pr_classes (σ : mSt) (h : Inv σ) : ∃ b s b2 s2, mX11_classes 0 σ = some (b, s) ∧ mX12_classes 253 s = some (b2, s2) ∧ wI b = wI b2 ∧ Inv s2 := by
  have hI := h
  obtain ⟨hL, hb, t, B, n, s, hT, hB, hP, hE, hO⟩ := h
  have hn := hB.2.1
  have ht := hI.scr (scr_t (σ := σ) (v := 0))
  have hBt := book_up (v := 0) hB
  have e : clsF (upS σ 253 0 0) n = clsF σ n := by
    unfold clsF
    have : (fun i => b2 (∀ j, j < i → ¬ alk (upS σ 253 0 0) i j)) = fun i => b2 (∀ j, j < i → ¬ alk σ i j) := by
      funext i
      exact b2_iff ⟨fun z j hj q => z j hj ((alk_up σ i j).mpr q), fun z j hj q => z j hj ((alk_up σ i j).mp q)⟩
    rw [this]
  refine ⟨clsF σ n, σ, clsF σ n, upS σ 253 0 0, ?_, ?_, rfl, ht⟩
  · unfold mX11_classes
    rw [gc0]
    exact clL4 hL hB hP n 0 mF (by omega) (by unfold mF; omega)
  · unfold mX12_classes
    rw [gc253, bnd_eq, ← e]
    exact clL9 ht.1 hBt n 0 mF (by omega) (by unfold mF; omega)
/-! due -/
def duF (L X : Nat → Int) : Nat → Nat → Int → Int
  | 0, _, p => p
  | m + 1, i, p => if L i = 0 ∨ X i = 0 then duF L X m (i + 1) p else duF L X m (i + 1) (p * L i)
theorem duL5 {σ : mSt} {n s k : Nat} {xx : Int → mSt → Option (Int × mSt)} (hL : Lay σ) (hP : iPlaces σ n s) (hn : n ≤ 8) (hk : k < n) : ∀ (m i N : Nat) (c : Int), i + m = s → m < N → mX7_product_L5 101 (k : Int) xx N c (i : Int) σ = xx (duF (σ 102) (lx σ k) m i c) σ := by
  obtain ⟨s64, p2, p3, p4, p5, p6⟩ := hP
  obtain ⟨k1, k2, k3, k4, k5, k6⟩ := places_lay hL
  intro m
  induction m with
  | zero =>
    intro i N c h1 h2
    obtain ⟨N, rfl⟩ : ∃ q, N = q + 1 := ⟨N - 1, by omega⟩
    rw [mX7_product_L5.eq_2, p2, if_pos (by rw [wI_id (by omega), wI_id (by omega)]; omega)]
    rfl
  | succ m ih =>
    intro i N c h1 h2
    obtain ⟨N, rfl⟩ : ∃ q, N = q + 1 := ⟨N - 1, by omega⟩
    have r := lx_rng σ k i
    have pr := place_rng (p4 i (by omega))
    have e : σ (104 + k) i = lx σ k i := p5 k i hk (by omega)
    rw [mX7_product_L5.eq_2, p2, if_neg (by rw [wI_id (by omega), wI_id (by omega)]; omega), gr' k4 (by omega), gx k2 _ (by omega), wI_nat (by omega), wI_id (x := σ 102 i) (by omega)]
    show _ = xx (if σ 102 i = 0 ∨ lx σ k i = 0 then duF (σ 102) (lx σ k) m (i + 1) c else duF (σ 102) (lx σ k) m (i + 1) (c * σ 102 i)) σ
    by_cases hl : σ 102 i = 0
    · rw [if_pos hl, if_pos (Or.inl hl), bnd_eq, show (i : Int) + 1 = ((i + 1 : Nat) : Int) by omega]
      exact ih (i + 1) N c (by omega) (by omega)
    · rw [if_neg hl, gr' k5 (by omega), gx k3 _ (by omega), wI_nat (by omega), gr' (k6 k (by omega)).2 (by omega), gx (k6 k (by omega)).1 _ (by omega), e, wI_id (x := lx σ k i) (by omega)]
      by_cases h0 : lx σ k i = 0
      · rw [if_pos h0, if_pos (Or.inr h0), bnd_eq, show (i : Int) + 1 = ((i + 1 : Nat) : Int) by omega]
        exact ih (i + 1) N c (by omega) (by omega)
      · rw [if_neg h0, if_neg (fun z => z.elim hl h0), gr' k4 (by omega), gx k2 _ (by omega), bnd_eq, bnd_eq, wI_id (x := σ 102 i) (by omega), show (i : Int) + 1 = ((i + 1 : Nat) : Int) by omega]
        exact ih (i + 1) N _ (by omega) (by omega)
theorem product_c {σ : mSt} {n s k : Nat} (hL : Lay σ) (hP : iPlaces σ n s) (hn : n ≤ 8) (hk : k < n) : mX7_product 101 (k : Int) σ = some (duF (σ 102) (lx σ k) s 0 1, σ) := by
  have s64 := hP.1
  have := duL5 (xx := fun z2 zσ => mX7_product_B53 101 (k : Int) z2 zσ) hL hP hn hk s 0 mF 1 (by omega) (by unfold mF; omega)
  unfold mX7_product
  rw [gc101]
  exact this
theorem duL9 {τ : mSt} {B n s k : Nat} (hL : Lay τ) (hB : iBook τ B n) (hP : iPlaces τ n s) (hk : k < n) : ∀ (m i N : Nat) (c : Int), i + m = s → m < N → (∀ j, i ≤ j → j < s → τ 102 j ≠ 0) → mX12_dueOf_L9 253 (k : Int) (fun z2 zσ => mX12_dueOf_B27 253 (k : Int) z2 zσ) N c (pbF (τ 102) (lx τ k) m i) τ = some (duF (τ 102) (lx τ k) m i c, τ) := by
  intro m
  induction m with
  | zero =>
    intro i N c h1 h2 h3
    obtain ⟨N, rfl⟩ : ∃ q, N = q + 1 := ⟨N - 1, by omega⟩
    rw [mX12_dueOf_L9.eq_2]
    unfold pbF
    rw [if_pos (by decide)]
    rfl
  | succ m ih =>
    intro i N c h1 h2 h3
    obtain ⟨N, rfl⟩ : ∃ q, N = q + 1 := ⟨N - 1, by omega⟩
    have pr := place_rng (hP.2.2.2.1 i (by omega))
    have nz := h3 i (by omega) (by omega)
    unfold pbF
    show _ = some ((if τ 102 i = 0 ∨ lx τ k i = 0 then duF (τ 102) (lx τ k) m (i + 1) c else duF (τ 102) (lx τ k) m (i + 1) (c * τ 102 i)), τ)
    by_cases h0 : lx τ k i = 0
    · rw [if_pos h0, if_pos (Or.inr h0)]
      exact ih (i + 1) (N + 1) c (by omega) (by omega) (fun j h4 h5 => h3 j (by omega) h5)
    · rw [if_neg h0, if_neg (fun z => z.elim nz h0), mX12_dueOf_L9.eq_2, wI_id (x := τ 102 i) (by omega), if_neg (by omega), bnd_eq, behind_i hL hB hP hk h1, mCall_some]
      exact ih (i + 1) N _ (by omega) (by omega) (fun j h4 h5 => h3 j (by omega) h5)
theorem dueOf_r {τ : mSt} {B n s k : Nat} (hL : Lay τ) (hB : iBook τ B n) (hP : iPlaces τ n s) (hk : k < n) : mX12_dueOf 253 (k : Int) τ = some (duF (τ 102) (lx τ k) s 0 1, τ) := by
  have hP2 := hP
  obtain ⟨s64, p2, p3, p4, p5, p6⟩ := hP2
  unfold mX12_dueOf
  rw [gc253]
  by_cases h : 0 < s ∧ τ 102 0 = 0
  · obtain ⟨s, rfl⟩ : ∃ z, s = z + 1 := ⟨s - 1, by omega⟩
    have ps : ∀ j, 1 ≤ j → j < s + 1 → 0 < τ 102 j := fun j h1 h2 => by have := p3 0 j (by omega) h2; omega
    rw [behind_e hL hB hP hk 1 s (by omega) (by omega) (fun j hj => by rw [show j = 0 by omega, h.2]; omega) (fun j h1 h2 => ps j h1 h2), mCall_some, duL9 hL hB hP hk s 1 mF 1 (by omega) (by unfold mF; omega) (fun j h1 h2 => by have := ps j h1 h2; omega)]
    show _ = some ((if τ 102 0 = 0 ∨ lx τ k 0 = 0 then duF (τ 102) (lx τ k) s (0 + 1) 1 else _), τ)
    rw [if_pos (Or.inl h.2)]
  · have ps : ∀ j, 0 ≤ j → j < s → 0 < τ 102 j := fun j h1 h2 => by
      have a := place_rng (p4 0 (by omega))
      have b : τ 102 0 ≠ 0 := fun z => h ⟨by omega, z⟩
      by_cases hj : j = 0
      · rw [hj]; omega
      · have := p3 0 j (by omega) h2; omega
    rw [behind_e hL hB hP hk 0 s (by omega) (by omega) (fun j hj => by omega) (fun j h1 h2 => ps j h1 h2), mCall_some, duL9 hL hB hP hk s 0 mF 1 (by omega) (by unfold mF; omega) (fun j h1 h2 => by have := ps j h1 h2; omega)]
theorem pr_due (σ : mSt) (h : Inv σ) (a1 : Int) (h1 : i32 a1) : ∃ b s b2 s2, mX11_due 0 a1 σ = some (b, s) ∧ mX12_due 253 a1 s = some (b2, s2) ∧ wI b = wI b2 ∧ Inv s2 := by
  have hI := h
  obtain ⟨hL, hb, t, B, n, s, hT, hB, hP, hE, hO⟩ := h
  have hn := hB.2.1
  have ht := hI.scr (scr_t (σ := σ) (v := 0))
  have hBt := book_up (v := 0) hB
  have hPt := places_up hP hn
  by_cases hv : 0 ≤ a1 ∧ a1 < (n : Int) ∧ σ 257 a1.toNat = 0
  · obtain ⟨k, rfl, hk, hq⟩ := quat_nat hv
    refine ⟨duF (σ 102) (lx σ k) s 0 1, σ, duF (σ 102) (lx σ k) s 0 1, upS σ 253 0 0, ?_, ?_, rfl, ht⟩
    · unfold mX11_due
      rw [gc0, quat_t hL hB hk hq, mCall_some, if_neg (by decide), gr' (lay0 hL).2.2.1 (by omega), product_c hL hP hn hk, mCall_some]
    · unfold mX12_due
      rw [gc253, bnd_eq, quatr_t ht.1 hBt hk (by rw [upS_row (by omega)]; exact hq), mCall_some, if_neg (by decide), dueOf_r ht.1 hBt hPt hk, mCall_some, lx_up, upS_row (by omega)]
  · refine ⟨-1, σ, -1, upS σ 253 0 0, ?_, ?_, rfl, ht⟩
    · unfold mX11_due
      exact mR_eq (mR_G (by decide) (mR_callE (quat_c hL hB h1) (mR_pos (by rw [wI_b2, b2_f hv]) (mR_ret ⟨rfl, rfl⟩))))
    · unfold mX12_due
      exact mR_eq (mR_G (by decide) (mR_bnd (mR_callE (quat_r ht.1 hBt h1) (mR_pos (by rw [wI_b2, b2_f (by rw [upS_row (by omega)]; exact hv)]) (mR_ret ⟨rfl, rfl⟩)))))

/-! the class side of alike -/
def alk (σ : mSt) (k o : Nat) : Prop := ∀ p, place p → loc σ k p = loc σ o p
theorem alk_list {σ : mSt} {n s k o : Nat} (hP : iPlaces σ n s) (hk : k < n) (ho : o < n) : alk σ k o ↔ ∀ j, j < s → lx σ k j = lx σ o j := by
  obtain ⟨s64, p2, p3, p4, p5, p6⟩ := hP
  constructor
  · intro h j hj
    exact h _ (p4 j hj)
  · intro h p hp
    by_cases he : ∃ j, j < s ∧ σ 102 j = p
    · obtain ⟨j, hj, rfl⟩ := he
      exact h j hj
    · rw [p6 k p hk hp (fun i hi z => he ⟨i, hi, z⟩), p6 o p ho hp (fun i hi z => he ⟨i, hi, z⟩)]
theorem alL5 {σ : mSt} {n s k o : Nat} (hL : Lay σ) (hP : iPlaces σ n s) (hn : n ≤ 8) (hk : k < n) (ho : o < n) : ∀ (m i N : Nat), i + m = s → m < N → mX7_areAlike_L5 101 (k : Int) (o : Int) (fun z3 zσ => mX7_areAlike_B51 101 (k : Int) (o : Int) z3 zσ) N (b2 (∀ j, j < i → lx σ k j = lx σ o j)) (i : Int) σ = some (b2 (∀ j, j < s → lx σ k j = lx σ o j), σ) := by
  obtain ⟨s64, p2, p3, p4, p5, p6⟩ := hP
  obtain ⟨k1, k2, k3, k4, k5, k6⟩ := places_lay hL
  have fin : ∀ P : Prop, mX7_areAlike_B51 101 (k : Int) (o : Int) (b2 P) σ = some (b2 P, σ) := fun P => by
    unfold mX7_areAlike_B51
    rw [mG_pos (b2_01 P)]
  intro m
  induction m with
  | zero =>
    intro i N h1 h2
    obtain ⟨N, rfl⟩ : ∃ q, N = q + 1 := ⟨N - 1, by omega⟩
    rw [mX7_areAlike_L5.eq_2, p2, if_pos (by rw [wI_id (by omega), wI_id (by omega)]; omega), fin, show i = s by omega]
  | succ m ih =>
    intro i N h1 h2
    obtain ⟨N, rfl⟩ : ∃ q, N = q + 1 := ⟨N - 1, by omega⟩
    have r := lx_rng σ k i
    have r' := lx_rng σ o i
    have e : σ (104 + k) i = lx σ k i := p5 k i hk (by omega)
    have e' : σ (104 + o) i = lx σ o i := p5 o i ho (by omega)
    rw [mX7_areAlike_L5.eq_2, p2, if_neg (by rw [wI_id (by omega), wI_id (by omega)]; omega)]
    by_cases ha : ∀ j, j < i → lx σ k j = lx σ o j
    · have nx := ih (i + 1) N (by omega) (by omega)
      rw [b2_t ha, if_neg (by decide), gr' k5 (by omega), gx k3 _ (by omega), wI_nat (by omega), gr' (k6 k (by omega)).2 (by omega), gx (k6 k (by omega)).1 _ (by omega), gr' k5 (by omega), gx k3 _ (by omega), wI_nat (by omega), gr' (k6 o (by omega)).2 (by omega), gx (k6 o (by omega)).1 _ (by omega), wI_nat (by omega), e, e', wI_id (x := lx σ k i) (by omega), wI_id (x := lx σ o i) (by omega)]
      by_cases hi : lx σ k i = lx σ o i
      · rw [b2_t (fun j hj => by
          by_cases hji : j = i
          · rw [hji]; exact hi
          · exact ha j (by omega))] at nx
        rw [if_pos hi, bnd_eq, show (i : Int) + 1 = ((i + 1 : Nat) : Int) by omega]
        exact nx
      · rw [b2_f (fun z => hi (z i (by omega)))] at nx
        rw [if_neg hi, bnd_eq, show (i : Int) + 1 = ((i + 1 : Nat) : Int) by omega]
        exact nx
    · rw [b2_f ha, if_pos (by decide)]
      have := fin (∀ j, j < i → lx σ k j = lx σ o j)
      rw [b2_f ha] at this
      rw [this, b2_f (fun z => ha (fun j hj => z j (by omega)))]
theorem areAlike_c {σ : mSt} {n s k o : Nat} (hL : Lay σ) (hP : iPlaces σ n s) (hn : n ≤ 8) (hk : k < n) (ho : o < n) : mX7_areAlike 101 (k : Int) (o : Int) σ = some (b2 (alk σ k o), σ) := by
  have s64 := hP.1
  have := alL5 hL hP hn hk ho s 0 mF (by omega) (by unfold mF; omega)
  rw [b2_t (fun j hj => by omega)] at this
  unfold mX7_areAlike
  rw [gc101, b2_iff (alk_list hP hk ho)]
  exact this
noncomputable def clsF (σ : mSt) (n : Nat) : Int := sumN (fun i => b2 (∀ j, j < i → ¬ alk σ i j)) n
theorem clL20 {σ : mSt} {B n s i : Nat} {v1 : Int} {xx : Int → mSt → Option (Int × mSt)} (hL : Lay σ) (hP : iPlaces σ n s) (hn : n ≤ 8) (hi : i < n) : ∀ (m j N : Nat), j + m = i → m < N → mX11_classes_L20 0 v1 (i : Int) xx N (b2 (∀ l, l < j → ¬ alk σ i l)) (j : Int) σ = xx (b2 (∀ l, l < i → ¬ alk σ i l)) σ := by
  intro m
  induction m with
  | zero =>
    intro j N h1 h2
    obtain ⟨N, rfl⟩ : ∃ q, N = q + 1 := ⟨N - 1, by omega⟩
    rw [mX11_classes_L20.eq_2, if_pos (by rw [wI_id (by omega), wI_id (by omega)]; omega), show j = i by omega]
  | succ m ih =>
    intro j N h1 h2
    obtain ⟨N, rfl⟩ : ∃ q, N = q + 1 := ⟨N - 1, by omega⟩
    rw [mX11_classes_L20.eq_2, if_neg (by rw [wI_id (by omega), wI_id (by omega)]; omega), wI_b2]
    have nx := ih (j + 1) N (by omega) (by omega)
    by_cases ha : ∀ l, l < j → ¬ alk σ i l
    · rw [b2_t ha, if_neg (by decide), gr' (lay0 hL).2.2.1 (by omega), areAlike_c hL hP hn hi (by omega), mCall_some, wI_b2]
      by_cases hq : alk σ i j
      · rw [b2_f (fun z => z j (by omega) hq)] at nx
        rw [b2_t hq, if_neg (by decide), bnd_eq, show (j : Int) + 1 = ((j + 1 : Nat) : Int) by omega]
        exact nx
      · rw [b2_t (fun l hl => by
          by_cases he : l = j
          · rw [he]; exact hq
          · exact ha l (by omega))] at nx
        rw [b2_f hq, if_pos rfl, bnd_eq, show (j : Int) + 1 = ((j + 1 : Nat) : Int) by omega]
        exact nx
    · rw [b2_f ha, if_pos rfl, b2_f (fun z => ha (fun l hl => z l (by omega)))]
theorem clL4 {σ : mSt} {B n s : Nat} (hL : Lay σ) (hB : iBook σ B n) (hP : iPlaces σ n s) : ∀ (m i N : Nat), i + m = n → m < N → mX11_classes_L4 0 (fun z1 zσ => mX11_classes_B73 0 z1 zσ) N (clsF σ i) (i : Int) σ = some (clsF σ n, σ) := by
  have hB2 := hB
  obtain ⟨q1, hn, q3, q4, q5, q6, q7⟩ := hB2
  have sz : mX0_size B σ = some ((n : Int), σ) := by
    unfold mX0_size
    rw [mG_pos (by rcases q1 with rfl | rfl <;> decide), q5]
  intro m
  induction m with
  | zero =>
    intro i N h1 h2
    obtain ⟨N, rfl⟩ : ∃ q, N = q + 1 := ⟨N - 1, by omega⟩
    rw [mX11_classes_L4.eq_2, gr' q3 (by omega), sz, mCall_some, if_pos (by rw [wI_id (by omega), wI_id (by omega)]; omega), show i = n by omega]
    rfl
  | succ m ih =>
    intro i N h1 h2
    obtain ⟨N, rfl⟩ : ∃ q, N = q + 1 := ⟨N - 1, by omega⟩
    rw [mX11_classes_L4.eq_2, gr' q3 (by omega), sz, mCall_some, if_neg (by rw [wI_id (by omega), wI_id (by omega)]; omega)]
    have := clL20 (v1 := clsF σ i) (xx := fun z3 zσ => mX11_classes_B55 0 (mX11_classes_L4 0 (fun z1 zσ => mX11_classes_B73 0 z1 zσ) N) (fun z1 zσ => mX11_classes_B73 0 z1 zσ) (clsF σ i) (i : Int) z3 zσ) (B := B) hL hP hn (show i < n by omega) i 0 mF (by omega) (by unfold mF; omega)
    rw [b2_t (fun l hl => by omega)] at this
    refine this.trans ?_
    have nx := ih (i + 1) N (by omega) (by omega)
    have e : clsF σ (i + 1) = clsF σ i + b2 (∀ l, l < i → ¬ alk σ i l) := rfl
    unfold mX11_classes_B55
    rw [wI_b2]
    by_cases hq : ∀ l, l < i → ¬ alk σ i l
    · rw [b2_t hq] at e
      rw [b2_t hq, if_neg (by decide), bnd_eq, bnd_eq, show (i : Int) + 1 = ((i + 1 : Nat) : Int) by omega, ← e]
      exact nx
    · rw [b2_f hq] at e
      rw [b2_f hq, if_pos rfl, bnd_eq, bnd_eq, show (i : Int) + 1 = ((i + 1 : Nat) : Int) by omega, ← e]
      exact nx

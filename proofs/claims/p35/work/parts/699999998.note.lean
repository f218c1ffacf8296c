/-! the class side of note -/
def noW (i j : Nat) : Prop := (i = 101 ∧ j ≤ 1) ∨ i = 102
def lst (σ : mSt) (s : Nat) (X : Int → Prop) : Prop := Lay σ ∧ σ 101 0 = (s : Int) ∧ (∀ i j, i < j → j < s → σ 102 i < σ 102 j) ∧ (∀ i, i < s → 0 ≤ σ 102 i ∧ σ 102 i ≤ 1000) ∧ ∀ x, X x ↔ ∃ i, i < s ∧ σ 102 i = x
theorem noW_fix {i j : Nat} (h : noW i j) : fixR i j = false := by
  rcases h with ⟨rfl, h⟩ | rfl
  · have : ∀ j, j ≤ 1 → fixR 101 j = false := by decide +kernel
    exact this j h
  · exact fixR_data (by decide) j
theorem ntL2 {σ : mSt} {s : Nat} {v : Int} {X : Int → Prop} {x : Int → mSt → Option (Int × mSt)} (h : lst σ s X) (hs : s ≤ 64) (hv : 0 ≤ v ∧ v ≤ 1000) : ∀ (m i N : Nat), i + m = s → m < N → (∀ j, j < i → σ 102 j < v) → ∃ i' : Nat, mX7_note_L2 101 v x N (i : Int) σ = x (i' : Int) σ ∧ i' ≤ s ∧ (∀ j, j < i' → σ 102 j < v) ∧ (i' < s → v ≤ σ 102 i') := by
  obtain ⟨hL, h1, h2, h3, h4⟩ := h
  have kl := (places_lay hL).2.2.2.1
  intro m
  induction m with
  | zero =>
    intro i N e1 e2 e3
    obtain ⟨N, rfl⟩ : ∃ q, N = q + 1 := ⟨N - 1, by omega⟩
    refine ⟨i, ?_, by omega, e3, fun z => by omega⟩
    rw [mX7_note_L2.eq_2, h1, if_pos (by rw [wI_id (x := (s : Int)) (by omega), wI_id (x := (i : Int)) (by omega)]; omega)]
  | succ m ih =>
    intro i N e1 e2 e3
    obtain ⟨N, rfl⟩ : ∃ q, N = q + 1 := ⟨N - 1, by omega⟩
    have r := h3 i (by omega)
    rw [mX7_note_L2.eq_2, h1, if_neg (by rw [wI_id (x := (s : Int)) (by omega), wI_id (x := (i : Int)) (by omega)]; omega), gr' kl (by omega), gx102 _ (by omega), wI_nat (k := i) (by omega), wI_id (x := v) (by omega), wI_id (x := σ 102 i) (by omega)]
    by_cases c : v ≤ σ 102 i
    · exact ⟨i, by rw [if_pos c], by omega, e3, fun _ => c⟩
    · rw [if_neg c, bnd_eq, show (i : Int) + 1 = ((i + 1 : Nat) : Int) by omega]
      exact ih (i + 1) N (by omega) (by omega) (fun j hj => by
        by_cases hji : j = i
        · rw [hji]; omega
        · exact e3 j (by omega))
theorem ntL59 {v : Int} {s : Nat} {x : mSt → Option (Int × mSt)} : ∀ (m i N : Nat) (σ : mSt), Lay σ → i + m ≤ 63 → m < N → ∃ σ', mX7_note_L59 101 v (i : Int) x N ((i + m : Nat) : Int) σ = x σ' ∧ frm (fun a b => a = 102) σ σ' ∧ ∀ j, σ' 102 j = if i < j ∧ j ≤ i + m then σ 102 (j - 1) else σ 102 j := by
  intro m
  induction m with
  | zero =>
    intro i N σ hL e1 e2
    obtain ⟨N, rfl⟩ : ∃ q, N = q + 1 := ⟨N - 1, by omega⟩
    refine ⟨σ, ?_, frm.rf σ, fun j => by rw [if_neg (by omega)]⟩
    rw [mX7_note_L59.eq_2, if_pos (by rw [wI_id (x := ((i + 0 : Nat) : Int)) (by omega), wI_id (x := (i : Int)) (by omega)]; omega)]
  | succ m ih =>
    intro i N σ hL e1 e2
    obtain ⟨N, rfl⟩ : ∃ q, N = q + 1 := ⟨N - 1, by omega⟩
    have kl := (places_lay hL).2.2.2.1
    obtain ⟨σ1, e⟩ : ∃ z, z = upS σ 102 (i + (m + 1)) (σ 102 (i + m)) := ⟨_, rfl⟩
    have f1 : frm (fun a b => a = 102) σ σ1 := by rw [e]; exact frm.one rfl
    obtain ⟨σ2, q1, q2, q3⟩ := ih i N σ1 (hL.frm f1 (fun a b z => noW_fix (Or.inr z))) (by omega) (by omega)
    refine ⟨σ2, ?_, f1.tr q2 (fun _ _ z => z), fun j => ?_⟩
    · rw [mX7_note_L59.eq_2, if_neg (by rw [wI_id (x := ((i + (m + 1) : Nat) : Int)) (by omega), wI_id (x := (i : Int)) (by omega)]; omega), gr' kl (by omega), gr' kl (by omega), gx102 _ (by omega), gx102 _ (by omega), show ((i + (m + 1) : Nat) : Int) - 1 = ((i + m : Nat) : Int) by omega, wI_nat (k := i + (m + 1)) (by omega), wI_nat (k := i + m) (by omega), bnd_eq, bnd_eq, ← e, show ((i + (m + 1) : Nat) : Int) + (-1) = ((i + m : Nat) : Int) by omega]
      exact q1
    · rw [q3, e]
      by_cases c : i < j ∧ j ≤ i + m
      · rw [if_pos c, if_pos (by omega), upS_ne (by omega)]
      · rw [if_neg c]
        by_cases c2 : j = i + (m + 1)
        · rw [c2, upS_same, if_pos (by omega)]
          rfl
        · rw [if_neg (by omega), upS_ne (by omega)]
theorem note_e {σ : mSt} {s : Nat} {v : Int} {X : Int → Prop} (h : lst σ s X) (hs : s < 64) (hv : 0 ≤ v ∧ v ≤ 1000) : ∃ s' σ', mX7_note 101 v σ = some (0, σ') ∧ frm noW σ σ' ∧ σ' 101 1 = σ 101 1 ∧ s' ≤ s + 1 ∧ lst σ' s' (fun x => X x ∨ x = v) := by
  obtain ⟨i, e1, e2, e3, e4⟩ := ntL2 (x := fun z2 zσ => mX7_note_B26 101 v z2 zσ) h (by omega) hv s 0 mF (by omega) (by unfold mF; omega) (fun j hj => by omega)
  have h' := h
  obtain ⟨hL, h1, h2, h3, h4⟩ := h
  have kl := (places_lay hL).2.2.2.1
  have run : mX7_note 101 v σ = mX7_note_B26 101 v (i : Int) σ := by
    unfold mX7_note
    rw [gc101]
    exact e1
  have ws : wI (s : Int) = (s : Int) := wI_id (x := (s : Int)) (by omega)
  have wi : wI (i : Int) = (i : Int) := wI_id (x := (i : Int)) (by omega)
  by_cases c : i < s ∧ σ 102 i = v
  · refine ⟨s, σ, ?_, frm.rf σ, rfl, by omega, hL, h1, h2, h3, fun x => ?_⟩
    · rw [run]
      unfold mX7_note_B26
      rw [h1, ws, if_neg (by omega), if_neg (by rw [wi]; omega), gr' kl (by omega), gx102 _ (by omega), wI_nat (k := i) (by omega), wI_id (x := v) (by omega), wI_id (x := σ 102 i) (by have := c.2; omega), if_pos c.2]
    · constructor
      · rintro (z | z)
        · exact (h4 x).mp z
        · exact ⟨i, c.1, by rw [c.2, z]⟩
      · intro z
        exact Or.inl ((h4 x).mpr z)
  · obtain ⟨σ1, q1, q2, q3⟩ := ntL59 (v := v) (s := s) (x := fun zσ => mX7_note_B84 101 v (i : Int) zσ) (s - i) i mF σ hL (by omega) (by unfold mF; omega)
    have hL1 := hL.frm q2 (fun a b z => noW_fix (Or.inr z))
    have kl1 := (places_lay hL1).2.2.2.1
    obtain ⟨σ2, e⟩ : ∃ z, z = upS (upS σ1 102 i v) 101 0 ((s : Int) + 1) := ⟨_, rfl⟩
    have f2 : frm noW σ1 σ2 := by rw [e]; exact (frm.one (Or.inr rfl)).put (Or.inl ⟨rfl, by omega⟩)
    have L2 : ∀ j, σ2 102 j = if j = i then v else if i < j ∧ j ≤ s then σ 102 (j - 1) else σ 102 j := fun j => by
      rw [e, upS_ne (by omega)]
      by_cases c1 : j = i
      · rw [c1, upS_same, if_pos rfl]
      · rw [upS_ne (by omega), if_neg c1, q3, show i + (s - i) = s by omega]
    have low : ∀ j, j < i → σ2 102 j = σ 102 j := fun j hj => by rw [L2, if_neg (by omega), if_neg (by omega)]
    have mid : σ2 102 i = v := by rw [L2, if_pos rfl]
    have up : ∀ j, i ≤ j → j < s → σ2 102 (j + 1) = σ 102 j := fun j hj hs => by rw [L2, if_neg (by omega), if_pos (by omega)]; rfl
    have gt : ∀ j, i ≤ j → j < s → v < σ 102 j := fun j hj hs => by
      have a := e4 (by omega)
      by_cases c1 : j = i
      · rw [c1]
        have : σ 102 i ≠ v := fun z => c ⟨by omega, z⟩
        omega
      · have := h2 i j (by omega) hs
        omega
    refine ⟨s + 1, σ2, ?_, (q2.mono (fun a b z => Or.inr z)).tr f2 (fun _ _ z => z), ?_, by omega, hL1.frm f2 (fun a b z => noW_fix z), ?_, ?_, ?_, ?_⟩
    · have tail : mX7_note_B54 101 v (i : Int) σ = some (0, σ2) := by
        unfold mX7_note_B54
        rw [h1, bnd_eq, show (s : Int) = ((i + (s - i) : Nat) : Int) by omega]
        refine q1.trans ?_
        show mX7_note_B84 101 v (i : Int) σ1 = _
        unfold mX7_note_B84
        rw [gr' kl1 (by omega), gx102 _ (by omega), wI_nat (k := i) (by omega), bnd_eq, bnd_eq, upS_ne (by omega), q2 _ _ (by omega), h1, ← e]
      rw [run]
      unfold mX7_note_B26
      rw [h1, ws, if_neg (by omega)]
      by_cases c1 : s ≤ i
      · rw [if_pos (by rw [wi]; omega), tail]
      · have g := gt i (by omega) (by omega)
        have r := h3 i (by omega)
        rw [if_neg (by rw [wi]; omega), gr' kl (by omega), gx102 _ (by omega), wI_nat (k := i) (by omega), wI_id (x := v) (by omega), wI_id (x := σ 102 i) (by omega), if_neg (by omega), tail]
    · rw [e, upS_ne (by omega), upS_ne (by omega), q2 _ _ (by omega)]
    · rw [e, upS_same]; omega
    · intro a b hab hb
      by_cases ca : a < i
      · rw [low a ca]
        by_cases cb : b < i
        · rw [low b cb]; exact h2 a b hab (by omega)
        · have := e3 a ca
          by_cases cb2 : b = i
          · rw [cb2, mid]; exact this
          · obtain ⟨b, rfl⟩ : ∃ q, b = q + 1 := ⟨b - 1, by omega⟩
            rw [up b (by omega) (by omega)]
            exact h2 a b (by omega) (by omega)
      · obtain ⟨b, rfl⟩ : ∃ q, b = q + 1 := ⟨b - 1, by omega⟩
        rw [up b (by omega) (by omega)]
        by_cases ca2 : a = i
        · rw [ca2, mid]; exact gt b (by omega) (by omega)
        · obtain ⟨a, rfl⟩ : ∃ q, a = q + 1 := ⟨a - 1, by omega⟩
          rw [up a (by omega) (by omega)]
          exact h2 a b (by omega) (by omega)
    · intro j hj
      by_cases c1 : j < i
      · rw [low j c1]; exact h3 j (by omega)
      · by_cases c2 : j = i
        · rw [c2, mid]; omega
        · obtain ⟨j, rfl⟩ : ∃ q, j = q + 1 := ⟨j - 1, by omega⟩
          rw [up j (by omega) (by omega)]
          exact h3 j (by omega)
    · intro x
      constructor
      · rintro (z | z)
        · obtain ⟨j, j1, j2⟩ := (h4 x).mp z
          by_cases c1 : j < i
          · exact ⟨j, by omega, by rw [low j c1, j2]⟩
          · exact ⟨j + 1, by omega, by rw [up j (by omega) j1, j2]⟩
        · exact ⟨i, by omega, by rw [mid, z]⟩
      · rintro ⟨j, j1, j2⟩
        by_cases c1 : j < i
        · exact Or.inl ((h4 x).mpr ⟨j, by omega, by rw [← low j c1, j2]⟩)
        · by_cases c2 : j = i
          · rw [c2, mid] at j2
            exact Or.inr j2.symm
          · obtain ⟨j, rfl⟩ : ∃ q, j = q + 1 := ⟨j - 1, by omega⟩
            rw [up j (by omega) (by omega)] at j2
            exact Or.inl ((h4 x).mpr ⟨j, by omega, j2⟩)
def fcN : Nat → Int
  | 0 => 1
  | n + 1 => fcN n * (n + 2)
theorem prm_split {p x y : Int} (hp : prm p) (h : p ∣ x * y) (hx : ¬ p ∣ x) : p ∣ y := by
  have p2 := hp.1
  have c : Nat.Coprime p.natAbs x.natAbs := by
    obtain ⟨g, hg⟩ : ∃ g : Nat, g = Nat.gcd p.natAbs x.natAbs := ⟨_, rfl⟩
    have h1 : (g : Int) ∣ p := by rw [← Int.dvd_natAbs, hg]; exact Int.ofNat_dvd.mpr (Nat.gcd_dvd_left _ _)
    have h2 : (g : Int) ∣ x := by rw [← Int.dvd_natAbs, hg]; exact Int.ofNat_dvd.mpr (Nat.gcd_dvd_right _ _)
    have g0 : 0 < g := by rw [hg]; exact Nat.gcd_pos_of_pos_left _ (by omega)
    show Nat.gcd p.natAbs x.natAbs = 1
    rw [← hg]
    by_cases h3 : g = 1
    · exact h3
    · have e1 := prm_dvd hp h1 (by omega)
      rw [e1] at h2
      exact absurd h2 hx
  have h' : p.natAbs ∣ x.natAbs * y.natAbs := by
    rw [← Int.natAbs_mul]
    exact Int.natAbs_dvd_natAbs.mpr h
  exact Int.natAbs_dvd_natAbs.mp (c.dvd_of_dvd_mul_left h')
theorem strip {v p j : Int} {x : Int → mSt → Option (Int × mSt)} {σ : mSt} (hj : 2 ≤ j ∧ j ≤ 1000) : ∀ (f : Nat) (t n : Int) (N : Nat), 1 ≤ n → n ≤ 1000 → n < 2 ^ f → f < N → 0 ≤ t → t + f ≤ 30 → ∃ n', mX7_noteDivisors_L33 101 v j x N n t σ = x n' σ ∧ 1 ≤ n' ∧ n' ∣ n ∧ ¬ j ∣ n' ∧ (j ∣ n → n' * j ≤ n) ∧ ∀ y, prm y → ¬ y ∣ j → (y ∣ n ↔ y ∣ n') := by
  intro f
  induction f with
  | zero => intro t n N h1 h2 h3; rw [show (2 : Int) ^ 0 = 1 from rfl] at h3; omega
  | succ f ih =>
    intro t n N h1 h2 h3 h4 h5 h6
    obtain ⟨N, rfl⟩ : ∃ q, N = q + 1 := ⟨N - 1, by omega⟩
    have m1 : 0 ≤ n % j := Int.emod_nonneg _ (by omega)
    have m2 : n % j < j := Int.emod_lt_of_pos _ (by omega)
    rw [mX7_noteDivisors_L33.eq_2, if_neg (by rw [wI_id (x := t) (by omega)]; omega), wI_id (x := j) (by omega), mG_pos (by omega), wI_id (x := n) (by omega), Int.tmod_eq_emod_of_nonneg (by omega), wI_id (x := n % j) (by omega)]
    by_cases hd : j ∣ n
    · obtain ⟨y, rfl⟩ := hd
      have y1 : 1 ≤ y := by
        rcases Int.lt_or_le 0 y with z | z
        · omega
        · have := Int.mul_le_mul_of_nonneg_left z (show 0 ≤ j by omega); omega
      have y2 : 2 * y ≤ j * y := Int.mul_le_mul_of_nonneg_right hj.1 (by omega)
      obtain ⟨n', q1, q2, q3, q4, q5, q6⟩ := ih (t + 1) y N y1 (by omega) (by rw [Int.pow_succ] at h3; omega) (by omega) (by omega) (by omega)
      refine ⟨n', ?_, q2, Int.dvd_trans q3 ⟨j, Int.mul_comm _ _⟩, q4, fun _ => ?_, fun z z1 z2 => ?_⟩
      · rw [if_pos (Int.emod_eq_zero_of_dvd ⟨y, rfl⟩), bnd_eq, bnd_eq, Int.mul_tdiv_cancel_left _ (by omega)]
        exact q1
      · have : n' ≤ y := Int.le_of_dvd (by omega) q3
        have := Int.mul_le_mul_of_nonneg_right this (show 0 ≤ j by omega)
        rw [Int.mul_comm j y]
        exact this
      · rw [← q6 z z1 z2]
        constructor
        · intro hz
          exact prm_split z1 hz z2
        · intro hz
          exact Int.dvd_trans hz ⟨j, Int.mul_comm _ _⟩
    · exact ⟨n, by rw [if_neg (fun z => hd (Int.dvd_of_emod_eq_zero z))], h1, Int.dvd_refl n, hd, fun z => absurd z hd, fun _ _ _ => Iff.rfl⟩

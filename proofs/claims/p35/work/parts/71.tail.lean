/-! the tail's own loops -/
theorem m6_t : ∀ x : Fin 401, wI ((wI (((wI ((x.val : Int) - 200)).tmod (wI 6)) + 6)).tmod (wI 6)) = ((x.val : Int) - 200) % 6 := by decide +kernel
theorem m6_e {v : Int} (h : -200 ≤ v ∧ v ≤ 200) : wI ((wI (((wI v).tmod (wI 6)) + 6)).tmod (wI 6)) = v % 6 := by
  have := m6_t ⟨(v + 200).toNat, by omega⟩
  rw [show (((⟨(v + 200).toNat, by omega⟩ : Fin 401).val : Int) - 200) = v by show (((v + 200).toNat : Int) - 200) = v; omega] at this
  exact this
noncomputable def dotF (σ : mSt) (p : Int) : Nat → Int
  | 0 => 0
  | n + 1 => dotF σ p n + σ 256 n * loc σ n p
def TI (σ : mSt) : Prop := (∀ o, o < 5 → -4 ≤ σ 256 o ∧ σ 256 o ≤ 4) ∧ ∀ p, place p → loc σ 5 p = dotF σ p 5 % 6
theorem mul45 {x y : Int} (h : -4 ≤ x ∧ x ≤ 4) (h2 : 0 ≤ y ∧ y ≤ 5) : -20 ≤ x * y ∧ x * y ≤ 20 := by
  rcases (show x = -4 ∨ x = -3 ∨ x = -2 ∨ x = -1 ∨ x = 0 ∨ x = 1 ∨ x = 2 ∨ x = 3 ∨ x = 4 by omega) with rfl | rfl | rfl | rfl | rfl | rfl | rfl | rfl | rfl <;> omega
theorem dotF_rng {σ : mSt} (hT : TI σ) (p : Int) : ∀ n : Nat, n ≤ 5 → -(20 * (n : Int)) ≤ dotF σ p n ∧ dotF σ p n ≤ 20 * (n : Int)
  | 0, _ => ⟨Int.le_refl _, Int.le_refl _⟩
  | n + 1, h => by
    have h1 := dotF_rng hT p n (by omega)
    have h2 := mul45 (hT.1 n (by omega)) (loc_rng σ n p)
    show _ ≤ dotF σ p n + _ ∧ dotF σ p n + _ ≤ _
    omega
theorem l569s {σ : mSt} {B s k f : Nat} {p v : Int} {x : Int → mSt → Option (Int × mSt)} (h : CI σ B s) (hp : place p) (hk : k < 5) : mL_law_L569 0 254 255 256 p x (f + 1) v (k : Int) σ = mL_law_L569 0 254 255 256 p x f (v + σ 256 k * loc σ k p) ((k + 1 : Nat) : Int) σ := by
  rw [mL_law_L569.eq_2, if_neg (by rw [wI_id (by omega)]; omega), mG_pos (ixOK_of (n := 5) (by decide +kernel) (by omega) (by omega) (by decide)), local_y h (by omega) hp, mCall_some, bnd_eq, bnd_eq, wI_nat (by omega)]
  rfl
theorem l569 {σ : mSt} {B s f : Nat} {p : Int} {x : Int → mSt → Option (Int × mSt)} (h : CI σ B s) (hp : place p) : mL_law_L569 0 254 255 256 p x (f + 6) 0 0 σ = x (dotF σ p 5) σ := by
  rw [show (0 : Int) = ((0 : Nat) : Int) from rfl, l569s h hp (by decide), l569s h hp (by decide), l569s h hp (by decide), l569s h hp (by decide), l569s h hp (by decide), mL_law_L569.eq_2, if_pos (by decide)]
  rfl
theorem l542 {σ : mSt} {B s : Nat} {x : mSt → Option (Int × mSt)} (h : CI σ B s) (hT : TI σ) : ∀ (q N : Nat) (p : Int), p + q = 1000 → 0 ≤ p → q < N → mL_law_L542 0 254 255 256 x N p σ = x σ := by
  intro q
  induction q with
  | zero =>
    intro N p hpq h0 hN
    obtain ⟨f, rfl⟩ : ∃ f, N = f + 1 := ⟨N - 1, by omega⟩
    rw [mL_law_L542.eq_2, if_pos (by rw [wI_id (by omega)]; omega)]
  | succ q ih =>
    intro N p hpq h0 hN
    obtain ⟨f, rfl⟩ : ∃ f, N = f + 1 := ⟨N - 1, by omega⟩
    have ih1 := ih f (p + 1) (by omega) (by omega) (by omega)
    rw [mL_law_L542.eq_2, if_neg (by rw [wI_id (by omega)]; omega)]
    by_cases hp : place p
    · have hr := loc_rng σ 0 p
      have hl0 := local_y (k := 0) h (by decide) hp
      have hl5 := local_y (k := 5) h (by decide) hp
      rw [show ((0 : Nat) : Int) = 0 from rfl] at hl0
      rw [show ((5 : Nat) : Int) = 5 from rfl] at hl5
      have hd := dotF_rng hT p 5 (by decide)
      have hr5 := loc_rng σ 5 p
      rw [hl0, mCall_some, wI_id (by omega), if_pos hr.1, show mF = (mF - 6) + 6 by unfold mF; omega, l569 h hp]
      unfold mL_law_B600
      rw [hl5, mCall_some, mG_pos (by decide), wI_id (x := loc σ 5 p) (by omega), m6_e (by omega), if_pos (hT.2 p hp), bnd_eq]
      exact ih1
    · have hn := local_n (k := 0) h (by decide) (a := p) (by omega) hp
      rw [show ((0 : Nat) : Int) = 0 from rfl] at hn
      rw [hn, mCall_some, if_neg (by decide), bnd_eq]
      exact ih1
/-! classes -/
theorem alk_sym {σ : mSt} {k o : Nat} : alk σ k o ↔ alk σ o k := ⟨fun h p hp => (h p hp).symm, fun h p hp => (h p hp).symm⟩
theorem b2_cg {p q : Prop} (h : p ↔ q) : b2 p = b2 q := by rw [propext h]
theorem l648 {σ : mSt} {B s k : Nat} {v8 : Int} {x : Int → mSt → Option (Int × mSt)} (h : CI σ B s) (hk : k < 6) : ∀ (m j N : Nat), j + m = k → m < N → mL_law_L648 0 254 255 v8 (k : Int) x N (b2 (∀ l, l < j → ¬ alk σ k l)) (j : Int) σ = x (b2 (∀ l, l < k → ¬ alk σ k l)) σ := by
  intro m
  induction m with
  | zero =>
    intro j N hj hN
    obtain ⟨f, rfl⟩ : ∃ f, N = f + 1 := ⟨N - 1, by omega⟩
    have e : j = k := by omega
    subst e
    rw [mL_law_L648.eq_2, if_pos (Int.le_refl _)]
  | succ m ih =>
    intro j N hj hN
    obtain ⟨f, rfl⟩ : ∃ f, N = f + 1 := ⟨N - 1, by omega⟩
    have ih1 := ih (j + 1) f (by omega) (by omega)
    have ej : (j : Int) + 1 = ((j + 1 : Nat) : Int) := by omega
    rw [mL_law_L648.eq_2, if_neg (by rw [wI_id (by omega), wI_id (by omega)]; omega), alike_y h hk (by omega), mCall_some, alike_y h (by omega) hk, mCall_some, b2_cg (alk_sym (σ := σ) (k := j) (o := k)), if_pos rfl, wI_b2]
    by_cases c : ∀ l, l < j → ¬ alk σ k l
    · rw [b2_t c, if_neg (by decide), alike_y h hk (by omega), mCall_some, wI_b2]
      by_cases d : alk σ k j
      · rw [b2_t d, if_neg (by decide)]
        unfold mL_law_B696
        rw [bnd_eq, ej]
        rw [b2_f (p := ∀ l, l < j + 1 → ¬ alk σ k l) (fun z => z j (by omega) d)] at ih1
        exact ih1
      · rw [b2_f d, if_pos rfl, bnd_eq, ej]
        rw [b2_t (p := ∀ l, l < j + 1 → ¬ alk σ k l) (fun l hl => by
          by_cases z : l = j
          · rw [z]; exact d
          · exact c l (by omega))] at ih1
        exact ih1
    · rw [b2_f c, if_pos rfl]
      unfold mL_law_B696
      rw [bnd_eq, ej]
      rw [b2_f (p := ∀ l, l < j + 1 → ¬ alk σ k l) (fun z => c (fun l hl => z l (by omega)))] at ih1
      exact ih1
theorem clsF_rng (σ : mSt) : ∀ n : Nat, 0 ≤ clsF σ n ∧ clsF σ n ≤ (n : Int)
  | 0 => ⟨Int.le_refl _, Int.le_refl _⟩
  | n + 1 => by
    have := clsF_rng σ n
    have hb := b2_01 (∀ j, j < n → ¬ alk σ n j)
    show 0 ≤ clsF σ n + b2 (∀ j, j < n → ¬ alk σ n j) ∧ clsF σ n + b2 (∀ j, j < n → ¬ alk σ n j) ≤ _
    omega
theorem l635 {σ : mSt} {B s : Nat} {x : Int → mSt → Option (Int × mSt)} (h : CI σ B s) : ∀ (m k N : Nat), k + m = 6 → m < N → mL_law_L635 0 254 255 x N (clsF σ k) (k : Int) σ = x (clsF σ 6) σ := by
  intro m
  induction m with
  | zero =>
    intro k N hk hN
    obtain ⟨f, rfl⟩ : ∃ f, N = f + 1 := ⟨N - 1, by omega⟩
    have e : k = 6 := by omega
    subst e
    rw [mL_law_L635.eq_2, if_pos (by decide)]
  | succ m ih =>
    intro k N hk hN
    obtain ⟨f, rfl⟩ : ∃ f, N = f + 1 := ⟨N - 1, by omega⟩
    have ih1 := ih (k + 1) f (by omega) (by omega)
    have ek : (k : Int) + 1 = ((k + 1 : Nat) : Int) := by omega
    have hl := l648 (v8 := clsF σ k) (x := fun z10 zσ => mL_law_B705 0 254 255 (mL_law_L635 0 254 255 x f) x (clsF σ k) (k : Int) z10 zσ) h (k := k) (by omega) k 0 mF (by omega) (by unfold mF; omega)
    rw [b2_t (p := ∀ l, l < 0 → ¬ alk σ k l) (fun l hl => by omega)] at hl
    rw [mL_law_L635.eq_2, if_neg (by rw [wI_id (by omega)]; omega)]
    rw [show mL_law_L648 0 254 255 (clsF σ k) (k : Int) (fun z10 zσ => mL_law_B705 0 254 255 (mL_law_L635 0 254 255 x f) x (clsF σ k) (k : Int) z10 zσ) mF 1 0 σ = _ from hl]
    have e : clsF σ (k + 1) = clsF σ k + b2 (∀ j, j < k → ¬ alk σ k j) := rfl
    show mL_law_B705 0 254 255 (mL_law_L635 0 254 255 x f) x (clsF σ k) (k : Int) (b2 (∀ l, l < k → ¬ alk σ k l)) σ = _
    unfold mL_law_B705
    rw [e] at ih1
    rw [wI_b2]
    by_cases c : ∀ l, l < k → ¬ alk σ k l
    · rw [b2_t c] at ih1 ⊢
      rw [if_neg (by decide), bnd_eq, bnd_eq, ek]
      exact ih1
    · rw [b2_f c] at ih1 ⊢
      rw [if_pos rfl, bnd_eq, bnd_eq, ek]
      exact ih1
/-! the first solution -/
theorem isq_ge {n : Int} : (0 ≤ isq n) ↔ ∃ r : Int, 0 ≤ r ∧ r * r = n := by
  by_cases h : ∃ r : Int, 0 ≤ r ∧ r * r = n
  · obtain ⟨r, h1, h2⟩ := h
    rw [isq_t h1 h2]
    exact ⟨fun _ => ⟨r, h1, h2⟩, fun _ => h1⟩
  · rw [isq_f h]
    exact ⟨fun z => by omega, fun z => absurd z h⟩
theorem isq_sq {n : Int} (h : 0 ≤ isq n) : isq n * isq n = n := by
  obtain ⟨r, h1, h2⟩ := isq_ge.mp h
  rw [isq_t h1 h2]; exact h2
def noS (a b y z : Int) : Prop := isq (a * y * y + b * z * z) < 0 ∨ (y = 0 ∧ z = 0)
theorem soY_s {a b z : Int} {t : Int × Int × Int} : ∀ (m : Nat) (y : Int), soY a b z m y = some t → t.2.2 = z ∧ y ≤ t.2.1 ∧ t.2.1 < y + m ∧ t.1 = isq (a * t.2.1 * t.2.1 + b * z * z) ∧ ¬ noS a b t.2.1 z ∧ ∀ w, y ≤ w → w < t.2.1 → noS a b w z
  | 0, y, h => by cases h
  | m + 1, y, h => by
    have h' : (if isq (a * y * y + b * z * z) < 0 ∨ (y = 0 ∧ z = 0) then soY a b z m (y + 1) else some (isq (a * y * y + b * z * z), y, z)) = some t := h
    by_cases c : isq (a * y * y + b * z * z) < 0 ∨ (y = 0 ∧ z = 0)
    · rw [if_pos c] at h'
      obtain ⟨i1, i2, i3, i4, i5, i6⟩ := soY_s m (y + 1) h'
      refine ⟨i1, by omega, by omega, i4, i5, fun w hw1 hw2 => ?_⟩
      by_cases e : w = y
      · rw [e]; exact c
      · exact i6 w (by omega) hw2
    · rw [if_neg c] at h'
      cases h'
      exact ⟨rfl, Int.le_refl _, by show y < y + _; omega, rfl, c, fun w h1 h2 => by
        have h2 : w < y := h2
        omega⟩
theorem soY_n {a b z : Int} : ∀ (m : Nat) (y : Int), soY a b z m y = none → ∀ w, y ≤ w → w < y + m → noS a b w z
  | 0, y, _ => fun w h1 h2 => by omega
  | m + 1, y, h => by
    have h' : (if isq (a * y * y + b * z * z) < 0 ∨ (y = 0 ∧ z = 0) then soY a b z m (y + 1) else some (isq (a * y * y + b * z * z), y, z)) = none := h
    by_cases c : isq (a * y * y + b * z * z) < 0 ∨ (y = 0 ∧ z = 0)
    · rw [if_pos c] at h'
      intro w h1 h2
      by_cases e : w = y
      · rw [e]; exact c
      · exact soY_n m (y + 1) h' w (by omega) (by omega)
    · rw [if_neg c] at h'
      cases h'
theorem soZ_s {a b : Int} {t : Int × Int × Int} : ∀ (m : Nat) (z : Int), soZ a b m z = some t → z ≤ t.2.2 ∧ t.2.2 < z + m ∧ soY a b t.2.2 8 0 = some t ∧ ∀ w, z ≤ w → w < t.2.2 → soY a b w 8 0 = none
  | 0, z, h => by cases h
  | m + 1, z, h => by
    have h' : (soY a b z 8 0).elim (soZ a b m (z + 1)) some = some t := h
    cases hy : soY a b z 8 0 with
    | none =>
      rw [hy] at h'
      obtain ⟨i1, i2, i3, i4⟩ := soZ_s m (z + 1) h'
      refine ⟨by omega, by omega, i3, fun w hw1 hw2 => ?_⟩
      by_cases e : w = z
      · rw [e]; exact hy
      · exact i4 w (by omega) hw2
    | some u =>
      rw [hy] at h'
      have e : u = t := Option.some.inj h'
      subst e
      have := (soY_s 8 0 hy).1
      exact ⟨by omega, by omega, by rw [this]; exact hy, fun w h1 h2 => by omega⟩
theorem soZ_n {a b : Int} : ∀ (m : Nat) (z : Int), soZ a b m z = none → ∀ w, z ≤ w → w < z + m → soY a b w 8 0 = none
  | 0, z, _ => fun w h1 h2 => by omega
  | m + 1, z, h => by
    have h' : (soY a b z 8 0).elim (soZ a b m (z + 1)) some = none := h
    cases hy : soY a b z 8 0 with
    | none =>
      rw [hy] at h'
      intro w h1 h2
      by_cases e : w = z
      · rw [e]; exact hy
      · exact soZ_n m (z + 1) h' w (by omega) (by omega)
    | some u =>
      rw [hy] at h'
      cases h'
theorem soZ_ex {a b : Int} (h : ∃ y z r : Int, 0 ≤ y ∧ y < 8 ∧ 0 ≤ z ∧ z < 8 ∧ ¬ (y = 0 ∧ z = 0) ∧ 0 ≤ r ∧ r * r = a * y * y + b * z * z) : soZ a b 8 0 ≠ none := by
  obtain ⟨y, z, r, h1, h2, h3, h4, h5, h6, h7⟩ := h
  intro e
  have := soY_n 8 0 (soZ_n 8 0 e z (by omega) (by omega)) y (by omega) (by omega)
  rcases this with q | q
  · have := isq_ge.mpr ⟨r, h6, h7⟩; omega
  · exact h5 q
/-! isSolved -/
theorem l177 {σ : mSt} {v1 v2 v3 v5 v6 v7 v8 v : Int} {x : Int → mSt → Option (Int × mSt)} (hv : v ≤ 10000) (hv2 : -10000 ≤ v) : ∀ (m N : Nat) (r : Int), 0 ≤ r → r + m = 101 → m < N → ∃ r', 0 ≤ r' ∧ r' ≤ 101 ∧ mL_isSolved_L177 0 v1 v2 v3 v5 v6 v7 v8 v x N r σ = x r' σ
  | 0, N, r, h0, hr, hN => by
    obtain ⟨f, rfl⟩ : ∃ f, N = f + 1 := ⟨N - 1, by omega⟩
    have e : r = 101 := by omega
    subst e
    refine ⟨101, by omega, by omega, ?_⟩
    rw [mL_isSolved_L177.eq_2, if_pos (by rw [wI_id (by omega)]; exact Int.le_trans hv (by decide))]
  | m + 1, N, r, h0, hr, hN => by
    obtain ⟨f, rfl⟩ : ∃ f, N = f + 1 := ⟨N - 1, by omega⟩
    rw [mL_isSolved_L177.eq_2]
    by_cases c : wI v ≤ wI (r * r)
    · rw [if_pos c]; exact ⟨r, h0, by omega, rfl⟩
    · rw [if_neg c, bnd_eq]
      exact l177 hv hv2 m f (r + 1) (by omega) (by omega) (by omega)
theorem l138 {σ : mSt} {v1 a b y z i : Int} {x219 : mSt → Option (Int × mSt)} (ha : -60 ≤ a ∧ a ≤ 60) (hb : -60 ≤ b ∧ b ≤ 60) (hi : 0 ≤ i ∧ i < 8) (hz : 0 ≤ z ∧ z < 8) (hy : 0 ≤ y ∧ y < 8) (hno : ∀ j, 0 ≤ j → j < (if i = z then y else 8) → noS a b j i) : ∀ (m N : Nat) (j : Int), 0 ≤ j → j + m = (if i = z then y else 8) → m < N → mL_isSolved_L138 0 v1 a b y z i x219 N j σ = x219 σ
  | 0, N, j, h0, hj, hN => by
    obtain ⟨f, rfl⟩ : ∃ f, N = f + 1 := ⟨N - 1, by omega⟩
    rw [mL_isSolved_L138.eq_2, wI_id (by omega), wI_id (by omega)]
    by_cases c : i = z
    · rw [if_pos c] at hj ⊢
      unfold mL_isSolved_B154
      rw [wI_id (by omega), wI_id (by omega), if_pos (by omega)]
    · rw [if_neg c] at hj ⊢
      unfold mL_isSolved_B154
      rw [wI_id (by omega), wI_id (by omega), if_pos (by omega)]
  | m + 1, N, j, h0, hj, hN => by
    obtain ⟨f, rfl⟩ : ∃ f, N = f + 1 := ⟨N - 1, by omega⟩
    have hj8 : j < 8 := by split at hj <;> omega
    have ih := l138 (v1 := v1) (σ := σ) (x219 := x219) ha hb hi hz hy hno m f (j + 1) (by omega) (by omega) (by omega)
    have hn := hno j h0 (by omega)
    have hrng := sv_rng ha hb (y := j) (z := i) (by omega) (by omega)
    have key : ∀ t1 : Int, j < t1 → t1 ≤ 8 → mL_isSolved_B154 0 v1 a b y z i (mL_isSolved_L138 0 v1 a b y z i x219 f) x219 j j t1 σ = x219 σ := by
      intro t1 ht ht8
      unfold mL_isSolved_B154
      rw [wI_id (by omega), wI_id (by omega), if_neg (by omega), bnd_eq]
      obtain ⟨r, r0, r1, er⟩ := l177 (σ := σ) (v1 := v1) (v2 := a) (v3 := b) (v5 := y) (v6 := z) (v7 := i) (v8 := j) (v := a * j * j + b * i * i) (x := fun z10 zσ => mL_isSolved_B193 0 v1 a b y z i (mL_isSolved_L138 0 v1 a b y z i x219 f) x219 j (a * j * j + b * i * i) z10 zσ) hrng.2 hrng.1 101 mF 0 (by omega) (by omega) (by unfold mF; omega)
      rw [er]
      unfold mL_isSolved_B193
      rw [wI_id (x := i + j) (by omega)]
      by_cases c : i + j ≤ 0
      · rw [if_pos c, bnd_eq]; exact ih
      · rw [if_neg c]
        have hrr : r * r ≤ 101 * 101 := Int.le_trans (Int.mul_le_mul_of_nonneg_left r1 r0) (Int.mul_le_mul_of_nonneg_right r1 (by decide))
        have hr0 : 0 ≤ r * r := Int.mul_nonneg r0 r0
        rw [wI_id (x := r * r) (by omega), wI_id (x := a * j * j + b * i * i) (by omega), if_neg, bnd_eq]
        · exact ih
        · intro e
          rcases hn with q | q
          · have := isq_ge.mpr ⟨r, r0, e⟩; omega
          · omega
    rw [mL_isSolved_L138.eq_2, wI_id (x := i) (by omega), wI_id (x := z) (by omega)]
    by_cases c : i = z
    · rw [if_pos c] at hj ⊢
      exact key y (by omega) (by omega)
    · rw [if_neg c] at hj ⊢
      exact key 8 (by omega) (by omega)
theorem l128 {σ : mSt} {v1 a b y z : Int} {x225 : mSt → Option (Int × mSt)} (ha : -60 ≤ a ∧ a ≤ 60) (hb : -60 ≤ b ∧ b ≤ 60) (hz : 0 ≤ z ∧ z < 8) (hy : 0 ≤ y ∧ y < 8) (hno : ∀ i, 0 ≤ i → i ≤ z → ∀ j, 0 ≤ j → j < (if i = z then y else 8) → noS a b j i) : ∀ (m N : Nat) (i : Int), 0 ≤ i → i + m = z + 1 → m < N → mL_isSolved_L128 0 v1 a b y z x225 N i σ = x225 σ
  | 0, N, i, h0, hi, hN => by
    obtain ⟨f, rfl⟩ : ∃ f, N = f + 1 := ⟨N - 1, by omega⟩
    rw [mL_isSolved_L128.eq_2, wI_id (by omega), wI_id (by omega), if_pos (by omega)]
  | m + 1, N, i, h0, hi, hN => by
    obtain ⟨f, rfl⟩ : ∃ f, N = f + 1 := ⟨N - 1, by omega⟩
    have ih := l128 (v1 := v1) (σ := σ) (x225 := x225) ha hb hz hy hno m f (i + 1) (by omega) (by omega) (by omega)
    have hd : (if i = z then y else 8) = (((if i = z then y else 8).toNat : Nat) : Int) := by split <;> omega
    rw [mL_isSolved_L128.eq_2, wI_id (by omega), wI_id (by omega), if_neg (by omega), l138 ha hb (by omega) hz hy (hno i h0 (by omega)) (if i = z then y else 8).toNat mF 0 (by omega) (by omega) (by unfold mF; split <;> omega)]
    unfold mL_isSolved_B219
    rw [bnd_eq]
    exact ih

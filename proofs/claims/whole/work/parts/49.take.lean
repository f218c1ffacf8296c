def gk (f : Nat → Int) (d : Int) : Int := Int.gcd (Int.gcd (Int.gcd (Int.gcd d (f 0)) (f 1)) (f 2)) (f 3)
def fitK (f : Nat → Int) (d : Int) : Prop := d / gk f d ≤ 1000000 ∧ ∀ i, i < 4 → -1000000 ≤ f i / gk f d ∧ f i / gk f d ≤ 1000000
def i62 (v : Int) : Prop := -4611686018427387904 < v ∧ v < 4611686018427387904
theorem gk_dvd {f : Nat → Int} {d : Int} : gk f d ∣ d ∧ ∀ i, i < 4 → gk f d ∣ f i := by
  unfold gk
  have a3 := Int.gcd_dvd_left (a := (Int.gcd (Int.gcd (Int.gcd d (f 0)) (f 1)) (f 2) : Int)) (b := f 3)
  have b3 := Int.gcd_dvd_right (a := (Int.gcd (Int.gcd (Int.gcd d (f 0)) (f 1)) (f 2) : Int)) (b := f 3)
  have a2 := Int.gcd_dvd_left (a := (Int.gcd (Int.gcd d (f 0)) (f 1) : Int)) (b := f 2)
  have b2 := Int.gcd_dvd_right (a := (Int.gcd (Int.gcd d (f 0)) (f 1) : Int)) (b := f 2)
  have a1 := Int.gcd_dvd_left (a := (Int.gcd d (f 0) : Int)) (b := f 1)
  have b1 := Int.gcd_dvd_right (a := (Int.gcd d (f 0) : Int)) (b := f 1)
  have a0 := Int.gcd_dvd_left (a := d) (b := f 0)
  have b0 := Int.gcd_dvd_right (a := d) (b := f 0)
  have a32 := Int.dvd_trans a3 a2
  have a31 := Int.dvd_trans a32 a1
  refine ⟨Int.dvd_trans a31 a0, fun i hi => ?_⟩
  rcases (show i = 0 ∨ i = 1 ∨ i = 2 ∨ i = 3 by omega) with rfl | rfl | rfl | rfl
  · exact Int.dvd_trans a31 b0
  · exact Int.dvd_trans a32 b1
  · exact Int.dvd_trans a3 b2
  · exact b3
theorem gk_max {f : Nat → Int} {d e : Int} (h : e ∣ d) (h0 : ∀ i, i < 4 → e ∣ f i) : e ∣ gk f d := by
  unfold gk
  exact Int.dvd_coe_gcd (Int.dvd_coe_gcd (Int.dvd_coe_gcd (Int.dvd_coe_gcd h (h0 0 (by omega))) (h0 1 (by omega))) (h0 2 (by omega))) (h0 3 (by omega))
theorem gk_pos {f : Nat → Int} {d : Int} (hd : 0 < d) : 0 < gk f d ∧ gk f d ≤ d := by
  have h1 := (gk_dvd (f := f) (d := d)).1
  have h2 : 0 ≤ gk f d := by unfold gk; omega
  have h3 := Int.le_of_dvd hd h1
  refine ⟨?_, h3⟩
  rcases Int.lt_or_eq_of_le h2 with h | h
  · exact h
  · rw [← h] at h1
    have := Int.zero_dvd.mp h1
    omega
theorem tkL6 {σ : mSt} {e : Nat} {al d v : Int} {x : Int → mSt → Option (Int × mSt)} {n i : Nat} {Q : Int → mSt → Prop} (hi : i < 4) (hv : i62 v) (hf : i62 (σ 164 i)) (k : mR (mX1_take_L6 e al 164 d x n (Int.gcd v (σ 164 i)) ((i + 1 : Nat) : Int) σ) Q) : mR (mX1_take_L6 e al 164 d x (n + 1) v (i : Int) σ) Q := by
  rw [mX1_take_L6.eq_2]
  refine mR_neg (by rw [wI_id (by omega)]; omega) (mR_G (ixOK_of (n := 4) (by decide) (by omega) (by omega) (by omega)) ?_)
  rw [wI_nat (by omega)]
  unfold i62 at hv hf
  exact mR_callE (gcd_e _ _ σ (by omega) (by omega)) (mR_bnd k)
theorem tkL58 {σ : mSt} {e : Nat} {al d g : Int} {x : Int → mSt → Option (Int × mSt)} (hg : 0 < g) (hg2 : g < 4611686018427387904) (hf : ∀ i, i < 4 → i62 (σ 164 i)) : ∀ (m i n : Nat) (p : Prop), i + m = 4 → m < n → mX1_take_L58 e al 164 d g x n (b2 p) (i : Int) σ = x (b2 (p ∧ ∀ j, i ≤ j → j < 4 → -1000000 ≤ σ 164 j / g ∧ σ 164 j / g ≤ 1000000)) σ := by
  intro m
  induction m with
  | zero =>
    intro i n p h1 h2
    obtain ⟨n, rfl⟩ : ∃ q, n = q + 1 := ⟨n - 1, by omega⟩
    rw [mX1_take_L58.eq_2, if_pos (by rw [wI_id (by omega)]; omega)]
    rw [b2_iff (q := p ∧ ∀ j, i ≤ j → j < 4 → -1000000 ≤ σ 164 j / g ∧ σ 164 j / g ≤ 1000000) ⟨fun z => ⟨z, fun j h3 h4 => by omega⟩, fun z => z.1⟩]
  | succ m ih =>
    intro i n p h1 h2
    obtain ⟨n, rfl⟩ : ∃ q, n = q + 1 := ⟨n - 1, by omega⟩
    have hz := hf i (by omega)
    unfold i62 at hz
    have hq : -4611686018427387904 ≤ σ 164 i / g ∧ σ 164 i / g ≤ 4611686018427387904 := by
      refine ⟨Int.le_ediv_of_mul_le hg ?_, Int.ediv_le_of_le_mul hg ?_⟩
      · have := Int.mul_le_mul_of_nonneg_left (show (1 : Int) ≤ g by omega) (show (0 : Int) ≤ 4611686018427387904 by omega)
        rw [Int.neg_mul]
        omega
      · have := Int.mul_le_mul_of_nonneg_left (show (1 : Int) ≤ g by omega) (show (0 : Int) ≤ 4611686018427387904 by omega)
        omega
    rw [mX1_take_L58.eq_2, if_neg (by rw [wI_id (by omega)]; omega)]
    by_cases hp : p
    · rw [b2_t hp, if_neg (by decide), mG_pos (ixOK_of (n := 4) (by decide) (by omega) (by omega) (by omega)), wI_nat (by omega), quot_e _ _ σ hg (by omega) (by omega), mCall_some, abs_e _ σ (by omega), mCall_some]
      by_cases hc : 1000000 < ((σ 164 i / g).natAbs : Int)
      · rw [if_pos (by rw [wL_id (by omega)]; exact hc), bnd_eq, show (i : Int) + 1 = ((i + 1 : Nat) : Int) by omega]
        have := ih (i + 1) n False (by omega) (by omega)
        rw [b2_f (p := False) (fun z => z)] at this
        rw [this]
        rw [b2_f (fun z => z.1), b2_f (fun z => by have := z.2 i (by omega) (by omega); omega)]
      · rw [if_neg (by rw [wL_id (by omega)]; exact hc), bnd_eq, show (i : Int) + 1 = ((i + 1 : Nat) : Int) by omega]
        have := ih (i + 1) n True (by omega) (by omega)
        rw [b2_t (p := True) trivial] at this
        rw [this]
        refine congrArg (fun q => x q σ) (b2_iff ⟨fun z => ⟨hp, fun j h3 h4 => ?_⟩, fun z => ⟨trivial, fun j h3 h4 => z.2 j (by omega) h4⟩⟩)
        by_cases hj : j = i
        · subst hj; omega
        · exact z.2 j (by omega) h4
    · rw [b2_f hp, if_pos (by decide)]
      rw [b2_f (fun z => hp z.1)]
/-- numbers up to i are taken -/
def stN (σ : mSt) (num : Nat) (g : Int) (i : Nat) : mSt := fun a b => if a = num ∧ b < i then σ 164 b / g else σ a b
theorem tkL111 {σ : mSt} {e num : Nat} {al d g : Int} {x : mSt → Option (Int × mSt)} (hg : 0 < g) (hg2 : g < 4611686018427387904) (hf : ∀ i, i < 4 → i62 (σ 164 i)) (he : σ e 0 = (num : Int)) (hn : shp num = (21, 4)) (hn0 : num ≠ 0) (hne : num ≠ 164 ∧ num ≠ e) : ∀ (m i n : Nat), i + m = 4 → m < n → mX1_take_L111 e al 164 d g x n (i : Int) (stN σ num g i) = x (stN σ num g 4) := by
  intro m
  induction m with
  | zero =>
    intro i n h1 h2
    obtain ⟨n, rfl⟩ : ∃ q, n = q + 1 := ⟨n - 1, by omega⟩
    rw [mX1_take_L111.eq_2, if_pos (by rw [wI_id (by omega)]; omega), show i = 4 by omega]
  | succ m ih =>
    intro i n h1 h2
    obtain ⟨n, rfl⟩ : ∃ q, n = q + 1 := ⟨n - 1, by omega⟩
    have hz := hf i (by omega)
    unfold i62 at hz
    have h164 : stN σ num g i 164 i = σ 164 i := by unfold stN; rw [if_neg (by omega)]
    have he2 : stN σ num g i e 0 = (num : Int) := by unfold stN; rw [if_neg (by omega)]; exact he
    rw [mX1_take_L111.eq_2, if_neg (by rw [wI_id (by omega)]; omega), he2]
    unfold mRef
    rw [if_neg (by omega), Int.toNat_natCast]
    show mG (ixOK 164 21 (i : Int)) _ = _
    rw [mG_pos (ixOK_of (n := 4) (by decide) (by omega) (by omega) (by omega)), wI_nat (by omega), h164, quot_e _ _ _ hg (by omega) (by omega), mCall_some, mG_pos (ixOK_of hn (by omega) (by omega) (by omega)), bnd_eq, bnd_eq]
    rw [show upS (stN σ num g i) num i (σ 164 i / g) = stN σ num g (i + 1) by
      funext a b
      unfold upS stN
      by_cases h5 : a = num ∧ b = i
      · rw [if_pos h5, if_pos (by omega), h5.2]
      · rw [if_neg h5]
        by_cases h6 : a = num ∧ b < i
        · rw [if_pos h6, if_pos (by omega)]
        · rw [if_neg h6, if_neg (by omega)], show (i : Int) + 1 = ((i + 1 : Nat) : Int) by omega]
    exact ih (i + 1) n (by omega) (by omega)
/-- what an ELEMENT takes -/
def takS (σ : mSt) (e num : Nat) (al d : Int) : mSt := upS (upS (stN σ num (gk (σ 164) d) 4) e 1 (d / gk (σ 164) d)) e 2 al
theorem gcd_le {a b : Int} (h : 0 < a) : 0 < (Int.gcd a b : Int) ∧ (Int.gcd a b : Int) ≤ a := by
  have h1 := Int.gcd_dvd_left (a := a) (b := b)
  have h2 := Int.le_of_dvd h h1
  have h3 : (Int.gcd a b : Int) ≠ 0 := fun z => by
    rw [z] at h1
    have := Int.zero_dvd.mp h1
    omega
  omega
theorem take_s {σ : mSt} {e : Nat} {al d : Int} {Q : Int → mSt → Prop} (hee : shp e = (1, 0)) (hf : ∀ i, i < 4 → i62 (σ 164 i)) (hd : 0 < d ∧ d < 4611686018427387904) (k : mR (mX1_take_B29 e al 164 d (gk (σ 164) d) σ) Q) : mR (mX1_take e al 164 d σ) Q := by
  have g0 := gcd_le (b := σ 164 0) hd.1
  have g1 := gcd_le (b := σ 164 1) g0.1
  have g2 := gcd_le (b := σ 164 2) g1.1
  unfold mX1_take
  refine mR_G (isC_of hee) ?_
  rw [show mF = 999999999995 + 1 + 1 + 1 + 1 + 1 from rfl]
  refine tkL6 (i := 0) (by omega) (by unfold i62; omega) (hf 0 (by omega)) ?_
  refine tkL6 (i := 1) (by omega) (by unfold i62; omega) (hf 1 (by omega)) ?_
  refine tkL6 (i := 2) (by omega) (by unfold i62; omega) (hf 2 (by omega)) ?_
  refine tkL6 (i := 3) (by omega) (by unfold i62; omega) (hf 3 (by omega)) ?_
  rw [mX1_take_L6.eq_2]
  exact mR_pos (by decide) k
theorem take_m {σ : mSt} {e : Nat} {al d : Int} {Q : Int → mSt → Prop} (hf : ∀ i, i < 4 → i62 (σ 164 i)) (hd : 0 < d ∧ d < 4611686018427387904) (k : mR (mX1_take_B101 e al 164 d (gk (σ 164) d) (b2 (fitK (σ 164) d)) σ) Q) : mR (mX1_take_B29 e al 164 d (gk (σ 164) d) σ) Q := by
  have hg := gk_pos (f := σ 164) hd.1
  have hq : d / gk (σ 164) d ≤ d ∧ 0 ≤ d / gk (σ 164) d := ⟨Int.ediv_le_self _ (by omega), Int.ediv_nonneg (by omega) (by omega)⟩
  have key : ∀ p : Prop, (p ↔ d / gk (σ 164) d ≤ 1000000) → mR (mX1_take_B53 e al 164 d (gk (σ 164) d) (b2 p) σ) Q := by
    intro p hp
    unfold mX1_take_B53
    have := tkL58 (e := e) (al := al) (d := d) (x := fun z7 zσ => mX1_take_B101 e al 164 d (gk (σ 164) d) z7 zσ) hg.1 (by omega) hf 4 0 mF p (by omega) (by unfold mF; omega)
    rw [show ((0 : Nat) : Int) = 0 from rfl] at this
    rw [this]
    rw [b2_iff (q := fitK (σ 164) d) ⟨fun z => ⟨hp.mp z.1, fun j hj => z.2 j (by omega) hj⟩, fun z => ⟨hp.mpr z.1, fun j _ hj => z.2 j hj⟩⟩]
    exact k
  unfold mX1_take_B29
  refine mR_neg (by rw [wL_id (by omega)]; omega) (mR_callE (quot_e _ _ σ hg.1 (by omega) (by omega)) (mR_if (fun c => ?_) (fun c => ?_)))
  · rw [wL_id (by omega)] at c
    unfold mX1_take_B52
    have := key False ⟨fun z => z.elim, fun z => by omega⟩
    rw [b2_f (p := False) (fun z => z)] at this
    exact this
  · rw [wL_id (by omega)] at c
    have := key True ⟨fun z => by omega, fun z => trivial⟩
    rw [b2_t (p := True) trivial] at this
    exact this
theorem take_t {σ : mSt} {e num : Nat} {al d : Int} (hee : shp e = (1, 0)) (hf : ∀ i, i < 4 → i62 (σ 164 i)) (hd : 0 < d ∧ d < 4611686018427387904) (he : σ e 0 = (num : Int)) (hn : shp num = (21, 4)) (hn0 : num ≠ 0) (hne : num ≠ 164 ∧ num ≠ e) (hfit : fitK (σ 164) d) : mX1_take e al 164 d σ = some (1, takS σ e num al d) := by
  have hg := gk_pos (f := σ 164) hd.1
  refine mR_eq (take_s hee hf hd (take_m hf hd ?_))
  unfold mX1_take_B101
  refine mR_neg (by rw [b2_t hfit]; decide) ?_
  have h0 : σ = stN σ num (gk (σ 164) d) 0 := by
    funext a b
    unfold stN
    rw [if_neg (by omega)]
  have := tkL111 (e := e) (al := al) (d := d) (x := fun zσ => mX1_take_B139 e al 164 d (gk (σ 164) d) zσ) hg.1 (by omega) hf he hn hn0 hne 4 0 mF (by omega) (by unfold mF; omega)
  rw [← h0, show ((0 : Nat) : Int) = 0 from rfl] at this
  rw [this]
  unfold mX1_take_B139
  exact mR_callE (quot_e _ _ _ hg.1 (by omega) (by omega)) (mR_bnd (mR_bnd (mR_ret ⟨rfl, rfl⟩)))
theorem take_f {σ : mSt} {e : Nat} {al d : Int} (hee : shp e = (1, 0)) (hf : ∀ i, i < 4 → i62 (σ 164 i)) (hd : 0 < d ∧ d < 4611686018427387904) (hfit : ¬ fitK (σ 164) d) : mX1_take e al 164 d σ = some (0, σ) := by
  refine mR_eq (take_s hee hf hd (take_m hf hd ?_))
  unfold mX1_take_B101
  exact mR_pos (by rw [b2_f hfit]; decide) (mR_ret ⟨rfl, rfl⟩)

theorem prm_dvd {p d : Int} (hp : prm p) (hd : d ∣ p) (h2 : 2 ≤ d) : d = p := by
  obtain ⟨e, he⟩ := hd
  have hp2 := hp.1
  have e1 : 1 ≤ e := by
    rcases Int.lt_or_le 0 e with h | h
    · omega
    · have := Int.mul_le_mul_of_nonneg_left h (show 0 ≤ d by omega)
      omega
  by_cases e2 : e = 1
  · rw [e2, Int.mul_one] at he
    exact he.symm
  · exfalso
    rcases Int.le_total d e with h | h
    · have := Int.mul_le_mul_of_nonneg_left h (show 0 ≤ d by omega)
      exact hp.2 d h2 (by omega) (Int.emod_eq_zero_of_dvd ⟨e, he⟩)
    · have := Int.mul_le_mul_of_nonneg_right h (show 0 ≤ e by omega)
      exact hp.2 e (by omega) (by omega) (Int.emod_eq_zero_of_dvd ⟨d, by rw [he, Int.mul_comm]⟩)
def qs : List Int := [7, 13, 19, 31, 37, 43]
def cyF (q g : Int) : Nat → Int → Int → Int
  | 0, k, _ => k
  | f + 1, k, v => if v = 1 then k else cyF q g f (k + 1) (v * g % q)
def cyT (q g : Int) : Nat → Int → Bool
  | 0, _ => false
  | f + 1, v => if v = 1 then true else cyT q g f (v * g % q)
theorem gnL11 {q g : Int} {xx : Int → mSt → Option (Int × mSt)} {σ : mSt} (hq : 2 ≤ q ∧ q ≤ 50) (hg : 0 ≤ g ∧ g < q) : ∀ (f : Nat) (k v : Int) (n : Nat), 0 ≤ v → v < q → cyT q g f v = true → f ≤ n → mX12_generator_L11 q g xx n k v σ = xx (cyF q g f k v) σ := by
  intro f
  induction f with
  | zero => intro k v n h1 h2 h3; cases h3
  | succ f ih =>
    intro k v n h1 h2 h3 h4
    obtain ⟨n, rfl⟩ : ∃ q, n = q + 1 := ⟨n - 1, by omega⟩
    rw [mX12_generator_L11.eq_2, wI_id (x := v) (by omega)]
    unfold cyT at h3
    show _ = xx (if v = 1 then k else cyF q g f (k + 1) (v * g % q)) σ
    by_cases hv : v = 1
    · rw [if_pos hv, if_pos hv]
    · have r := mul_rng (x := v) (y := g) (A := 50) (B := 50) (by omega) (by omega) (by omega)
      have r0 : 0 ≤ v * g := Int.mul_nonneg h1 hg.1
      rw [if_neg hv] at h3
      rw [if_neg hv, if_neg hv, bnd_eq, wI_id (x := q) (by omega), mG_pos (by omega), wI_id (x := v * g) (by omega), Int.tmod_eq_emod_of_nonneg r0, bnd_eq]
      exact ih (k + 1) (v * g % q) n (Int.emod_nonneg _ (by omega)) (Int.emod_lt_of_pos _ (by omega)) h3 (by omega)
theorem gen_t : ∀ q ∈ qs, (7 ≤ q ∧ q ≤ 43) ∧ (∀ g ∈ [(2 : Int), 3], cyT q g 50 g = true) ∧ (if cyF q 2 50 1 2 = q - 1 then genQ q = 2 else cyF q 3 50 1 3 = q - 1 ∧ genQ q = 3) := by decide +kernel
theorem cyF_rng (q g : Int) : ∀ (f : Nat) (k v : Int), k ≤ cyF q g f k v ∧ cyF q g f k v ≤ k + f := by
  intro f
  induction f with
  | zero => intro k v; exact ⟨Int.le_refl _, by show k ≤ k + _; omega⟩
  | succ f ih =>
    intro k v
    have := ih (k + 1) (v * g % q)
    show k ≤ (if v = 1 then k else cyF q g f (k + 1) (v * g % q)) ∧ (if v = 1 then k else cyF q g f (k + 1) (v * g % q)) ≤ k + _
    split <;> omega
theorem generator_e {q : Int} {σ : mSt} (hq : q ∈ qs) : mX12_generator q σ = some (genQ q, σ) := by
  obtain ⟨⟨h1, h2⟩, h3, h4⟩ := gen_t q hq
  obtain ⟨f, hf⟩ := mF5
  have c2 := gnL11 (σ := σ) (g := 2) (xx := fun z2 zσ => mX12_generator_B28 q (mX12_generator_L2 q (fun zσ => mX12_generator_B43 q zσ) (f + 5)) (fun zσ => mX12_generator_B43 q zσ) 2 z2 zσ) ⟨by omega, by omega⟩ (by omega) 50 1 2 mF (by omega) (by omega) (h3 2 (by decide)) (by unfold mF; omega)
  have c3 := gnL11 (σ := σ) (g := 3) (xx := fun z2 zσ => mX12_generator_B28 q (mX12_generator_L2 q (fun zσ => mX12_generator_B43 q zσ) (f + 4)) (fun zσ => mX12_generator_B43 q zσ) 3 z2 zσ) ⟨by omega, by omega⟩ (by omega) 50 1 3 mF (by omega) (by omega) (h3 3 (by decide)) (by unfold mF; omega)
  have r2 := cyF_rng q 2 50 1 2
  have r3 := cyF_rng q 3 50 1 3
  unfold mX12_generator
  have e : mX12_generator_L2 q (fun zσ => mX12_generator_B43 q zσ) mF 2 σ = mX12_generator_L2 q (fun zσ => mX12_generator_B43 q zσ) (f + 5 + 1) 2 σ := by rw [hf]
  rw [e, mX12_generator_L2.eq_2, if_neg (by rw [wI_id (by omega), wI_id (by omega)]; omega)]
  refine c2.trans ?_
  unfold mX12_generator_B28
  rw [wI_id (by omega), wI_id (by omega)]
  by_cases hc : cyF q 2 50 1 2 = q - 1
  · rw [if_pos hc] at h4 ⊢
    rw [h4]
  · rw [if_neg hc] at h4 ⊢
    rw [bnd_eq, mX12_generator_L2.eq_2, if_neg (by rw [wI_id (by omega), wI_id (by omega)]; omega)]
    refine c3.trans ?_
    unfold mX12_generator_B28
    rw [wI_id (by omega), wI_id (by omega), if_pos h4.1, h4.2]
def dlT (q g x : Int) : Nat → Int → Bool
  | 0, _ => false
  | f + 1, y => if y = x then true else dlT q g x f (y * g % q)
theorem dlL96 {q b p t g : Int} {rec : Int → Int → Int → mSt → Option (Int × mSt)} {xx : Int → mSt → Option (Int × mSt)} {σ : mSt} (hq : 2 ≤ q ∧ q ≤ 50) (hg : 0 ≤ g ∧ g < q) (hp : 0 ≤ p ∧ p < 1000) : ∀ (f : Nat) (k v : Int) (n : Nat), 0 ≤ v → v < q → dlT q g (p % q) f v = true → f ≤ n → mX12_cyclicAt_L96 rec q b p t g xx n k v σ = xx (dlgF q g (p % q) f k v) σ := by
  intro f
  induction f with
  | zero => intro k v n h1 h2 h3; cases h3
  | succ f ih =>
    intro k v n h1 h2 h3 h4
    obtain ⟨n, rfl⟩ : ∃ q, n = q + 1 := ⟨n - 1, by omega⟩
    have m1 : 0 ≤ p % q := Int.emod_nonneg _ (by omega)
    have m2 : p % q < q := Int.emod_lt_of_pos _ (by omega)
    rw [mX12_cyclicAt_L96.eq_2, wI_id (x := q) (by omega), mG_pos (by omega), wI_id (x := v) (by omega), wI_id (x := p) (by omega), Int.tmod_eq_emod_of_nonneg hp.1, wI_id (x := p % q) (by omega)]
    unfold dlT at h3
    show _ = xx (if v = p % q then k else dlgF q g (p % q) f (k + 1) (v * g % q)) σ
    by_cases hv : v = p % q
    · rw [if_pos hv, if_pos hv]
    · have r := mul_rng (x := v) (y := g) (A := 50) (B := 50) (by omega) (by omega) (by omega)
      have r0 : 0 ≤ v * g := Int.mul_nonneg h1 hg.1
      rw [if_neg hv] at h3
      rw [if_neg hv, if_neg hv, bnd_eq, wI_id (x := v * g) (by omega), Int.tmod_eq_emod_of_nonneg r0, bnd_eq]
      exact ih (k + 1) (v * g % q) n (Int.emod_nonneg _ (by omega)) (Int.emod_lt_of_pos _ (by omega)) h3 (by omega)
theorem dl_t : ∀ q ∈ qs, ∀ x : Fin 43, 1 ≤ (x.val : Int) → (x.val : Int) < q → dlT q (genQ q) (x.val : Int) 44 1 = true := by decide +kernel
theorem dlgF_rng (q g x : Int) : ∀ (f : Nat) (k v : Int), k ≤ dlgF q g x f k v ∧ dlgF q g x f k v ≤ k + f := by
  intro f
  induction f with
  | zero => intro k v; exact ⟨Int.le_refl _, by show k ≤ k + _; omega⟩
  | succ f ih =>
    intro k v
    have := ih (k + 1) (v * g % q)
    show k ≤ (if v = x then k else dlgF q g x f (k + 1) (v * g % q)) ∧ (if v = x then k else dlgF q g x f (k + 1) (v * g % q)) ≤ k + _
    split <;> omega
theorem ordF_rng (p : Int) : ∀ (f : Nat) (n : Int), 0 ≤ ordF f p n ∧ ordF f p n ≤ f := by
  intro f
  induction f with
  | zero => intro n; exact ⟨Int.le_refl _, by show (0 : Int) ≤ _; omega⟩
  | succ f ih =>
    intro n
    have := ih (n / p)
    show 0 ≤ (if n % p = 0 then ordF f p (n / p) + 1 else 0) ∧ (if n % p = 0 then ordF f p (n / p) + 1 else 0) ≤ _
    split <;> omega
theorem locC1_rng (q b p : Int) : 0 ≤ locC1 q b p ∧ locC1 q b p ≤ 4 := by
  unfold locC1
  omega
theorem prm_mod {p q : Int} (hp : prm p) (hq : 2 ≤ q) (hne : p ≠ q) : 1 ≤ p % q ∧ p % q < q := by
  have m1 : 0 ≤ p % q := Int.emod_nonneg _ (by omega)
  have m2 : p % q < q := Int.emod_lt_of_pos _ (by omega)
  refine ⟨?_, m2⟩
  rcases Int.lt_or_eq_of_le m1 with h | h
  · omega
  · exact absurd (prm_dvd hp (Int.dvd_of_emod_eq_zero h.symm) hq).symm hne
theorem cyAt1 {q b p : Int} {σ : mSt} (hq : q ∈ qs) (hb : b ≠ 0 ∧ -999 ≤ b ∧ b ≤ 999) (hp : prm p) (hp1 : p < 1000) (hne : p ≠ q) (d : Nat) : mX12_cyclicAt (d + 1) q b p σ = some (locC1 q b p, σ) := by
  obtain ⟨⟨h1, h2⟩, -, -⟩ := gen_t q hq
  have hp2 := hp.1
  have ot := ordF_rng p 10 b
  have md := prm_mod hp (show 2 ≤ q by omega) hne
  have hg : 0 ≤ genQ q ∧ genQ q < q := by unfold genQ; split <;> omega
  rw [mX12_cyclicAt.eq_2]
  unfold mX12_cyclicAt_body
  rw [wI_id (x := p) (by omega), wI_id (x := q) (by omega), if_neg (by omega), if_neg hne, often_e ⟨hp2, by omega⟩ 10 hb.1 (by omega) (by omega) (by omega), mCall_some, wI_id (x := ordF 10 p b) (by omega)]
  unfold locC1 dlg
  by_cases h0 : ordF 10 p b = 0
  · rw [if_pos h0, h0, Int.zero_mul]
    rfl
  · have tr := dl_t q hq ⟨(p % q).toNat, by omega⟩ (by show 1 ≤ (((p % q).toNat : Nat) : Int); omega) (by show (((p % q).toNat : Nat) : Int) < q; omega)
    rw [show ((⟨(p % q).toNat, by omega⟩ : Fin 43).val : Int) = p % q by show (((p % q).toNat : Nat) : Int) = p % q; omega] at tr
    have dr := dlgF_rng q (genQ q) (p % q) 44 0 1
    have mr := mul_rng (x := ordF 10 p b) (y := dlgF q (genQ q) (p % q) 44 0 1) (A := 10) (B := 44) (by omega) (by omega) (by omega)
    have m0 : 0 ≤ ordF 10 p b * dlgF q (genQ q) (p % q) 44 0 1 := Int.mul_nonneg (by omega) (by omega)
    rw [if_neg h0, generator_e hq, mCall_some, dlL96 (f := 44) ⟨by omega, by omega⟩ hg (by omega) _ _ _ (by omega) (by omega) tr (by unfold mF; omega)]
    unfold mX12_cyclicAt_B119
    rw [mG_pos (by decide), wI_id (by omega), show wI 3 = 3 from rfl, Int.tmod_eq_emod_of_nonneg m0]
noncomputable def cyS (q b : Int) (o : Nat) : Int := sumN (fun o => b2 (prm o ∧ (o : Int) ≠ q ∧ (o : Int) ∣ b) * locC1 q b o) o
theorem cyS_rng (q b : Int) (o : Nat) : 0 ≤ cyS q b o ∧ cyS q b o ≤ 4 * (o : Int) := by
  induction o with
  | zero => exact ⟨Int.le_refl _, Int.le_refl _⟩
  | succ o ih =>
    have l := locC1_rng q b o
    have e : cyS q b (o + 1) = cyS q b o + b2 (prm o ∧ (o : Int) ≠ q ∧ (o : Int) ∣ b) * locC1 q b o := rfl
    rw [e]
    rcases b2_01 (prm o ∧ (o : Int) ≠ q ∧ (o : Int) ∣ b) with h | h <;> rw [h] <;> omega
theorem cyL16 {q b p : Int} {σ : mSt} {d : Nat} {xx : Int → mSt → Option (Int × mSt)} (hq : q ∈ qs) (hb : b ≠ 0 ∧ -999 ≤ b ∧ b ≤ 999) : ∀ (m o n : Nat), 2 ≤ o → o + m = 1000 → m < n → mX12_cyclicAt_L16 (mX12_cyclicAt (d + 1)) q b p xx n (cyS q b o) (o : Int) σ = xx (cyS q b 1000) σ := by
  obtain ⟨⟨g1, g2⟩, -, -⟩ := gen_t q hq
  intro m
  induction m with
  | zero =>
    intro o n h1 h2 h3
    obtain ⟨n, rfl⟩ : ∃ q, n = q + 1 := ⟨n - 1, by omega⟩
    rw [mX12_cyclicAt_L16.eq_2, if_pos (by rw [wI_id (by omega)]; omega), show o = 1000 by omega]
  | succ m ih =>
    intro o n h1 h2 h3
    obtain ⟨n, rfl⟩ : ∃ q, n = q + 1 := ⟨n - 1, by omega⟩
    have e : cyS q b (o + 1) = cyS q b o + b2 (prm o ∧ (o : Int) ≠ q ∧ (o : Int) ∣ b) * locC1 q b o := rfl
    have go : ∀ X, X = cyS q b (o + 1) → mX12_cyclicAt_L16 (mX12_cyclicAt (d + 1)) q b p xx n X ((o : Int) + 1) σ = xx (cyS q b 1000) σ := fun X hX => by
      rw [hX, show (o : Int) + 1 = ((o + 1 : Nat) : Int) by omega]
      exact ih (o + 1) n (by omega) (by omega) (by omega)
    rw [mX12_cyclicAt_L16.eq_2, if_neg (by rw [wI_id (by omega)]; omega), wI_id (x := (o : Int)) (by omega), wI_id (x := q) (by omega), wI_id (x := b) (by omega)]
    by_cases hoq : (o : Int) = q
    · rw [if_pos hoq, bnd_eq]
      exact go _ (by rw [e, b2_f (fun z => z.2.1 hoq)]; omega)
    · have tr : wI (b.tmod (o : Int)) = b.tmod (o : Int) := wI_id (by
        have h : (b.tmod (o : Int)).natAbs ≤ b.natAbs := by rw [Int.natAbs_tmod]; exact Nat.mod_le _ _
        omega)
      rw [if_neg hoq, mG_pos (by omega), tr]
      by_cases hd : (o : Int) ∣ b
      · rw [if_pos (Int.tmod_eq_zero_of_dvd hd), rprime_e _ (by omega) (by omega), mCall_some, wI_b2]
        by_cases hp : prm (o : Int)
        · rw [b2_t hp, if_neg (by decide), cyAt1 hq hb hp (by omega) hoq, mCall_some, bnd_eq, bnd_eq]
          exact go _ (by rw [e, b2_t ⟨hp, hoq, hd⟩]; omega)
        · rw [b2_f hp, if_pos rfl, bnd_eq]
          exact go _ (by rw [e, b2_f (fun z => hp z.1)]; omega)
      · rw [if_neg (fun z => hd (Int.dvd_of_tmod_eq_zero z)), bnd_eq]
        exact go _ (by rw [e, b2_f (fun z => hd z.2.2)]; omega)
theorem cyclicAt_e {q b p : Int} {σ : mSt} (hq : q ∈ qs) (hb : b ≠ 0 ∧ -999 ≤ b ∧ b ≤ 999) (hp : place p) : mX12_cyclicAt 3 q b p σ = some (locC q b p, σ) := by
  obtain ⟨⟨g1, g2⟩, -, -⟩ := gen_t q hq
  unfold locC
  rcases hp with rfl | ⟨hp, hp1⟩
  · rw [mX12_cyclicAt.eq_2]
    unfold mX12_cyclicAt_body
    rw [if_pos (by decide), if_pos rfl]
  · have hp2 := hp.1
    rw [if_neg (by omega)]
    by_cases hpq : p = q
    · have r := cyS_rng q b 1000
      rw [if_pos hpq, mX12_cyclicAt.eq_2]
      unfold mX12_cyclicAt_body
      rw [wI_id (x := p) (by omega), wI_id (x := q) (by omega), if_neg (by omega), if_pos hpq]
      have s2 : cyS q b 2 = 0 := by
        have e : cyS q b 2 = 0 + b2 (prm (0 : Nat) ∧ ((0 : Nat) : Int) ≠ q ∧ ((0 : Nat) : Int) ∣ b) * locC1 q b (0 : Nat) + b2 (prm (1 : Nat) ∧ ((1 : Nat) : Int) ≠ q ∧ ((1 : Nat) : Int) ∣ b) * locC1 q b (1 : Nat) := rfl
        rw [e, b2_f (fun z => by have := z.1.1; omega), b2_f (fun z => by have := z.1.1; omega)]
        omega
      have := cyL16 (σ := σ) (p := p) (d := 1) (xx := fun z3 zσ => mX12_cyclicAt_B61 (mX12_cyclicAt 2) q b p z3 zσ) hq hb 998 2 mF (by omega) (by omega) (by unfold mF; omega)
      rw [s2] at this
      refine this.trans ?_
      unfold mX12_cyclicAt_B61
      have t6 : (cyS q b 1000).tmod 6 = cyS q b 1000 % 6 := Int.tmod_eq_emod_of_nonneg r.1
      rw [mG_pos (by decide), wI_id (x := cyS q b 1000) (by omega), show wI 6 = 6 from rfl, t6, wI_id (by omega), Int.tmod_eq_emod_of_nonneg (by omega)]
      show some ((6 - cyS q b 1000 % 6) % 6, σ) = some (-(cyS q b 1000) % 6, σ)
      rw [show (6 - cyS q b 1000 % 6) % 6 = -(cyS q b 1000) % 6 by omega]
    · rw [if_neg hpq]
      exact cyAt1 hq hb hp hp1 hpq 2
theorem locC_rng (q b p : Int) : 0 ≤ locC q b p ∧ locC q b p ≤ 5 := by
  unfold locC
  have := locC1_rng q b p
  split
  · omega
  · split <;> omega
theorem locQ_rng (a b p : Int) : 0 ≤ locQ a b p ∧ locQ a b p ≤ 5 := by
  unfold locQ
  split
  · split <;> omega
  · split <;> omega
theorem locF_rng (K F S G P : Nat → Int) : ∀ (d k : Nat) (p : Int), 0 ≤ locF K F S G P d k p ∧ locF K F S G P d k p ≤ 5 := by
  intro d
  cases d with
  | zero => intro k p; exact ⟨Int.le_refl _, by show (0 : Int) ≤ 5; omega⟩
  | succ d =>
    intro k p
    unfold locF
    split
    · exact locQ_rng _ _ _
    · split
      · exact locC_rng _ _ _
      · omega
theorem localOf_e {τ : mSt} {B n : Nat} (hL : Lay τ) (hB : iBook τ B n) : ∀ (d k : Nat) (p : Int), k < d → k < n → place p → mX12_localOf d 253 (k : Int) p τ = some (locF (τ 257) (τ 258) (τ 259) (τ 260) (τ 261) d k p, τ) := by
  have l := lay253 hL
  obtain ⟨q1, hn, q3, q4, q5, q6, q7⟩ := hB
  intro d
  induction d with
  | zero => intro k p h; omega
  | succ d ih =>
    intro k p h1 h2 hp
    obtain ⟨g1, g2, g3, g4, g5⟩ := q7 k h2
    rw [Nat.zero_add] at g5
    rw [mX12_localOf.eq_2]
    unfold mX12_localOf_body locF
    rw [gc253, gr' l.2.2.2.1 (by omega), gx257 _ (by omega), wI_nat (by omega)]
    rcases g5 with ⟨z, ⟨z1, z2, z3, z4⟩, z5, z6, z7, z8⟩ | ⟨z, z1, z2, z3, z4⟩ | ⟨z, z1, z2, z3, z4⟩
    · rw [z, if_pos (by decide), if_pos rfl, gr' l.2.2.2.2.1 (by omega), gx258 _ (by omega), gr' l.2.2.2.2.2.1 (by omega), gx259 _ (by omega), quatAt_e ⟨z1, z2, z3, z4⟩ ⟨z5, z6, z7, z8⟩ hp, mCall_some]
    · rw [z, if_neg (by decide), gr' l.2.2.2.1 (by omega), gx257 _ (by omega), z, if_pos (by decide), if_neg (by decide), if_pos rfl, gr' l.2.2.2.2.1 (by omega), gx258 _ (by omega), gr' l.2.2.2.2.2.1 (by omega), gx259 _ (by omega), cyclicAt_e (by unfold qs; simp; omega) ⟨z2, z3, z4⟩ hp, mCall_some]
    · rw [z, if_neg (by decide), gr' l.2.2.2.1 (by omega), gx257 _ (by omega), z, if_neg (by decide), if_neg (by decide), if_neg (by decide)]
      obtain ⟨fc, hfc⟩ : ∃ fc : Nat, τ 258 k = (fc : Int) := ⟨(τ 258 k).toNat, by omega⟩
      have f4 : fc ≤ 4 := by omega
      have sr : ∀ i, i ≤ fc → -(5 * (i : Int)) ≤ sumN (fun i => τ 260 (4 * k + i) * locF (τ 257) (τ 258) (τ 259) (τ 260) (τ 261) d (τ 261 (4 * k + i)).toNat p) i ∧ sumN (fun i => τ 260 (4 * k + i) * locF (τ 257) (τ 258) (τ 259) (τ 260) (τ 261) d (τ 261 (4 * k + i)).toNat p) i ≤ 5 * (i : Int) := by
        intro i
        induction i with
        | zero => intro _; exact ⟨Int.le_refl _, Int.le_refl _⟩
        | succ i ih2 =>
          intro hi
          have a := ih2 (by omega)
          have b := z4 i (by omega)
          have c := locF_rng (τ 257) (τ 258) (τ 259) (τ 260) (τ 261) d (τ 261 (4 * k + i)).toNat p
          have e : sumN (fun i => τ 260 (4 * k + i) * locF (τ 257) (τ 258) (τ 259) (τ 260) (τ 261) d (τ 261 (4 * k + i)).toNat p) (i + 1) = sumN (fun i => τ 260 (4 * k + i) * locF (τ 257) (τ 258) (τ 259) (τ 260) (τ 261) d (τ 261 (4 * k + i)).toNat p) i + τ 260 (4 * k + i) * locF (τ 257) (τ 258) (τ 259) (τ 260) (τ 261) d (τ 261 (4 * k + i)).toNat p := rfl
          rw [e]
          rcases b.2.2.1 with h | h <;> rw [h] <;> omega
      have loop : ∀ (m i N : Nat), i + m = fc → m < N → mX12_localOf_L58 (mX12_localOf d) 253 (k : Int) p (fun z3 zσ => mX12_localOf_B106 (mX12_localOf d) 253 (k : Int) p z3 zσ) N (sumN (fun i => τ 260 (4 * k + i) * locF (τ 257) (τ 258) (τ 259) (τ 260) (τ 261) d (τ 261 (4 * k + i)).toNat p) i) (i : Int) τ = some (sumN (fun i => τ 260 (4 * k + i) * locF (τ 257) (τ 258) (τ 259) (τ 260) (τ 261) d (τ 261 (4 * k + i)).toNat p) fc % 6, τ) := by
        intro m
        induction m with
        | zero =>
          intro i N h3 h4
          obtain ⟨N, rfl⟩ : ∃ q, N = q + 1 := ⟨N - 1, by omega⟩
          have r := sr fc (by omega)
          rw [mX12_localOf_L58.eq_2, gr' l.2.2.2.2.1 (by omega), gx258 _ (by omega), wI_nat (by omega), hfc, if_pos (by rw [wI_id (by omega), wI_id (by omega)]; omega), show i = fc by omega]
          revert r
          generalize sumN (fun i => τ 260 (4 * k + i) * locF (τ 257) (τ 258) (τ 259) (τ 260) (τ 261) d (τ 261 (4 * k + i)).toNat p) fc = X
          intro r
          have t6 : X.tmod 6 = if 0 ≤ X ∨ 6 ∣ X then X % 6 else X % 6 - 6 := by
            by_cases hX : 0 ≤ X ∨ 6 ∣ X
            · rw [Int.tmod_eq_emod, if_pos hX, if_pos hX]; omega
            · rw [Int.tmod_eq_emod, if_neg hX, if_neg hX]; omega
          have t7 : -6 < X.tmod 6 ∧ X.tmod 6 < 6 := by rw [t6]; split <;> omega
          have t8 : (X.tmod 6 + 6).tmod 6 = X % 6 := by
            rw [Int.tmod_eq_emod_of_nonneg (by omega), t6]
            split <;> omega
          unfold mX12_localOf_B106
          rw [mG_pos (by decide), wI_id (x := X) (by omega), show wI 6 = 6 from rfl, wI_id (by omega), t8]
        | succ m ih2 =>
          intro i N h3 h4
          obtain ⟨N, rfl⟩ : ∃ q, N = q + 1 := ⟨N - 1, by omega⟩
          have b := z4 i (by omega)
          obtain ⟨j, hj⟩ : ∃ j : Nat, τ 261 (4 * k + i) = (j : Int) := ⟨(τ 261 (4 * k + i)).toNat, by omega⟩
          rw [mX12_localOf_L58.eq_2, gr' l.2.2.2.2.1 (by omega), gx258 _ (by omega), wI_nat (by omega), hfc, if_neg (by rw [wI_id (by omega), wI_id (by omega)]; omega), show 4 * (k : Int) + (i : Int) = ((4 * k + i : Nat) : Int) by omega, gr' l.2.2.2.2.2.2.1 (by omega), gx260 _ (by omega), gr' l.2.2.2.2.2.2.2.1 (by omega), gx261 _ (by omega), wI_nat (by omega), hj, ih j p (by omega) (by omega) hp, mCall_some, bnd_eq, bnd_eq]
          have := ih2 (i + 1) N (by omega) (by omega)
          rw [show (i : Int) + 1 = ((i + 1 : Nat) : Int) by omega, ← this]
          show _ = mX12_localOf_L58 (mX12_localOf d) 253 (k : Int) p _ N (sumN (fun i => τ 260 (4 * k + i) * locF (τ 257) (τ 258) (τ 259) (τ 260) (τ 261) d (τ 261 (4 * k + i)).toNat p) i + τ 260 (4 * k + i) * locF (τ 257) (τ 258) (τ 259) (τ 260) (τ 261) d (τ 261 (4 * k + i)).toNat p) _ τ
          rw [hj, Int.toNat_natCast]
      have := loop fc 0 mF (by omega) (by unfold mF; omega)
      rw [hfc, Int.toNat_natCast]
      exact this
theorem localOf_e9 {τ : mSt} {B n k : Nat} {p : Int} (hL : Lay τ) (hB : iBook τ B n) (hk : k < n) (hp : place p) : mX12_localOf 9 253 (k : Int) p τ = some (loc τ k p, τ) := by
  have := hB.2.1
  exact localOf_e hL hB 9 k p (by omega) hk hp

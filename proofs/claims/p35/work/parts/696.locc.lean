/-! the class side of locc -/
theorem prm_dvd {p d : Int} (hp : prm p) (hd : d ∣ p) (h2 : 2 ≤ d) : d = p := by
  obtain ⟨e, he⟩ := hd
  have hp2 := hp.1
  have e1 : 1 ≤ e := by
    rcases Int.lt_or_le 0 e with h | h
    · omega
    · have := Int.mul_le_mul_of_nonneg_left h (show 0 ≤ d by omega)
      omega
  by_cases e2 : e = 1
  · rw [e2, Int.mul_one] at he
    exact he.symm
  · exfalso
    rcases Int.le_total d e with h | h
    · have := Int.mul_le_mul_of_nonneg_left h (show 0 ≤ d by omega)
      exact hp.2 d h2 (by omega) (Int.emod_eq_zero_of_dvd ⟨e, he⟩)
    · have := Int.mul_le_mul_of_nonneg_right h (show 0 ≤ e by omega)
      exact hp.2 e (by omega) (by omega) (Int.emod_eq_zero_of_dvd ⟨d, by rw [he, Int.mul_comm]⟩)
def qs : List Int := [7, 13, 19, 31, 37, 43]
def cyF (q g : Int) : Nat → Int → Int → Int
  | 0, k, _ => k
  | f + 1, k, v => if v = 1 then k else cyF q g f (k + 1) (v * g % q)
def cyT (q g : Int) : Nat → Int → Bool
  | 0, _ => false
  | f + 1, v => if v = 1 then true else cyT q g f (v * g % q)
theorem gen_t : ∀ q ∈ qs, (7 ≤ q ∧ q ≤ 43) ∧ (∀ g ∈ [(2 : Int), 3], cyT q g 50 g = true) ∧ (if cyF q 2 50 1 2 = q - 1 then genQ q = 2 else cyF q 3 50 1 3 = q - 1 ∧ genQ q = 3) := by decide +kernel
theorem ordF_rng (p : Int) : ∀ (f : Nat) (n : Int), 0 ≤ ordF f p n ∧ ordF f p n ≤ f := by
  intro f
  induction f with
  | zero => intro n; exact ⟨Int.le_refl _, by show (0 : Int) ≤ _; omega⟩
  | succ f ih =>
    intro n
    have := ih (n / p)
    show 0 ≤ (if n % p = 0 then ordF f p (n / p) + 1 else 0) ∧ (if n % p = 0 then ordF f p (n / p) + 1 else 0) ≤ _
    split <;> omega
theorem locC1_rng (q b p : Int) : 0 ≤ locC1 q b p ∧ locC1 q b p ≤ 4 := by
  unfold locC1
  omega
theorem prm_mod {p q : Int} (hp : prm p) (hq : 2 ≤ q) (hne : p ≠ q) : 1 ≤ p % q ∧ p % q < q := by
  have m1 : 0 ≤ p % q := Int.emod_nonneg _ (by omega)
  have m2 : p % q < q := Int.emod_lt_of_pos _ (by omega)
  refine ⟨?_, m2⟩
  rcases Int.lt_or_eq_of_le m1 with h | h
  · omega
  · exact absurd (prm_dvd hp (Int.dvd_of_emod_eq_zero h.symm) hq).symm hne
noncomputable def cyS (q b : Int) (o : Nat) : Int := sumN (fun o => b2 (prm o ∧ (o : Int) ≠ q ∧ (o : Int) ∣ b) * locC1 q b o) o
theorem cyS_rng (q b : Int) (o : Nat) : 0 ≤ cyS q b o ∧ cyS q b o ≤ 4 * (o : Int) := by
  induction o with
  | zero => exact ⟨Int.le_refl _, Int.le_refl _⟩
  | succ o ih =>
    have l := locC1_rng q b o
    have e : cyS q b (o + 1) = cyS q b o + b2 (prm o ∧ (o : Int) ≠ q ∧ (o : Int) ∣ b) * locC1 q b o := rfl
    rw [e]
    rcases b2_01 (prm o ∧ (o : Int) ≠ q ∧ (o : Int) ∣ b) with h | h <;> rw [h] <;> omega
theorem locC_rng (q b p : Int) : 0 ≤ locC q b p ∧ locC q b p ≤ 5 := by
  unfold locC
  have := locC1_rng q b p
  split
  · omega
  · split <;> omega
theorem locQ_rng (a b p : Int) : 0 ≤ locQ a b p ∧ locQ a b p ≤ 5 := by
  unfold locQ
  split
  · split <;> omega
  · split <;> omega
theorem locF_rng (K F S G P : Nat → Int) : ∀ (d k : Nat) (p : Int), 0 ≤ locF K F S G P d k p ∧ locF K F S G P d k p ≤ 5 := by
  intro d
  cases d with
  | zero => intro k p; exact ⟨Int.le_refl _, by show (0 : Int) ≤ 5; omega⟩
  | succ d =>
    intro k p
    unfold locF
    split
    · exact locQ_rng _ _ _
    · split
      · exact locC_rng _ _ _
      · omega

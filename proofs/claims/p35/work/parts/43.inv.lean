/-! the class side of inv -/
abbrev V4 : Type := Int × Int × Int × Int
def vS (k : Int) (x : V4) : V4 := (k * x.1, k * x.2.1, k * x.2.2.1, k * x.2.2.2)
def vE : Nat → V4
  | 0 => (1, 0, 0, 0)
  | 1 => (0, 1, 0, 0)
  | 2 => (0, 0, 1, 0)
  | _ => (0, 0, 0, 1)
def sqm (u p : Int) : Prop := ∃ x : Int, 0 ≤ x ∧ x < p ∧ x * x % p = u % p
noncomputable def locQ (a b p : Int) : Int :=
  if p = 0 then (if a < 0 ∧ b < 0 then 3 else 0)
  else if p = 2 then 3 * ((((if 2 ∣ a then a / 2 else a) - 1) / 2 * (((if 2 ∣ b then b / 2 else b) - 1) / 2) + (if 2 ∣ a then 1 else 0) * ((((if 2 ∣ b then b / 2 else b)) * ((if 2 ∣ b then b / 2 else b)) - 1) / 8) + (if 2 ∣ b then 1 else 0) * ((((if 2 ∣ a then a / 2 else a)) * ((if 2 ∣ a then a / 2 else a)) - 1) / 8)) % 2)
  else 3 * ((b2 (p ∣ a ∧ p ∣ b ∧ (p - 1) / 2 % 2 = 1) + b2 (p ∣ b ∧ ¬ sqm (if p ∣ a then a / p else a) p) + b2 (p ∣ a ∧ ¬ sqm (if p ∣ b then b / p else b) p)) % 2)
/-- how often p is in n (n below 1024) -/
def ordF : Nat → Int → Int → Int
  | 0, _, _ => 0
  | f + 1, p, n => if n % p = 0 then ordF f p (n / p) + 1 else 0
def genQ (q : Int) : Int := if q = 7 ∨ q = 31 ∨ q = 43 then 3 else 2
/-- the least k with g ^ k like x -/
def dlgF (q g x : Int) : Nat → Int → Int → Int
  | 0, k, _ => k
  | f + 1, k, y => if y = x then k else dlgF q g x f (k + 1) (y * g % q)
def dlg (q x : Int) : Int := dlgF q (genQ q) (x % q) 44 0 1
noncomputable def locC1 (q b p : Int) : Int := 2 * ((ordF 10 p b * dlg q p) % 3)
noncomputable def sumN (f : Nat → Int) : Nat → Int
  | 0 => 0
  | n + 1 => sumN f n + f n
noncomputable def locC (q b p : Int) : Int := if p = 0 then 0 else if p = q then (-(sumN (fun o => b2 (prm o ∧ (o : Int) ≠ q ∧ (o : Int) ∣ b) * locC1 q b o) 1000)) % 6 else locC1 q b p
noncomputable def locF (K F S G P : Nat → Int) : Nat → Nat → Int → Int
  | 0, _, _ => 0
  | d + 1, k, p => if K k = 0 then locQ (F k) (S k) p else if K k = 1 then locC (F k) (S k) p else sumN (fun i => G (4 * k + i) * locF K F S G P d (P (4 * k + i)).toNat p) (F k).toNat % 6
/-- the LOCAL INDEX, of what the reference's rows tell -/
noncomputable def loc (σ : mSt) (k : Nat) (p : Int) : Int := locF (σ 257) (σ 258) (σ 259) (σ 260) (σ 261) 9 k p
def place (p : Int) : Prop := p = 0 ∨ (prm p ∧ p < 1000)
def spellF (σ : mSt) (r : Nat) : Nat → Int
  | 0 => 0
  | n + 1 => 32 * spellF σ r n + (σ r n - 96)
def sqf (a : Int) : Prop := ∀ k : Int, 2 ≤ k → k < 8 → a % (k * k) ≠ 0
def iTape (σ : mSt) (t : Nat) : Prop := t ≤ 600 ∧ σ 0 1 = (t : Int) ∧ True ∧ ∀ k, k < t → True ∧ -128 ≤ σ 1 k ∧ σ 1 k < 128
def iAlg (σ : mSt) (B o k : Nat) : Prop :=
  σ (B + 1) k = σ 257 (o + k) ∧ σ (B + 2) k = σ 258 (o + k) ∧ σ (B + 3) k = σ 259 (o + k) ∧ True ∧
  ((σ 257 (o + k) = 0 ∧ (σ 258 (o + k) ≠ 0 ∧ -60 ≤ σ 258 (o + k) ∧ σ 258 (o + k) ≤ 60 ∧ sqf (σ 258 (o + k))) ∧ (σ 259 (o + k) ≠ 0 ∧ -60 ≤ σ 259 (o + k) ∧ σ 259 (o + k) ≤ 60 ∧ sqf (σ 259 (o + k)))) ∨
   (σ 257 (o + k) = 1 ∧ (σ 258 (o + k) = 7 ∨ σ 258 (o + k) = 13 ∨ σ 258 (o + k) = 19 ∨ σ 258 (o + k) = 31 ∨ σ 258 (o + k) = 37 ∨ σ 258 (o + k) = 43) ∧ σ 259 (o + k) ≠ 0 ∧ -999 ≤ σ 259 (o + k) ∧ σ 259 (o + k) ≤ 999) ∨
   (σ 257 (o + k) = 2 ∧ σ 259 (o + k) = 0 ∧ 1 ≤ σ 258 (o + k) ∧ σ 258 (o + k) ≤ 4 ∧ ∀ i : Nat, (i : Int) < σ 258 (o + k) → σ (B + 15 + k) i = σ 261 (4 * (o + k) + i) ∧ σ (B + 24 + k) i = σ 260 (4 * (o + k) + i) ∧ (σ 260 (4 * (o + k) + i) = 1 ∨ σ 260 (4 * (o + k) + i) = -1) ∧ 0 ≤ σ 261 (4 * (o + k) + i) ∧ σ 261 (4 * (o + k) + i) < (k : Int)))
def iBook (σ : mSt) (B n : Nat) : Prop := (B = 37 ∨ B = 69) ∧ n ≤ 8 ∧ σ 0 3 = (B : Int) ∧ σ 0 4 = 106 - (B : Int) ∧ σ B 0 = (n : Int) ∧ True ∧ ∀ k, k < n → iAlg σ B 0 k
def iPlaces (σ : mSt) (n s : Nat) : Prop := s ≤ 64 ∧ σ 101 0 = (s : Int) ∧ (∀ i j, i < j → j < s → σ 102 i < σ 102 j) ∧ (∀ i, i < s → place (σ 102 i)) ∧ (∀ k i, k < n → i < s → σ (104 + k) i = loc σ k (σ 102 i)) ∧ ∀ k p, k < n → place p → (∀ i, i < s → σ 102 i ≠ p) → loc σ k p = 0
def rowV (σ : mSt) (r : Nat) : V4 := (σ r 0, σ r 1, σ r 2, σ r 3)

/-! fours of numbers, and what is made of them -/
abbrev V4 : Type := Int × Int × Int × Int
def vA (x y : V4) : V4 := (x.1 + y.1, x.2.1 + y.2.1, x.2.2.1 + y.2.2.1, x.2.2.2 + y.2.2.2)
def vS (k : Int) (x : V4) : V4 := (k * x.1, k * x.2.1, k * x.2.2.1, k * x.2.2.2)
def v0 : V4 := (0, 0, 0, 0)
def vM (a b : Int) (x y : V4) : V4 := (x.1 * y.1 + a * x.2.1 * y.2.1 + b * x.2.2.1 * y.2.2.1 - a * b * x.2.2.2 * y.2.2.2, x.1 * y.2.1 + x.2.1 * y.1 + b * (x.2.2.2 * y.2.2.1 - x.2.2.1 * y.2.2.2), x.1 * y.2.2.1 + x.2.2.1 * y.1 + a * (x.2.1 * y.2.2.2 - x.2.2.2 * y.2.1), x.1 * y.2.2.2 + x.2.2.2 * y.1 + x.2.1 * y.2.2.1 - x.2.2.1 * y.2.1)
def vN (a b : Int) (x : V4) : Int := x.1 * x.1 - a * x.2.1 * x.2.1 - b * x.2.2.1 * x.2.2.1 + a * b * x.2.2.2 * x.2.2.2
def vE : Nat → V4
  | 0 => (1, 0, 0, 0)
  | 1 => (0, 1, 0, 0)
  | 2 => (0, 0, 1, 0)
  | _ => (0, 0, 0, 1)
/-- sets of fours over a number, with their sums -/
def Grp (S : V4 → Int → Prop) : Prop := (∀ M, 0 < M → S v0 M) ∧ (∀ x y M, 0 < M → S x M → S y M → S (vA x y) M) ∧ (∀ k x M, 0 < M → S x M → S (vS k x) M) ∧ ∀ k x M, 0 < M → 0 < k → (S (vS k x) (k * M) ↔ S x M)
def Clo (a b : Int) (S : V4 → Int → Prop) : Prop := ∀ x y M N, 0 < M → 0 < N → S x M → S y N → S (vM a b x y) (M * N)
def Who (a b : Int) (S : V4 → Int → Prop) : Prop := ∀ x M, 0 < M → S x M → M ∣ 2 * x.1 ∧ M * M ∣ vN a b x
def Uni (S : V4 → Int → Prop) : Prop := ∀ i, i < 4 → S (vE i) 1
/-- all whole sums of four rows -/
def vC (E : Nat → V4) (c : V4) : V4 := vA (vS c.1 (E 0)) (vA (vS c.2.1 (E 1)) (vA (vS c.2.2.1 (E 2)) (vS c.2.2.2 (E 3))))
def latS (M : Int) (E : Nat → V4) : V4 → Int → Prop := fun x N => ∃ c : V4, vS M x = vS N (vC E c)
def Tri (E : Nat → V4) : Prop := 0 < (E 0).1 ∧ (E 1).1 = 0 ∧ 0 < (E 1).2.1 ∧ (E 2).1 = 0 ∧ (E 2).2.1 = 0 ∧ 0 < (E 2).2.2.1 ∧ (E 3).1 = 0 ∧ (E 3).2.1 = 0 ∧ (E 3).2.2.1 = 0 ∧ 0 < (E 3).2.2.2
def Red (E : Nat → V4) : Prop := (0 ≤ (E 0).2.1 ∧ (E 0).2.1 < (E 1).2.1) ∧ (0 ≤ (E 0).2.2.1 ∧ (E 0).2.2.1 < (E 2).2.2.1) ∧ (0 ≤ (E 0).2.2.2 ∧ (E 0).2.2.2 < (E 3).2.2.2) ∧ (0 ≤ (E 1).2.2.1 ∧ (E 1).2.2.1 < (E 2).2.2.1) ∧ (0 ≤ (E 1).2.2.2 ∧ (E 1).2.2.2 < (E 3).2.2.2) ∧ 0 ≤ (E 2).2.2.2 ∧ (E 2).2.2.2 < (E 3).2.2.2
/-- in lowest terms: what divides all is 1 -/
def Low (M : Int) (E : Nat → V4) : Prop := ∀ d : Int, 0 < d → d ∣ M → (∀ i, i < 4 → d ∣ (E i).1 ∧ d ∣ (E i).2.1 ∧ d ∣ (E i).2.2.1 ∧ d ∣ (E i).2.2.2) → d = 1
def Ord (a b M : Int) (E : Nat → V4) : Prop := 0 < M ∧ Tri E ∧ Red E ∧ Low M E ∧ Clo a b (latS M E) ∧ Who a b (latS M E) ∧ Uni (latS M E)
/-! LOCAL INDEXES -/
def sqm (u p : Int) : Prop := ∃ x : Int, 0 ≤ x ∧ x < p ∧ x * x % p = u % p
noncomputable def locQ (a b p : Int) : Int :=
  if p = 0 then (if a < 0 ∧ b < 0 then 3 else 0)
  else if p = 2 then 3 * ((((if 2 ∣ a then a / 2 else a) - 1) / 2 * (((if 2 ∣ b then b / 2 else b) - 1) / 2) + (if 2 ∣ a then 1 else 0) * ((((if 2 ∣ b then b / 2 else b)) * ((if 2 ∣ b then b / 2 else b)) - 1) / 8) + (if 2 ∣ b then 1 else 0) * ((((if 2 ∣ a then a / 2 else a)) * ((if 2 ∣ a then a / 2 else a)) - 1) / 8)) % 2)
  else 3 * ((b2 (p ∣ a ∧ p ∣ b ∧ (p - 1) / 2 % 2 = 1) + b2 (p ∣ b ∧ ¬ sqm (if p ∣ a then a / p else a) p) + b2 (p ∣ a ∧ ¬ sqm (if p ∣ b then b / p else b) p)) % 2)
/-- how often p is in n (n below 1024) -/
def ordF : Nat → Int → Int → Int
  | 0, _, _ => 0
  | f + 1, p, n => if n % p = 0 then ordF f p (n / p) + 1 else 0
def genQ (q : Int) : Int := if q = 7 ∨ q = 31 ∨ q = 43 then 3 else 2
/-- the least k with g ^ k like x -/
def dlgF (q g x : Int) : Nat → Int → Int → Int
  | 0, k, _ => k
  | f + 1, k, y => if y = x then k else dlgF q g x f (k + 1) (y * g % q)
def dlg (q x : Int) : Int := dlgF q (genQ q) (x % q) 44 0 1
noncomputable def locC1 (q b p : Int) : Int := 2 * ((ordF 10 p b * dlg q p) % 3)
noncomputable def sumN (f : Nat → Int) : Nat → Int
  | 0 => 0
  | n + 1 => sumN f n + f n
noncomputable def locC (q b p : Int) : Int := if p = 0 then 0 else if p = q then (-(sumN (fun o => b2 (prm o ∧ (o : Int) ≠ q ∧ (o : Int) ∣ b) * locC1 q b o) 1000)) % 6 else locC1 q b p
noncomputable def locF (K F S G P : Nat → Int) : Nat → Nat → Int → Int
  | 0, _, _ => 0
  | d + 1, k, p => if K k = 0 then locQ (F k) (S k) p else if K k = 1 then locC (F k) (S k) p else sumN (fun i => G (4 * k + i) * locF K F S G P d (P (4 * k + i)).toNat p) (F k).toNat % 6
/-- the LOCAL INDEX, of what the reference's rows tell -/
noncomputable def loc (σ : mSt) (k : Nat) (p : Int) : Int := locF (σ 257) (σ 258) (σ 259) (σ 260) (σ 261) 9 k p
def place (p : Int) : Prop := p = 0 ∨ (prm p ∧ p < 1000)
/-! THE INVARIANT -/
def spellF (σ : mSt) (r : Nat) : Nat → Int
  | 0 => 0
  | n + 1 => 32 * spellF σ r n + (σ r n - 96)
def sqf (a : Int) : Prop := ∀ k : Int, 2 ≤ k → k < 8 → a % (k * k) ≠ 0
def iTape (σ : mSt) (t : Nat) : Prop := t ≤ 600 ∧ σ 0 1 = (t : Int) ∧ σ 253 2 = (t : Int) ∧ ∀ k, k < t → σ 1 k = σ 254 k ∧ -128 ≤ σ 1 k ∧ σ 1 k < 128
/-- one ALGEBRA: book at B, the reference's rows from o -/
def iAlg (σ : mSt) (B o k : Nat) : Prop :=
  σ (B + 1) k = σ 257 (o + k) ∧ σ (B + 2) k = σ 258 (o + k) ∧ σ (B + 3) k = σ 259 (o + k) ∧
  (∃ n : Nat, 1 ≤ n ∧ n ≤ 10 ∧ σ (B + 4) k = (n : Int) ∧ (∀ i, i < n → 97 ≤ σ (B + 6 + k) i ∧ σ (B + 6 + k) i ≤ 122) ∧ σ 256 (o + k) = spellF σ (B + 6 + k) n) ∧
  ((σ 257 (o + k) = 0 ∧ (σ 258 (o + k) ≠ 0 ∧ -60 ≤ σ 258 (o + k) ∧ σ 258 (o + k) ≤ 60 ∧ sqf (σ 258 (o + k))) ∧ (σ 259 (o + k) ≠ 0 ∧ -60 ≤ σ 259 (o + k) ∧ σ 259 (o + k) ≤ 60 ∧ sqf (σ 259 (o + k)))) ∨
   (σ 257 (o + k) = 1 ∧ (σ 258 (o + k) = 7 ∨ σ 258 (o + k) = 13 ∨ σ 258 (o + k) = 19 ∨ σ 258 (o + k) = 31 ∨ σ 258 (o + k) = 37 ∨ σ 258 (o + k) = 43) ∧ σ 259 (o + k) ≠ 0 ∧ -999 ≤ σ 259 (o + k) ∧ σ 259 (o + k) ≤ 999) ∨
   (σ 257 (o + k) = 2 ∧ σ 259 (o + k) = 0 ∧ 1 ≤ σ 258 (o + k) ∧ σ 258 (o + k) ≤ 4 ∧ ∀ i : Nat, (i : Int) < σ 258 (o + k) → σ (B + 15 + k) i = σ 261 (4 * (o + k) + i) ∧ σ (B + 24 + k) i = σ 260 (4 * (o + k) + i) ∧ (σ 260 (4 * (o + k) + i) = 1 ∨ σ 260 (4 * (o + k) + i) = -1) ∧ 0 ≤ σ 261 (4 * (o + k) + i) ∧ σ 261 (4 * (o + k) + i) < (k : Int)))
def iBook (σ : mSt) (B n : Nat) : Prop := (B = 37 ∨ B = 69) ∧ n ≤ 8 ∧ σ 0 3 = (B : Int) ∧ σ 0 4 = 106 - (B : Int) ∧ σ B 0 = (n : Int) ∧ σ 255 0 = (n : Int) ∧ ∀ k, k < n → iAlg σ B 0 k
def iPlaces (σ : mSt) (n s : Nat) : Prop := s ≤ 64 ∧ σ 101 0 = (s : Int) ∧ (∀ i j, i < j → j < s → σ 102 i < σ 102 j) ∧ (∀ i, i < s → place (σ 102 i)) ∧ (∀ k i, k < n → i < s → σ (104 + k) i = loc σ k (σ 102 i)) ∧ ∀ k p, k < n → place p → (∀ i, i < s → σ 102 i ≠ p) → loc σ k p = 0
/-- one ELEMENT that is kept -/
def iEl (σ : mSt) (n k : Nat) : Prop := σ (165 + 2 * k) 2 = σ 262 k ∧ 0 ≤ σ 262 k ∧ σ 262 k < (n : Int) ∧ σ 257 (σ 262 k).toNat = 0 ∧ (∀ i, i < 4 → σ (166 + 2 * k) i = σ 263 (5 * k + i) ∧ -1000000 ≤ σ 263 (5 * k + i) ∧ σ 263 (5 * k + i) ≤ 1000000) ∧ σ (165 + 2 * k) 1 = σ 263 (5 * k + 4) ∧ 1 ≤ σ 263 (5 * k + 4) ∧ σ 263 (5 * k + 4) ≤ 1000000
def bits (σ : mSt) : Nat → Int
  | 0 => 0
  | k + 1 => bits σ k + (if σ (165 + 2 * k) 2 = -1 then 0 else 2 ^ k)
def iEls (σ : mSt) (n : Nat) : Prop := σ 253 21 = bits σ 8 ∧ ∀ k, k < 8 → σ (165 + 2 * k) 2 ≠ -1 → iEl σ n k
def rowV (σ : mSt) (r : Nat) : V4 := (σ r 0, σ r 1, σ r 2, σ r 3)
def rowL (σ : mSt) (l r : Nat) : V4 := if 4 ≤ r then v0 else (σ 269 (16 * l + 4 * r), σ 269 (16 * l + 4 * r + 1), σ 269 (16 * l + 4 * r + 2), σ 269 (16 * l + 4 * r + 3))
/-- one ORDER -/
def iOrd (σ : mSt) (k : Nat) : Prop := σ (181 + 9 * k) 0 = σ 258 k ∧ σ (181 + 9 * k) 1 = σ 259 k ∧ σ (182 + 9 * k) 2 = σ 270 k ∧ σ 271 k = σ 270 k ∧ (∀ r, r < 4 → rowV σ (184 + 9 * k + r) = rowL σ k r) ∧ Ord (σ 258 k) (σ 259 k) (σ 270 k) (rowL σ k)
def iOrds (σ : mSt) (n : Nat) : Prop := (∀ k, k < n → σ 257 k = 0 → iOrd σ k) ∧ ((σ 114 3 = 124 ∧ σ 114 4 = 131) ∨ (σ 114 3 = 131 ∧ σ 114 4 = 124))
def Inv (σ : mSt) : Prop := Lay σ ∧ (σ 253 11 = 0 ∧ ∀ j, j < 4 → σ 139 j = 0) ∧ ∃ t B n s : Nat, iTape σ t ∧ iBook σ B n ∧ iPlaces σ n s ∧ iEls σ n ∧ iOrds σ n

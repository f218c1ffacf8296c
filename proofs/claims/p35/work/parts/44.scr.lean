/-! the class side of scr -/
def sObj (i : Nat) : Prop := i = 2 ∨ i = 3 ∨ (115 ≤ i ∧ i ≤ 164 ∧ i ≠ 139) ∨ (264 ≤ i ∧ i ≤ 268) ∨ (272 ≤ i ∧ i ≤ 275) ∨ (188 ≤ i ∧ i ≤ 252 ∧ (i % 9 = 8 ∨ i % 9 = 0))
def sSlot (i k : Nat) : Prop := (i = 253 ∧ (k = 0 ∨ (3 ≤ k ∧ k ≤ 10) ∨ k = 19 ∨ k = 20 ∨ k = 34 ∨ k = 35)) ∨ (i = 114 ∧ k < 3) ∨ (i = 269 ∧ 128 ≤ k) ∨ (i = 270 ∧ 8 ≤ k) ∨ (i = 271 ∧ 8 ≤ k)
def scr (i k : Nat) : Prop := fixR i k = false ∧ (sObj i ∨ sSlot i k)
theorem frm.obj {σ σ' : mSt} (h : frm scr σ σ') (i : Nat) (hi : ¬ sObj i) (h2 : i ≠ 253 ∧ i ≠ 114 ∧ i ≠ 269 ∧ i ≠ 270 ∧ i ≠ 271) : σ' i = σ i := by
  funext k
  refine h i k (fun z => ?_)
  rcases z.2 with z | z
  · exact hi z
  · unfold sSlot at z; omega
theorem spellF_congr {σ σ' : mSt} {r : Nat} (h : σ' r = σ r) (n : Nat) : spellF σ' r n = spellF σ r n := by
  induction n with
  | zero => rfl
  | succ n ih => show 32 * spellF σ' r n + (σ' r n - 96) = _; rw [ih, h]; rfl
theorem loc_congr {σ σ' : mSt} (h : ∀ i, 257 ≤ i → i ≤ 261 → σ' i = σ i) (k : Nat) (p : Int) : loc σ' k p = loc σ k p := by
  unfold loc
  rw [h 257 (by omega) (by omega), h 258 (by omega) (by omega), h 259 (by omega) (by omega), h 260 (by omega) (by omega), h 261 (by omega) (by omega)]
theorem iAlg_congr {σ σ' : mSt} {B o k : Nat} (h1 : ∀ i, B ≤ i → i < B + 32 → σ' i = σ i) (h2 : ∀ i, 257 ≤ i → i ≤ 261 → σ' i = σ i) (hk : k < 8) (h : iAlg σ B o k) : iAlg σ' B o k := by
  unfold iAlg at h ⊢
  rw [h1 (B + 1) (by omega) (by omega), h1 (B + 2) (by omega) (by omega), h1 (B + 3) (by omega) (by omega), h1 (B + 15 + k) (by omega) (by omega), h1 (B + 24 + k) (by omega) (by omega), h2 257 (by omega) (by omega), h2 258 (by omega) (by omega), h2 259 (by omega) (by omega), h2 260 (by omega) (by omega), h2 261 (by omega) (by omega)]
  exact h
def tapeW (i k : Nat) : Prop := i = 1 ∨ i = 254 ∨ (i = 0 ∧ k = 1) ∨ (i = 253 ∧ k = 2)
def scr2 (i k : Nat) : Prop := scr i k ∨ tapeW i k
theorem frm.obj2 {σ σ' : mSt} (h : frm scr2 σ σ') (i : Nat) (hi : ¬ sObj i) (h2 : i ≠ 253 ∧ i ≠ 114 ∧ i ≠ 269 ∧ i ≠ 270 ∧ i ≠ 271 ∧ i ≠ 0 ∧ i ≠ 1 ∧ i ≠ 254) : σ' i = σ i := by
  funext k
  refine h i k (fun z => ?_)
  rcases z with z | z
  · rcases z.2 with z | z
    · exact hi z
    · unfold sSlot at z; omega
  · unfold tapeW at z; omega

/-! four numbers of an array, as one; products -/
def stV (σ : mSt) (r : Nat) (v : V4) : mSt := st4 σ r v.1 v.2.1 v.2.2.1 v.2.2.2
theorem stV_ne (σ : mSt) (r : Nat) (v : V4) (i j : Nat) (h : i ≠ r) : stV σ r v i j = σ i j := st4_at h
theorem stV_row (σ : mSt) (r : Nat) (v : V4) (i : Nat) (h : i ≠ r) : stV σ r v i = σ i := funext fun j => stV_ne σ r v i j h
theorem stV_0 (σ : mSt) (r : Nat) (v : V4) : stV σ r v r 0 = v.1 ∧ stV σ r v r 1 = v.2.1 ∧ stV σ r v r 2 = v.2.2.1 ∧ stV σ r v r 3 = v.2.2.2 := st4_0
theorem stV_hi (σ : mSt) (r : Nat) (v : V4) (i j : Nat) (h : 4 ≤ j) : stV σ r v i j = σ i j := by
  unfold stV st4
  rw [upS_ne (by omega), upS_ne (by omega), upS_ne (by omega), upS_ne (by omega)]
theorem rowV_stV (σ : mSt) (r : Nat) (v : V4) : rowV (stV σ r v) r = v := by
  obtain ⟨h0, h1, h2, h3⟩ := stV_0 σ r v
  unfold rowV
  rw [h0, h1, h2, h3]
theorem rowV_ne (σ : mSt) (r : Nat) (v : V4) (i : Nat) (h : i ≠ r) : rowV (stV σ r v) i = rowV σ i := by
  unfold rowV
  rw [stV_row σ r v i h]
theorem rowV_up (σ : mSt) (r k : Nat) (v : Int) (i : Nat) (h : i ≠ r) : rowV (upS σ r k v) i = rowV σ i := by
  unfold rowV
  rw [upS_row h]
theorem stV_fold (σ : mSt) (r : Nat) (a b c d : Int) : upS (upS (upS (upS σ r 0 a) r 1 b) r 2 c) r 3 d = stV σ r (a, b, c, d) := rfl
theorem frm.stV {W : Nat → Nat → Prop} {σ σ' : mSt} {r : Nat} {v : V4} (h : frm W σ σ') (hW : ∀ j, W r j) : frm W σ (stV σ' r v) :=
  frm.put (frm.put (frm.put (frm.put h (hW 0)) (hW 1)) (hW 2)) (hW 3)
theorem multiply_e {σ : mSt} {a b : Int} {x y z : Nat} (hx : shp x = (21, 4)) (hy : shp y = (21, 4)) (hz : shp z = (21, 4)) (h1 : x ≠ z) (h2 : y ≠ z) : mX1_multiply a b x y z σ = some (0, stV σ z (vM a b (rowV σ x) (rowV σ y))) := by
  unfold mX1_multiply
  simp (disch := omega) only [gx hx, gx hy, gx hz, bnd_eq, up_ne]
  rfl
theorem multiplies_e {τ : mSt} {a b : Int} (l25 : τ 253 25 = ((265 : Nat) : Int)) (l26 : τ 253 26 = ((266 : Nat) : Int)) (l27 : τ 253 27 = ((267 : Nat) : Int)) : mX12_multiplies 253 a b τ = some (0, stV τ 267 (vM a b (rowV τ 265) (rowV τ 266))) := by
  have e : ∀ x y : V4, vM a b x y = (x.1 * y.1 + a * x.2.1 * y.2.1 + b * x.2.2.1 * y.2.2.1 - a * b * x.2.2.2 * y.2.2.2, x.1 * y.2.1 + x.2.1 * y.1 - b * x.2.2.1 * y.2.2.2 + b * x.2.2.2 * y.2.2.1, x.1 * y.2.2.1 + x.2.2.1 * y.1 + a * x.2.1 * y.2.2.2 - a * x.2.2.2 * y.2.1, x.1 * y.2.2.2 + x.2.2.2 * y.1 + x.2.1 * y.2.2.1 - x.2.2.1 * y.2.1) := by
    intro x y
    unfold vM
    simp only [Prod.mk.injEq]
    refine ⟨trivial, ?_, ?_, trivial⟩ <;> grind
  unfold mX12_multiplies
  simp (disch := omega) only [gc253, l25, l26, l27, gr, gx265, gx266, gx267, bnd_eq, up_ne]
  rw [e]
  rfl
def elV (τ : mSt) (k : Nat) : V4 := (τ 263 (5 * k), τ 263 (5 * k + 1), τ 263 (5 * k + 2), τ 263 (5 * k + 3))
theorem elV_up (σ : mSt) (i j k : Nat) (v : Int) (h : i ≠ 263) : elV (upS σ i j v) k = elV σ k := by
  unfold elV
  rw [upS_row (by omega)]
theorem elV_stV (σ : mSt) (i k : Nat) (v : V4) (h : i ≠ 263) : elV (stV σ i v) k = elV σ k := by
  unfold elV
  rw [stV_row _ _ _ _ (by omega)]
theorem part_e {τ : mSt} {k : Nat} {i : Int} (l : τ 253 23 = ((263 : Nat) : Int)) (h : k < 8 ∧ 0 ≤ i ∧ i < 5) : mX12_part 253 (k : Int) i τ = some (τ 263 (5 * k + i.toNat), τ) := by
  have := part_r l h.1 (i := i.toNat) (by omega)
  rw [show ((i.toNat : Nat) : Int) = i by omega] at this
  exact this
theorem mF5 : ∃ f, mF = f + 6 := ⟨999999999994, rfl⟩
theorem cLtF {a b : Int} (h : ¬ a < b) : (a < b) = False := eq_false h
theorem cLtT {a b : Int} (h : a < b) : (a < b) = True := eq_true h
theorem cLeF {a b : Int} (h : ¬ a ≤ b) : (a ≤ b) = False := eq_false h
theorem cLeT {a b : Int} (h : a ≤ b) : (a ≤ b) = True := eq_true h
theorem cEqF {a b : Int} (h : ¬ a = b) : (a = b) = False := eq_false h
theorem cEqT {a b : Int} (h : a = b) : (a = b) = True := eq_true h
theorem takesOne_e {τ : mSt} {k : Nat} (hk : k < 8) (l23 : τ 253 23 = ((263 : Nat) : Int)) (l25 : τ 253 25 = ((265 : Nat) : Int)) : mX12_takesOne 253 (k : Int) τ = some (0, stV τ 265 (elV τ k)) := by
  obtain ⟨f, hf⟩ := mF5
  unfold mX12_takesOne
  rw [hf]
  rw [gc253]
  repeat (rw [mX12_takesOne_L2.eq_2]; simp (disch := first | omega | (simp (disch := omega) only [up_ne, stV_ne, upS_same, l23, l25] <;> omega)) only [wI_id, l25, gr, part_e, mCall_some, gx265, bnd_eq, up_ne, Int.reduceLE, ↓reduceIte, Int.reduceAdd, Int.reduceToNat, mX12_takesOne_B25])
  rfl
theorem takesOther_e {τ : mSt} {k : Nat} (hk : k < 8) (l23 : τ 253 23 = ((263 : Nat) : Int)) (l26 : τ 253 26 = ((266 : Nat) : Int)) : mX12_takesOther 253 (k : Int) τ = some (0, stV τ 266 (elV τ k)) := by
  obtain ⟨f, hf⟩ := mF5
  unfold mX12_takesOther
  rw [hf]
  rw [gc253]
  repeat (rw [mX12_takesOther_L2.eq_2]; simp (disch := first | omega | (simp (disch := omega) only [up_ne, stV_ne, upS_same, l23, l26] <;> omega)) only [wI_id, l26, gr, part_e, mCall_some, gx266, bnd_eq, up_ne, Int.reduceLE, ↓reduceIte, Int.reduceAdd, Int.reduceToNat, mX12_takesOther_B25])
  rfl
theorem scrD (i j : Nat) (h : (264 ≤ i ∧ i ≤ 268) ∨ (272 ≤ i ∧ i ≤ 275)) : scr i j := by
  refine ⟨fixR_data ?_ j, Or.inl (by unfold sObj; omega)⟩
  rcases (show i = 264 ∨ i = 265 ∨ i = 266 ∨ i = 267 ∨ i = 268 ∨ i = 272 ∨ i = 273 ∨ i = 274 ∨ i = 275 by omega) with rfl | rfl | rfl | rfl | rfl | rfl | rfl | rfl | rfl <;> decide

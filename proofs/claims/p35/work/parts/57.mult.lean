/-! the class side of mult -/
def stV (σ : mSt) (r : Nat) (v : V4) : mSt := st4 σ r v.1 v.2.1 v.2.2.1 v.2.2.2
theorem stV_ne (σ : mSt) (r : Nat) (v : V4) (i j : Nat) (h : i ≠ r) : stV σ r v i j = σ i j := st4_at h
theorem frm.stV {W : Nat → Nat → Prop} {σ σ' : mSt} {r : Nat} {v : V4} (h : frm W σ σ') (hW : ∀ j, W r j) : frm W σ (stV σ' r v) :=
  frm.put (frm.put (frm.put (frm.put h (hW 0)) (hW 1)) (hW 2)) (hW 3)
theorem mF5 : ∃ f, mF = f + 6 := ⟨999999999994, rfl⟩
theorem cLtF {a b : Int} (h : ¬ a < b) : (a < b) = False := eq_false h
theorem cLtT {a b : Int} (h : a < b) : (a < b) = True := eq_true h
theorem cLeF {a b : Int} (h : ¬ a ≤ b) : (a ≤ b) = False := eq_false h
theorem cLeT {a b : Int} (h : a ≤ b) : (a ≤ b) = True := eq_true h
theorem cEqF {a b : Int} (h : ¬ a = b) : (a = b) = False := eq_false h
theorem cEqT {a b : Int} (h : a = b) : (a = b) = True := eq_true h

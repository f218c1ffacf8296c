/-! the class side of steps -/
theorem gx {r κ n : Nat} (h : shp r = (κ, n)) {α : Type} {j : Int} {inst : Decidable (ixOK r κ j)} (o : Option α) (h2 : 0 ≤ j ∧ j < (n : Int) ∧ n ≤ 1000) : @mG α (ixOK r κ j) inst o = o := by
  unfold mG
  rw [if_pos (ixOK_of h h2.1 h2.2.1 h2.2.2)]
theorem gc {r c n : Nat} (h : shp r = (c, n)) {α : Type} {inst : Decidable (isC r c)} (o : Option α) : @mG α (isC r c) inst o = o := by
  unfold mG
  rw [if_pos (isC_of h)]
theorem gr {α : Type} (r : Nat) (f : Nat → Option α) (h : r ≠ 0) : mRef (r : Int) f = f r := mRef_e rfl h f
theorem up_ne (σ : mSt) (i k a b : Nat) (v : Int) (h : ¬ (a = i ∧ b = k)) : upS σ i k v a b = σ a b := upS_ne h
theorem lay0 {σ : mSt} (h : Lay σ) : σ 0 0 = ((1 : Nat) : Int) ∧ σ 0 2 = ((2 : Nat) : Int) ∧ σ 0 5 = ((101 : Nat) : Int) ∧ σ 0 6 = ((112 : Nat) : Int) ∧ σ 0 7 = ((113 : Nat) : Int) ∧ σ 0 8 = ((114 : Nat) : Int) ∧ σ 0 9 = ((145 : Nat) : Int) ∧ σ 0 10 = ((146 : Nat) : Int) ∧ σ 0 11 = ((164 : Nat) : Int) := ⟨h.get 0 0 (by decide +kernel) (by decide +kernel), h.get 0 2 (by decide +kernel) (by decide +kernel), h.get 0 5 (by decide +kernel) (by decide +kernel), h.get 0 6 (by decide +kernel) (by decide +kernel), h.get 0 7 (by decide +kernel) (by decide +kernel), h.get 0 8 (by decide +kernel) (by decide +kernel), h.get 0 9 (by decide +kernel) (by decide +kernel), h.get 0 10 (by decide +kernel) (by decide +kernel), h.get 0 11 (by decide +kernel) (by decide +kernel)⟩
theorem gc0 {α : Type} {inst : Decidable (isC 0 10)} (o : Option α) : @mG α (isC 0 10) inst o = o := gc (n := 0) (by decide) o
theorem gc2 {α : Type} {inst : Decidable (isC 2 7)} (o : Option α) : @mG α (isC 2 7) inst o = o := gc (n := 0) (by decide) o
theorem gc3 {α : Type} {inst : Decidable (isC 3 9)} (o : Option α) : @mG α (isC 3 9) inst o = o := gc (n := 0) (by decide) o
theorem gc101 {α : Type} {inst : Decidable (isC 101 6)} (o : Option α) : @mG α (isC 101 6) inst o = o := gc (n := 0) (by decide) o
theorem gc145 {α : Type} {inst : Decidable (isC 145 8)} (o : Option α) : @mG α (isC 145 8) inst o = o := gc (n := 0) (by decide) o
theorem gx1 {α : Type} {j : Int} {inst : Decidable (ixOK 1 22 j)} (o : Option α) (h : 0 ≤ j ∧ j < 600) : @mG α (ixOK 1 22 j) inst o = o := gx (n := 600) (by decide) o ⟨h.1, by omega, by omega⟩
theorem gx102 {α : Type} {j : Int} {inst : Decidable (ixOK 102 20 j)} (o : Option α) (h : 0 ≤ j ∧ j < 64) : @mG α (ixOK 102 20 j) inst o = o := gx (n := 64) (by decide) o ⟨h.1, by omega, by omega⟩

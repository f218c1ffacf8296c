/-! the class side of lay -/
def mutR : List (Nat × Nat) := [(0, 3), (0, 4), (114, 0), (114, 3), (114, 4), (3, 0), (2, 1), (146, 0)]
def fixR (i k : Nat) : Bool := (decide (23 ≤ (shp i).1) && decide ((shp i).1 < 28)) || (decide ((shp i).1 < 12) && decide ((mFt (shp i).1).getD k 0 = 2) && !(mutR.contains (i, k)))
def Lay (σ : mSt) : Prop := ∀ i k, fixR i k = true → σ i k = mS0 i k
def frm (W : Nat → Nat → Prop) (σ σ' : mSt) : Prop := ∀ i k, ¬ W i k → σ' i k = σ i k
theorem Lay.get {σ : mSt} (h : Lay σ) (i k : Nat) {v : Int} (h1 : fixR i k = true) (h2 : mS0 i k = v) : σ i k = v := (h i k h1).trans h2
theorem frm.rf {W : Nat → Nat → Prop} (σ : mSt) : frm W σ σ := fun _ _ _ => rfl
theorem frm.tr {W V : Nat → Nat → Prop} {σ σ1 σ2 : mSt} (h1 : frm W σ σ1) (h2 : frm V σ1 σ2) (hV : ∀ i k, V i k → W i k) : frm W σ σ2 := fun i k h => (h2 i k (fun z => h (hV i k z))).trans (h1 i k h)
theorem frm.mono {W V : Nat → Nat → Prop} {σ σ' : mSt} (h : frm W σ σ') (hV : ∀ i k, W i k → V i k) : frm V σ σ' := fun i k z => h i k (fun q => z (hV i k q))
theorem frm.put {W : Nat → Nat → Prop} {σ σ' : mSt} {i k : Nat} {v : Int} (h : frm W σ σ') (hW : W i k) : frm W σ (upS σ' i k v) := fun a b z => (upS_ne (fun q => z (by rw [q.1, q.2]; exact hW))).trans (h a b z)
theorem frm.one {W : Nat → Nat → Prop} {σ : mSt} {i k : Nat} {v : Int} (hW : W i k) : frm W σ (upS σ i k v) := (frm.rf σ).put hW
theorem Lay.frm {W : Nat → Nat → Prop} {σ σ' : mSt} (h : Lay σ) (hf : frm W σ σ') (hW : ∀ i k, W i k → fixR i k = false) : Lay σ' := fun i k hk => (hf i k (fun z => by rw [hW i k z] at hk; cases hk)).trans (h i k hk)
theorem fixR_data {i : Nat} (h : (shp i).1 = 20 ∨ (shp i).1 = 21 ∨ (shp i).1 = 22 ∨ (shp i).1 = 99) (k : Nat) : fixR i k = false := by
  unfold fixR
  rcases h with h | h | h | h <;> rw [h] <;> simp
theorem mRef_e {α : Type} {x : Int} {r : Nat} (h : x = (r : Int)) (h0 : r ≠ 0) (f : Nat → Option α) : mRef x f = f r := by
  subst h
  unfold mRef
  rw [if_neg (by omega), Int.toNat_natCast]
theorem isC_of {r c n : Nat} (h : shp r = (c, n)) : isC r c := by
  show (shp r).1 = c
  rw [h]
theorem ixOK_of {r κ n : Nat} {j : Int} (h : shp r = (κ, n)) (h0 : 0 ≤ j) (h1 : j < (n : Int)) (hn : n ≤ 1000) : ixOK r κ j := by
  refine ⟨by rw [h], ?_⟩
  rw [wI_id (by omega), h]
  exact ⟨h0, h1⟩
theorem wB_rng (x : Int) : -128 ≤ wB x ∧ wB x < 128 := by
  unfold wB
  exact ⟨Int8.le_toInt _, Int8.toInt_lt _⟩
theorem putL_c {v : Int} {x : mSt → Option (Int × mSt)} {σ : mSt} {n t : Nat} {s : Int} {Q : Int → mSt → Prop} (h1 : σ 0 0 = 1) (h2 : σ 0 1 = (t : Int)) (ht : t < 600) (h0 : 0 ≤ s) (hs : s < 100) (k : mR (mX11_putBytes_L3 0 v x n (s + -8) (upS (upS σ 1 t (wB (oShr v s))) 0 1 ((t : Int) + 1))) Q) : mR (mX11_putBytes_L3 0 v x (n + 1) s σ) Q := by
  rw [mX11_putBytes_L3.eq_2]
  refine mR_neg (by rw [wI_id (by omega)]; omega) (mR_neg (by rw [h2, wI_id (by omega)]; omega) (mR_ref (r := 1) h1 (by decide) (mR_G (by rw [h2]; exact ixOK_of (n := 600) (by decide) (by omega) (by omega) (by omega)) (mR_G (wB_rng _) (mR_bnd (mR_bnd (mR_bnd ?_)))))))
  have e : upS σ 1 t (wB (oShr v s)) 0 1 = (t : Int) := by rw [upS_ne (by omega)]; exact h2
  rw [show (wI (σ 0 1)).toNat = t by rw [h2]; exact wI_nat (by omega), e]
  exact k
/-- four bytes of a number, at a place of an array; a size -/
def put4 (σ : mSt) (a o z t : Nat) (v : Int) : mSt := fun i k => if i = a ∧ t ≤ k ∧ k < t + 4 then wB (oShr v (24 - 8 * ((k : Int) - t))) else if i = o ∧ k = z then (t : Int) + 4 else σ i k
theorem put4_eq {σ : mSt} {a o z t : Nat} {v : Int} (h : a ≠ o) : upS (upS (upS (upS (upS (upS (upS (upS σ a t (wB (oShr v 24))) o z ((t : Int) + 1)) a (t + 1) (wB (oShr v 16))) o z ((t : Int) + 1 + 1)) a (t + 1 + 1) (wB (oShr v 8))) o z ((t : Int) + 1 + 1 + 1)) a (t + 1 + 1 + 1) (wB (oShr v 0))) o z ((t : Int) + 1 + 1 + 1 + 1) = put4 σ a o z t v := by
  funext i k
  simp only [upS, put4]
  by_cases h1 : i = o ∧ k = z
  · rw [if_pos h1, if_neg (by omega), if_pos h1]; omega
  · rw [if_neg h1, if_neg h1]
    by_cases h2 : i = a
    · by_cases k3 : k = t + 1 + 1 + 1
      · rw [if_pos ⟨h2, k3⟩, if_pos (by omega), show (24 : Int) - 8 * ((k : Int) - t) = 0 by omega]
      · rw [if_neg (by omega), if_neg h1]
        by_cases k2 : k = t + 1 + 1
        · rw [if_pos ⟨h2, k2⟩, if_pos (by omega), show (24 : Int) - 8 * ((k : Int) - t) = 8 by omega]
        · rw [if_neg (by omega), if_neg h1]
          by_cases k1 : k = t + 1
          · rw [if_pos ⟨h2, k1⟩, if_pos (by omega), show (24 : Int) - 8 * ((k : Int) - t) = 16 by omega]
          · rw [if_neg (by omega), if_neg h1]
            by_cases k0 : k = t
            · rw [if_pos ⟨h2, k0⟩, if_pos (by omega), show (24 : Int) - 8 * ((k : Int) - t) = 24 by omega]
            · rw [if_neg (by omega), if_neg (by omega)]
    · rw [if_neg (by omega), if_neg h1, if_neg (by omega), if_neg h1, if_neg (by omega), if_neg h1, if_neg (by omega), if_neg (by omega)]
theorem put_c {v : Int} {σ : mSt} {t : Nat} (h1 : σ 0 0 = 1) (h2 : σ 0 1 = (t : Int)) (ht : t + 4 ≤ 600) : mX11_putBytes 0 v σ = some (0, put4 σ 1 0 1 t v) := by
  refine mR_eq ?_
  unfold mX11_putBytes
  refine mR_G (by decide) ?_
  rw [show mF = 999999999995 + 1 + 1 + 1 + 1 + 1 from rfl]
  refine putL_c h1 h2 (by omega) (by omega) (by omega) ?_
  refine putL_c (t := t + 1) (by rw [upS_ne (by omega), upS_ne (by omega)]; exact h1) (by rw [upS_same]; omega) (by omega) (by omega) (by omega) ?_
  refine putL_c (t := t + 1 + 1) (by rw [upS_ne (by omega), upS_ne (by omega), upS_ne (by omega), upS_ne (by omega)]; exact h1) (by rw [upS_same]; omega) (by omega) (by omega) (by omega) ?_
  refine putL_c (t := t + 1 + 1 + 1) (by rw [upS_ne (by omega), upS_ne (by omega), upS_ne (by omega), upS_ne (by omega), upS_ne (by omega), upS_ne (by omega)]; exact h1) (by rw [upS_same]; omega) (by omega) (by omega) (by omega) ?_
  rw [mX11_putBytes_L3.eq_2]
  refine mR_pos (by rw [wI_id (by omega)]; omega) (mR_ret ⟨rfl, ?_⟩)
  exact put4_eq (a := 1) (o := 0) (z := 1) (by omega)

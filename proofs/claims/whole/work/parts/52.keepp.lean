theorem kpR_at {τ : mSt} {k : Nat} {al : Int} (i j : Nat) (h1 : i ≠ 264) (h2 : ¬ (i = 263 ∧ 5 * k ≤ j ∧ j < 5 * k + 5)) (h3 : ¬ (i = 253 ∧ j = 21)) (h4 : ¬ (i = 262 ∧ j = k)) : kpR τ k al i j = τ i j := by
  unfold kpR cpR dvR
  rw [upS_ne h4, upS_ne h3, if_neg h2, if_neg (by omega)]
theorem kpR_el {τ : mSt} {k i : Nat} {al : Int} (hi : i < 5) : kpR τ k al 263 (5 * k + i) = rq (τ 264) i := by
  unfold kpR cpR dvR
  rw [upS_ne (by omega), upS_ne (by omega), if_pos (by omega), if_pos (by omega), show 5 * k + i - 5 * k = i by omega]
theorem takS_at {σ : mSt} {e num : Nat} {al d : Int} (i j : Nat) (h1 : ¬ (i = e ∧ j = 1)) (h2 : ¬ (i = e ∧ j = 2)) (h3 : ¬ (i = num ∧ j < 4)) : takS σ e num al d i j = σ i j := by
  unfold takS stN
  rw [upS_ne h2, upS_ne h1, if_neg h3]
theorem keep_pair {σ0 σ : mSt} (h : Inv σ0) (hs : frm scr σ0 σ) {k : Nat} (hk : k < 8) {al d sg : Int} (hal : ∀ n : Nat, σ0 255 0 = (n : Int) → n ≤ 8 → 0 ≤ al ∧ al < (n : Int) ∧ σ0 257 al.toNat = 0) (hf : ∀ i, i < 4 → i62 (σ 164 i)) (hd : 0 < d ∧ d < 4611686018427387904) (hsg : sg = 1 ∨ sg = -1) :
    ∃ cc s, mX11_keep 0 (k : Int) al d σ = some (cc, s) ∧ (cc = 0 ∨ cc = -3) ∧ frm (fun i _ => i = 165 + 2 * k ∨ i = 166 + 2 * k) σ s ∧ ∀ τ, frm scr s τ → (∀ i, i < 4 → σ 164 i = sg * τ 264 i) → d = sg * τ 264 4 → ∃ τ', mX12_keeps 253 (k : Int) al τ = some (cc, τ') ∧ Inv τ' := by
  have hI := h
  have hL := (h.scr hs).1
  obtain ⟨l1, l2, l3, l4⟩ := el_lay hL k hk
  have keep : ∀ b s, mX1_take (165 + 2 * k) al 164 d σ = some (b, s) → i32 b → mX11_keep 0 (k : Int) al d σ = some ((if b = 0 then -3 else 0), s) := by
    intro b s e hb
    unfold mX11_keep
    refine mR_eq (mR_G (by decide) (mR_ref (r := 112) (hL.get 0 6 (by decide +kernel) (by decide +kernel)) (by omega) (mR_G (ixOK_of (n := 8) (by decide) (by omega) (by omega) (by omega)) ?_)))
    rw [wI_nat (by omega)]
    refine mR_ref l1 (by omega) (mR_ref (r := 164) (hL.get 0 11 (by decide +kernel) (by decide +kernel)) (by omega) (mR_callE e (mR_if (fun z => ?_) (fun z => ?_))))
    · rw [wI_id hb] at z
      exact mR_ret ⟨by rw [if_pos z], rfl⟩
    · rw [wI_id hb] at z
      exact mR_ret ⟨by rw [if_neg z], rfl⟩
  have g := gk_pos (f := σ 164) hd.1
  have i62c : ∀ {x y : Int}, i62 x → x = sg * y → i62 y := by
    intro x y hx e
    unfold i62 at hx ⊢
    rcases hsg with rfl | rfl <;> omega
  by_cases hfit : fitK (σ 164) d
  · refine ⟨0, takS σ (165 + 2 * k) (166 + 2 * k) al d, keep 1 _ (take_t l3 hf hd l2 l4 (by omega) (by omega) hfit) (by unfold i32; omega), Or.inl rfl, fun i j z => takS_at i j (by omega) (by omega) (by omega), fun τ hτ hc hc4 => ?_⟩
    obtain ⟨e4, e⟩ := rq_eq hsg hc hc4 hd.1
    have hL2 : Lay (takS σ (165 + 2 * k) (166 + 2 * k) al d) := hL.frm (W := fun i j => elW k i j) (fun i j z => takS_at i j (fun q => z (Or.inr (Or.inl ⟨q.1, by omega⟩))) (fun q => z (Or.inr (Or.inl ⟨q.1, by omega⟩))) (fun q => z (Or.inr (Or.inr (Or.inl q.1))))) (fun i j z => elW_fix hk z)
    have hLτ : Lay τ := hL2.frm hτ (fun i j z => z.1)
    refine ⟨kpR τ k al, keeps_t hk (hLτ.get _ _ (by decide +kernel) (by decide +kernel)) (hLτ.get _ _ (by decide +kernel) (by decide +kernel)) (hLτ.get _ _ (by decide +kernel) (by decide +kernel)) (fun i hi => ?_) ?_ ((fit_eq hsg hc hc4 hd.1).mpr hfit), ?_⟩
    · by_cases hi4 : i = 4
      · subst hi4
        exact i62c (x := d) (by unfold i62; omega) hc4
      · exact i62c (hf i (by omega)) (hc i (by omega))
    · rcases hsg with rfl | rfl <;> omega
    · sorry
  · refine ⟨-3, σ, keep 0 _ (take_f l3 hf hd hfit) (by unfold i32; omega), Or.inr rfl, frm.rf σ, fun τ hτ hc hc4 => ?_⟩
    have hIτ := (hI.scr hs).scr hτ
    refine ⟨dvR τ 5, keeps_f (hIτ.1.get _ _ (by decide +kernel) (by decide +kernel)) (fun i hi => ?_) ?_ (fun z => hfit ((fit_eq hsg hc hc4 hd.1).mp z)), hIτ.scr (fun i j z => ?_)⟩
    · by_cases hi4 : i = 4
      · subst hi4
        exact i62c (x := d) (by unfold i62; omega) hc4
      · exact i62c (hf i (by omega)) (hc i (by omega))
    · rcases hsg with rfl | rfl <;> omega
    · unfold dvR
      rw [if_neg (fun q => z (by rw [q.1]; exact ⟨fixR_data (by decide) _, Or.inl (by unfold sObj; omega)⟩))]

theorem kpR_at {τ : mSt} {k : Nat} {al : Int} (i j : Nat) (h1 : i ≠ 264) (h2 : ¬ (i = 263 ∧ 5 * k ≤ j ∧ j < 5 * k + 5)) (h3 : ¬ (i = 253 ∧ j = 21)) (h4 : ¬ (i = 262 ∧ j = k)) : kpR τ k al i j = τ i j := by
  unfold kpR cpR dvR
  rw [upS_ne h4, upS_ne h3, if_neg h2, if_neg (by omega)]
theorem kpR_el {τ : mSt} {k i : Nat} {al : Int} (hi : i < 5) : kpR τ k al 263 (5 * k + i) = rq (τ 264) i := by
  unfold kpR cpR dvR
  rw [upS_ne (by omega), upS_ne (by omega), if_pos (by omega), if_pos (by omega), show 5 * k + i - 5 * k = i by omega]
theorem takS_at {σ : mSt} {e num : Nat} {al d : Int} (i j : Nat) (h1 : ¬ (i = e ∧ j = 1)) (h2 : ¬ (i = e ∧ j = 2)) (h3 : ¬ (i = num ∧ j < 4)) : takS σ e num al d i j = σ i j := by
  unfold takS stN
  rw [upS_ne h2, upS_ne h1, if_neg h3]
theorem keep_pair {σ0 σ : mSt} (h : Inv σ0) (hs : frm scr σ0 σ) {k : Nat} (hk : k < 8) {al d sg : Int} (hal : ∀ n : Nat, σ0 255 0 = (n : Int) → n ≤ 8 → 0 ≤ al ∧ al < (n : Int) ∧ σ0 257 al.toNat = 0) (hf : ∀ i, i < 4 → i62 (σ 164 i)) (hd : 0 < d ∧ d < 4611686018427387904) (hsg : sg = 1 ∨ sg = -1) :
    ∃ cc s, mX11_keep 0 (k : Int) al d σ = some (cc, s) ∧ (cc = 0 ∨ cc = -3) ∧ Lay s ∧ frm (fun i _ => i = 165 + 2 * k ∨ i = 166 + 2 * k) σ s ∧ ∀ τ, frm scr s τ → (∀ i, i < 4 → σ 164 i = sg * τ 264 i) → d = sg * τ 264 4 → ∃ τ', mX12_keeps 253 (k : Int) al τ = some (cc, τ') ∧ Inv τ' := by
  have hI := h
  have hL := (h.scr hs).1
  obtain ⟨l1, l2, l3, l4⟩ := el_lay hL k hk
  have keep : ∀ b s, mX1_take (165 + 2 * k) al 164 d σ = some (b, s) → i32 b → mX11_keep 0 (k : Int) al d σ = some ((if b = 0 then -3 else 0), s) := by
    intro b s e hb
    unfold mX11_keep
    refine mR_eq (mR_G (by decide) (mR_ref (r := 112) (hL.get 0 6 (by decide +kernel) (by decide +kernel)) (by omega) (mR_G (ixOK_of (n := 8) (by decide) (by omega) (by omega) (by omega)) ?_)))
    rw [wI_nat (by omega)]
    refine mR_ref l1 (by omega) (mR_ref (r := 164) (hL.get 0 11 (by decide +kernel) (by decide +kernel)) (by omega) (mR_callE e (mR_if (fun z => ?_) (fun z => ?_))))
    · rw [wI_id hb] at z
      exact mR_ret ⟨by rw [if_pos z], rfl⟩
    · rw [wI_id hb] at z
      exact mR_ret ⟨by rw [if_neg z], rfl⟩
  have g := gk_pos (f := σ 164) hd.1
  have i62c : ∀ {x y : Int}, i62 x → x = sg * y → i62 y := by
    intro x y hx e
    unfold i62 at hx ⊢
    rcases hsg with rfl | rfl <;> omega
  by_cases hfit : fitK (σ 164) d
  · have hL2 : Lay (takS σ (165 + 2 * k) (166 + 2 * k) al d) := hL.frm (W := fun i j => elW k i j) (fun i j z => takS_at i j (fun q => z (Or.inr (Or.inl ⟨q.1, by omega⟩))) (fun q => z (Or.inr (Or.inl ⟨q.1, by omega⟩))) (fun q => z (Or.inr (Or.inr (Or.inl q.1))))) (fun i j z => elW_fix hk z)
    refine ⟨0, takS σ (165 + 2 * k) (166 + 2 * k) al d, keep 1 _ (take_t l3 hf hd l2 l4 (by omega) (by omega) hfit) (by unfold i32; omega), Or.inl rfl, hL2, fun i j z => takS_at i j (by omega) (by omega) (by omega), fun τ hτ hc hc4 => ?_⟩
    obtain ⟨e4, e⟩ := rq_eq hsg hc hc4 hd.1
    have hLτ : Lay τ := hL2.frm hτ (fun i j z => z.1)
    refine ⟨kpR τ k al, keeps_t hk (hLτ.get _ _ (by decide +kernel) (by decide +kernel)) (hLτ.get _ _ (by decide +kernel) (by decide +kernel)) (hLτ.get _ _ (by decide +kernel) (by decide +kernel)) (fun i hi => ?_) ?_ ((fit_eq hsg hc hc4 hd.1).mpr hfit), ?_⟩
    · by_cases hi4 : i = 4
      · subst hi4
        exact i62c (x := d) (by unfold i62; omega) hc4
      · exact i62c (hf i (by omega)) (hc i (by omega))
    · rcases hsg with rfl | rfl <;> omega
    · have ns : ∀ i j, ¬ sObj i → ¬ sSlot i j → ¬ scr i j := fun i j a b z => z.2.elim a b
      have fr : frm (elW k) σ0 (kpR τ k al) := fun i j z => by
        have z1 : ¬ scr i j := fun q => z (Or.inl q)
        have z2 : ¬ ((i = 165 + 2 * k ∧ j ≠ 0) ∨ i = 166 + 2 * k ∨ (i = 262 ∧ j = k) ∨ (i = 263 ∧ 5 * k ≤ j ∧ j < 5 * k + 5) ∨ (i = 253 ∧ j = 21)) := fun q => z (Or.inr q)
        rw [kpR_at i j (fun q => z1 (by rw [q]; exact ⟨fixR_data (by decide) _, Or.inl (by unfold sObj; omega)⟩)) (by omega) (by omega) (by omega), hτ i j z1, takS_at i j (by omega) (by omega) (by omega), hs i j z1]
      have a2 : kpR τ k al (165 + 2 * k) 2 = al := by
        rw [kpR_at _ _ (by omega) (by omega) (by omega) (by omega), hτ _ _ (ns _ _ (by unfold sObj; omega) (by unfold sSlot; omega))]
        exact upS_same _ _ _ _
      have a1 : kpR τ k al (165 + 2 * k) 1 = d / gk (σ 164) d := by
        rw [kpR_at _ _ (by omega) (by omega) (by omega) (by omega), hτ _ _ (ns _ _ (by unfold sObj; omega) (by unfold sSlot; omega))]
        unfold takS
        rw [upS_ne (by omega)]
        exact upS_same _ _ _ _
      have an : ∀ i, i < 4 → kpR τ k al (166 + 2 * k) i = σ 164 i / gk (σ 164) d := fun i hi => by
        rw [kpR_at _ _ (by omega) (by omega) (by omega) (by omega), hτ _ _ (ns _ _ (by unfold sObj; omega) (by unfold sSlot; omega))]
        unfold takS stN
        rw [upS_ne (by omega), upS_ne (by omega), if_pos ⟨rfl, hi⟩]
      have a262 : kpR τ k al 262 k = al := upS_same _ _ _ _
      have hfit2 := (fit_eq hsg hc hc4 hd.1).mpr hfit
      refine hI.el hk fr (fun n hn hn8 => ?_) ?_
      · obtain ⟨b1, b2, b3⟩ := hal n hn hn8
        refine ⟨a2.trans a262.symm, by rw [a262]; exact b1, by rw [a262]; exact b2, ?_, fun i hi => ⟨?_, ?_⟩, ?_, ?_, ?_⟩
        · rw [a262, fr 257 _ (by unfold elW scr sObj sSlot; omega)]
          exact b3
        · rw [an i hi, kpR_el (by omega), e i hi]
        · rw [kpR_el (by omega)]; exact hfit2 i (by omega)
        · rw [a1, kpR_el (by omega), e4]
        · rw [kpR_el (by omega), e4]
          have : 1 ≤ d / gk (σ 164) d := (Int.le_ediv_iff_mul_le g.1).mpr (by omega)
          exact this
        · rw [kpR_el (by omega)]; exact (hfit2 4 (by omega)).2
      · obtain ⟨x, x1, x2, x3⟩ := bits_rng σ0
        obtain ⟨y, y1, y2, y3⟩ := bits_rng (kpR τ k al)
        have hE : σ0 253 21 = bits σ0 8 := by
          obtain ⟨_, _, _, _, _, _, _, _, _, hE, _⟩ := hI
          exact hE.1
        have al0 : al ≠ -1 := by
          obtain ⟨_, _, _, _, n, _, _, hB, _⟩ := hI
          have := hal n hB.2.2.2.2.2.1 hB.2.1
          omega
        have ev : kpR τ k al 253 21 = oOr (τ 253 21) (oShl 1 (k : Int)) := by
          unfold kpR
          rw [upS_ne (by omega)]
          exact upS_same _ _ _ _
        have et : τ 253 21 = (x : Int) := by
          rw [hτ _ _ (ns _ _ (by unfold sObj; omega) (by unfold sSlot; omega)), takS_at _ _ (by omega) (by omega) (by omega), hs _ _ (ns _ _ (by unfold sObj; omega) (by unfold sSlot; omega)), hE, x2]
        have bo := bit_or ⟨x, x1⟩ ⟨k, hk⟩
        simp only at bo
        rw [ev, et, bo, y2]
        have dig : ∀ j, j < 8 → (y / 2 ^ j % 2 = 1 ↔ (j = k ∨ x / 2 ^ j % 2 = 1)) := by
          intro j hj
          rw [y3 j hj, x3 j hj]
          by_cases hjk : j = k
          · subst hjk
            rw [a2]
            exact ⟨fun _ => Or.inl rfl, fun _ => al0⟩
          · rw [fr (165 + 2 * j) 2 (by unfold elW scr sObj sSlot; omega)]
            exact ⟨fun z => Or.inr z, fun z => z.elim (fun z => absurd z hjk) id⟩
        have add : ∀ c : Fin 8, ∀ z : Fin 256, z.val / 2 ^ c.val % 2 ≠ 1 → (z.val + 2 ^ c.val < 256 ∧ ∀ j : Fin 8, ((z.val + 2 ^ c.val) / 2 ^ j.val % 2 = 1 ↔ (j.val = c.val ∨ z.val / 2 ^ j.val % 2 = 1))) := by decide +kernel
        by_cases hb : x / 2 ^ k % 2 = 1
        · rw [if_pos hb]
          have : y = x := bits_ext y1 x1 (fun j hj => by
            rw [dig j hj]
            exact ⟨fun z => z.elim (fun z => by rw [z]; exact hb) id, Or.inr⟩)
          rw [this]
        · rw [if_neg hb]
          obtain ⟨q1, q2⟩ := add ⟨k, hk⟩ ⟨x, x1⟩ hb
          simp only at q1
          have : y = x + 2 ^ k := bits_ext y1 q1 (fun j hj => by rw [dig j hj]; exact (q2 ⟨j, hj⟩).symm)
          rw [this]
          simp
  · refine ⟨-3, σ, keep 0 _ (take_f l3 hf hd hfit) (by unfold i32; omega), Or.inr rfl, hL, frm.rf σ, fun τ hτ hc hc4 => ?_⟩
    have hIτ := (hI.scr hs).scr hτ
    refine ⟨dvR τ 5, keeps_f (hIτ.1.get _ _ (by decide +kernel) (by decide +kernel)) (fun i hi => ?_) ?_ (fun z => hfit ((fit_eq hsg hc hc4 hd.1).mp z)), hIτ.scr (fun i j z => ?_)⟩
    · by_cases hi4 : i = 4
      · subst hi4
        exact i62c (x := d) (by unfold i62; omega) hc4
      · exact i62c (hf i (by omega)) (hc i (by omega))
    · rcases hsg with rfl | rfl <;> omega
    · unfold dvR
      rw [if_neg (fun q => z (by rw [q.1]; exact ⟨fixR_data (by decide) _, Or.inl (by unfold sObj; omega)⟩))]

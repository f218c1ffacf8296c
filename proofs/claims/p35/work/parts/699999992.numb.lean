/-! the class side of numb -/
noncomputable def nxt (w : Nat → Int) (n s : Nat) : Nat := skp w n (tE w n s)
theorem stepC {σ : mSt} {w : Nat → Int} {n s : Nat} (h : cA σ w n s) : ∃ σ', mX10_step 3 σ = some (0, σ') ∧ frm tkW σ σ' ∧ cA σ' w n (nxt w n s) := step_tc h.1 (tE_rng h.2.1).2.1 h.2.2.2.1
noncomputable def wS (w : Nat → Int) (n s : Nat) : Nat := if tC w n s = 4 then nxt w n s else s
noncomputable def wN (w : Nat → Int) (n s : Nat) : Int := nvF w (wS w n s) (tE w n (wS w n s) - wS w n s)
noncomputable def wV (w : Nat → Int) (n s : Nat) : Int := if tC w n s = 4 then -wN w n s else wN w n s
def okT (lim : Int) (w : Nat → Int) (n s : Nat) : Prop := tC w n (wS w n s) = 2 ∧ wN w n s ≠ 0 ∧ wN w n s ≤ lim
def cR (i j : Nat) : Prop := tkW i j ∨ (i = 2 ∧ (j = 2 ∨ j = 3))
theorem cR_fix {i j : Nat} (h : cR i j) : fixR i j = false := by
  rcases h with h | ⟨rfl, rfl | rfl⟩
  · exact tkW_fix h
  · decide +kernel
  · decide +kernel
theorem sfree_e {c : Int} {σ : mSt} (hc : 1 ≤ c ∧ c ≤ 60) : mX5_isSquareFree c σ = some (b2 (sqf c), σ) := by
  have L2 : ∀ (m k N : Nat), k + m = 8 → 2 ≤ k → m < N → (∀ q : Int, 2 ≤ q → q < k → c % (q * q) ≠ 0) → mX5_isSquareFree_L2 c (fun zσ => mX5_isSquareFree_B27 c zσ) N (k : Int) σ = some (b2 (sqf c), σ) := by
    intro m
    induction m with
    | zero =>
      intro k N h1 h2 h3 h4
      obtain ⟨N, rfl⟩ : ∃ z, N = z + 1 := ⟨N - 1, by omega⟩
      obtain rfl : k = 8 := by omega
      rw [mX5_isSquareFree_L2.eq_2, if_pos (by decide), b2_t (show sqf c from fun q q1 q2 => h4 q q1 (by omega))]
      rfl
    | succ m ih =>
      intro k N h1 h2 h3 h4
      obtain ⟨N, rfl⟩ : ∃ z, N = z + 1 := ⟨N - 1, by omega⟩
      have kk := mul_rng (x := (k : Int)) (y := (k : Int)) (A := 7) (B := 7) (by omega) (by omega) (by omega)
      have k0 : 0 < (k : Int) * k := Int.mul_pos (by omega) (by omega)
      have wk : wI ((k : Int) * k) = k * k := wI_id (x := (k : Int) * k) (by omega)
      have wl : wL ((k : Int) * k) = k * k := wL_id (x := (k : Int) * k) (by omega)
      have em := Int.emod_nonneg c (show (k : Int) * k ≠ 0 by omega)
      have em2 := Int.emod_lt_of_pos c k0
      rw [mX5_isSquareFree_L2.eq_2, if_neg (by rw [wI_id (x := (k : Int)) (by omega)]; omega), mG_pos (by rw [wk, wl]; omega), wk, wl, wL_id (x := c) (by omega), Int.tmod_eq_emod_of_nonneg (by omega), wL_id (x := c % ((k : Int) * k)) (by omega), bnd_eq, show (k : Int) + 1 = ((k + 1 : Nat) : Int) by omega]
      by_cases z : c % ((k : Int) * k) = 0
      · rw [if_pos z, b2_f (fun y => y k (by omega) (by omega) z)]
      · rw [if_neg z]
        refine ih (k + 1) N (by omega) (by omega) (by omega) (fun q q1 q2 => ?_)
        by_cases e : q = k
        · rw [e]; exact z
        · exact h4 q q1 (by omega)
  unfold mX5_isSquareFree
  exact L2 6 2 mF (by omega) (by omega) (by unfold mF; omega) (fun q q1 q2 => by omega)
theorem l20 {σ : mSt} (hL : Lay σ) : σ 2 0 = ((3 : Nat) : Int) := hL.get 2 0 (by decide +kernel) (by decide +kernel)
theorem whole_rd {σ : mSt} {w : Nat → Int} {n s : Nat} {lim sq : Int} (h : cA σ w n s) (hl : (lim = 60 ∧ sq = 1) ∨ (lim = 999 ∧ sq = 0)) : ∃ σ', frm cR σ σ' ∧ (((okT lim w n s ∧ (sq = 1 → sqf (wN w n s))) ∧ mX8_readWhole 2 lim sq σ = some (1, σ') ∧ cA σ' w n (nxt w n (wS w n s)) ∧ σ' 2 3 = wV w n s ∧ σ' 2 2 = σ 2 2) ∨ (¬ (okT lim w n s ∧ (sq = 1 → sqf (wN w n s))) ∧ mX8_readWhole 2 lim sq σ = some (0, σ') ∧ σ' 2 2 = 8 * (wS w n s : Int) + (if tC w n (wS w n s) = 2 then 4 else 1))) := by
  -- behind the sign
  have B20 : ∀ ρ v3, frm tkW σ ρ → cA ρ w n (wS w n s) → (v3 = 0 ∨ v3 = 1) → (v3 = 1 ↔ tC w n s = 4) → ∃ σ', frm cR σ σ' ∧ (((okT lim w n s ∧ (sq = 1 → sqf (wN w n s))) ∧ mX8_readWhole_B20 2 lim sq v3 ρ = some (1, σ') ∧ cA σ' w n (nxt w n (wS w n s)) ∧ σ' 2 3 = wV w n s ∧ σ' 2 2 = σ 2 2) ∨ (¬ (okT lim w n s ∧ (sq = 1 → sqf (wN w n s))) ∧ mX8_readWhole_B20 2 lim sq v3 ρ = some (0, σ') ∧ σ' 2 2 = 8 * (wS w n s : Int) + (if tC w n (wS w n s) = 2 then 4 else 1))) := by
    intro ρ v3 hf hA h01 hv3
    have hL := hA.1.1
    have f0 : frm cR σ ρ := hf.mono (fun i j z => Or.inl z)
    have ref : ∀ c, mX8_refuse 2 c ρ = some (0, upS ρ 2 2 (8 * (wS w n s : Int) + c)) ∧ frm cR σ (upS ρ 2 2 (8 * (wS w n s : Int) + c)) := fun c => ⟨refuse_c hA hL, f0.put (Or.inr ⟨rfl, Or.inl rfl⟩)⟩
    by_cases t2 : tC w n (wS w n s) = 2
    · obtain ⟨c, v1, v2⟩ := value_e hA t2
      have nr : nR c (wN w n s) := v2
      have head : ∀ o, (if wL c = 0 then (mX8_readWhole_B73 2 lim sq ρ) else if wL (wI lim) < wL c then (mX8_readWhole_B73 2 lim sq ρ) else if wI sq = 0 then (mX8_readWhole_B79 2 lim sq v3 c ρ) else mCall (mX5_isSquareFree c ρ) fun b28 s29 => if wI b28 = 0 then (mX8_readWhole_B73 2 lim sq s29) else mX8_readWhole_B79 2 lim sq v3 c s29) = o → mX8_readWhole_B20 2 lim sq v3 ρ = o := fun o z => by
        unfold mX8_readWhole_B20
        rw [gr' (l20 hL) (by omega), is_tc hA (by omega), mCall_some, if_neg (by rw [b2_t t2]; decide), gr' (l20 hL) (by omega), v1, mCall_some]
        exact z
      have B73 : mX8_readWhole_B73 2 lim sq ρ = some (0, upS ρ 2 2 (8 * (wS w n s : Int) + 4)) := by
        unfold mX8_readWhole_B73
        rw [(ref 4).1, mCall_some, mG_pos (by decide)]
      have bad : ¬ (okT lim w n s ∧ (sq = 1 → sqf (wN w n s))) → mX8_readWhole_B20 2 lim sq v3 ρ = some (0, upS ρ 2 2 (8 * (wS w n s : Int) + 4)) → ∃ σ', frm cR σ σ' ∧ (((okT lim w n s ∧ (sq = 1 → sqf (wN w n s))) ∧ mX8_readWhole_B20 2 lim sq v3 ρ = some (1, σ') ∧ cA σ' w n (nxt w n (wS w n s)) ∧ σ' 2 3 = wV w n s ∧ σ' 2 2 = σ 2 2) ∨ (¬ (okT lim w n s ∧ (sq = 1 → sqf (wN w n s))) ∧ mX8_readWhole_B20 2 lim sq v3 ρ = some (0, σ') ∧ σ' 2 2 = 8 * (wS w n s : Int) + (if tC w n (wS w n s) = 2 then 4 else 1))) := fun q e => ⟨_, (ref 4).2, Or.inr ⟨q, e, by rw [upS_same, if_pos t2]⟩⟩
      have cr : 0 ≤ c ∧ c ≤ 1000000 := by unfold nR at nr; omega
      have wc : wL c = c := wL_id (x := c) (by omega)
      have wlim : wL (wI lim) = lim := by
        rcases hl with ⟨rfl, -⟩ | ⟨rfl, -⟩ <;> decide
      have good : okT lim w n s → (sq = 1 → sqf (wN w n s)) → mX8_readWhole_B20 2 lim sq v3 ρ = mX8_readWhole_B79 2 lim sq v3 (wN w n s) ρ → ∃ σ', frm cR σ σ' ∧ (((okT lim w n s ∧ (sq = 1 → sqf (wN w n s))) ∧ mX8_readWhole_B20 2 lim sq v3 ρ = some (1, σ') ∧ cA σ' w n (nxt w n (wS w n s)) ∧ σ' 2 3 = wV w n s ∧ σ' 2 2 = σ 2 2) ∨ (¬ (okT lim w n s ∧ (sq = 1 → sqf (wN w n s))) ∧ mX8_readWhole_B20 2 lim sq v3 ρ = some (0, σ') ∧ σ' 2 2 = 8 * (wS w n s : Int) + (if tC w n (wS w n s) = 2 then 4 else 1))) := fun q1 q2 e => by
        obtain ⟨ρ1, hρ1⟩ : ∃ ρ1, ρ1 = upS ρ 2 3 (wV w n s) := ⟨_, rfl⟩
        have fr1 : frm cR ρ ρ1 := by rw [hρ1]; exact frm.one (Or.inr ⟨rfl, Or.inr rfl⟩)
        have L1 : Lay ρ1 := hL.frm fr1 (fun i j z => cR_fix z)
        have A1 : cA ρ1 w n (wS w n s) := cA_fr hA L1 (by rw [hρ1]; exact upS_row (by omega)) (by rw [hρ1]; exact upS_row (by omega))
        obtain ⟨ρ2, s1, s2, s3⟩ := stepC A1
        have b92 : ∀ v, v = wV w n s → mX8_readWhole_B92 2 lim sq 2 v ρ = some (1, ρ2) := fun v hv => by
          unfold mX8_readWhole_B92
          rw [gc2, hv, bnd_eq, ← hρ1, gr' (l20 L1) (by omega), s1, mCall_some]
        refine ⟨ρ2, (f0.tr fr1 (fun i j z => z)).tr s2 (fun i j z => Or.inl z), Or.inl ⟨⟨q1, q2⟩, ?_, s3, ?_, by rw [s2 _ _ (by unfold tkW; omega), hρ1, upS_ne (by omega), hf _ _ (by unfold tkW; omega)]⟩⟩
        · rw [e]
          unfold mX8_readWhole_B79
          rcases h01 with rfl | rfl
          · rw [if_pos (by decide)]
            exact b92 _ (by unfold wV; rw [if_neg (fun z => by have := hv3.mpr z; omega)])
          · rw [if_neg (by decide)]
            exact b92 _ (by unfold wV; rw [if_pos (hv3.mp rfl)])
        · rw [s2 _ _ (by unfold tkW; omega), hρ1, upS_same]
      by_cases z0 : wN w n s = 0
      · refine bad (fun q => q.1.2.1 z0) (head _ ?_)
        rw [if_pos (by rw [wc]; unfold nR at nr; omega), B73]
      · have c0 : ¬ c = 0 := by unfold nR at nr; omega
        by_cases zl : wN w n s ≤ lim
        · have cv : c = wN w n s := by
            unfold nR at nr
            rcases hl with ⟨rfl, -⟩ | ⟨rfl, -⟩ <;> omega
          have hh : ∀ o, (if wI sq = 0 then (mX8_readWhole_B79 2 lim sq v3 c ρ) else mCall (mX5_isSquareFree c ρ) fun b28 s29 => if wI b28 = 0 then (mX8_readWhole_B73 2 lim sq s29) else mX8_readWhole_B79 2 lim sq v3 c s29) = o → mX8_readWhole_B20 2 lim sq v3 ρ = o := fun o z => by
            refine head o ?_
            rw [if_neg (by rw [wc]; exact c0), if_neg (by rw [wc, wlim]; omega)]
            exact z
          rcases hl with ⟨rfl, rfl⟩ | ⟨rfl, rfl⟩
          · have sf := sfree_e (σ := ρ) (c := c) (by unfold nR at nr; omega)
            by_cases hs : sqf (wN w n s)
            · refine good ⟨t2, z0, zl⟩ (fun _ => hs) (hh _ ?_)
              rw [if_neg (by decide), sf, mCall_some, cv, b2_t hs, if_neg (by decide)]
            · refine bad (fun q => hs (q.2 rfl)) (hh _ ?_)
              rw [if_neg (by decide), sf, mCall_some, cv, b2_f hs, if_pos (by decide), B73]
          · refine good ⟨t2, z0, zl⟩ (fun q => by omega) (hh _ ?_)
            rw [if_pos (by decide), cv]
        · refine bad (fun q => zl q.1.2.2) (head _ ?_)
          rw [if_neg (by rw [wc]; exact c0), if_pos (by rw [wc, wlim]; unfold nR at nr; rcases hl with ⟨rfl, -⟩ | ⟨rfl, -⟩ <;> omega), B73]
    · refine ⟨_, (ref 1).2, Or.inr ⟨fun q => t2 q.1.1, ?_, by rw [upS_same, if_neg t2]⟩⟩
      unfold mX8_readWhole_B20
      rw [gr' (l20 hL) (by omega), is_tc hA (by omega), mCall_some, if_pos (by rw [b2_f t2]; decide), (ref 1).1, mCall_some, mG_pos (by decide)]
  have hL := h.1.1
  by_cases t4 : tC w n s = 4
  · obtain ⟨ρ, s1, s2, s3⟩ := stepC h
    have e : wS w n s = nxt w n s := by unfold wS; rw [if_pos t4]
    obtain ⟨σ', q1, q2⟩ := B20 ρ 1 s2 (by rw [e]; exact s3) (Or.inr rfl) ⟨fun _ => t4, fun _ => rfl⟩
    have hd : mX8_readWhole 2 lim sq σ = mX8_readWhole_B20 2 lim sq 1 ρ := by
      unfold mX8_readWhole
      rw [gc2, gr' (l20 hL) (by omega), is_tc h (by omega), mCall_some, b2_t t4, if_neg (by decide), gr' (l20 hL) (by omega), s1, mCall_some]
    rw [hd]
    exact ⟨σ', q1, q2⟩
  · have e : wS w n s = s := by unfold wS; rw [if_neg t4]
    obtain ⟨σ', q1, q2⟩ := B20 σ 0 (frm.rf σ) (by rw [e]; exact h) (Or.inl rfl) ⟨fun z => by omega, fun z => absurd z t4⟩
    have hd : mX8_readWhole 2 lim sq σ = mX8_readWhole_B20 2 lim sq 0 σ := by
      unfold mX8_readWhole
      rw [gc2, gr' (l20 hL) (by omega), is_tc h (by omega), mCall_some, b2_f t4, if_pos (by decide)]
    rw [hd]
    exact ⟨σ', q1, q2⟩

/-! numbers and sides: class, reference -/
noncomputable def nxt (w : Nat → Int) (n s : Nat) : Nat := skp w n (tE w n s)
theorem nxt_le {w : Nat → Int} {n s : Nat} (h : s ≤ n) : s ≤ nxt w n s ∧ nxt w n s ≤ n := by
  have r := tE_rng (w := w) h
  have q := skp_rng (w := w) (n := n) (n - tE w n s) (tE w n s) (by omega)
  unfold nxt
  omega
theorem stepC {σ : mSt} {w : Nat → Int} {n s : Nat} (h : cA σ w n s) : ∃ σ', mX10_step 3 σ = some (0, σ') ∧ frm tkW σ σ' ∧ cA σ' w n (nxt w n s) := step_tc h.1 (tE_rng h.2.1).2.1 h.2.2.2.1
theorem stepR {τ : mSt} {w : Nat → Int} {n s : Nat} (h : rA τ w n s) : ∃ τ', mX12_steps 253 τ = some (0, τ') ∧ frm rkW τ τ' ∧ rA τ' w n (nxt w n s) := step_tr h.1 (tE_rng h.2.1).2.1 h.2.2.2.1
noncomputable def wS (w : Nat → Int) (n s : Nat) : Nat := if tC w n s = 4 then nxt w n s else s
noncomputable def wN (w : Nat → Int) (n s : Nat) : Int := nvF w (wS w n s) (tE w n (wS w n s) - wS w n s)
noncomputable def wV (w : Nat → Int) (n s : Nat) : Int := if tC w n s = 4 then -wN w n s else wN w n s
def okT (lim : Int) (w : Nat → Int) (n s : Nat) : Prop := tC w n (wS w n s) = 2 ∧ wN w n s ≠ 0 ∧ wN w n s ≤ lim
def cR (i j : Nat) : Prop := tkW i j ∨ (i = 2 ∧ (j = 2 ∨ j = 3))
theorem cR_fix {i j : Nat} (h : cR i j) : fixR i j = false := by
  rcases h with h | ⟨rfl, rfl | rfl⟩
  · exact tkW_fix h
  · decide +kernel
  · decide +kernel
theorem sqf_neg {c : Int} : sqf (-c) ↔ sqf c := by
  have h : ∀ c : Int, sqf c → sqf (-c) := fun c hc k k1 k2 => fun z => hc k k1 k2 (by
    have := Int.dvd_of_emod_eq_zero z
    exact Int.emod_eq_zero_of_dvd ((Int.dvd_neg).mp this))
  exact ⟨fun z => by have := h _ z; rwa [Int.neg_neg] at this, h c⟩
theorem sfree_e {c : Int} {σ : mSt} (hc : 1 ≤ c ∧ c ≤ 60) : mX5_isSquareFree c σ = some (b2 (sqf c), σ) := by
  have L2 : ∀ (m k N : Nat), k + m = 8 → 2 ≤ k → m < N → (∀ q : Int, 2 ≤ q → q < k → c % (q * q) ≠ 0) → mX5_isSquareFree_L2 c (fun zσ => mX5_isSquareFree_B27 c zσ) N (k : Int) σ = some (b2 (sqf c), σ) := by
    intro m
    induction m with
    | zero =>
      intro k N h1 h2 h3 h4
      obtain ⟨N, rfl⟩ : ∃ z, N = z + 1 := ⟨N - 1, by omega⟩
      obtain rfl : k = 8 := by omega
      rw [mX5_isSquareFree_L2.eq_2, if_pos (by decide), b2_t (show sqf c from fun q q1 q2 => h4 q q1 (by omega))]
      rfl
    | succ m ih =>
      intro k N h1 h2 h3 h4
      obtain ⟨N, rfl⟩ : ∃ z, N = z + 1 := ⟨N - 1, by omega⟩
      have kk := mul_rng (x := (k : Int)) (y := (k : Int)) (A := 7) (B := 7) (by omega) (by omega) (by omega)
      have k0 : 0 < (k : Int) * k := Int.mul_pos (by omega) (by omega)
      have wk : wI ((k : Int) * k) = k * k := wI_id (x := (k : Int) * k) (by omega)
      have wl : wL ((k : Int) * k) = k * k := wL_id (x := (k : Int) * k) (by omega)
      have em := Int.emod_nonneg c (show (k : Int) * k ≠ 0 by omega)
      have em2 := Int.emod_lt_of_pos c k0
      rw [mX5_isSquareFree_L2.eq_2, if_neg (by rw [wI_id (x := (k : Int)) (by omega)]; omega), mG_pos (by rw [wk, wl]; omega), wk, wl, wL_id (x := c) (by omega), Int.tmod_eq_emod_of_nonneg (by omega), wL_id (x := c % ((k : Int) * k)) (by omega), bnd_eq, show (k : Int) + 1 = ((k + 1 : Nat) : Int) by omega]
      by_cases z : c % ((k : Int) * k) = 0
      · rw [if_pos z, b2_f (fun y => y k (by omega) (by omega) z)]
      · rw [if_neg z]
        refine ih (k + 1) N (by omega) (by omega) (by omega) (fun q q1 q2 => ?_)
        by_cases e : q = k
        · rw [e]; exact z
        · exact h4 q q1 (by omega)
  unfold mX5_isSquareFree
  exact L2 6 2 mF (by omega) (by omega) (by unfold mF; omega) (fun q q1 q2 => by omega)
theorem hasSq_e {v : Int} {τ : mSt} (hv : v ≠ 0 ∧ -60 ≤ v ∧ v ≤ 60) : mX12_hasSquare v τ = some (b2 (¬ sqf v), τ) := by
  have big : ∀ q : Int, 2 ≤ q → q < 8 → (v.natAbs : Int) < q * q → v % (q * q) ≠ 0 := fun q q1 q2 h z => by
    have := Int.dvd_of_emod_eq_zero z
    have := Int.le_of_dvd (by omega) (abs_dvd.mpr this)
    omega
  have L2 : ∀ (m k N : Nat), k + m = 8 → 2 ≤ k → m < N → (∀ q : Int, 2 ≤ q → q < k → v % (q * q) ≠ 0) → mX12_hasSquare_L2 v (fun zσ => mX12_hasSquare_B34 v zσ) N (k : Int) τ = some (b2 (¬ sqf v), τ) := by
    intro m
    induction m with
    | zero =>
      intro k N h1 h2 h3 h4
      obtain ⟨N, rfl⟩ : ∃ z, N = z + 1 := ⟨N - 1, by omega⟩
      obtain rfl : k = 8 := by omega
      have hs : sqf v := fun q q1 q2 => h4 q q1 (by omega)
      rw [mX12_hasSquare_L2.eq_2, wI_id (x := v) (by omega), b2_f (fun z => z hs)]
      by_cases c : 0 ≤ v
      · rw [if_pos c]
        unfold mX12_hasSquare_B15
        rw [wI_id (x := v) (by omega), show wI (((8 : Nat) : Int) * ((8 : Nat) : Int)) = 64 by decide, if_pos (by omega)]
        rfl
      · rw [if_neg c]
        unfold mX12_hasSquare_B15
        rw [wI_id (x := -v) (by omega), show wI (((8 : Nat) : Int) * ((8 : Nat) : Int)) = 64 by decide, if_pos (by omega)]
        rfl
    | succ m ih =>
      intro k N h1 h2 h3 h4
      obtain ⟨N, rfl⟩ : ∃ z, N = z + 1 := ⟨N - 1, by omega⟩
      have kk := mul_rng (x := (k : Int)) (y := (k : Int)) (A := 7) (B := 7) (by omega) (by omega) (by omega)
      have k0 : 0 < (k : Int) * k := Int.mul_pos (by omega) (by omega)
      have wk : wI ((k : Int) * k) = k * k := wI_id (x := (k : Int) * k) (by omega)
      have wv : wI v = v := wI_id (x := v) (by omega)
      have tdv : v.tmod ((k : Int) * k) = 0 ↔ v % ((k : Int) * k) = 0 := ⟨fun z => Int.emod_eq_zero_of_dvd (tmod0.mp z), fun z => tmod0.mpr (Int.dvd_of_emod_eq_zero z)⟩
      have tr := tm_rng v ((k : Int) * k) (by omega) k0
      have tb : -60 ≤ v.tmod ((k : Int) * k) ∧ v.tmod ((k : Int) * k) ≤ 60 := by
        rcases Int.lt_or_le v 0 with z | z
        · have h5 : v.tmod ((k : Int) * k) = -((-v).tmod ((k : Int) * k)) := by rw [Int.neg_tmod, Int.neg_neg]
          rw [h5, Int.tmod_eq_emod_of_nonneg (by omega)]
          have := Int.emod_nonneg (-v) (show (k : Int) * k ≠ 0 by omega)
          have := Int.emod_lt_of_pos (-v) k0
          omega
        · rw [Int.tmod_eq_emod_of_nonneg (by omega)]
          have := Int.emod_nonneg v (show (k : Int) * k ≠ 0 by omega)
          have := Int.emod_lt_of_pos v k0
          omega
      have body : ∀ t1, t1 = (v.natAbs : Int) → mX12_hasSquare_B15 v (mX12_hasSquare_L2 v (fun zσ => mX12_hasSquare_B34 v zσ) N) (fun zσ => mX12_hasSquare_B34 v zσ) (k : Int) ((k : Int) * k) t1 τ = some (b2 (¬ sqf v), τ) := fun t1 ht => by
        unfold mX12_hasSquare_B15
        rw [wk, wI_id (x := t1) (by omega)]
        by_cases c : t1 < (k : Int) * k
        · rw [if_pos c]
          have hs : sqf v := fun q q1 q2 => by
            rcases Int.lt_or_le q k with y | y
            · exact h4 q q1 y
            · refine big q q1 q2 ?_
              have := sq_mono (a := (k : Int)) (b := q) (by omega) y
              omega
          rw [b2_f (fun z => z hs)]
          rfl
        · rw [if_neg c, mG_pos (by omega), wv, wI_id (x := v.tmod ((k : Int) * k)) (by omega), bnd_eq, show (k : Int) + 1 = ((k + 1 : Nat) : Int) by omega]
          by_cases z : v.tmod ((k : Int) * k) = 0
          · rw [if_pos z, b2_t (fun y => y k (by omega) (by omega) (tdv.mp z))]
          · rw [if_neg z]
            refine ih (k + 1) N (by omega) (by omega) (by omega) (fun q q1 q2 => ?_)
            by_cases e : q = k
            · rw [e]; exact fun y => z (tdv.mpr y)
            · exact h4 q q1 (by omega)
      rw [mX12_hasSquare_L2.eq_2, wv]
      by_cases c : 0 ≤ v
      · rw [if_pos c]
        exact body v (by omega)
      · rw [if_neg c]
        exact body (-v) (by omega)
  unfold mX12_hasSquare
  exact L2 6 2 mF (by omega) (by omega) (by unfold mF; omega) (fun q q1 q2 => by omega)
theorem l20 {σ : mSt} (hL : Lay σ) : σ 2 0 = ((3 : Nat) : Int) := hL.get 2 0 (by decide +kernel) (by decide +kernel)
theorem whole_rd {σ : mSt} {w : Nat → Int} {n s : Nat} {lim sq : Int} (h : cA σ w n s) (hl : (lim = 60 ∧ sq = 1) ∨ (lim = 999 ∧ sq = 0)) : ∃ σ', frm cR σ σ' ∧ (((okT lim w n s ∧ (sq = 1 → sqf (wN w n s))) ∧ mX8_readWhole 2 lim sq σ = some (1, σ') ∧ cA σ' w n (nxt w n (wS w n s)) ∧ σ' 2 3 = wV w n s ∧ σ' 2 2 = σ 2 2) ∨ (¬ (okT lim w n s ∧ (sq = 1 → sqf (wN w n s))) ∧ mX8_readWhole 2 lim sq σ = some (0, σ') ∧ σ' 2 2 = 8 * (wS w n s : Int) + (if tC w n (wS w n s) = 2 then 4 else 1))) := by
  -- behind the sign
  have B20 : ∀ ρ v3, frm tkW σ ρ → cA ρ w n (wS w n s) → (v3 = 0 ∨ v3 = 1) → (v3 = 1 ↔ tC w n s = 4) → ∃ σ', frm cR σ σ' ∧ (((okT lim w n s ∧ (sq = 1 → sqf (wN w n s))) ∧ mX8_readWhole_B20 2 lim sq v3 ρ = some (1, σ') ∧ cA σ' w n (nxt w n (wS w n s)) ∧ σ' 2 3 = wV w n s ∧ σ' 2 2 = σ 2 2) ∨ (¬ (okT lim w n s ∧ (sq = 1 → sqf (wN w n s))) ∧ mX8_readWhole_B20 2 lim sq v3 ρ = some (0, σ') ∧ σ' 2 2 = 8 * (wS w n s : Int) + (if tC w n (wS w n s) = 2 then 4 else 1))) := by
    intro ρ v3 hf hA h01 hv3
    have hL := hA.1.1
    have f0 : frm cR σ ρ := hf.mono (fun i j z => Or.inl z)
    have ref : ∀ c, mX8_refuse 2 c ρ = some (0, upS ρ 2 2 (8 * (wS w n s : Int) + c)) ∧ frm cR σ (upS ρ 2 2 (8 * (wS w n s : Int) + c)) := fun c => ⟨refuse_c hA hL, f0.put (Or.inr ⟨rfl, Or.inl rfl⟩)⟩
    by_cases t2 : tC w n (wS w n s) = 2
    · obtain ⟨c, v1, v2⟩ := value_e hA t2
      have nr : nR c (wN w n s) := v2
      have head : ∀ o, (if wL c = 0 then (mX8_readWhole_B73 2 lim sq ρ) else if wL (wI lim) < wL c then (mX8_readWhole_B73 2 lim sq ρ) else if wI sq = 0 then (mX8_readWhole_B79 2 lim sq v3 c ρ) else mCall (mX5_isSquareFree c ρ) fun b28 s29 => if wI b28 = 0 then (mX8_readWhole_B73 2 lim sq s29) else mX8_readWhole_B79 2 lim sq v3 c s29) = o → mX8_readWhole_B20 2 lim sq v3 ρ = o := fun o z => by
        unfold mX8_readWhole_B20
        rw [gr' (l20 hL) (by omega), is_tc hA (by omega), mCall_some, if_neg (by rw [b2_t t2]; decide), gr' (l20 hL) (by omega), v1, mCall_some]
        exact z
      have B73 : mX8_readWhole_B73 2 lim sq ρ = some (0, upS ρ 2 2 (8 * (wS w n s : Int) + 4)) := by
        unfold mX8_readWhole_B73
        rw [(ref 4).1, mCall_some, mG_pos (by decide)]
      have bad : ¬ (okT lim w n s ∧ (sq = 1 → sqf (wN w n s))) → mX8_readWhole_B20 2 lim sq v3 ρ = some (0, upS ρ 2 2 (8 * (wS w n s : Int) + 4)) → ∃ σ', frm cR σ σ' ∧ (((okT lim w n s ∧ (sq = 1 → sqf (wN w n s))) ∧ mX8_readWhole_B20 2 lim sq v3 ρ = some (1, σ') ∧ cA σ' w n (nxt w n (wS w n s)) ∧ σ' 2 3 = wV w n s ∧ σ' 2 2 = σ 2 2) ∨ (¬ (okT lim w n s ∧ (sq = 1 → sqf (wN w n s))) ∧ mX8_readWhole_B20 2 lim sq v3 ρ = some (0, σ') ∧ σ' 2 2 = 8 * (wS w n s : Int) + (if tC w n (wS w n s) = 2 then 4 else 1))) := fun q e => ⟨_, (ref 4).2, Or.inr ⟨q, e, by rw [upS_same, if_pos t2]⟩⟩
      have cr : 0 ≤ c ∧ c ≤ 1000000 := by unfold nR at nr; omega
      have wc : wL c = c := wL_id (x := c) (by omega)
      have wlim : wL (wI lim) = lim := by
        rcases hl with ⟨rfl, -⟩ | ⟨rfl, -⟩ <;> decide
      have good : okT lim w n s → (sq = 1 → sqf (wN w n s)) → mX8_readWhole_B20 2 lim sq v3 ρ = mX8_readWhole_B79 2 lim sq v3 (wN w n s) ρ → ∃ σ', frm cR σ σ' ∧ (((okT lim w n s ∧ (sq = 1 → sqf (wN w n s))) ∧ mX8_readWhole_B20 2 lim sq v3 ρ = some (1, σ') ∧ cA σ' w n (nxt w n (wS w n s)) ∧ σ' 2 3 = wV w n s ∧ σ' 2 2 = σ 2 2) ∨ (¬ (okT lim w n s ∧ (sq = 1 → sqf (wN w n s))) ∧ mX8_readWhole_B20 2 lim sq v3 ρ = some (0, σ') ∧ σ' 2 2 = 8 * (wS w n s : Int) + (if tC w n (wS w n s) = 2 then 4 else 1))) := fun q1 q2 e => by
        obtain ⟨ρ1, hρ1⟩ : ∃ ρ1, ρ1 = upS ρ 2 3 (wV w n s) := ⟨_, rfl⟩
        have fr1 : frm cR ρ ρ1 := by rw [hρ1]; exact frm.one (Or.inr ⟨rfl, Or.inr rfl⟩)
        have L1 : Lay ρ1 := hL.frm fr1 (fun i j z => cR_fix z)
        have A1 : cA ρ1 w n (wS w n s) := cA_fr hA L1 (by rw [hρ1]; exact upS_row (by omega)) (by rw [hρ1]; exact upS_row (by omega))
        obtain ⟨ρ2, s1, s2, s3⟩ := stepC A1
        have b92 : ∀ v, v = wV w n s → mX8_readWhole_B92 2 lim sq 2 v ρ = some (1, ρ2) := fun v hv => by
          unfold mX8_readWhole_B92
          rw [gc2, hv, bnd_eq, ← hρ1, gr' (l20 L1) (by omega), s1, mCall_some]
        refine ⟨ρ2, (f0.tr fr1 (fun i j z => z)).tr s2 (fun i j z => Or.inl z), Or.inl ⟨⟨q1, q2⟩, ?_, s3, ?_, by rw [s2 _ _ (by unfold tkW; omega), hρ1, upS_ne (by omega), hf _ _ (by unfold tkW; omega)]⟩⟩
        · rw [e]
          unfold mX8_readWhole_B79
          rcases h01 with rfl | rfl
          · rw [if_pos (by decide)]
            exact b92 _ (by unfold wV; rw [if_neg (fun z => by have := hv3.mpr z; omega)])
          · rw [if_neg (by decide)]
            exact b92 _ (by unfold wV; rw [if_pos (hv3.mp rfl)])
        · rw [s2 _ _ (by unfold tkW; omega), hρ1, upS_same]
      by_cases z0 : wN w n s = 0
      · refine bad (fun q => q.1.2.1 z0) (head _ ?_)
        rw [if_pos (by rw [wc]; unfold nR at nr; omega), B73]
      · have c0 : ¬ c = 0 := by unfold nR at nr; omega
        by_cases zl : wN w n s ≤ lim
        · have cv : c = wN w n s := by
            unfold nR at nr
            rcases hl with ⟨rfl, -⟩ | ⟨rfl, -⟩ <;> omega
          have hh : ∀ o, (if wI sq = 0 then (mX8_readWhole_B79 2 lim sq v3 c ρ) else mCall (mX5_isSquareFree c ρ) fun b28 s29 => if wI b28 = 0 then (mX8_readWhole_B73 2 lim sq s29) else mX8_readWhole_B79 2 lim sq v3 c s29) = o → mX8_readWhole_B20 2 lim sq v3 ρ = o := fun o z => by
            refine head o ?_
            rw [if_neg (by rw [wc]; exact c0), if_neg (by rw [wc, wlim]; omega)]
            exact z
          rcases hl with ⟨rfl, rfl⟩ | ⟨rfl, rfl⟩
          · have sf := sfree_e (σ := ρ) (c := c) (by unfold nR at nr; omega)
            by_cases hs : sqf (wN w n s)
            · refine good ⟨t2, z0, zl⟩ (fun _ => hs) (hh _ ?_)
              rw [if_neg (by decide), sf, mCall_some, cv, b2_t hs, if_neg (by decide)]
            · refine bad (fun q => hs (q.2 rfl)) (hh _ ?_)
              rw [if_neg (by decide), sf, mCall_some, cv, b2_f hs, if_pos (by decide), B73]
          · refine good ⟨t2, z0, zl⟩ (fun q => by omega) (hh _ ?_)
            rw [if_pos (by decide), cv]
        · refine bad (fun q => zl q.1.2.2) (head _ ?_)
          rw [if_neg (by rw [wc]; exact c0), if_pos (by rw [wc, wlim]; unfold nR at nr; rcases hl with ⟨rfl, -⟩ | ⟨rfl, -⟩ <;> omega), B73]
    · refine ⟨_, (ref 1).2, Or.inr ⟨fun q => t2 q.1.1, ?_, by rw [upS_same, if_neg t2]⟩⟩
      unfold mX8_readWhole_B20
      rw [gr' (l20 hL) (by omega), is_tc hA (by omega), mCall_some, if_pos (by rw [b2_f t2]; decide), (ref 1).1, mCall_some, mG_pos (by decide)]
  have hL := h.1.1
  by_cases t4 : tC w n s = 4
  · obtain ⟨ρ, s1, s2, s3⟩ := stepC h
    have e : wS w n s = nxt w n s := by unfold wS; rw [if_pos t4]
    obtain ⟨σ', q1, q2⟩ := B20 ρ 1 s2 (by rw [e]; exact s3) (Or.inr rfl) ⟨fun _ => t4, fun _ => rfl⟩
    have hd : mX8_readWhole 2 lim sq σ = mX8_readWhole_B20 2 lim sq 1 ρ := by
      unfold mX8_readWhole
      rw [gc2, gr' (l20 hL) (by omega), is_tc h (by omega), mCall_some, b2_t t4, if_neg (by decide), gr' (l20 hL) (by omega), s1, mCall_some]
    rw [hd]
    exact ⟨σ', q1, q2⟩
  · have e : wS w n s = s := by unfold wS; rw [if_neg t4]
    obtain ⟨σ', q1, q2⟩ := B20 σ 0 (frm.rf σ) (by rw [e]; exact h) (Or.inl rfl) ⟨fun z => by omega, fun z => absurd z t4⟩
    have hd : mX8_readWhole 2 lim sq σ = mX8_readWhole_B20 2 lim sq 0 σ := by
      unfold mX8_readWhole
      rw [gc2, gr' (l20 hL) (by omega), is_tc h (by omega), mCall_some, b2_f t4, if_pos (by decide)]
    rw [hd]
    exact ⟨σ', q1, q2⟩
def rN (i j : Nat) : Prop := i = 253 ∧ ((4 ≤ j ∧ j ≤ 10) ∨ j = 19 ∨ j = 20)
theorem rA_fr {τ τ' : mSt} {w : Nat → Int} {n s : Nat} (h : rA τ w n s) (hL : Lay τ') (h3 : ∀ j, j ≤ 8 → 3 ≤ j → τ' 253 j = τ 253 j) (h1 : τ' 254 = τ 254) : rA τ' w n s := by
  obtain ⟨⟨q1, q2, q3, q4⟩, q5, q6, q7, q8, q9, q10⟩ := h
  exact ⟨⟨hL, by rw [h3 3 (by omega) (by omega)]; exact q2, q3, fun i hi => by rw [h1]; exact q4 i hi⟩, q5, by rw [h3 4 (by omega) (by omega)]; exact q6, by rw [h3 5 (by omega) (by omega)]; exact q7, by rw [h3 6 (by omega) (by omega)]; exact q8, fun z => by rw [h3 8 (by omega) (by omega)]; exact q9 z, fun z => by rw [h3 7 (by omega) (by omega)]; exact q10 z⟩
theorem rN_fix {i j : Nat} (h : rN i j) : fixR i j = false := rL_fix (m := 0) (Or.inl h)
theorem whole_tk {τ : mSt} {w : Nat → Int} {n s : Nat} {lim : Int} (h : rA τ w n s) (h9 : τ 253 9 = 0) (hl : lim = 60 ∨ lim = 999) : ∃ τ', frm rN τ τ' ∧ ((okT lim w n s ∧ mX12_takesWhole 253 lim τ = some (1, τ') ∧ rA τ' w n (wS w n s) ∧ τ' 253 9 = 0 ∧ τ' 253 19 = wV w n s) ∨ (¬ okT lim w n s ∧ mX12_takesWhole 253 lim τ = some (0, τ') ∧ τ' 253 9 = (if tC w n (wS w n s) = 2 then 4 else 1) ∧ τ' 253 10 = (wS w n s : Int))) := by
  have k := tCR w n s
  have B15 : ∀ ρ v2, frm rN τ ρ → rA ρ w n (wS w n s) → ρ 253 9 = 0 → (v2 = 0 ∨ v2 = 1) → (v2 = 1 ↔ tC w n s = 4) → ∃ τ', frm rN τ τ' ∧ ((okT lim w n s ∧ mX12_takesWhole_B15 253 lim v2 ρ = some (1, τ') ∧ rA τ' w n (wS w n s) ∧ τ' 253 9 = 0 ∧ τ' 253 19 = wV w n s) ∨ (¬ okT lim w n s ∧ mX12_takesWhole_B15 253 lim v2 ρ = some (0, τ') ∧ τ' 253 9 = (if tC w n (wS w n s) = 2 then 4 else 1) ∧ τ' 253 10 = (wS w n s : Int))) := by
    intro ρ v2 hf hA h9' h01 hv2
    have k2 := tCR w n (wS w n s)
    have s4 : ρ 253 4 = (wS w n s : Int) := hA.2.2.1
    have bad : ∀ c, frm rN τ (upS (upS ρ 253 9 c) 253 10 (ρ 253 4)) := fun c => (hf.put ⟨rfl, by omega⟩).put ⟨rfl, by omega⟩
    unfold mX12_takesWhole_B15
    rw [hA.2.2.2.2.1, wI_id (x := tR w n (wS w n s)) (by omega)]
    by_cases t2 : tC w n (wS w n s) = 2
    · have r2 := k2.2.1.mp t2
      have v7 : ρ 253 7 = wN w n s := hA.2.2.2.2.2.2 r2
      have nr := nvF_rng (f := w) (s := wS w n s) (tE w n (wS w n s) - wS w n s) (fun j hj => (tC_2 t2).2 _ (by omega) (by omega))
      have nr' : 0 ≤ wN w n s ∧ wN w n s ≤ 999999 := nr
      have m4 := must_r (τ := ρ) (v := 0) (c := 4) h9' (by omega) (Or.inl rfl)
      rw [if_pos rfl] at m4
      have m1 := must_r (τ := ρ) (v := 1) (c := 4) h9' (by omega) (Or.inr rfl)
      rw [if_neg (by decide)] at m1
      have mm := must_r (τ := ρ) (v := 1) (c := 1) h9' (by omega) (Or.inr rfl)
      rw [if_neg (by decide)] at mm
      have wlim : wI lim = lim := by rcases hl with rfl | rfl <;> decide
      have wn : wI (wN w n s) = wN w n s := wI_id (x := wN w n s) (by omega)
      rw [if_pos r2]
      unfold mX12_takesWhole_B29
      rw [mm, mCall_some, if_neg (by decide), v7, wn, wlim]
      by_cases z0 : wN w n s = 0
      · refine ⟨_, bad 4, Or.inr ⟨fun q => q.2.1 z0, ?_, by rw [upS_ne (by omega), upS_same, if_pos t2], by rw [upS_same, s4]⟩⟩
        rw [if_pos (by omega)]
        unfold mX12_takesWhole_B56 mX12_takesWhole_B57
        rw [m4, mCall_some, if_pos (by decide)]
      · rw [if_neg (by omega)]
        by_cases zl : wN w n s ≤ lim
        · rw [if_neg (by omega)]
          obtain ⟨ρ1, hρ1⟩ : ∃ ρ1, ρ1 = upS (upS ρ 253 19 (wV w n s)) 253 20 (ρ 253 4) := ⟨_, rfl⟩
          have f1 : frm rN ρ ρ1 := by rw [hρ1]; exact (frm.one ⟨rfl, by omega⟩).put ⟨rfl, by omega⟩
          have L1 : Lay ρ1 := hA.1.1.frm f1 (fun i j z => rN_fix z)
          have u : ∀ j, j ≠ 19 → j ≠ 20 → ρ1 253 j = ρ 253 j := fun j g1 g2 => by rw [hρ1, upS_ne (by omega), upS_ne (by omega)]
          refine ⟨ρ1, hf.tr f1 (fun i j z => z), Or.inl ⟨⟨t2, z0, zl⟩, ?_, rA_fr hA L1 (fun j g1 g2 => u j (by omega) (by omega)) (by rw [hρ1, upS_row (by omega), upS_row (by omega)]), by rw [u 9 (by omega) (by omega)]; exact h9', by rw [hρ1, upS_ne (by omega), upS_same]⟩⟩
          unfold mX12_takesWhole_B57
          rw [m1, mCall_some, if_neg (by decide)]
          rcases h01 with rfl | rfl
          · rw [if_pos (by decide), v7, bnd_eq, bnd_eq, upS_ne (by omega)]
            rw [hρ1]
            unfold wV
            rw [if_neg (fun z => by have := hv2.mpr z; omega)]
          · rw [if_neg (by decide), v7, bnd_eq, bnd_eq, upS_ne (by omega)]
            rw [hρ1]
            unfold wV
            rw [if_pos (hv2.mp rfl)]
        · refine ⟨_, bad 4, Or.inr ⟨fun q => zl q.2.2, ?_, by rw [upS_ne (by omega), upS_same, if_pos t2], by rw [upS_same, s4]⟩⟩
          rw [if_pos (by omega)]
          unfold mX12_takesWhole_B56 mX12_takesWhole_B57
          rw [m4, mCall_some, if_pos (by decide)]
    · have mm := must_r (τ := ρ) (v := 0) (c := 1) h9' (by omega) (Or.inl rfl)
      rw [if_pos rfl] at mm
      refine ⟨_, bad 1, Or.inr ⟨fun q => t2 q.1, ?_, by rw [upS_ne (by omega), upS_same, if_neg t2], by rw [upS_same, s4]⟩⟩
      rw [if_neg (fun z => t2 (k2.2.1.mpr z))]
      unfold mX12_takesWhole_B29
      rw [mm, mCall_some, if_pos (by decide)]
  have sg := sign_r (v := 45) h (by omega)
  rw [b2_iff k.2.2.2.1.symm] at sg
  by_cases t4 : tC w n s = 4
  · obtain ⟨ρ, s1, s2, s3⟩ := stepR h
    have e : wS w n s = nxt w n s := by unfold wS; rw [if_pos t4]
    obtain ⟨τ', q1, q2⟩ := B15 ρ 1 (s2.mono (fun i j z => ⟨z.1, by have := z.2; omega⟩)) (by rw [e]; exact s3) (by rw [s2 _ _ (by unfold rkW; omega)]; exact h9) (Or.inr rfl) ⟨fun _ => t4, fun _ => rfl⟩
    have hd : mX12_takesWhole 253 lim τ = mX12_takesWhole_B15 253 lim 1 ρ := by
      unfold mX12_takesWhole
      rw [gc253, sg, mCall_some, b2_t t4, if_neg (by decide), s1, mCall_some]
    rw [hd]
    exact ⟨τ', q1, q2⟩
  · have e : wS w n s = s := by unfold wS; rw [if_neg t4]
    obtain ⟨τ', q1, q2⟩ := B15 τ 0 (frm.rf τ) (by rw [e]; exact h) h9 (Or.inl rfl) ⟨fun z => by omega, fun z => absurd z t4⟩
    have hd : mX12_takesWhole 253 lim τ = mX12_takesWhole_B15 253 lim 0 τ := by
      unfold mX12_takesWhole
      rw [gc253, sg, mCall_some, b2_f t4, if_pos (by decide)]
    rw [hd]
    exact ⟨τ', q1, q2⟩
theorem side_tk {τ : mSt} {w : Nat → Int} {n s : Nat} (h : rA τ w n s) (h9 : τ 253 9 = 0) : ∃ τ', frm rN τ τ' ∧ (((okT 60 w n s ∧ sqf (wN w n s)) ∧ mX12_takesSide 253 τ = some (1, τ') ∧ rA τ' w n (nxt w n (wS w n s)) ∧ τ' 253 9 = 0 ∧ τ' 253 19 = wV w n s) ∨ (¬ (okT 60 w n s ∧ sqf (wN w n s)) ∧ mX12_takesSide 253 τ = some (0, τ') ∧ τ' 253 9 = (if tC w n (wS w n s) = 2 then 4 else 1) ∧ τ' 253 10 = (wS w n s : Int))) := by
  obtain ⟨τ1, q1, q2⟩ := whole_tk h h9 (Or.inl rfl)
  rcases q2 with ⟨p1, p2, p3, p4, p5⟩ | ⟨p1, p2, p3, p4⟩
  · have nr := nvF_rng (f := w) (s := wS w n s) (tE w n (wS w n s) - wS w n s) (fun j hj => (tC_2 p1.1).2 _ (by omega) (by omega))
    have nr' : 0 ≤ wN w n s ∧ wN w n s ≤ 999999 := nr
    have p12 := p1.2
    have vr : wV w n s ≠ 0 ∧ -60 ≤ wV w n s ∧ wV w n s ≤ 60 := by
      unfold wV
      by_cases c : tC w n s = 4
      · rw [if_pos c]; omega
      · rw [if_neg c]; omega
    have sv : sqf (wV w n s) ↔ sqf (wN w n s) := by
      unfold wV
      by_cases c : tC w n s = 4
      · rw [if_pos c]; exact sqf_neg
      · rw [if_neg c]
    have hs := hasSq_e (τ := τ1) vr
    have head : ∀ o, (if wI (b2 (¬ sqf (wV w n s))) = 0 then (mX12_takesSide_B25 253 253 1 τ1) else mX12_takesSide_B25 253 253 0 τ1) = o → mX12_takesSide 253 τ = o := fun o z => by
      unfold mX12_takesSide
      rw [gc253, p2, mCall_some, if_neg (by decide), p5, hs, mCall_some]
      exact z
    by_cases c : sqf (wN w n s)
    · obtain ⟨τ2, s1, s2, s3⟩ := stepR p3
      refine ⟨τ2, q1.tr s2 (fun i j z => ⟨z.1, by have := z.2; omega⟩), Or.inl ⟨⟨p1, c⟩, head _ ?_, s3, by rw [s2 _ _ (by unfold rkW; omega)]; exact p4, by rw [s2 _ _ (by unfold rkW; omega)]; exact p5⟩⟩
      rw [if_pos (by rw [b2_f (fun z => z (sv.mpr c))]; decide)]
      unfold mX12_takesSide_B25
      rw [must_r p4 (by omega) (Or.inr rfl), if_neg (by decide), mCall_some, if_neg (by decide), s1, mCall_some]
    · refine ⟨_, (q1.put (v := 4) (k := 9) (i := 253) ⟨rfl, by omega⟩).put (v := τ1 253 4) (k := 10) (i := 253) ⟨rfl, by omega⟩, Or.inr ⟨fun z => c z.2, head _ ?_, by rw [upS_ne (by omega), upS_same, if_pos p1.1], by rw [upS_same, p3.2.2.1]⟩⟩
      rw [if_neg (by rw [b2_t (fun z => c (sv.mp z))]; decide)]
      unfold mX12_takesSide_B25
      rw [must_r p4 (by omega) (Or.inl rfl), if_pos rfl, mCall_some, if_pos (by decide)]
  · refine ⟨τ1, q1, Or.inr ⟨fun z => p1 z.1, ?_, p3, p4⟩⟩
    unfold mX12_takesSide
    rw [gc253, p2, mCall_some, if_pos (by decide)]

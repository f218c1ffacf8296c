/-! grow: the loops above -/
theorem grow_lvl {σ0 : mSt} {q c : Nat} {a b M p X : Int} {E : Nat → V4} {k : Nat → Int} {x : mSt → Option (Int × mSt)} (hC : gC σ0 q a b M p E) (hc : c < 3) (hk : ∀ i, i < c → 0 ≤ k i ∧ k i < p) (hX : pv p k c = X) (L : Nat → Int → mSt → Option (Int × mSt)) (J : (mSt → Option (Int × mSt)) → Int → mSt → Option (Int × mSt)) (hL0 : ∀ N (d : Nat) σ, p ≤ (d : Int) → (d : Int) ≤ p → L (N + 1) d σ = x σ) (hL1 : ∀ N (d : Nat) σ σ', (d : Int) < p → mX2_goesOn 114 (c : Int) d σ = some (0, σ') → L (N + 1) d σ = L N ((d : Int) + 1) σ') (hL2 : ∀ N (d : Nat) σ σ', (d : Int) < p → mX2_goesOn 114 (c : Int) d σ = some (1, σ') → L (N + 1) d σ = J (fun z => L N ((d : Int) + 1) z) d σ') (hJ : ∀ (d : Nat) (y : mSt → Option (Int × mSt)) σ, (d : Int) < p → gI σ0 σ (181 + 9 * q) p (M * p) E (c + 1) (kU k c d) → ng a b M p E (c + 2) ((X * p + d) * p) → (∃ v σ', J y d σ = some (v, σ') ∧ gF σ0 σ' q a b M p E v) ∨ ∃ σ', J y d σ = y σ' ∧ gI σ0 σ' (181 + 9 * q) p (M * p) E (c + 1) (kU k c d) ∧ ng a b M p E (c + 2) ((X * p + d) * p + p)) : ∀ (m d N : Nat) (σ : mSt), (d : Int) + m = p → m < N → gI σ0 σ (181 + 9 * q) p (M * p) E c k → ng a b M p E (c + 1) (X * p + d) → (∃ v σ', L N (d : Int) σ = some (v, σ') ∧ gF σ0 σ' q a b M p E v) ∨ ∃ σ', L N (d : Int) σ = x σ' ∧ gI σ0 σ' (181 + 9 * q) p (M * p) E c k ∧ ng a b M p E (c + 1) (X * p + p) := by
  have hC' := hC
  obtain ⟨c1, c2, c3, c4, c5, c6, c7, c8⟩ := hC
  have ok := (ord_ok c8).1.1
  intro m
  induction m with
  | zero =>
    intro d N σ h1 h2 hI hn
    obtain ⟨N, rfl⟩ : ∃ z, N = z + 1 := ⟨N - 1, by omega⟩
    exact Or.inr ⟨σ, hL0 N d σ (by omega) (by omega), hI, by rw [show X * p + p = X * p + (d : Int) by omega]; exact hn⟩
  | succ m ih =>
    intro d N σ h1 h2 hI hn
    obtain ⟨N, rfl⟩ : ∃ z, N = z + 1 := ⟨N - 1, by omega⟩
    obtain ⟨ρ, r1, r2⟩ := goes_I hC' (show c < 4 by omega) hI hk (d := (d : Int)) (by omega)
    by_cases g : M * p ∣ 2 * t0F a b c * vg c (pS E (kU k c (d : Int)) (c + 1))
    · rw [b2_t g] at r1
      rw [hL2 N d σ ρ (by omega) r1]
      rcases hJ d (fun z => L N ((d : Int) + 1) z) ρ (by omega) r2 (ng_down (by omega) (by omega) hn) with h | ⟨τ, t1, t2, t3⟩
      · exact Or.inl h
      · rw [t1, show (d : Int) + 1 = ((d + 1 : Nat) : Int) by omega]
        have := ng_up (X := X * p + d) (by omega) (show c + 1 < 4 by omega) t3
        exact ih (d + 1) N τ (by omega) (by omega) (gI_low t2) (by rw [show ((d + 1 : Nat) : Int) = (d : Int) + 1 by omega, ← Int.add_assoc]; exact this)
    · have pr := ng_prune ok (by omega) (show c < 4 by omega) hk (show 0 ≤ (d : Int) ∧ (d : Int) < p by omega) hX hn g
      rw [b2_f g] at r1
      rw [hL1 N d σ ρ (by omega) r1, show (d : Int) + 1 = ((d + 1 : Nat) : Int) by omega]
      exact ih (d + 1) N ρ (by omega) (by omega) (gI_low r2) (by rw [show ((d + 1 : Nat) : Int) = (d : Int) + 1 by omega]; exact pr)
theorem grow68 {σ0 : mSt} {q : Nat} {a b M p X v3 v4 : Int} {E : Nat → V4} {k : Nat → Int} {x : mSt → Option (Int × mSt)} (hC : gC σ0 q a b M p E) (hk : ∀ i, i < 2 → 0 ≤ k i ∧ k i < p) (hX : pv p k 2 = X) (m d N : Nat) (σ : mSt) (h1 : (d : Int) + m = p) (h2 : m < N) (hI : gI σ0 σ (181 + 9 * q) p (M * p) E 2 k) (hn : ng a b M p E 3 (X * p + d)) : (∃ v σ', mX2_grow_L68 114 (181 + 9 * q) p v3 v4 x N (d : Int) σ = some (v, σ') ∧ gF σ0 σ' q a b M p E v) ∨ ∃ σ', mX2_grow_L68 114 (181 + 9 * q) p v3 v4 x N (d : Int) σ = x σ' ∧ gI σ0 σ' (181 + 9 * q) p (M * p) E 2 k ∧ ng a b M p E 3 (X * p + p) := by
  have c4 := hC.2.2.2.1
  refine grow_lvl (c := 2) hC (by omega) hk hX (fun N d σ => mX2_grow_L68 114 (181 + 9 * q) p v3 v4 x N d σ) (fun y d σ => mX2_grow_L90 114 (181 + 9 * q) p v3 v4 d y mF 0 σ) (fun N d σ g1 g2 => ?_) (fun N d σ σ' g1 g2 => ?_) (fun N d σ σ' g1 g2 => ?_) (fun d y σ g1 g2 g3 => ?_) m d N σ h1 h2 hI hn
  · show mX2_grow_L68 114 (181 + 9 * q) p v3 v4 x (N + 1) d σ = _
    rw [mX2_grow_L68.eq_2, if_pos (by rw [wI_id (x := (d : Int)) (by omega), wI_id (x := p) (by omega)]; omega)]
  · show mX2_grow_L68 114 (181 + 9 * q) p v3 v4 x (N + 1) d σ = _
    rw [mX2_grow_L68.eq_2, if_neg (by rw [wI_id (x := (d : Int)) (by omega), wI_id (x := p) (by omega)]; omega), show (2 : Int) = ((2 : Nat) : Int) from rfl, g2, mCall_some, if_pos (by decide)]
    rfl
  · show mX2_grow_L68 114 (181 + 9 * q) p v3 v4 x (N + 1) d σ = _
    rw [mX2_grow_L68.eq_2, if_neg (by rw [wI_id (x := (d : Int)) (by omega), wI_id (x := p) (by omega)]; omega), show (2 : Int) = ((2 : Nat) : Int) from rfl, g2, mCall_some, if_neg (by decide)]
    rfl
  · have := grow90 (v3 := v3) (v4 := v4) (v5 := (d : Int)) (x := y) hC (kU_dig hk (show 0 ≤ (d : Int) ∧ (d : Int) < p by omega)) (kU_pv hX) p.toNat 0 mF σ (by omega) (by unfold mF; omega) g2 (by simpa using g3)
    exact this
theorem grow46 {σ0 : mSt} {q : Nat} {a b M p X v3 : Int} {E : Nat → V4} {k : Nat → Int} {x : mSt → Option (Int × mSt)} (hC : gC σ0 q a b M p E) (hk : ∀ i, i < 1 → 0 ≤ k i ∧ k i < p) (hX : pv p k 1 = X) (m d N : Nat) (σ : mSt) (h1 : (d : Int) + m = p) (h2 : m < N) (hI : gI σ0 σ (181 + 9 * q) p (M * p) E 1 k) (hn : ng a b M p E 2 (X * p + d)) : (∃ v σ', mX2_grow_L46 114 (181 + 9 * q) p v3 x N (d : Int) σ = some (v, σ') ∧ gF σ0 σ' q a b M p E v) ∨ ∃ σ', mX2_grow_L46 114 (181 + 9 * q) p v3 x N (d : Int) σ = x σ' ∧ gI σ0 σ' (181 + 9 * q) p (M * p) E 1 k ∧ ng a b M p E 2 (X * p + p) := by
  have c4 := hC.2.2.2.1
  refine grow_lvl (c := 1) hC (by omega) hk hX (fun N d σ => mX2_grow_L46 114 (181 + 9 * q) p v3 x N d σ) (fun y d σ => mX2_grow_L68 114 (181 + 9 * q) p v3 d y mF 0 σ) (fun N d σ g1 g2 => ?_) (fun N d σ σ' g1 g2 => ?_) (fun N d σ σ' g1 g2 => ?_) (fun d y σ g1 g2 g3 => ?_) m d N σ h1 h2 hI hn
  · show mX2_grow_L46 114 (181 + 9 * q) p v3 x (N + 1) d σ = _
    rw [mX2_grow_L46.eq_2, if_pos (by rw [wI_id (x := (d : Int)) (by omega), wI_id (x := p) (by omega)]; omega)]
  · show mX2_grow_L46 114 (181 + 9 * q) p v3 x (N + 1) d σ = _
    rw [mX2_grow_L46.eq_2, if_neg (by rw [wI_id (x := (d : Int)) (by omega), wI_id (x := p) (by omega)]; omega), show (1 : Int) = ((1 : Nat) : Int) from rfl, g2, mCall_some, if_pos (by decide)]
    rfl
  · show mX2_grow_L46 114 (181 + 9 * q) p v3 x (N + 1) d σ = _
    rw [mX2_grow_L46.eq_2, if_neg (by rw [wI_id (x := (d : Int)) (by omega), wI_id (x := p) (by omega)]; omega), show (1 : Int) = ((1 : Nat) : Int) from rfl, g2, mCall_some, if_neg (by decide)]
    rfl
  · have := grow68 (v3 := v3) (v4 := (d : Int)) (x := y) hC (kU_dig hk (show 0 ≤ (d : Int) ∧ (d : Int) < p by omega)) (kU_pv hX) p.toNat 0 mF σ (by omega) (by unfold mF; omega) g2 (by simpa using g3)
    exact this
theorem grow26 {σ0 : mSt} {q : Nat} {a b M p X : Int} {E : Nat → V4} {k : Nat → Int} {x : mSt → Option (Int × mSt)} (hC : gC σ0 q a b M p E) (hX : pv p k 0 = X) (m d N : Nat) (σ : mSt) (h1 : (d : Int) + m = p) (h2 : m < N) (hI : gI σ0 σ (181 + 9 * q) p (M * p) E 0 k) (hn : ng a b M p E 1 (X * p + d)) : (∃ v σ', mX2_grow_L26 114 (181 + 9 * q) p x N (d : Int) σ = some (v, σ') ∧ gF σ0 σ' q a b M p E v) ∨ ∃ σ', mX2_grow_L26 114 (181 + 9 * q) p x N (d : Int) σ = x σ' ∧ gI σ0 σ' (181 + 9 * q) p (M * p) E 0 k ∧ ng a b M p E 1 (X * p + p) := by
  have c4 := hC.2.2.2.1
  refine grow_lvl (c := 0) hC (by omega) (fun i hi => by omega) hX (fun N d σ => mX2_grow_L26 114 (181 + 9 * q) p x N d σ) (fun y d σ => mX2_grow_L46 114 (181 + 9 * q) p d y mF 0 σ) (fun N d σ g1 g2 => ?_) (fun N d σ σ' g1 g2 => ?_) (fun N d σ σ' g1 g2 => ?_) (fun d y σ g1 g2 g3 => ?_) m d N σ h1 h2 hI hn
  · show mX2_grow_L26 114 (181 + 9 * q) p x (N + 1) d σ = _
    rw [mX2_grow_L26.eq_2, if_pos (by rw [wI_id (x := (d : Int)) (by omega), wI_id (x := p) (by omega)]; omega)]
  · show mX2_grow_L26 114 (181 + 9 * q) p x (N + 1) d σ = _
    have g3 : mX2_goesOn 114 0 (d : Int) σ = some (0, σ') := g2
    rw [mX2_grow_L26.eq_2, if_neg (by rw [wI_id (x := (d : Int)) (by omega), wI_id (x := p) (by omega)]; omega), g3, mCall_some, if_pos (by decide)]
    rfl
  · show mX2_grow_L26 114 (181 + 9 * q) p x (N + 1) d σ = _
    have g3 : mX2_goesOn 114 0 (d : Int) σ = some (1, σ') := g2
    rw [mX2_grow_L26.eq_2, if_neg (by rw [wI_id (x := (d : Int)) (by omega), wI_id (x := p) (by omega)]; omega), g3, mCall_some, if_neg (by decide)]
    rfl
  · have := grow46 (v3 := (d : Int)) (x := y) hC (kU_dig (c := 0) (k := k) (fun i hi => by omega) (show 0 ≤ (d : Int) ∧ (d : Int) < p by omega)) (kU_pv hX) p.toNat 0 mF σ (by omega) (by unfold mF; omega) g2 (by simpa using g3)
    exact this
/-! grow -/
theorem pv_zero {p : Int} (k : Nat → Int) : pv p k 0 = 0 := rfl
def noF (a b M p : Int) (E : Nat → V4) : Prop := ∀ k, digs p k → ¬ gdP a b M p E k
theorem grow_e {σ : mSt} {q : Nat} {a b M p : Int} {E : Nat → V4} {t n : Nat} (hC : gC σ q a b M p E) (hL : Lay σ) (h3 : σ 114 3 = (t : Int)) (h4 : σ 114 4 = (n : Int)) (h5 : (t = 124 ∧ n = 131) ∨ (t = 131 ∧ n = 124)) (hz : rowV σ 139 = v0) : ∃ v σ', mX2_grow 114 (181 + 9 * q) p σ = some (v, σ') ∧ (∃ t n, enL σ' (181 + 9 * q) t n) ∧ (gF (upS (upS (upS σ 114 0 ((181 + 9 * q : Nat) : Int)) 114 1 p) 114 2 (M * p)) σ' q a b M p E v ∨ (v = 0 ∧ frm gW (upS (upS (upS σ 114 0 ((181 + 9 * q : Nat) : Int)) 114 1 p) 114 2 (M * p)) σ' ∧ noF a b M p E)) := by
  obtain ⟨c1, c2, c3, c4, c5, c6, c7, c8⟩ := hC
  obtain ⟨τ, hτ⟩ : ∃ τ, τ = upS (upS (upS σ 114 0 ((181 + 9 * q : Nat) : Int)) 114 1 p) 114 2 (M * p) := ⟨_, rfl⟩
  have u : ∀ i j, i ≠ 114 ∨ 3 ≤ j → τ i j = σ i j := fun i j h => by rw [hτ, upS_ne (by omega), upS_ne (by omega), upS_ne (by omega)]
  have f : ∀ j, j < 3 → fixR 114 j = false := by decide +kernel
  have Lf : Lay τ := by
    rw [hτ]
    exact ((hL.up (f 0 (by omega))).up (f 1 (by omega))).up (f 2 (by omega))
  have k1 := ord_lay hL c1
  have tl : t ∈ latIds ∧ n ∈ latIds := by
    rcases h5 with ⟨rfl, rfl⟩ | ⟨rfl, rfl⟩
    · exact ⟨by decide, by decide⟩
    · exact ⟨by decide, by decide⟩
  have en : enL τ (181 + 9 * q) t n := ⟨Lf, by rw [hτ, upS_ne (by omega), upS_ne (by omega), upS_same], by omega, k1.1, by rw [u _ _ (by omega)]; exact h3, by rw [u _ _ (by omega)]; exact h4, tl.1, tl.2, h5⟩
  have hC2 : gC τ q a b M p E := ⟨c1, c2, c3, c4, by rw [u _ _ (by omega)]; exact c5, by rw [u _ _ (by omega)]; exact c6, atC_congr c7 (u _ _ (by omega)) (fun r hr j => u _ _ (by omega)), c8⟩
  have hI : gI τ τ (181 + 9 * q) p (M * p) E 0 (fun _ => 0) := by
    refine ⟨⟨t, n, en⟩, frm.rf τ, by rw [hτ, upS_ne (by omega), upS_same], by rw [hτ, upS_same], fun j hj => ?_⟩
    obtain rfl : j = 0 := by omega
    show rowV τ 139 = v0
    rw [← hz]
    unfold rowV
    rw [u _ _ (by omega), u _ _ (by omega), u _ _ (by omega), u _ _ (by omega)]
  have fin : ∀ ρ, gI τ ρ (181 + 9 * q) p (M * p) E 0 (fun _ => 0) → ∃ t n, enL ρ (181 + 9 * q) t n := fun ρ h => h.1
  have st : mX2_grow 114 (181 + 9 * q) p σ = mX2_grow_L26 114 (181 + 9 * q) p (fun zσ => mX2_grow_B142 114 (181 + 9 * q) p zσ) mF 0 τ := by
    unfold mX2_grow
    have be := below_e (σ := upS (upS σ 114 0 ((181 + 9 * q : Nat) : Int)) 114 1 p) ((hL.up (f 0 (by omega))).up (f 1 (by omega))) c1
    rw [upS_ne (by omega), upS_ne (by omega), c7.1] at be
    rw [gc114, mG_pos (by omega), bnd_eq, bnd_eq, gr' (r := 181 + 9 * q) (by rw [upS_ne (by omega), upS_same]) (by omega), be, mCall_some, wI_id (x := p) (by omega), bnd_eq, ← hτ]
  rcases grow26 (x := fun zσ => mX2_grow_B142 114 (181 + 9 * q) p zσ) hC2 (pv_zero _) p.toNat 0 mF τ (by omega) (by unfold mF; omega) hI (fun k hk hv => by
    have := hk 0 (by omega)
    have e : pv p k 1 = 0 * p + k 0 := rfl
    rw [e] at hv
    push_cast at hv
    omega) with ⟨v, σ', w1, w2⟩ | ⟨σ', w1, w2, w3⟩
  · refine ⟨v, σ', st.trans w1, ?_, Or.inl (by rw [← hτ]; exact w2)⟩
    obtain ⟨_, _, _, _, _, _, _, _, _, _, w⟩ := w2
    exact w
  · refine ⟨0, σ', st.trans w1, fin _ w2, Or.inr ⟨rfl, by rw [← hτ]; exact w2.2.1, fun k hk hg => w3 k hk ?_ hg⟩⟩
    have := hk 0 (by omega)
    have e : pv p k 1 = 0 * p + k 0 := rfl
    rw [e]
    omega

/-! tries -/
theorem pS_vC (E : Nat → V4) (k : Nat → Int) : pS E k 4 = vC E (k 0, k 1, k 2, k 3) := by
  apply vext <;> simp only [pS, vC, vA, vS, v0] <;> omega
theorem rl_st {τ : mSt} {l : Nat} {E : Nat → V4} (hE : ∀ r, r < 4 → rowL τ l r = E r) (w : V4) : rl τ l E w = stV τ 272 w := by
  rw [rl_congr τ l w (fun r hr => (hE r hr).symm)]
  funext a b
  by_cases h1 : a = 272
  · by_cases h2 : b < 4
    · unfold rl
      rw [h1, vg_stV _ _ _ h2, vg_stV _ _ _ h2]
    · unfold rl stV st4
      simp only [upS]
      rw [if_neg (by omega), if_neg (by omega), if_neg (by omega), if_neg (by omega), if_neg (by omega), if_neg (by omega), if_neg (by omega), if_neg (by omega), stP_ne _ _ _ _ _ _ (by omega)]
  · have := congrFun (congrFun (rl_self τ l) a) b
    unfold rl at this ⊢
    rw [stV_ne _ _ _ _ _ h1] at this ⊢
    rw [stV_ne _ _ _ _ _ h1]
    exact this
theorem triL3 {τ : mSt} {l : Nat} {v2 d0 d1 d2 d3 : Int} {E : Nat → V4} {u w : V4} {x : mSt → Option (Int × mSt)} (h3 : rL3 τ) (hl : l < 10) (hw : ∀ c, c < 4 → vg c w = ((((wI d0) * vg c (E 0)) + ((wI d1) * vg c (E 1))) + ((wI d2) * vg c (E 2))) + ((wI d3) * vg c (E 3))) : ∀ (m i N : Nat), i + m = 4 → m < N → mX12_tries_L3 253 (l : Int) v2 d0 d1 d2 d3 x N (i : Int) (rl τ l E (vMix i w u)) = x (rl τ l E w) := by
  intro m
  induction m with
  | zero =>
    intro i N h1 h2
    obtain ⟨N, rfl⟩ : ∃ z, N = z + 1 := ⟨N - 1, by omega⟩
    obtain rfl : i = 4 := by omega
    rw [mX12_tries_L3.eq_2, if_pos (by decide), vMix_4]
  | succ m ih =>
    intro i N h1 h2
    obtain ⟨N, rfl⟩ : ∃ z, N = z + 1 := ⟨N - 1, by omega⟩
    have hi : i < 4 := by omega
    have g0 : mX12_get 253 (l : Int) 0 (i : Int) (rl τ l E (vMix i w u)) = some (vg i (E 0), rl τ l E (vMix i w u)) := rl_get (r := 0) h3 hl (by omega) hi
    have g1 : mX12_get 253 (l : Int) 1 (i : Int) (rl τ l E (vMix i w u)) = some (vg i (E 1), rl τ l E (vMix i w u)) := rl_get (r := 1) h3 hl (by omega) hi
    have g2 : mX12_get 253 (l : Int) 2 (i : Int) (rl τ l E (vMix i w u)) = some (vg i (E 2), rl τ l E (vMix i w u)) := rl_get (r := 2) h3 hl (by omega) hi
    have g3 : mX12_get 253 (l : Int) 3 (i : Int) (rl τ l E (vMix i w u)) = some (vg i (E 3), rl τ l E (vMix i w u)) := rl_get (r := 3) h3 hl (by omega) hi
    rw [mX12_tries_L3.eq_2, if_neg (by rw [wI_id (x := (i : Int)) (by omega)]; omega), gr' (r := 272) (rL3_rl h3 l E _).2.2.2 (by omega), g0, mCall_some, g1, mCall_some, g2, mCall_some, g3, mCall_some, gx272 _ (by omega), wI_nat (k := i) (by omega), bnd_eq, bnd_eq, ← hw i hi, rl_vec _ _ _ _ _ hi, vMix_s rfl, show (i : Int) + 1 = ((i + 1 : Nat) : Int) by omega]
    exact ih (i + 1) N (by omega) (by omega)
theorem normR_e {τ : mSt} {a b : Int} {w : V4} : mX12_normOf 253 (vg 0 w) (vg 1 w) (vg 2 w) (vg 3 w) a b τ = some (vN a b w, τ) := by
  unfold mX12_normOf
  rw [gc253]
  rfl
def triO (a b M p : Int) (E : Nat → V4) (k : Nat → Int) (τ' : mSt) (v : Int) : Prop := (v = 1 ∧ gdP a b M p E k ∧ ∃ N F u, atR τ' 8 F N N u ∧ hull a b M E (pS E k 4) (M * p) N F) ∨ (v = 0 ∧ ¬ gdP a b M p E k)
theorem digs_lat {M p : Int} {E : Nat → V4} {k : Nat → Int} (hM : 0 < M) (hp : 0 < p) (tE : Tri E) (hk : digs p k) (h : latS M E (pS E k 4) (M * p)) : pS E k 4 = v0 := by
  obtain ⟨c, hc⟩ := h
  rw [← vS_vS] at hc
  have e := vS_cancel (show M ≠ 0 by omega) hc
  rw [pS_vC, ← vC_smul] at e
  have e2 := vC_inj tE e
  have z : ∀ x y : Int, 0 ≤ x ∧ x < p → x = p * y → x = 0 := fun x y h1 h2 => by
    rcases Int.lt_or_le 0 y with h | h
    · have := Int.mul_le_mul_of_nonneg_left (show 1 ≤ y by omega) (show 0 ≤ p by omega)
      omega
    · have := Int.mul_le_mul_of_nonneg_left h (show 0 ≤ p by omega)
      omega
  have k0 := z _ c.1 (hk 0 (by omega)) (congrArg (fun v : V4 => v.1) e2)
  have k1 := z _ c.2.1 (hk 1 (by omega)) (congrArg (fun v : V4 => v.2.1) e2)
  have k2 := z _ c.2.2.1 (hk 2 (by omega)) (congrArg (fun v : V4 => v.2.2.1) e2)
  have k3 := z _ c.2.2.2 (hk 3 (by omega)) (congrArg (fun v : V4 => v.2.2.2) e2)
  rw [pS_vC, k0, k1, k2, k3]
  exact vC_0 E
theorem copy8 {τ : mSt} {l : Nat} {M : Int} {E : Nat → V4} {w : V4} (h : atR τ l E M M w) (hl : l < 8) : ∃ τ', mX12_copies 253 (l : Int) 8 τ = some (0, τ') ∧ frm cW τ τ' ∧ atR τ' 8 E M M w := by
  obtain ⟨h3, h4, h5, h6, h7⟩ := h
  have c := copies_e (b := 8) h3 (show l < 10 by omega) (by omega) (by omega)
  have e : upS (upS (stP τ 8 (rowL τ l) 16) 270 8 (τ 270 l)) 271 8 (τ 271 l) = sR4 τ 8 E M M w := by
    unfold sR4 rl
    rw [h5, h6]
    congr 2
    funext i j
    by_cases h1 : i = 272
    · by_cases h2 : j < 4
      · rw [h1, vg_stV _ _ _ h2, stP_ne _ _ _ _ _ _ (by omega), ← h7, vg_rowV _ _ h2]
      · unfold stV st4
        simp only [upS]
        rw [if_neg (by omega), if_neg (by omega), if_neg (by omega), if_neg (by omega), stP_ne _ _ _ _ _ _ (by omega), stP_ne _ _ _ _ _ _ (by omega)]
    · rw [stV_ne _ _ _ _ _ h1]
      unfold stP
      by_cases h2 : i = 269 ∧ 16 * 8 ≤ j ∧ j < 16 * 8 + 16
      · rw [if_pos h2, if_pos h2, h4 _ (by omega)]
      · rw [if_neg h2, if_neg h2]
  rw [e] at c
  exact ⟨_, c, sR4_frm _ _ _ _ _, sR4_at h3 _ _ _ _ _⟩
theorem tries_e {τ : mSt} {l : Nat} {a b M p d0 d1 d2 d3 : Int} {E : Nat → V4} {k : Nat → Int} (hL : Lay τ) (hl : l < 8) (hA : ∀ r, r < 4 → rowL τ l r = E r) (h270 : τ 270 l = M) (h271 : τ 271 l = M) (h0 : τ 258 l = a) (h1 : τ 259 l = b) (ha : a ≠ 0 ∧ -60 ≤ a ∧ a ≤ 60) (hb : b ≠ 0 ∧ -60 ≤ b ∧ b ≤ 60) (hE : gdL M E) (hM : M ≤ 7200) (hp : 2 ≤ p ∧ p ≤ 60) (hk : digs p k) (e0 : wI d0 = k 0) (e1 : wI d1 = k 1) (e2 : wI d2 = k 2) (e3 : wI d3 = k 3) : ∃ v τ', mX12_tries 253 (l : Int) p d0 d1 d2 d3 τ = some (v, τ') ∧ Lay τ' ∧ frm cW τ τ' ∧ triO a b M p E k τ' v := by
  obtain ⟨w, hw⟩ : ∃ w, w = pS E k 4 := ⟨_, rfl⟩
  have h3 := lay_rL3 hL
  have ly := lay253 hL
  have M0 := hE.1.1
  have mp := mul_rng (x := M) (y := p) (A := 7200) (B := 60) (by omega) (by omega) (by omega)
  have mp0 : 0 < M * p := Int.mul_pos M0 (by omega)
  have mm := mul_rng (x := M * p) (y := M * p) (A := 7200 * 60) (B := 7200 * 60) (by omega) (by omega) (by omega)
  have mm0 : 0 < M * p * (M * p) := Int.mul_pos mp0 mp0
  have rg := pS_rng (rB2_of hE.1) hk (by omega) hp.2 4 (by omega)
  rw [← hw] at rg
  have pr := pr_rng (M := 10000000) (x := w) (y := w) ha.2 hb.2 (by omega) (fun i hi => by have := rg i hi; omega) (fun i hi => by have := rg i hi; omega)
  have vn : vN a b w = w.1 * w.1 - a * w.2.1 * w.2.1 - b * w.2.2.1 * w.2.2.1 + a * b * w.2.2.2 * w.2.2.2 := rfl
  rw [← vn] at pr
  have l3 := triL3 (v2 := p) (d0 := d0) (d1 := d1) (d2 := d2) (d3 := d3) (E := E) (u := rowV τ 272) (w := w) (x := fun zσ => mX12_tries_B72 253 (l : Int) p d0 d1 d2 d3 zσ) h3 (show l < 10 by omega) (fun c hc => by
    rw [e0, e1, e2, e3, hw, pS_vC]
    unfold vC
    rw [vg_vA _ _ hc, vg_vA _ _ hc, vg_vA _ _ hc, vg_vS _ _ hc, vg_vS _ _ hc, vg_vS _ _ hc, vg_vS _ _ hc]
    show k 0 * vg c (E 0) + (k 1 * vg c (E 1) + (k 2 * vg c (E 2) + k 3 * vg c (E 3))) = k 0 * vg c (E 0) + k 1 * vg c (E 1) + k 2 * vg c (E 2) + k 3 * vg c (E 3)
    omega) 4 0 mF (by omega) (by unfold mF; omega)
  rw [vMix_c (fun i hi _ => by omega), rl_eq hA rfl, rl_st hA] at l3
  obtain ⟨τ1, ht1⟩ : ∃ τ1, τ1 = stV τ 272 w := ⟨_, rfl⟩
  rw [← ht1] at l3
  have f1 : frm cW τ τ1 := by
    rw [ht1]
    exact (frm.rf τ).stV (fun j => Or.inr (Or.inr (Or.inr (Or.inl rfl))))
  have L1 : Lay τ1 := hL.frm f1 (fun i j z => cW_fix z)
  have u : ∀ i j, i ≠ 272 → τ1 i j = τ i j := fun i j z => by rw [ht1, stV_ne _ _ _ _ _ z]
  have uw : ∀ i, i < 4 → τ1 272 i = vg i w := fun i hi => by rw [ht1, vg_stV _ _ _ hi]
  have A1 : atR τ1 l E M M w := ⟨lay_rL3 L1, fun r hr => by rw [← hA r hr]; exact congrFun (rowL_congr (funext fun j => u _ _ (by omega))) _, by rw [u _ _ (by omega)]; exact h270, by rw [u _ _ (by omega)]; exact h271, by rw [ht1, rowV_stV]⟩
  have ly1 := lay253 L1
  have l30 := A1.1.2.1
  have l32 := A1.1.2.2.2
  have c0 : ¬ wL (M * p) = 0 := by rw [wL_id (x := M * p) (by omega)]; omega
  have c00 : ¬ wL (M * p * (M * p)) = 0 := by rw [wL_id (x := M * p * (M * p)) (by omega)]; omega
  unfold mX12_tries
  rw [gc253]
  have st0 : ∀ v τ', mX12_tries_B72 253 (l : Int) p d0 d1 d2 d3 τ1 = some (v, τ') → mX12_tries_L3 253 (l : Int) p d0 d1 d2 d3 (fun zσ => mX12_tries_B72 253 (l : Int) p d0 d1 d2 d3 zσ) mF 0 τ = some (v, τ') := fun v τ' z => l3.trans z
  have q0 := rg 0 (by omega)
  have hc1 : wL ((wL (2 * τ1 272 0)).tmod (wL (M * p))) = 0 ↔ M * p ∣ 2 * vg 0 w := by
    rw [uw 0 (by omega), wL_id (x := 2 * vg 0 w) (by omega), wL_id (x := M * p) (by omega), wL_id (x := Int.tmod _ _) (tm_rng _ _ (by omega) (by omega)), tmod0]
  have hc2 : wL ((wL (vN a b w)).tmod (wL (M * p * (M * p)))) = 0 ↔ M * p * (M * p) ∣ vN a b w := by
    rw [wL_id (x := vN a b w) (by omega), wL_id (x := M * p * (M * p)) (by omega), wL_id (x := Int.tmod _ _) (tm_rng _ _ (by omega) (by omega)), tmod0]
  by_cases y1 : M * p ∣ 2 * vg 0 w
  · by_cases y2 : M * p * (M * p) ∣ vN a b w
    · obtain ⟨τ2, p1, p2, p3⟩ := copy8 A1 hl
      obtain ⟨L, G, v, τ3, s1, s2, s3, s4, s5, s6, s7⟩ := put8 (den := M * p) p3 hE (Int.dvd_mul_right M p) ⟨mp0, by omega⟩ (fun i hi => by have := rg i hi; omega)
      have f2 : frm cW τ τ2 := f1.tr p2 (fun i j z => z)
      have f3 : frm cW τ τ3 := f2.tr s5 (fun i j z => z)
      have L3 : Lay τ3 := hL.frm f3 (fun i j z => cW_fix z)
      have head : ∀ v' τ', ((mCall (mX12_copies 253 (l : Int) 8 τ1) fun b34 s35 => mCall (mX12_putsLeast 253 (M * p) s35) fun b37 s38 => if wI b37 = 0 then (mX12_tries_B188 253 (l : Int) p d0 d1 d2 d3 s38) else mCall (mX12_closes 253 (l : Int) s38) fun b41 s42 => if wI b41 = 0 then (mX12_tries_B188 253 (l : Int) p d0 d1 d2 d3 s42) else some (1, s42)) = some (v', τ')) → mX12_tries_B72 253 (l : Int) p d0 d1 d2 d3 τ1 = some (v', τ') := by
        intro v' τ' z
        unfold mX12_tries_B72
        rw [gr' l30 (by omega), gx270 _ (by omega), wI_nat (k := l) (by omega), A1.2.2.1, wI_id (x := p) (by omega), bnd_eq, gr' l32 (by omega), gx272 _ (by omega), mG_pos c0, if_pos (hc1.mpr y1), gr' l32 (by omega), gx272 _ (by omega), gr' l32 (by omega), gx272 _ (by omega), gr' l32 (by omega), gx272 _ (by omega), gr' l32 (by omega), gx272 _ (by omega), gr' ly1.2.2.2.2.1 (by omega), gx258 _ (by omega), gr' ly1.2.2.2.2.2.1 (by omega), gx259 _ (by omega), u 258 l (by omega), u 259 l (by omega), h0, h1, wI_id (x := a) (by omega), wI_id (x := b) (by omega), uw 0 (by omega), uw 1 (by omega), uw 2 (by omega), uw 3 (by omega), normR_e, mCall_some, mG_pos c00, if_pos (hc2.mpr y2)]
        exact z
      rcases s7 with ⟨rfl, s7⟩ | ⟨rfl, s7⟩
      · refine ⟨0, τ3, st0 _ _ (head _ _ ?_), L3, f3, Or.inr ⟨rfl, fun g => g.1 ?_⟩⟩
        · rw [p1, mCall_some, s4, mCall_some, if_pos (by decide)]
          rfl
        · rw [hw] at s7
          exact digs_lat M0 (by omega) hE.1.2.1 hk s7
      · have Ld := Int.le_of_dvd mp0 s2
        obtain ⟨v, τ4, t1, t2, t3, t4⟩ := closes_e (al := l) (by omega) ha hb L3 s6 (by rw [f3 _ _ (by unfold cW; omega)]; exact h0) (by rw [f3 _ _ (by unfold cW; omega)]; exact h1) s1 (by omega)
        have sb := (s3 _ latS_grp).mp (subL_self L G)
        rcases t4 with ⟨rfl, N, F, u', z2, z3, z4, z5, z6, z7⟩ | ⟨rfl, z2⟩
        · have z := (s3 _ latS_grp).mp z6
          have hu : hull a b M E (pS E k 4) (M * p) N F := ⟨z3, z4, z5, z.1, by rw [← hw]; exact z.2, fun S g1 g2 g3 g4 => z7 S g1 g2 ((s3 S g1).mpr ⟨g3, by rw [hw]; exact g4⟩)⟩
          refine ⟨1, τ4, st0 _ _ (head _ _ ?_), t2, f3.tr t3 (fun i j z => z), Or.inl ⟨rfl, ⟨fun z0 => s7 ?_, hull_fit hu⟩, N, F, u', z2, hu⟩⟩
          · rw [p1, mCall_some, s4, mCall_some, if_neg (by decide), t1, mCall_some, if_neg (by decide)]
          · rw [hw, z0]
            exact latS_zero _ _ _
        · refine ⟨0, τ4, st0 _ _ (head _ _ ?_), t2, f3.tr t3 (fun i j z => z), Or.inr ⟨rfl, fun g => z2 ?_⟩⟩
          · rw [p1, mCall_some, s4, mCall_some, if_neg (by decide), t1, mCall_some, if_pos (by decide)]
            rfl
          · obtain ⟨-, S, g1, g2, g3, g4, g5⟩ := g
            exact ⟨S, g1, g2, g3, (s3 S g1).mpr ⟨g4, by rw [hw]; exact g5⟩⟩
    · refine ⟨0, τ1, st0 _ _ ?_, L1, f1, Or.inr ⟨rfl, fun g => ?_⟩⟩
      · unfold mX12_tries_B72
        rw [gr' l30 (by omega), gx270 _ (by omega), wI_nat (k := l) (by omega), A1.2.2.1, wI_id (x := p) (by omega), bnd_eq, gr' l32 (by omega), gx272 _ (by omega), mG_pos c0, if_pos (hc1.mpr y1), gr' l32 (by omega), gx272 _ (by omega), gr' l32 (by omega), gx272 _ (by omega), gr' l32 (by omega), gx272 _ (by omega), gr' l32 (by omega), gx272 _ (by omega), gr' ly1.2.2.2.2.1 (by omega), gx258 _ (by omega), gr' ly1.2.2.2.2.2.1 (by omega), gx259 _ (by omega), u 258 l (by omega), u 259 l (by omega), h0, h1, wI_id (x := a) (by omega), wI_id (x := b) (by omega), uw 0 (by omega), uw 1 (by omega), uw 2 (by omega), uw 3 (by omega), normR_e, mCall_some, mG_pos c00, if_neg (fun z => y2 (hc2.mp z))]
      · obtain ⟨-, S, s1, s2, s3, s4, s5⟩ := g
        rw [← hw] at s5
        exact y2 (s3 w _ mp0 s5).2
  · refine ⟨0, τ1, st0 _ _ ?_, L1, f1, Or.inr ⟨rfl, fun g => ?_⟩⟩
    · unfold mX12_tries_B72
      rw [gr' l30 (by omega), gx270 _ (by omega), wI_nat (k := l) (by omega), A1.2.2.1, wI_id (x := p) (by omega), bnd_eq, gr' l32 (by omega), gx272 _ (by omega), mG_pos c0, if_neg (fun z => y1 (hc1.mp z))]
    · obtain ⟨-, S, s1, s2, s3, s4, s5⟩ := g
      rw [← hw] at s5
      exact y1 (s3 w _ mp0 s5).1

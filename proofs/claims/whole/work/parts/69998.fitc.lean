/-! the class's sets, as they stand -/
def oW (o i j : Nat) : Prop := (o + 2 ≤ i ∧ i ≤ o + 6) ∨ (i = o ∧ j = 2)
def atC (σ : mSt) (o : Nat) (M : Int) (E : Nat → V4) : Prop := σ o 2 = M ∧ ∀ r, r < 4 → rwC σ o r = E r
theorem oW_fix {o i j : Nat} (ho : o ∈ latIds) (h : oW o i j) : fixR i j = false := by
  have f := lat_fix ho
  have w : ∀ o ∈ latIds, (shp (o + 6)).1 = 21 := by decide +kernel
  rcases h with h | ⟨rfl, rfl⟩
  · by_cases h6 : i = o + 6
    · exact fixR_data (Or.inr (Or.inl (by rw [h6]; exact w o ho))) j
    · have := f.2 (i - (o + 2)) (by omega)
      rw [show o + 2 + (i - (o + 2)) = i by omega] at this
      exact fixR_data (Or.inr (Or.inl this)) j
  · exact f.1
theorem lat_far {o p : Nat} (ho : o ∈ latIds) (hp : p ∈ latIds) (h : o ≠ p) : o + 7 ≤ p ∨ p + 7 ≤ o := by
  have far : ∀ a ∈ latIds, ∀ b ∈ latIds, a ≠ b → a + 7 ≤ b ∨ b + 7 ≤ a := by decide
  exact far o ho p hp h
theorem atC_congr {σ σ' : mSt} {o : Nat} {M : Int} {E : Nat → V4} (h : atC σ o M E) (h1 : σ' o 2 = σ o 2) (h2 : ∀ r, r < 4 → ∀ j, σ' (o + 2 + r) j = σ (o + 2 + r) j) : atC σ' o M E := by
  refine ⟨h1.trans h.1, fun r hr => ?_⟩
  rw [← h.2 r hr]
  unfold rwC rowV
  rw [h2 r hr, h2 r hr, h2 r hr, h2 r hr]
theorem atC_far {σ σ' : mSt} {o p : Nat} {M : Int} {E : Nat → V4} (ho : o ∈ latIds) (hp : p ∈ latIds) (hop : o ≠ p) (h : atC σ p M E) (hf : frm (oW o) σ σ') : atC σ' p M E := by
  have f := lat_far ho hp hop
  exact atC_congr h (hf _ _ (by unfold oW; omega)) (fun r hr j => hf _ _ (by unfold oW; omega))
theorem cl_frm {σ : mSt} {o : Nat} {F : Nat → V4} {w : V4} : frm (oW o) σ (cl σ o F w) := fun i j z => cl_ne _ _ _ _ _ _ (by unfold oW at z; omega)
theorem add_at {σ : mSt} {o v : Nat} {M : Int} {E : Nat → V4} {y : V4} (hL : Lay σ) (ho : o ∈ latIds) (ha : atC σ o M E) (hM0 : M ≤ 1000000000) (hv : shp v = (21, 4)) (hvo : v < o + 2 ∨ o + 7 ≤ v) (hy : rowV σ v = y) (hyr : ∀ i, i < 4 → -9223372036854775808 ≤ vg i y ∧ vg i y < 9223372036854775808) (hE : rOK M E) : ∃ F σ', addS M E y F ∧ mX3_add o v σ = some (0, σ') ∧ frm (oW o) σ σ' ∧ atC σ' o M F := by
  have dd : ∀ j, j < 4 → vg j (E j) ≤ 1000000000 := fun j hj => by
    have := Int.le_of_dvd hE.1 (dia_dvd hE.2.1 hE.2.2.2 hj)
    omega
  obtain ⟨F, h1, h2⟩ := add_e hL ho ha.1 ⟨hE.1, hM0⟩ hv hvo hy hyr ha.2 hE dd
  refine ⟨F, _, h1, h2, cl_frm, by rw [cl_ne _ _ _ _ _ _ (by omega)]; exact ha.1, fun r hr => vg_ext fun c hc => ?_⟩
  rw [← rwC_at _ _ hc, cl_r _ _ _ _ hr hc]
theorem stQ_frm {σ : mSt} {o : Nat} {F : Nat → V4} : frm (oW o) σ (stQ σ o F 16) := fun i j z => stQ_ne _ _ _ _ _ _ (by unfold oW at z; omega)
theorem settle_at {σ : mSt} {o : Nat} {M : Int} {E : Nat → V4} (hL : Lay σ) (ho : o ∈ latIds) (ha : atC σ o M E) (hM0 : M ≤ 1000000000) (hE : rOK M E) : ∃ F σ', setS E F ∧ mX3_settle o σ = some (0, σ') ∧ frm (oW o) σ σ' ∧ atC σ' o M F := by
  have dd : ∀ j, j < 4 → vg j (E j) ≤ 1000000000 := fun j hj => by
    have := Int.le_of_dvd hE.1 (dia_dvd hE.2.1 hE.2.2.2 hj)
    omega
  obtain ⟨F, h1, h2⟩ := settle_e hL ho hM0 ha.2 hE dd
  exact ⟨F, _, h1, h2, stQ_frm, by rw [stQ_ne _ _ _ _ _ _ (by omega)]; exact ha.1, fun r hr => rwC_stQ _ _ _ hr⟩
theorem lower_at {σ : mSt} {o : Nat} {M : Int} {E : Nat → V4} (hL : Lay σ) (ho : o ∈ latIds) (ha : atC σ o M E) (hM0 : M ≤ 1000000000) (hE : rOK M E) : ∃ g σ', gcP M E 16 g ∧ mX3_lower o σ = some (0, σ') ∧ frm (oW o) σ σ' ∧ atC σ' o (M / g) (lwr g E) := by
  have b := rB2_of hE
  obtain ⟨g, h1, h2⟩ := lower_e hL ho ha.1 ⟨hE.1, hM0⟩ ha.2 hE.2.1 (fun r c hr hc => by have := b r hr c hc; omega)
  refine ⟨g, _, h1, h2, stQ_frm.put (Or.inr ⟨rfl, rfl⟩), upS_same _ _ _ _, fun r hr => ?_⟩
  rw [rwC_up _ _ _ _ _ (by omega) hr, rwC_stQ _ _ _ hr]
theorem copy_at {σ : mSt} {o p : Nat} {M f : Int} {E : Nat → V4} (hL : Lay σ) (ho : o ∈ latIds) (hp : p ∈ latIds) (hop : o ≠ p) (ha : atC σ p M E) : ∃ σ', mX3_copy o p f σ = some (0, σ') ∧ frm (oW o) σ σ' ∧ atC σ' o (M * f) (fun r => vS f (E r)) := by
  refine ⟨_, copy_e hL ho hp hop, ?_, ?_, fun r hr => ?_⟩
  · exact (frm.one (Or.inr ⟨rfl, rfl⟩)).tr stQ_frm (fun i j z => z)
  · rw [stQ_ne _ _ _ _ _ _ (by omega), upS_same, ha.1]
  · rw [rwC_stQ _ _ _ hr, ha.2 r hr]
theorem oW_Lay {σ σ' : mSt} {o : Nat} (hL : Lay σ) (ho : o ∈ latIds) (hf : frm (oW o) σ σ') : Lay σ' := hL.frm hf (fun i j z => oW_fix ho z)
/-- multiplyTrial -/
def nW (n i j : Nat) : Prop := oW n i j ∨ i = 144
theorem nW_fix {o i j : Nat} (ho : o ∈ latIds) (h : nW o i j) : fixR i j = false := by
  rcases h with h | rfl
  · exact oW_fix ho h
  · exact fixR_data (by decide) j
theorem enL_nW {σ σ' : mSt} {O t n : Nat} (h : enL σ O t n) (hf : frm (nW n) σ σ') : enL σ' O t n := by
  obtain ⟨hL, g0, g1, g2, g3, g4, g5, g6, g7⟩ := h
  have w : ∀ j, ¬ nW n 114 j := fun j z => by unfold nW oW at z; omega
  exact ⟨hL.frm hf (fun i j z => nW_fix g6 z), by rw [hf 114 0 (w 0)]; exact g0, g1, g2, by rw [hf 114 3 (w 3)]; exact g3, by rw [hf 114 4 (w 4)]; exact g4, g5, g6, g7⟩
def mulI (a b M : Int) (E : Nat → V4) (k : Nat) (F : Nat → V4) : Prop := rOK (M * M) F ∧ ∀ S, Grp S → (subL (M * M) F S ↔ (subL M E S ∧ ∀ r s, r < 4 → s < 4 → 4 * r + s < k → S (vM a b (E r) (E s)) (M * M)))
theorem mulL27 {σ : mSt} {O t n r : Nat} {a b M : Int} {E : Nat → V4} {x : mSt → Option (Int × mSt)} (h : enL σ O t n) (h0 : σ O 0 = a) (h1 : σ O 1 = b) (hO : ∀ j, ¬ nW n O j) (ht : atC σ t M E) (hE : rOK M E) (hM : M ≤ 14400) (ha : -60 ≤ a ∧ a ≤ 60) (hb : -60 ≤ b ∧ b ≤ 60) (hr : r < 4) : ∀ (m s N : Nat) (ρ : mSt) (F : Nat → V4), s + m = 4 → m < N → frm (nW n) σ ρ → atC ρ n (M * M) F → mulI a b M E (4 * r + s) F → ∃ ρ' F', frm (nW n) σ ρ' ∧ atC ρ' n (M * M) F' ∧ mulI a b M E (4 * r + 4) F' ∧ mX2_multiplyTrial_L27 114 (r : Int) x N (s : Int) ρ = x ρ' := by
  intro m
  induction m with
  | zero =>
    intro s N ρ F p1 p2 p3 p4 p5
    obtain ⟨N, rfl⟩ : ∃ q, N = q + 1 := ⟨N - 1, by omega⟩
    obtain rfl : s = 4 := by omega
    exact ⟨ρ, F, p3, p4, p5, by rw [mX2_multiplyTrial_L27.eq_2, if_pos (by decide)]⟩
  | succ m ih =>
    intro s N ρ F p1 p2 p3 p4 p5
    obtain ⟨N, rfl⟩ : ∃ q, N = q + 1 := ⟨N - 1, by omega⟩
    have hs : s < 4 := by omega
    obtain ⟨hL, g0, g1, g2, g3, g4, g5, g6, g7⟩ := enL_nW h p3
    have tn : t ≠ n := by omega
    have far := lat_far g6 g5 (Ne.symm tn)
    have ht2 : atC ρ t M E := atC_congr ht (p3 _ _ (by unfold nW oW; omega)) (fun r hr j => p3 _ _ (by unfold nW oW; omega))
    have l6 : ρ 114 6 = ((144 : Nat) : Int) := hL.get 114 6 (by decide +kernel) (by decide +kernel)
    have k144 : shp 144 = (21, 4) := by decide
    obtain ⟨k1, k2, k3, k4, k5, k6⟩ := lat_lay hL g5
    obtain ⟨j1, j2, j3, j4, j5, j6⟩ := lat_lay hL g6
    have e1 : rowV ρ (t + 2 + r) = E r := ht2.2 r hr
    have e2 : rowV ρ (t + 2 + s) = E s := ht2.2 s hs
    have o0 : ρ O 0 = a := by rw [p3 _ _ (hO 0)]; exact h0
    have o1 : ρ O 1 = b := by rw [p3 _ _ (hO 1)]; exact h1
    have bE := rB2_of hE
    have M0 := hE.1
    have pr := vM_rng (a := a) (b := b) (X := M) (Y := M) (x := E r) (y := E s) ha hb (bE r hr) (bE s hs) (by omega)
    have MM := mul_rng (x := M) (y := M) (A := 14400) (B := 14400) (by omega) (by omega) (by omega)
    obtain ⟨y, hy⟩ : ∃ y, y = vM a b (E r) (E s) := ⟨_, rfl⟩
    rw [← hy] at pr
    have hL4 : Lay (stV ρ 144 y) := hL.frm (frm.stV (frm.rf ρ) (fun j => Or.inr rfl : ∀ j, nW n 144 j)) (fun i j z => nW_fix g6 z)
    have p4' : atC (stV ρ 144 y) n (M * M) F := atC_congr p4 (stV_ne _ _ _ _ _ (by omega)) (fun r hr j => stV_ne _ _ _ _ _ (by omega))
    obtain ⟨F1, ρ1, i1, i2, i3, i4⟩ := add_at (v := 144) (y := y) hL4 g6 p4' (by omega) k144 (by omega) (vg_ext fun c hc => by rw [vg_rowV _ _ hc, vg_stV _ _ _ hc]) (fun i hi => by have := pr i hi; omega) p5.1
    have f1 : frm (nW n) σ ρ1 := (p3.stV (fun j => Or.inr rfl)).tr i3 (fun i j z => Or.inl z)
    have mi : mulI a b M E (4 * r + (s + 1)) F1 := by
      refine ⟨i1.1, fun S hS => ?_⟩
      rw [add_sem (Int.mul_pos M0 M0) i1 hS, p5.2 S hS]
      constructor
      · rintro ⟨⟨q1, q2⟩, q3⟩
        refine ⟨q1, fun r' s' u1 u2 u3 => ?_⟩
        by_cases hh : r' = r ∧ s' = s
        · rw [hh.1, hh.2, ← hy]; exact q3
        · exact q2 r' s' u1 u2 (by omega)
      · rintro ⟨q1, q2⟩
        exact ⟨⟨q1, fun r' s' u1 u2 u3 => q2 r' s' u1 u2 (by omega)⟩, by rw [hy]; exact q2 r s hr hs (by omega)⟩
    obtain ⟨ρ', F', v1, v2, v3, v4⟩ := ih (s + 1) N ρ1 F1 (by omega) (by omega) f1 i4 mi
    refine ⟨ρ', F', v1, v2, v3, ?_⟩
    have n4 : stV ρ 144 y 114 4 = (n : Int) := by rw [stV_ne _ _ _ _ _ (by omega)]; exact g4
    have n6 : stV ρ 144 y 114 6 = ((144 : Nat) : Int) := by rw [stV_ne _ _ _ _ _ (by omega)]; exact l6
    rw [mX2_multiplyTrial_L27.eq_2, if_neg (by rw [wI_id (x := (s : Int)) (by omega)]; omega), gr' g0 g1, gc g2, gr' g0 g1, gc g2, gr' g3 (by omega), numbers_e hL g5 hr, mCall_some, gr' g3 (by omega), numbers_e hL g5 hs, mCall_some, gr' l6 (by omega), Int.toNat_natCast, Int.toNat_natCast, o0, o1, multiply_e (k6 r hr).1 (k6 s hs).1 k144 (by omega) (by omega), mCall_some, e1, e2, ← hy, gr' n4 (by omega), gr' n6 (by omega), i2, mCall_some, bnd_eq, show (s : Int) + 1 = ((s + 1 : Nat) : Int) by omega]
    exact v4
theorem mulL20 {σ : mSt} {O t n : Nat} {a b M : Int} {E : Nat → V4} {x : mSt → Option (Int × mSt)} (h : enL σ O t n) (h0 : σ O 0 = a) (h1 : σ O 1 = b) (hO : ∀ j, ¬ nW n O j) (ht : atC σ t M E) (hE : rOK M E) (hM : M ≤ 14400) (ha : -60 ≤ a ∧ a ≤ 60) (hb : -60 ≤ b ∧ b ≤ 60) : ∀ (m r N : Nat) (ρ : mSt) (F : Nat → V4), r + m = 4 → m < N → frm (nW n) σ ρ → atC ρ n (M * M) F → mulI a b M E (4 * r) F → ∃ ρ' F', frm (nW n) σ ρ' ∧ atC ρ' n (M * M) F' ∧ mulI a b M E 16 F' ∧ mX2_multiplyTrial_L20 114 x N (r : Int) ρ = x ρ' := by
  intro m
  induction m with
  | zero =>
    intro r N ρ F p1 p2 p3 p4 p5
    obtain ⟨N, rfl⟩ : ∃ q, N = q + 1 := ⟨N - 1, by omega⟩
    obtain rfl : r = 4 := by omega
    exact ⟨ρ, F, p3, p4, p5, by rw [mX2_multiplyTrial_L20.eq_2, if_pos (by decide)]⟩
  | succ m ih =>
    intro r N ρ F p1 p2 p3 p4 p5
    obtain ⟨N, rfl⟩ : ∃ q, N = q + 1 := ⟨N - 1, by omega⟩
    have hr : r < 4 := by omega
    obtain ⟨ρ1, F1, i1, i2, i3, i4⟩ := mulL27 (x := fun zσ => mX2_multiplyTrial_B86 114 (mX2_multiplyTrial_L20 114 x N) x (r : Int) zσ) h h0 h1 hO ht hE hM ha hb hr 4 0 mF ρ F (by omega) (by unfold mF; omega) p3 p4 p5
    obtain ⟨ρ', F', v1, v2, v3, v4⟩ := ih (r + 1) N ρ1 F1 (by omega) (by omega) i1 i2 i3
    refine ⟨ρ', F', v1, v2, v3, ?_⟩
    rw [mX2_multiplyTrial_L20.eq_2, if_neg (by rw [wI_id (x := (r : Int)) (by omega)]; omega)]
    refine i4.trans ?_
    unfold mX2_multiplyTrial_B86
    rw [bnd_eq, show (r : Int) + 1 = ((r + 1 : Nat) : Int) by omega]
    exact v4
theorem mulTrial_e {σ : mSt} {O t n : Nat} {a b M : Int} {E : Nat → V4} (h : enL σ O t n) (h0 : σ O 0 = a) (h1 : σ O 1 = b) (hO : ∀ j, ¬ nW n O j) (ht : atC σ t M E) (hE : rOK M E) (hM : M ≤ 14400) (ha : -60 ≤ a ∧ a ≤ 60) (hb : -60 ≤ b ∧ b ≤ 60) : ∃ σ' N F, mX2_multiplyTrial 114 σ = some (0, σ') ∧ frm (nW n) σ σ' ∧ atC σ' n N F ∧ gdL N F ∧ ∀ S, Grp S → (subL N F S ↔ (subL M E S ∧ ∀ r s, r < 4 → s < 4 → S (vM a b (E r) (E s)) (M * M))) := by
  have hh := h
  obtain ⟨hL, g0, g1, g2, g3, g4, g5, g6, g7⟩ := h
  have tn : n ≠ t := by omega
  have M0 := hE.1
  have MM := mul_rng (x := M) (y := M) (A := 14400) (B := 14400) (by omega) (by omega) (by omega)
  have MM0 : 0 < M * M := Int.mul_pos M0 M0
  obtain ⟨ρ, c1, c2, c3⟩ := copy_at (f := M) hL g6 g5 tn ht
  have m0 : mulI a b M E 0 (fun r => vS M (E r)) := ⟨rOK_vS M0 hE, fun S hS => by
    rw [subL_vS M0 M0 hS]
    exact ⟨fun q => ⟨q, fun r s _ _ u => by omega⟩, fun q => q.1⟩⟩
  obtain ⟨ρ1, F1, i1, i2, i3, i4⟩ := mulL20 (x := fun zσ => mX2_multiplyTrial_B92 114 zσ) hh h0 h1 hO ht hE hM ha hb 4 0 mF ρ _ (by omega) (by unfold mF; omega) (c2.mono (fun i j z => Or.inl z)) c3 m0
  have en1 := enL_nW hh i1
  obtain ⟨F2, ρ2, s1, s2, s3, s4⟩ := settle_at en1.1 g6 i2 (by omega) i3.1
  have f2 : frm (nW n) σ ρ2 := i1.tr s3 (fun i j z => Or.inl z)
  have en2 := enL_nW hh f2
  have ok2 := set_ok i3.1 s1
  obtain ⟨g, ρ3, u1, u2, u3, u4⟩ := lower_at en2.1 g6 s4 (by omega) ok2
  refine ⟨ρ3, _, _, ?_, f2.tr u3 (fun i j z => Or.inl z), u4, rOK_lwr u1 s1.2.1 ok2, fun S hS => ?_⟩
  · unfold mX2_multiplyTrial
    rw [gc114, gr' g4 (by omega), gr' g3 (by omega), gr' g3 (by omega), modulus_e hL g5, mCall_some, ht.1, c1, mCall_some]
    refine i4.trans ?_
    unfold mX2_multiplyTrial_B92
    rw [gr' en1.2.2.2.2.2.1 (by omega), s2, mCall_some, gr' en2.2.2.2.2.2.1 (by omega), u2, mCall_some]
  · rw [subL_lwr MM0 u1 hS, set_sem MM0 s1 hS, i3.2 S hS]
    exact ⟨fun q => ⟨q.1, fun r s x y => q.2 r s x y (by omega)⟩, fun q => ⟨q.1, fun r s x y _ => q.2 r s x y⟩⟩

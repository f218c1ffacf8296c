/-! isClosedWhole -/
theorem disc_at {σ : mSt} {O o : Nat} {a b M : Int} {E : Nat → V4} (hL : Lay σ) (hO : shp O = (5, 0)) (ho : o ∈ latIds) (h0 : σ O 0 = a) (h1 : σ O 1 = b) (ha : a ≠ 0 ∧ -60 ≤ a ∧ a ≤ 60) (hb : b ≠ 0 ∧ -60 ≤ b ∧ b ≤ 60) (hA : atC σ o M E) (hM : M ≤ 1000000000) (hE : rOK M E) : mX6_discriminantOf O o σ = some ((if lot M E ∣ 4 * a * b then ((4 * a * b).natAbs : Int) / lot M E else 0), σ) := by
  have lc := lot_congr hA.2 M
  have d : ∀ i, i < 4 → 0 < vg i (rwC σ o i) ∧ vg i (rwC σ o i) ∣ σ o 2 := fun i hi => by
    rw [hA.2 i hi, hA.1]
    exact ⟨tri_d hE.2.1 i hi, dia_dvd hE.2.1 hE.2.2.2 hi⟩
  have lp := lot_pos hE.1 hE.2.1 (uni_of hE.2.2.2)
  have := discOf_c hL hO ho h0 h1 ha hb (by rw [hA.1]; exact ⟨hE.1, hM⟩) d (by rw [hA.1, lc]; exact lp)
  rw [hA.1, lc] at this
  rw [this]
  unfold dsc4
  rw [lc]
theorem dq_pos {A l : Int} (hA : 1 ≤ A) (hl : 1 ≤ l) (h : l ∣ A) : 1 ≤ A / l ∧ l * (A / l) = A ∧ A / l ≤ A := by
  have e := Int.mul_ediv_cancel' h
  refine ⟨?_, e, Int.ediv_le_self _ (by omega)⟩
  rcases Int.lt_or_le 0 (A / l) with h1 | h1
  · omega
  · have := Int.mul_le_mul_of_nonneg_left h1 (show 0 ≤ l by omega)
    omega
def eW (i j : Nat) : Prop := nW 124 i j ∨ nW 131 i j ∨ (i = 114 ∧ (j = 3 ∨ j = 4))
theorem eW_fix {i j : Nat} (h : eW i j) : fixR i j = false := by
  rcases h with h | h | ⟨rfl, rfl | rfl⟩
  · exact nW_fix (by decide) h
  · exact nW_fix (by decide) h
  · decide +kernel
  · decide +kernel
def oFar (O : Nat) : Prop := O < 110 ∨ 150 ≤ O
theorem oFar_e {O : Nat} (h : oFar O) (j : Nat) : ¬ eW O j := fun z => by unfold eW nW oW at z; unfold oFar at h; omega
theorem enL_nw {O t n : Nat} {σ : mSt} (h : enL σ O t n) {i j : Nat} (z : nW n i j) : eW i j := by
  rcases h.2.2.2.2.2.2.2.2 with ⟨h1, h2⟩ | ⟨h1, h2⟩
  · exact Or.inr (Or.inl (by rw [← h2]; exact z))
  · exact Or.inl (by rw [← h2]; exact z)
theorem atC_nW {σ ρ : mSt} {t n : Nat} {M : Int} {E : Nat → V4} (ht : t ∈ latIds) (hn : n ∈ latIds) (h : n ≠ t) (hA : atC σ t M E) (hf : frm (nW n) σ ρ) : atC ρ t M E := by
  have f := lat_far hn ht h
  have t4 : ∀ a ∈ latIds, a + 7 ≤ 144 ∨ 145 ≤ a := by decide
  have t4 := t4 t ht
  exact atC_congr hA (hf _ _ (by unfold nW oW; omega)) (fun r hr j => hf _ _ (by unfold nW oW; omega))
theorem closL2 {O : Nat} {a b : Int} {x : mSt → Option (Int × mSt)} (ha : a ≠ 0 ∧ -60 ≤ a ∧ a ≤ 60) (hb : b ≠ 0 ∧ -60 ≤ b ∧ b ≤ 60) (hO : oFar O) : ∀ (m j N : Nat) (σ : mSt) (t n : Nat) (M : Int) (E : Nat → V4), j + m = 14 → m < N → enL σ O t n → σ O 0 = a → σ O 1 = b → atC σ t M E → gdL M E → M ≤ 10000000 → (2 : Int) ^ j ≤ lot M E → ∃ v σ' t' n' M' E', mX2_isClosedWhole_L2 114 x N (j : Int) σ = some (v, σ') ∧ frm eW σ σ' ∧ enL σ' O t' n' ∧ ((v = 1 ∧ atC σ' t' M' E' ∧ gdL M' E' ∧ Clo a b (latS M' E') ∧ Who a b (latS M' E') ∧ subL M E (latS M' E') ∧ ∀ S, Grp S → Clo a b S → subL M E S → subL M' E' S) ∨ (v = 0 ∧ ¬ ∃ S, Grp S ∧ Clo a b S ∧ Who a b S ∧ subL M E S)) := by
  obtain ⟨A1, A2, -, -⟩ := ab_rng ha hb
  obtain ⟨A, hA⟩ : ∃ A : Int, A = ((4 * a * b).natAbs : Int) := ⟨_, rfl⟩
  intro m
  induction m with
  | zero =>
    intro j N σ t n M E p1 p2 p3 h0 h1 p4 p5 p6 p7
    obtain ⟨N, rfl⟩ : ∃ q, N = q + 1 := ⟨N - 1, by omega⟩
    obtain rfl : j = 14 := by omega
    have p3' := p3
    obtain ⟨hL, g0, g1, g2, g3, g4, g5, g6, g7⟩ := p3
    have nd : ¬ lot M E ∣ 4 * a * b := fun z => by
      have := Int.le_of_dvd (by omega) (abs_dvd.mpr z)
      omega
    refine ⟨0, σ, t, n, M, E, ?_, frm.rf σ, p3', Or.inr ⟨rfl, ?_⟩⟩
    · rw [mX2_isClosedWhole_L2.eq_2, if_neg (by decide), gr' g0 g1, gr' g3 (by omega), disc_at hL g2 g5 h0 h1 ha hb p4 (by omega) p5.1, mCall_some, if_neg nd, if_pos (by decide)]
    · rintro ⟨S, s1, s2, s3, s4⟩
      exact nd (lot_dvd p5.1.1 p5.1.2.1 (uni_of p5.1.2.2.2) (who_le ((subL_lat p5.1.1 s1).mp s4) s3))
  | succ m ih =>
    intro j N σ t n M E p1 p2 p3 h0 h1 p4 p5 p6 p7
    obtain ⟨N, rfl⟩ : ∃ q, N = q + 1 := ⟨N - 1, by omega⟩
    have p3' := p3
    obtain ⟨hL, g0, g1, g2, g3, g4, g5, g6, g7⟩ := p3
    have hE := p5.1
    have lp := lot_pos hE.1 hE.2.1 (uni_of hE.2.2.2)
    have dA := disc_at hL g2 g5 h0 h1 ha hb p4 (by omega) hE
    rw [← hA] at dA A1 A2
    by_cases d1 : lot M E ∣ 4 * a * b
    · have d1' : lot M E ∣ A := by rw [hA]; exact abs_dvd.mpr d1
      rw [if_pos d1] at dA
      have dp := dq_pos A1 lp d1'
      by_cases d2 : rWho a b M E
      · have hw := who_of_rows hE.1 d2
        have s2 := who_dvS hE hw
        have M4 := whole_rng ha hb p5 (c := 2) (by omega) s2
        obtain ⟨ρ, K, F, m1, m2, m3, m4, m5⟩ := mulTrial_e p3' h0 h1 (fun q z => oFar_e hO q (enL_nw p3' z)) p4 hE M4 ha.2 hb.2
        have en := enL_nW p3' m2
        have K0 : ρ O 0 = a := by rw [m2 _ _ (fun z => oFar_e hO 0 (enL_nw p3' z))]; exact h0
        have K1 : ρ O 1 = b := by rw [m2 _ _ (fun z => oFar_e hO 1 (enL_nw p3' z))]; exact h1
        have sF : subL K F (dvS (4 * (a * b))) := (m5 _ (dvS_grp _)).mpr ⟨fun r hr => by have := dvS_mul 2 (s2 r hr); rwa [← Int.mul_assoc] at this, fun r s hr hs => prod_dvS hE hw hr hs⟩
        have KM := whole_rng ha hb m4 (c := 4) (by omega) sF
        have both := (m5 _ latS_grp).mp (subL_self K F)
        have lg := lot_grow hE m4.1 both.1
        have lpF := lot_pos m4.1.1 m4.1.2.1 (uni_of m4.1.2.2.2)
        have dF := disc_at en.1 g2 g6 K0 K1 ha hb m3 (by omega) m4.1
        rw [← hA] at dF
        by_cases heq : lot M E = lot K F
        · have back := lg.2 heq
          rw [← heq, if_pos d1] at dF
          refine ⟨1, ρ, t, n, M, E, ?_, m2.mono (fun i k z => enL_nw p3' z), en, Or.inl ⟨rfl, atC_nW g5 g6 (by omega) p4 m2, p5, clo_rows hE.1 (fun r s hr hs => (subL_lat m4.1.1 latS_grp).mp back _ _ (Int.mul_pos hE.1 hE.1) (both.2 r s hr hs)), hw, subL_self M E, fun S _ _ h => h⟩⟩
          rw [mX2_isClosedWhole_L2.eq_2, if_neg (by rw [wI_id (x := (j : Int)) (by omega)]; omega), gr' g0 g1, gr' g3 (by omega), dA, mCall_some, wL_id (x := A / lot M E) (by omega), if_neg (by omega), wholeC_e p3' h0 h1 p4.2 p4.1 ha.2 hb.2 ⟨hE.1, p6⟩ (rB2_of hE), mCall_some, if_neg (by rw [b2_t d2]; decide), m1, mCall_some, gr' en.2.1 g1, gr' en.2.2.2.2.2.1 (by omega), dF, mCall_some, wL_id (x := A / lot M E) (by omega), if_pos rfl]
        · have two := lot_two lp lpF lg.1 heq
          have ne2 : ¬ (if lot K F ∣ 4 * a * b then A / lot K F else 0) = A / lot M E := by
            by_cases d3 : lot K F ∣ 4 * a * b
            · rw [if_pos d3]
              have dp3 := dq_pos A1 lpF (by rw [hA]; exact abs_dvd.mpr d3)
              intro z
              rw [z] at dp3
              exact heq (Int.eq_of_mul_eq_mul_right (show A / lot M E ≠ 0 by omega) (by rw [dp.2.1, dp3.2.1]))
            · rw [if_neg d3]
              omega
          have dr : -9223372036854775808 ≤ (if lot K F ∣ 4 * a * b then A / lot K F else 0) ∧ (if lot K F ∣ 4 * a * b then A / lot K F else 0) < 9223372036854775808 := by
            by_cases d3 : lot K F ∣ 4 * a * b
            · rw [if_pos d3]
              have dp3 := dq_pos A1 lpF (by rw [hA]; exact abs_dvd.mpr d3)
              omega
            · rw [if_neg d3]; omega
          obtain ⟨ρ2, hρ2⟩ : ∃ ρ2, ρ2 = upS (upS ρ 114 3 (n : Int)) 114 4 (t : Int) := ⟨_, rfl⟩
          have f2 : frm eW ρ ρ2 := by
            rw [hρ2]
            exact (frm.one (Or.inr (Or.inr ⟨rfl, Or.inl rfl⟩))).put (Or.inr (Or.inr ⟨rfl, Or.inr rfl⟩))
          have u : ∀ i k, ¬ (i = 114 ∧ (k = 3 ∨ k = 4)) → ρ2 i k = ρ i k := fun i k z => by rw [hρ2, upS_ne (by omega), upS_ne (by omega)]
          have en2 : enL ρ2 O n t := by
            obtain ⟨e1, e2, e3, e4, e5, e6, e7, e8, e9⟩ := en
            refine ⟨e1.frm f2 (fun i k z => eW_fix z), by rw [u _ _ (by omega)]; exact e2, e3, e4, ?_, ?_, e8, e7, by omega⟩
            · rw [hρ2, upS_ne (by omega), upS_same]
            · rw [hρ2, upS_same]
          have n9 : ∀ a ∈ latIds, a + 7 ≤ 114 ∨ 115 ≤ a := by decide
          have nn := n9 n g6
          have aF : atC ρ2 n K F := atC_congr m3 (u _ _ (by omega)) (fun r hr k => u _ _ (by omega))
          obtain ⟨v, σ', t', n', M', E', i1, i2, i3, i4⟩ := ih (j + 1) N ρ2 n t K F (by omega) (by omega) en2 (by unfold oFar at hO; rw [u _ _ (by omega)]; exact K0) (by unfold oFar at hO; rw [u _ _ (by omega)]; exact K1) aF m4 (by omega) (by rw [Int.pow_succ]; omega)
          refine ⟨v, σ', t', n', M', E', ?_, ((m2.mono (fun i k z => enL_nw p3' z)).tr f2 (fun i k z => z)).tr i2 (fun i k z => z), i3, ?_⟩
          · rw [mX2_isClosedWhole_L2.eq_2, if_neg (by rw [wI_id (x := (j : Int)) (by omega)]; omega), gr' g0 g1, gr' g3 (by omega), dA, mCall_some, wL_id (x := A / lot M E) (by omega), if_neg (by omega), wholeC_e p3' h0 h1 p4.2 p4.1 ha.2 hb.2 ⟨hE.1, p6⟩ (rB2_of hE), mCall_some, if_neg (by rw [b2_t d2]; decide), m1, mCall_some, gr' en.2.1 g1, gr' en.2.2.2.2.2.1 (by omega), dF, mCall_some, wL_id dr, if_neg ne2, gr' en.2.2.2.2.1 (by omega), gr' en.2.2.2.2.2.1 (by omega), mG_pos (by omega), bnd_eq, mG_pos (by omega), bnd_eq, bnd_eq, ← hρ2, show (j : Int) + 1 = ((j + 1 : Nat) : Int) by omega]
            exact i1
          · have clo : ∀ S, Grp S → Clo a b S → subL M E S → subL K F S := fun S s1 s2 s3 => (m5 S s1).mpr ⟨s3, fun r s hr hs => s2 _ _ _ _ hE.1 hE.1 (s3 r hr) (s3 s hs)⟩
            rcases i4 with ⟨w1, w2, w3, w4, w5, w6, w7⟩ | ⟨w1, w2⟩
            · refine Or.inl ⟨w1, w2, w3, w4, w5, ?_, fun S s1 s2 s3 => w7 S s1 s2 (clo S s1 s2 s3)⟩
              exact ((m5 _ latS_grp).mp w6).1
            · refine Or.inr ⟨w1, ?_⟩
              rintro ⟨S, s1, s2, s3, s4⟩
              exact w2 ⟨S, s1, s2, s3, clo S s1 s2 s4⟩
      · refine ⟨0, σ, t, n, M, E, ?_, frm.rf σ, p3', Or.inr ⟨rfl, ?_⟩⟩
        · rw [mX2_isClosedWhole_L2.eq_2, if_neg (by rw [wI_id (x := (j : Int)) (by omega)]; omega), gr' g0 g1, gr' g3 (by omega), dA, mCall_some, wL_id (x := A / lot M E) (by omega), if_neg (by omega), wholeC_e p3' h0 h1 p4.2 p4.1 ha.2 hb.2 ⟨hE.1, p6⟩ (rB2_of hE), mCall_some, if_pos (by rw [b2_f d2]; decide)]
        · rintro ⟨S, s1, s2, s3, s4⟩
          exact d2 (rows_of_who hE.1 (who_le ((subL_lat hE.1 s1).mp s4) s3))
    · refine ⟨0, σ, t, n, M, E, ?_, frm.rf σ, p3', Or.inr ⟨rfl, ?_⟩⟩
      · rw [mX2_isClosedWhole_L2.eq_2, if_neg (by rw [wI_id (x := (j : Int)) (by omega)]; omega), gr' g0 g1, gr' g3 (by omega), dA, mCall_some, if_neg d1, if_pos (by decide)]
      · rintro ⟨S, s1, s2, s3, s4⟩
        exact d1 (lot_dvd hE.1 hE.2.1 (uni_of hE.2.2.2) (who_le ((subL_lat hE.1 s1).mp s4) s3))
theorem closed_e {σ : mSt} {O t n : Nat} {a b M : Int} {E : Nat → V4} (ha : a ≠ 0 ∧ -60 ≤ a ∧ a ≤ 60) (hb : b ≠ 0 ∧ -60 ≤ b ∧ b ≤ 60) (hO : oFar O) (h : enL σ O t n) (h0 : σ O 0 = a) (h1 : σ O 1 = b) (ht : atC σ t M E) (hE : gdL M E) (hM : M ≤ 10000000) : ∃ v σ' t' n' M' E', mX2_isClosedWhole 114 σ = some (v, σ') ∧ frm eW σ σ' ∧ enL σ' O t' n' ∧ ((v = 1 ∧ atC σ' t' M' E' ∧ gdL M' E' ∧ Clo a b (latS M' E') ∧ Who a b (latS M' E') ∧ subL M E (latS M' E') ∧ ∀ S, Grp S → Clo a b S → subL M E S → subL M' E' S) ∨ (v = 0 ∧ ¬ ∃ S, Grp S ∧ Clo a b S ∧ Who a b S ∧ subL M E S)) := by
  unfold mX2_isClosedWhole
  rw [gc114]
  exact closL2 ha hb hO 14 0 mF σ t n M E (by omega) (by unfold mF; omega) h h0 h1 ht hE hM (lot_pos hE.1.1 hE.1.2.1 (uni_of hE.1.2.2.2))
/-! isFit -/
def sumW (i j : Nat) : Prop := eW i j ∨ (139 ≤ i ∧ i ≤ 143)
theorem enL_eW {σ σ' : mSt} {O t n : Nat} (h : enL σ O t n) (hf : frm (oW t) σ σ') : enL σ' O t n := by
  obtain ⟨hL, g0, g1, g2, g3, g4, g5, g6, g7⟩ := h
  have w : ∀ j, ¬ oW t 114 j := fun j z => by unfold oW at z; omega
  exact ⟨hL.frm hf (fun i j z => oW_fix g5 z), by rw [hf 114 0 (w 0)]; exact g0, g1, g2, by rw [hf 114 3 (w 3)]; exact g3, by rw [hf 114 4 (w 4)]; exact g4, g5, g6, g7⟩
theorem fit_e {σ : mSt} {O t n o : Nat} {a b M p : Int} {E : Nat → V4} {x : V4} (ha : a ≠ 0 ∧ -60 ≤ a ∧ a ≤ 60) (hb : b ≠ 0 ∧ -60 ≤ b ∧ b ≤ 60) (hO : oFar O) (h : enL σ O t n) (h0 : σ O 0 = a) (h1 : σ O 1 = b) (h2 : σ O 2 = (o : Int)) (ho : o ∈ latIds) (hoF : oFar o) (hA : atC σ o M E) (hE : rOK M E) (hM : M ≤ 7200) (hp : 2 ≤ p ∧ p ≤ 60) (e1 : σ 114 1 = p) (e2 : σ 114 2 = M * p) (hx : rowV σ 143 = x) (hxr : ∀ i, i < 4 → -10000000 ≤ vg i x ∧ vg i x ≤ 10000000) : ∃ v σ' t' n' M' E', mX2_isFit 114 σ = some (v, σ') ∧ frm eW σ σ' ∧ enL σ' O t' n' ∧ ((v = 1 ∧ x ≠ v0 ∧ atC σ' t' M' E' ∧ hull a b M E x (M * p) M' E') ∨ (v = 0 ∧ (x = v0 ∨ ¬ fitS a b M E x (M * p)))) := by
  have h' := h
  obtain ⟨hL, g0, g1, g2, g3, g4, g5, g6, g7⟩ := h
  have l5 : σ 114 5 = ((138 : Nat) : Int) := hL.get 114 5 (by decide +kernel) (by decide +kernel)
  have l4 : σ 138 4 = ((143 : Nat) : Int) := hL.get 138 4 (by decide +kernel) (by decide +kernel)
  have k138 : shp 138 = (27, 5) := by decide
  have k143 : shp 143 = (21, 4) := by decide
  have M0 := hE.1
  have mp := mul_rng (x := M) (y := p) (A := 7200) (B := 60) (by omega) (by omega) (by omega)
  have mp0 : 0 < M * p := Int.mul_pos M0 (by omega)
  have mm := mul_rng (x := M * p) (y := M * p) (A := 7200 * 60) (B := 7200 * 60) (by omega) (by omega) (by omega)
  have mm0 : 0 < M * p * (M * p) := Int.mul_pos mp0 mp0
  have pr := pr_rng (M := 10000000) (x := x) (y := x) ha.2 hb.2 (by omega) hxr hxr
  have vn : vN a b x = x.1 * x.1 - a * x.2.1 * x.2.1 - b * x.2.2.1 * x.2.2.1 + a * b * x.2.2.2 * x.2.2.2 := rfl
  have r4 : ∀ i, i < 4 → σ 143 i = vg i x := fun i hi => by rw [← hx, vg_rowV _ _ hi]
  have main : x ≠ v0 → ∃ v σ' t' n' M' E', mX2_isFit_B41 114 143 σ = some (v, σ') ∧ frm eW σ σ' ∧ enL σ' O t' n' ∧ ((v = 1 ∧ x ≠ v0 ∧ atC σ' t' M' E' ∧ hull a b M E x (M * p) M' E') ∨ (v = 0 ∧ (x = v0 ∨ ¬ fitS a b M E x (M * p)))) := by
    intro xn
    unfold mX2_isFit_B41
    rw [gr' g0 g1, gc g2, gr' g0 g1, gc g2, h0, h1, form_e k143, mCall_some, hx, e2, div_e _ _ _ (by rw [vn]; omega) (by omega), mCall_some]
    by_cases dn : M * p * (M * p) ∣ vN a b x
    · rw [b2_t ⟨by omega, dn⟩, if_neg (by decide), gr' g3 (by omega), gr' g0 g1, gc g2, gr' h2 (by unfold oFar at hoF; intro z; subst z; revert ho; decide), e1, wI_id (by omega)]
      have tf : ∀ a ∈ latIds, oFar a → a ≠ 124 ∧ a ≠ 131 := by
        intro a _ q
        unfold oFar at q
        omega
      have tf := tf o ho hoF
      obtain ⟨ρ1, c1, c2, c3⟩ := copy_at (f := p) hL g5 ho (show t ≠ o by omega) hA
      have en1 := enL_eW h' c2
      have t143 : t + 7 ≤ 139 := by omega
      have x1 : rowV ρ1 143 = x := by
        rw [← hx]
        unfold rowV
        rw [c2 _ _ (by unfold oW; omega), c2 _ _ (by unfold oW; omega), c2 _ _ (by unfold oW; omega), c2 _ _ (by unfold oW; omega)]
      obtain ⟨F1, ρ2, a1, a2, a3, a4⟩ := add_at (v := 143) (y := x) en1.1 g5 c3 (by omega) k143 (by omega) x1 (fun i hi => by have := hxr i hi; omega) (rOK_vS (by omega) hE)
      have en2 := enL_eW en1 a3
      obtain ⟨F2, ρ3, s1, s2, s3, s4⟩ := settle_at en2.1 g5 a4 (by omega) a1.1
      have en3 := enL_eW en2 s3
      have ok2 := set_ok a1.1 s1
      obtain ⟨g, ρ4, u1, u2, u3, u4⟩ := lower_at en3.1 g5 s4 (by omega) ok2
      have en4 := enL_eW en3 u3
      have gd := rOK_lwr u1 s1.2.1 ok2
      have fr : frm (oW t) σ ρ4 := ((c2.tr a3 (fun i j z => z)).tr s3 (fun i j z => z)).tr u3 (fun i j z => z)
      have we : ∀ i j, oW t i j → eW i j := fun i j z => by
        rcases g7 with ⟨q, -⟩ | ⟨q, -⟩
        · exact Or.inl (Or.inl (by rw [← q]; exact z))
        · exact Or.inr (Or.inl (Or.inl (by rw [← q]; exact z)))
      have nO : ∀ j, ¬ oW t O j := fun j z => oFar_e hO j (we _ _ z)
      have gM : M * p / g ≤ M * p := Int.ediv_le_self _ (by omega)
      have sem : ∀ S, Grp S → (subL (M * p / g) (lwr g F2) S ↔ (subL M E S ∧ S x (M * p))) := fun S hS => by
        rw [subL_lwr mp0 u1 hS, set_sem mp0 s1 hS, add_sem mp0 a1 hS, subL_vS M0 (by omega) hS]
      obtain ⟨v, σ', t', n', M', E', w1, w2, w3, w4⟩ := closed_e ha hb hO en4 (by rw [fr _ _ (nO 0)]; exact h0) (by rw [fr _ _ (nO 1)]; exact h1) u4 gd (by omega)
      refine ⟨v, σ', t', n', M', E', ?_, (fr.mono we).tr w2 (fun i j z => z), w3, ?_⟩
      · rw [c1, mCall_some, gr' en1.2.2.2.2.1 (by omega), a2, mCall_some, gr' en2.2.2.2.2.1 (by omega), s2, mCall_some, gr' en3.2.2.2.2.1 (by omega), u2, mCall_some, w1, mCall_some]
        rcases w4 with ⟨q, -⟩ | ⟨q, -⟩
        · rw [q, mG_pos (by decide)]
        · rw [q, mG_pos (by decide)]
      · rcases w4 with ⟨q1, q2, q3, q4, q5, q6, q7⟩ | ⟨q1, q2⟩
        · have sb := (sem _ latS_grp).mp q6
          exact Or.inl ⟨q1, xn, q2, q3, q4, q5, sb.1, sb.2, fun S z1 z2 z3 z4 => q7 S z1 z2 ((sem S z1).mpr ⟨z3, z4⟩)⟩
        · refine Or.inr ⟨q1, Or.inr ?_⟩
          rintro ⟨S, z1, z2, z3, z4, z5⟩
          exact q2 ⟨S, z1, z2, z3, (sem S z1).mpr ⟨z4, z5⟩⟩
    · refine ⟨0, σ, t, n, M, E, ?_, frm.rf σ, h', Or.inr ⟨rfl, Or.inr ?_⟩⟩
      · rw [b2_f (fun z => dn z.2), if_pos (by decide)]
      · rintro ⟨S, z1, z2, z3, z4, z5⟩
        exact dn (z3 x (M * p) mp0 z5).2
  unfold mX2_isFit
  rw [gc114, gr' l5 (by omega), gx k138 _ (by omega), gr' l4 (by omega), gx k143 _ (by omega), r4 0 (by omega), wL_id (x := vg 0 x) (by have := hxr 0 (by omega); omega)]
  by_cases c0 : vg 0 x = 0
  · rw [if_pos c0, gx k143 _ (by omega), r4 1 (by omega), wL_id (x := vg 1 x) (by have := hxr 1 (by omega); omega)]
    by_cases c1 : vg 1 x = 0
    · rw [if_pos c1, gx k143 _ (by omega), r4 2 (by omega), wL_id (x := vg 2 x) (by have := hxr 2 (by omega); omega)]
      by_cases c2 : vg 2 x = 0
      · rw [if_pos c2, gx k143 _ (by omega), r4 3 (by omega), wL_id (x := vg 3 x) (by have := hxr 3 (by omega); omega)]
        by_cases c3 : vg 3 x = 0
        · rw [if_pos c3]
          exact ⟨0, σ, t, n, M, E, rfl, frm.rf σ, h', Or.inr ⟨rfl, Or.inl (vg_ext fun i hi => by rw [vg_v0 hi]; exact lt4 (p := fun i => vg i x = 0) c0 c1 c2 c3 hi)⟩⟩
        · rw [if_neg c3]
          exact main (fun z => c3 (by rw [z]; rfl))
      · rw [if_neg c2]
        exact main (fun z => c2 (by rw [z]; rfl))
    · rw [if_neg c1]
      exact main (fun z => c1 (by rw [z]; rfl))
  · rw [if_neg c0]
    exact main (fun z => c0 (by rw [z]; rfl))

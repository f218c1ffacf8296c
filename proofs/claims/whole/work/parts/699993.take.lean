/-! takeTrial -/
theorem take_e {σ : mSt} {O t n o : Nat} {a b M N : Int} {E F : Nat → V4} (ha : a ≠ 0 ∧ -60 ≤ a ∧ a ≤ 60) (hb : b ≠ 0 ∧ -60 ≤ b ∧ b ≤ 60) (h : enL σ O t n) (h0 : σ O 0 = a) (h1 : σ O 1 = b) (h2 : σ O 2 = (o : Int)) (ho : o ∈ latIds) (hot : o ≠ t) (hO : ∀ j, ¬ oW o O j) (hA : atC σ o M E) (hE : rOK M E) (hM : M ≤ 1000000000) (hd : lot M E ∣ 4 * a * b) (hB : atC σ t N F) (hF : rOK N F) (hN : N ≤ 1000000000) (hd2 : lot N F ∣ 4 * a * b) : ∃ σ', mX2_takeTrial 114 σ = some (((4 * a * b).natAbs : Int) / lot M E / (((4 * a * b).natAbs : Int) / lot N F), σ') ∧ frm (oW o) σ σ' ∧ atC σ' o N F := by
  obtain ⟨hL, g0, g1, g2, g3, g4, g5, g6, g7⟩ := h
  obtain ⟨A1, A2, -, -⟩ := ab_rng ha hb
  obtain ⟨ρ, c1, c2, c3⟩ := copy_at (f := 1) hL ho g5 hot hB
  have c4 : atC ρ o N F := ⟨by rw [c3.1, Int.mul_one], fun r hr => by rw [c3.2 r hr]; exact vS_one _⟩
  have lp := lot_pos hE.1 hE.2.1 (uni_of hE.2.2.2)
  have lpF := lot_pos hF.1 hF.2.1 (uni_of hF.2.2.2)
  have q1 := dq_pos A1 lp (abs_dvd.mpr hd)
  have q2 := dq_pos A1 lpF (abs_dvd.mpr hd2)
  have w : ∀ j, ¬ oW o 114 j := fun j z => by
    have n9 : ∀ a ∈ latIds, a + 7 ≤ 114 ∨ 115 ≤ a := by decide
    have nn := n9 o ho
    unfold oW at z
    omega
  have o0 : o ≠ 0 := fun z => by subst z; revert ho; decide
  have hL' : Lay ρ := hL.frm c2 (fun i j z => oW_fix ho z)
  refine ⟨ρ, ?_, c2, c4⟩
  have d1 : mX6_discriminant O σ = some (((4 * a * b).natAbs : Int) / lot M E, σ) := by
    unfold mX6_discriminant
    rw [gc g2, gr' h2 o0, disc_at hL g2 ho h0 h1 ha hb hA hM hE, if_pos hd, mCall_some]
  have d2 : mX6_discriminant O ρ = some (((4 * a * b).natAbs : Int) / lot N F, ρ) := by
    unfold mX6_discriminant
    rw [gc g2, gr' ((c2 _ _ (hO 2)).trans h2) o0, disc_at hL' g2 ho ((c2 _ _ (hO 0)).trans h0) ((c2 _ _ (hO 1)).trans h1) ha hb c4 hN hF, if_pos hd2, mCall_some]
  unfold mX2_takeTrial
  rw [gc114, gr' g0 g1, d1, mCall_some, gr' g0 g1, gc g2, gr' h2 o0, gr' g3 (fun z => by rw [z] at g5; revert g5; decide), c1, mCall_some, gr' ((c2 _ _ (w 0)).trans g0) g1, d2, mCall_some, quot_e _ _ _ (by omega) (by omega) (by omega), mCall_some]
/-! grow: the four loops -/
def gV (q : Nat) (i j : Nat) : Prop := gW i j ∨ oW (182 + 9 * q) i j
def gF (σ0 σ : mSt) (q : Nat) (a b M p : Int) (E : Nat → V4) (v : Int) : Prop := ∃ k N F, digs p k ∧ gdP a b M p E k ∧ ng a b M p E 4 (pv p k 4) ∧ hull a b M E (pS E k 4) (M * p) N F ∧ v = ((4 * a * b).natAbs : Int) / lot M E / (((4 * a * b).natAbs : Int) / lot N F) ∧ frm (gV q) σ0 σ ∧ atC σ (182 + 9 * q) N F ∧ ∃ t n, enL σ (181 + 9 * q) t n
theorem lotd {a b M : Int} {E : Nat → V4} (h : gdL M E) (hw : Who a b (latS M E)) : lot M E ∣ 4 * a * b := lot_dvd h.1.1 h.1.2.1 (uni_of h.1.2.2.2) hw
theorem kU_dig {p d : Int} {k : Nat → Int} {c : Nat} (hk : ∀ i, i < c → 0 ≤ k i ∧ k i < p) (hd : 0 ≤ d ∧ d < p) : ∀ i, i < c + 1 → 0 ≤ kU k c d i ∧ kU k c d i < p := fun i hi => by
  by_cases h2 : i = c
  · rw [h2, kU_c]; exact hd
  · rw [kU_n _ _ _ h2]; exact hk i (by omega)
theorem kU_pv {p d X : Int} {k : Nat → Int} {c : Nat} (hX : pv p k c = X) : pv p (kU k c d) (c + 1) = X * p + d := by
  show pv p (kU k c d) c * p + kU k c d c = _
  rw [kU_c, pv_congr (k' := k) c (fun i hi => kU_n _ _ _ (by omega)), hX]
theorem gI_fr {σ0 σ σ' : mSt} {q c : Nat} {p Mp : Int} {E : Nat → V4} {k : Nat → Int} (h : gI σ0 σ (181 + 9 * q) p Mp E c k) (hf : frm eW σ σ') (he : ∃ t n, enL σ' (181 + 9 * q) t n) (hc : c ≤ 4) : gI σ0 σ' (181 + 9 * q) p Mp E c k := by
  obtain ⟨h1, h2, h3, h4, h5⟩ := h
  refine ⟨he, h2.tr hf (fun i j z => Or.inl z), ?_, ?_, fun j hj => ?_⟩
  · rw [hf _ _ (by unfold eW nW oW; omega)]; exact h3
  · rw [hf _ _ (by unfold eW nW oW; omega)]; exact h4
  · rw [← h5 j hj]
    unfold rowV
    rw [hf _ _ (by unfold eW nW oW; omega), hf _ _ (by unfold eW nW oW; omega), hf _ _ (by unfold eW nW oW; omega), hf _ _ (by unfold eW nW oW; omega)]
theorem grow90 {σ0 : mSt} {q : Nat} {a b M p X v3 v4 v5 : Int} {E : Nat → V4} {k : Nat → Int} {x : mSt → Option (Int × mSt)} (hC : gC σ0 q a b M p E) (hk : ∀ i, i < 3 → 0 ≤ k i ∧ k i < p) (hX : pv p k 3 = X) : ∀ (m d N : Nat) (σ : mSt), (d : Int) + m = p → m < N → gI σ0 σ (181 + 9 * q) p (M * p) E 3 k → ng a b M p E 4 (X * p + d) → (∃ v σ', mX2_grow_L90 114 (181 + 9 * q) p v3 v4 v5 x N (d : Int) σ = some (v, σ') ∧ gF σ0 σ' q a b M p E v) ∨ ∃ σ', mX2_grow_L90 114 (181 + 9 * q) p v3 v4 v5 x N (d : Int) σ = x σ' ∧ gI σ0 σ' (181 + 9 * q) p (M * p) E 3 k ∧ ng a b M p E 4 (X * p + p) := by
  have hC' := hC
  obtain ⟨c1, c2, c3, c4, c5, c6, c7, c8⟩ := hC
  have ok := (ord_ok c8).1.1
  have M7 := (ord_facts c2 c3 c8).1
  intro m
  induction m with
  | zero =>
    intro d N σ h1 h2 hI hn
    obtain ⟨N, rfl⟩ : ∃ z, N = z + 1 := ⟨N - 1, by omega⟩
    refine Or.inr ⟨σ, ?_, hI, by rw [show X * p + p = X * p + (d : Int) by omega]; exact hn⟩
    rw [mX2_grow_L90.eq_2, if_pos (by rw [wI_id (x := (d : Int)) (by omega), wI_id (x := p) (by omega)]; omega)]
  | succ m ih =>
    intro d N σ h1 h2 hI hn
    obtain ⟨N, rfl⟩ : ∃ z, N = z + 1 := ⟨N - 1, by omega⟩
    obtain ⟨ρ, r1, r2⟩ := goes_I hC' (show 3 < 4 by omega) hI hk (d := (d : Int)) (by omega)
    have hn2 : ng a b M p E 4 (X * p + ((d + 1 : Nat) : Int)) → gI σ0 ρ (181 + 9 * q) p (M * p) E 3 k → _ := fun z y => ih (d + 1) N ρ (by omega) (by omega) y z
    by_cases g : M * p ∣ 2 * t0F a b 3 * vg 3 (pS E (kU k 3 (d : Int)) 4)
    · have kd := kU_dig (c := 3) hk (show 0 ≤ (d : Int) ∧ (d : Int) < p by omega)
      obtain ⟨x1, x2, x3⟩ := gI_ctx hC' r2
      obtain ⟨⟨t, n, en⟩, f, e1, e2, e3⟩ := r2
      obtain ⟨k1, k2, k3, k4, k5, k6⟩ := ord_lay en.1 c1
      have rg := pS_rng (rB2_of ok) (k := kU k 3 (d : Int)) kd (by omega) c4.2 4 (by omega)
      obtain ⟨v, σ', t', n', M', E', w1, w2, w3, w4⟩ := fit_e c2 c3 (by unfold oFar; omega) en x1 x2 k5 k3 (by unfold oFar; omega) x3 ok (by omega) c4 e1 e2 (e3 4 (by omega)) (fun i hi => by have := rg i hi; omega)
      have r2' := gI_fr ⟨⟨t, n, en⟩, f, e1, e2, e3⟩ w2 ⟨t', n', w3⟩ (by omega)
      rcases w4 with ⟨q1, q2, q3, q4⟩ | ⟨q1, q2⟩
      · have tf : ∀ a ∈ latIds, oFar a → a ≠ 124 ∧ a ≠ 131 := by
          intro a _ z
          unfold oFar at z
          omega
        have tf := tf _ k3 (by unfold oFar; omega)
        obtain ⟨y1, y2, y3⟩ := gI_ctx hC' r2'
        have w3' := w3
        obtain ⟨-, -, -, -, -, -, z5, z6, z7⟩ := w3
        have Nr := whole_rng c2 c3 q4.1 (c := 2) (by omega) (who_dvS q4.1.1 q4.2.2.1)
        obtain ⟨τ, t1, t2, t3⟩ := take_e c2 c3 w3' y1 y2 (ord_lay w3'.1 c1).2.2.2.2.1 k3 (by omega) (fun j z => by unfold oW at z; omega) y3 ok (by omega) (lotd (ord_ok c8).1 (ord_ok c8).2.2) q3 q4.1.1 (by omega) (lotd q4.1 q4.2.2.1)
        refine Or.inl ⟨_, τ, ?_, kU k 3 (d : Int), M', E', kd, ⟨q2, hull_fit q4⟩, by rw [kU_pv hX]; exact hn, q4, rfl, ?_, t3, ?_⟩
        · rw [mX2_grow_L90.eq_2, if_neg (by rw [wI_id (x := (d : Int)) (by omega), wI_id (x := p) (by omega)]; omega), show (3 : Int) = ((3 : Nat) : Int) from rfl, r1, mCall_some, if_neg (by rw [b2_t g]; decide), w1, mCall_some, if_neg (by rw [q1]; decide), t1, mCall_some]
        · exact ((r2'.2.1.mono (fun i j z => Or.inl z)).tr t2 (fun i j z => Or.inr z))
        · refine ⟨t', n', ?_⟩
          obtain ⟨z0, z1, z2, z3, z4, z8, -⟩ := w3'
          have w : ∀ j, ¬ oW (182 + 9 * q) 114 j := fun j z => by unfold oW at z; omega
          exact ⟨z0.frm t2 (fun i j z => oW_fix k3 z), by rw [t2 114 0 (w 0)]; exact z1, z2, z3, by rw [t2 114 3 (w 3)]; exact z4, by rw [t2 114 4 (w 4)]; exact z8, z5, z6, z7⟩
      · have nx : ng a b M p E 4 (X * p + ((d + 1 : Nat) : Int)) := by
          rw [show X * p + ((d + 1 : Nat) : Int) = X * p + (d : Int) + 1 by omega]
          refine ng_next (K := kU k 3 (d : Int)) (by omega) (by omega) kd hn (kU_pv hX) (fun k' hk' he hg => ?_)
          obtain ⟨g1, g2⟩ := hg
          rw [pS_congr (k' := kU k 3 (d : Int)) 4 he] at g1 g2
          rcases q2 with q2 | q2
          · exact g1 q2
          · exact q2 g2
        have := ih (d + 1) N σ' (by omega) (by omega) (gI_low r2') nx
        rw [mX2_grow_L90.eq_2, if_neg (by rw [wI_id (x := (d : Int)) (by omega), wI_id (x := p) (by omega)]; omega), show (3 : Int) = ((3 : Nat) : Int) from rfl, r1, mCall_some, if_neg (by rw [b2_t g]; decide), w1, mCall_some, if_pos (by rw [q1]; decide), bnd_eq, show (d : Int) + 1 = ((d + 1 : Nat) : Int) by omega]
        exact this
    · have pr := ng_prune ok (by omega) (show 3 < 4 by omega) hk (show 0 ≤ (d : Int) ∧ (d : Int) < p by omega) hX hn g
      have := ih (d + 1) N ρ (by omega) (by omega) (gI_low r2) (by rw [show ((d + 1 : Nat) : Int) = (d : Int) + 1 by omega]; exact pr)
      rw [mX2_grow_L90.eq_2, if_neg (by rw [wI_id (x := (d : Int)) (by omega), wI_id (x := p) (by omega)]; omega), show (3 : Int) = ((3 : Nat) : Int) from rfl, r1, mCall_some, if_pos (by rw [b2_f g]; decide), bnd_eq, show (d : Int) + 1 = ((d + 1 : Nat) : Int) by omega]
      exact this

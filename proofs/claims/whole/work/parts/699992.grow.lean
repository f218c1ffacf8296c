/-! grow: which one is found first -/
def gdP (a b M p : Int) (E : Nat → V4) (k : Nat → Int) : Prop := pS E k 4 ≠ v0 ∧ fitS a b M E (pS E k 4) (M * p)
def ng (a b M p : Int) (E : Nat → V4) (c : Nat) (X : Int) : Prop := ∀ k, digs p k → pv p k c < X → ¬ gdP a b M p E k
theorem pS_congr {E : Nat → V4} {k k' : Nat → Int} : ∀ c, (∀ i, i < c → k i = k' i) → pS E k c = pS E k' c := by
  intro c
  induction c with
  | zero => intro _; rfl
  | succ c ih =>
    intro h
    show vA (pS E k c) (vS (k c) (E c)) = vA (pS E k' c) (vS (k' c) (E c))
    rw [ih (fun i hi => h i (by omega)), h c (by omega)]
theorem pv_congr {p : Int} {k k' : Nat → Int} : ∀ c, (∀ i, i < c → k i = k' i) → pv p k c = pv p k' c := by
  intro c
  induction c with
  | zero => intro _; rfl
  | succ c ih =>
    intro h
    show pv p k c * p + k c = pv p k' c * p + k' c
    rw [ih (fun i hi => h i (by omega)), h c (by omega)]
theorem pdig_eq {p x y d e : Int} (hp : 0 < p) (hd : 0 ≤ d ∧ d < p) (he : 0 ≤ e ∧ e < p) (h : x * p + d = y * p + e) : x = y ∧ d = e := by
  have hxy : x = y := by
    rcases Int.lt_trichotomy x y with h1 | h1 | h1
    · have := Int.mul_le_mul_of_nonneg_right (show x + 1 ≤ y by omega) (show 0 ≤ p by omega)
      rw [Int.add_mul] at this
      omega
    · exact h1
    · have := Int.mul_le_mul_of_nonneg_right (show y + 1 ≤ x by omega) (show 0 ≤ p by omega)
      rw [Int.add_mul] at this
      omega
  subst hxy
  exact ⟨rfl, by omega⟩
theorem pv_inj {p : Int} {k k' : Nat → Int} (hp : 0 < p) : ∀ c, c ≤ 4 → (∀ i, i < c → (0 ≤ k i ∧ k i < p) ∧ 0 ≤ k' i ∧ k' i < p) → pv p k c = pv p k' c → ∀ i, i < c → k i = k' i := by
  intro c
  induction c with
  | zero => intro _ _ _ i hi; omega
  | succ c ih =>
    intro hc hd h i hi
    obtain ⟨e1, e2⟩ := pdig_eq hp (hd c (by omega)).1 (hd c (by omega)).2 h
    by_cases hic : i = c
    · rw [hic]; exact e2
    · exact ih (by omega) (fun i hi => hd i (by omega)) e1 i (by omega)
theorem ng_down {a b M p X : Int} {E : Nat → V4} {c : Nat} (hp : 0 < p) (hc : c < 4) (h : ng a b M p E c X) : ng a b M p E (c + 1) (X * p) := fun k hk hv => h k hk (by
  have d := hk c hc
  have e : pv p k (c + 1) = pv p k c * p + k c := rfl
  rw [e] at hv
  rcases Int.lt_or_le (pv p k c) X with h1 | h1
  · exact h1
  · have := Int.mul_le_mul_of_nonneg_right h1 (show 0 ≤ p by omega)
    omega)
theorem ng_up {a b M p X : Int} {E : Nat → V4} {c : Nat} (hp : 0 < p) (hc : c < 4) (h : ng a b M p E (c + 1) (X * p + p)) : ng a b M p E c (X + 1) := fun k hk hv => h k hk (by
  have d := hk c hc
  have e : pv p k (c + 1) = pv p k c * p + k c := rfl
  rw [e]
  have := Int.mul_le_mul_of_nonneg_right (show pv p k c ≤ X by omega) (show 0 ≤ p by omega)
  omega)
theorem ng_next {a b M p X : Int} {E : Nat → V4} {c : Nat} {K : Nat → Int} (hp : 0 < p) (hc : c ≤ 4) (hK : ∀ i, i < c → 0 ≤ K i ∧ K i < p) (h : ng a b M p E c X) (hX : pv p K c = X) (hn : ∀ k, digs p k → (∀ i, i < c → k i = K i) → ¬ gdP a b M p E k) : ng a b M p E c (X + 1) := fun k hk hv => by
  rcases Int.lt_or_le (pv p k c) X with h1 | h1
  · exact h k hk h1
  · exact hn k hk (pv_inj hp c hc (fun i hi => ⟨hk i (by omega), hK i hi⟩) (by omega))
def kU (k : Nat → Int) (c : Nat) (d : Int) : Nat → Int := fun i => if i = c then d else k i
theorem kU_c (k : Nat → Int) (c : Nat) (d : Int) : kU k c d c = d := if_pos rfl
theorem kU_n (k : Nat → Int) (c : Nat) (d : Int) {i : Nat} (h : i ≠ c) : kU k c d i = k i := if_neg h
/-- the enlarger at work -/
def gW (i j : Nat) : Prop := eW i j ∨ (140 ≤ i ∧ i ≤ 143)
theorem gW_fix {i j : Nat} (h : gW i j) : fixR i j = false := by
  rcases h with h | h
  · exact eW_fix h
  · have k := k139 (c := i - 139) (by omega)
    rw [show 139 + (i - 139) = i by omega] at k
    exact fixR_data (by rw [k]; decide) j
def gI (σ0 σ : mSt) (O : Nat) (p Mp : Int) (E : Nat → V4) (c : Nat) (k : Nat → Int) : Prop := (∃ t n, enL σ O t n) ∧ frm gW σ0 σ ∧ σ 114 1 = p ∧ σ 114 2 = Mp ∧ ∀ j, j ≤ c → rowV σ (139 + j) = pS E k j
def gC (σ0 : mSt) (q : Nat) (a b M p : Int) (E : Nat → V4) : Prop := q < 8 ∧ (a ≠ 0 ∧ -60 ≤ a ∧ a ≤ 60) ∧ (b ≠ 0 ∧ -60 ≤ b ∧ b ≤ 60) ∧ (2 ≤ p ∧ p ≤ 60) ∧ σ0 (181 + 9 * q) 0 = a ∧ σ0 (181 + 9 * q) 1 = b ∧ atC σ0 (182 + 9 * q) M E ∧ Ord a b M E
theorem gW_O {q : Nat} {i : Nat} (h : 181 + 9 * q ≤ i) (j : Nat) : ¬ gW i j := fun z => by
  rcases z with z | z
  · exact oFar_e (by unfold oFar; omega) j z
  · omega
theorem gI_ctx {σ0 σ : mSt} {q : Nat} {a b M p Mp : Int} {E : Nat → V4} {c : Nat} {k : Nat → Int} (hC : gC σ0 q a b M p E) (h : gI σ0 σ (181 + 9 * q) p Mp E c k) : σ (181 + 9 * q) 0 = a ∧ σ (181 + 9 * q) 1 = b ∧ atC σ (182 + 9 * q) M E := by
  obtain ⟨c1, c2, c3, c4, c5, c6, c7, c8⟩ := hC
  obtain ⟨-, f, -⟩ := h
  exact ⟨by rw [f _ _ (gW_O (q := q) (by omega) 0)]; exact c5, by rw [f _ _ (gW_O (q := q) (by omega) 1)]; exact c6, atC_congr c7 (f _ _ (gW_O (q := q) (by omega) 2)) (fun r hr j => f _ _ (gW_O (q := q) (by omega) j))⟩
theorem ord_ok {a b M : Int} {E : Nat → V4} (h : Ord a b M E) : gdL M E ∧ Clo a b (latS M E) ∧ Who a b (latS M E) := by
  obtain ⟨h1, h2, h3, h4, h5, h6, h7⟩ := h
  exact ⟨⟨red_in h1 h2 h3 (of_uni h7), h3, h4⟩, h5, h6⟩
theorem goes_I {σ0 σ : mSt} {q c : Nat} {a b M p d : Int} {E : Nat → V4} {k : Nat → Int} (hC : gC σ0 q a b M p E) (hc : c < 4) (hI : gI σ0 σ (181 + 9 * q) p (M * p) E c k) (hk : ∀ i, i < c → 0 ≤ k i ∧ k i < p) (hd : 0 ≤ d ∧ d < p) : ∃ σ', mX2_goesOn 114 (c : Int) d σ = some (b2 (M * p ∣ 2 * t0F a b c * vg c (pS E (kU k c d) (c + 1))), σ') ∧ gI σ0 σ' (181 + 9 * q) p (M * p) E (c + 1) (kU k c d) := by
  obtain ⟨x1, x2, x3⟩ := gI_ctx hC hI
  obtain ⟨c1, c2, c3, c4, c5, c6, c7, c8⟩ := hC
  obtain ⟨⟨t, n, en⟩, f, e1, e2, e3⟩ := hI
  have en' := en
  obtain ⟨hL, g0, g1, g2, g3, g4, g5, g6, g7⟩ := en
  obtain ⟨k1, k2, k3, k4, k5, k6⟩ := ord_lay hL c1
  have ok := (ord_ok c8).1.1
  have M7 := (ord_facts c2 c3 c8).1
  have mp := mul_rng (x := M) (y := p) (A := 7200) (B := 60) (by omega) (by omega) (by omega)
  have mp0 : 0 < M * p := Int.mul_pos ok.1 (by omega)
  have pe : pS E (kU k c d) (c + 1) = vA (pS E k c) (vS d (E c)) := by
    show vA (pS E (kU k c d) c) (vS (kU k c d c) (E c)) = _
    rw [kU_c, pS_congr (k' := k) c (fun i hi => kU_n _ _ _ (by omega))]
  have dg : digs p (fun i => if i ≤ c then kU k c d i else 0) := fun i hi => by
    show 0 ≤ (if i ≤ c then kU k c d i else 0) ∧ (if i ≤ c then kU k c d i else 0) < p
    by_cases h : i ≤ c
    · rw [if_pos h]
      by_cases h2 : i = c
      · rw [h2, kU_c]; exact hd
      · rw [kU_n _ _ _ h2]; exact hk i (by omega)
    · rw [if_neg h]; omega
  have rg := pS_rng (rB2_of ok) dg (by omega) c4.2 (c + 1) (by omega) c hc
  rw [pS_congr (k' := kU k c d) (c + 1) (fun i hi => by rw [if_pos (by omega)])] at rg
  have nb := numbersOf_e hL c1 hc
  rw [show 184 + 9 * q + c = 182 + 9 * q + 2 + c by omega] at nb
  have gg := goes_e (d := d) hL g0 g1 g2 (by unfold oFar; omega) x1 x2 hc nb ((lat_lay hL k3).2.2.2.2.2 c hc).1 (by unfold oFar; omega) e2 (by omega) c2.2 c3.2 (by omega) (e3 c (by omega)) (x3.2 c hc) (by rw [← pe]; push_cast at rg; omega)
  rw [← pe] at gg
  have fs : frm gW σ (stV σ (139 + (c + 1)) (pS E (kU k c d) (c + 1))) := (frm.rf σ).stV (fun j => Or.inr (by omega))
  refine ⟨_, gg, ⟨t, n, hL.frm fs (fun i j z => gW_fix z), ?_, g1, g2, ?_, ?_, g5, g6, g7⟩, f.tr fs (fun i j z => z), ?_, ?_, fun j hj => ?_⟩
  · rw [stV_ne _ _ _ _ _ (by omega)]; exact g0
  · rw [stV_ne _ _ _ _ _ (by omega)]; exact g3
  · rw [stV_ne _ _ _ _ _ (by omega)]; exact g4
  · rw [stV_ne _ _ _ _ _ (by omega)]; exact e1
  · rw [stV_ne _ _ _ _ _ (by omega)]; exact e2
  · by_cases h : j = c + 1
    · rw [h]
      exact vg_ext fun i hi => by rw [vg_rowV _ _ hi, vg_stV _ _ _ hi]
    · have e : rowV (stV σ (139 + (c + 1)) (pS E (kU k c d) (c + 1))) (139 + j) = rowV σ (139 + j) := by
        unfold rowV
        rw [stV_ne _ _ _ _ _ (by omega), stV_ne _ _ _ _ _ (by omega), stV_ne _ _ _ _ _ (by omega), stV_ne _ _ _ _ _ (by omega)]
      rw [e, e3 j (by omega)]
      exact (pS_congr j (fun i hi => kU_n _ _ _ (by omega))).symm
theorem gI_low {σ0 σ : mSt} {O c : Nat} {p Mp d : Int} {E : Nat → V4} {k : Nat → Int} (h : gI σ0 σ O p Mp E (c + 1) (kU k c d)) : gI σ0 σ O p Mp E c k := by
  obtain ⟨h1, h2, h3, h4, h5⟩ := h
  exact ⟨h1, h2, h3, h4, fun j hj => by rw [h5 j (by omega)]; exact pS_congr j (fun i hi => kU_n _ _ _ (by omega))⟩
/-- what does not go on -/
theorem ng_prune {a b M p X d : Int} {E : Nat → V4} {c : Nat} {k : Nat → Int} (hE : rOK M E) (hp : 0 < p) (hc : c < 4) (hk : ∀ i, i < c → 0 ≤ k i ∧ k i < p) (hd : 0 ≤ d ∧ d < p) (hX : pv p k c = X) (h : ng a b M p E (c + 1) (X * p + d)) (hn : ¬ M * p ∣ 2 * t0F a b c * vg c (pS E (kU k c d) (c + 1))) : ng a b M p E (c + 1) (X * p + (d + 1)) := by
  rw [← Int.add_assoc]
  refine ng_next (K := kU k c d) hp (by omega) (fun i hi => ?_) h ?_ (fun k' hk' he hg => ?_)
  · by_cases h2 : i = c
    · rw [h2, kU_c]; exact hd
    · rw [kU_n _ _ _ h2]; exact hk i (by omega)
  · show pv p (kU k c d) c * p + kU k c d c = _
    rw [kU_c, pv_congr (k' := k) c (fun i hi => kU_n _ _ _ (by omega)), hX]
  · have := goes_fit hE (Int.mul_pos hE.1 hp) hc hg.2
    rw [pS_at hE.2.1 hc, pS_congr (k' := kU k c d) (c + 1) he] at this
    exact hn this

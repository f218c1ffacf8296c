/-! left ideals: the class -/
theorem can_le {x e A : Int} (he : 0 < e) (h : -(A * e) ≤ x * e ∧ x * e ≤ A * e) : -A ≤ x ∧ x ≤ A := by
  constructor
  · exact Int.le_of_mul_le_mul_right (by rw [Int.neg_mul]; exact h.1) he
  · exact Int.le_of_mul_le_mul_right h.2 he
theorem co_rng {E : Nat → V4} {y : V4} {W : Int} (hE : exR E) (hW : 0 ≤ W) (h : ∀ i, i < 4 → -W ≤ vg i (vC E y) ∧ vg i (vC E y) ≤ W) : ∀ i, i < 4 → -(8 * W) ≤ vg i y ∧ vg i y ≤ 8 * W := by
  obtain ⟨tE, hr, -⟩ := hE
  have dW : ∀ i, i < 4 → W ≤ W * vg i (E i) := fun i hi => by
    have := Int.mul_le_mul_of_nonneg_left (show 1 ≤ vg i (E i) by have := tri_d tE i hi; omega) hW
    omega
  have v := fun i (hi : i < 4) => vg_vC E y hi
  have z := tri_z tE
  have h0 := h 0 (by omega)
  have h1 := h 1 (by omega)
  have h2 := h 2 (by omega)
  have h3 := h 3 (by omega)
  rw [v 0 (by omega), z 1 0 (by omega) (by omega), z 2 0 (by omega) (by omega), z 3 0 (by omega) (by omega)] at h0
  rw [v 1 (by omega), z 2 1 (by omega) (by omega), z 3 1 (by omega) (by omega)] at h1
  rw [v 2 (by omega), z 3 2 (by omega) (by omega)] at h2
  rw [v 3 (by omega)] at h3
  have mr : ∀ (x e f A : Int), -A ≤ x ∧ x ≤ A → 0 ≤ f ∧ f ≤ e → 0 ≤ A → -(A * e) ≤ x * f ∧ x * f ≤ A * e := fun x e f A g1 g2 g3 => mul_rng g1 (by omega) g3
  have q0 : -W ≤ vg 0 y ∧ vg 0 y ≤ W := can_le (tri_d tE 0 (by omega)) (by have := dW 0 (by omega); omega)
  have a1 := mr _ _ _ W q0 (hr 0 1 (by omega) (by omega)) hW
  have e2 : ∀ x : Int, 2 * W * x = 2 * (W * x) := fun x => Int.mul_assoc _ _ _
  have e4 : ∀ x : Int, 4 * W * x = 4 * (W * x) := fun x => Int.mul_assoc _ _ _
  have e8 : ∀ x : Int, 8 * W * x = 8 * (W * x) := fun x => Int.mul_assoc _ _ _
  have q1 : -(2 * W) ≤ vg 1 y ∧ vg 1 y ≤ 2 * W := can_le (tri_d tE 1 (by omega)) (by rw [e2]; have := dW 1 (by omega); omega)
  have a2 := mr _ _ _ W q0 (hr 0 2 (by omega) (by omega)) hW
  have a3 := mr _ _ _ (2 * W) q1 (hr 1 2 (by omega) (by omega)) (by omega)
  rw [e2] at a3
  have q2 : -(4 * W) ≤ vg 2 y ∧ vg 2 y ≤ 4 * W := can_le (tri_d tE 2 (by omega)) (by rw [e4]; have := dW 2 (by omega); omega)
  have a4 := mr _ _ _ W q0 (hr 0 3 (by omega) (by omega)) hW
  have a5 := mr _ _ _ (2 * W) q1 (hr 1 3 (by omega) (by omega)) (by omega)
  have a6 := mr _ _ _ (4 * W) q2 (hr 2 3 (by omega) (by omega)) (by omega)
  rw [e2] at a5
  rw [e4] at a6
  have q3 : -(8 * W) ≤ vg 3 y ∧ vg 3 y ≤ 8 * W := can_le (tri_d tE 3 (by omega)) (by rw [e8]; have := dW 3 (by omega); omega)
  exact fun i hi => lt4 (p := fun i => -(8 * W) ≤ vg i y ∧ vg i y ≤ 8 * W) (by omega) (by omega) (by omega) q3 hi
def jW (al i j : Nat) : Prop := oW 156 i j ∨ i = 163 ∨ i = 189 + 9 * al
theorem jW_fix {al : Nat} (ha : al < 8) {i j : Nat} (h : jW al i j) : fixR i j = false := by
  rcases h with h | rfl | rfl
  · exact oW_fix (by decide) h
  · exact fixR_data (by decide) j
  · have : ∀ q, q < 8 → (shp (189 + 9 * q)).1 = 21 := by decide +kernel
    exact fixR_data (by rw [this al ha]; decide) j
def pW (al i j : Nat) : Prop := i = 163 ∨ i = 189 + 9 * al
def elC (σ : mSt) (k al : Nat) (M : Int) (E : Nat → V4) (u : V4) (d : Int) : Prop := k < 8 ∧ σ (165 + 2 * k) 1 = d ∧ σ (165 + 2 * k) 2 = (al : Int) ∧ rowV σ (166 + 2 * k) = u ∧ (∀ i, i < 4 → -100 ≤ vg i u ∧ vg i u ≤ 100) ∧ (1 ≤ d ∧ d ≤ 100) ∧ latS M E u d
def idC (σ : mSt) (al : Nat) (a b M : Int) (E : Nat → V4) : Prop := Lay σ ∧ al < 8 ∧ σ (181 + 9 * al) 0 = a ∧ σ (181 + 9 * al) 1 = b ∧ atC σ (182 + 9 * al) M E ∧ Ord a b M E ∧ (a ≠ 0 ∧ -60 ≤ a ∧ a ≤ 60) ∧ (b ≠ 0 ∧ -60 ≤ b ∧ b ≤ 60)
theorem elC_fr {σ σ' : mSt} {k al : Nat} {M d : Int} {E : Nat → V4} {u : V4} (h : elC σ k al M E u d) (hf : ∀ i j, 165 ≤ i → i ≤ 180 → σ' i j = σ i j) : elC σ' k al M E u d := by
  obtain ⟨h1, h2, h3, h4, h5⟩ := h
  refine ⟨h1, by rw [hf _ _ (by omega) (by omega)]; exact h2, by rw [hf _ _ (by omega) (by omega)]; exact h3, ?_, h5⟩
  rw [← h4]
  unfold rowV
  rw [hf _ _ (by omega) (by omega), hf _ _ (by omega) (by omega), hf _ _ (by omega) (by omega), hf _ _ (by omega) (by omega)]
theorem idC_fr {σ σ' : mSt} {al : Nat} {a b M : Int} {E : Nat → V4} (h : idC σ al a b M E) (hf : frm (jW al) σ σ') : idC σ' al a b M E := by
  obtain ⟨h1, h2, h3, h4, h5, h6⟩ := h
  exact ⟨h1.frm hf (fun i j z => jW_fix h2 z), h2, by rw [hf _ _ (by unfold jW oW; omega)]; exact h3, by rw [hf _ _ (by unfold jW oW; omega)]; exact h4, atC_congr h5 (hf _ _ (by unfold jW oW; omega)) (fun r hr j => hf _ _ (by unfold jW oW; omega)), h6⟩
theorem prodIn {a b M d : Int} {E : Nat → V4} {x y : V4} {N : Int} (hC : Clo a b (latS M E)) (hM : 0 < M) (hN : 0 < N) (hd : 0 < d) (hx : latS M E x N) (hy : latS M E y d) (e : N = M ∨ d = M) : latS 1 E (vM a b x y) (if N = M then d else N) := by
  obtain ⟨c, hc⟩ := hC x y N d hN hd hx hy
  refine ⟨c, ?_⟩
  rw [vS_one]
  by_cases h : N = M
  · rw [if_pos h]
    rw [h, ← vS_vS] at hc
    exact vS_cancel (show M ≠ 0 by omega) hc
  · rw [if_neg h]
    rw [e.resolve_left h, Int.mul_comm, ← vS_vS] at hc
    exact vS_cancel (show M ≠ 0 by omega) hc
/-- a product in the order's own numbers -/
theorem prodC {σ : mSt} {al k r : Nat} {a b M d : Int} {E : Nat → V4} {u : V4} (h : idC σ al a b M E) (hu : elC σ k al M E u d) (hr : r < 4) : (∃ y σ', mX6_expressProduct (181 + 9 * al) (184 + 9 * al + r) (166 + 2 * k) d 163 σ = some (1, σ') ∧ frm (pW al) σ σ' ∧ rowV σ' 163 = y ∧ vM a b (E r) u = vS d (vC E y) ∧ ∀ i, i < 4 → -1000000000000 ≤ vg i y ∧ vg i y ≤ 1000000000000) ∧ ∃ y σ', mX6_expressProduct (181 + 9 * al) (166 + 2 * k) (184 + 9 * al + r) d 163 σ = some (1, σ') ∧ frm (pW al) σ σ' ∧ rowV σ' 163 = y ∧ vM a b u (E r) = vS d (vC E y) ∧ ∀ i, i < 4 → -1000000000000 ≤ vg i y ∧ vg i y ≤ 1000000000000 := by
  obtain ⟨h1, h2, h3, h4, h5, h6, ha, hb⟩ := h
  obtain ⟨u1, u2, u3, u4, u5, u6, u7⟩ := hu
  obtain ⟨k1, k2, k3, k4, k5, k6⟩ := ord_lay h1 h2
  obtain ⟨l1, l2, l3, l4⟩ := el_lay h1 k u1
  have M7 := (ord_facts ha hb h6).1
  have ok := (ord_ok h6).1.1
  have rb := rB2_of ok r hr
  have hR := exR_congr (fun r hr => (h5.2 r hr).symm) (exR_ord ha hb h6)
  have sr := ((lat_lay h1 k3).2.2.2.2.2 r hr).1
  rw [show 182 + 9 * al + 2 + r = 184 + 9 * al + r by omega] at sr
  have rE : rowV σ (184 + 9 * al + r) = E r := by
    rw [← h5.2 r hr]
    unfold rwC
    rw [show 182 + 9 * al + 2 + r = 184 + 9 * al + r by omega]
  have v1 := vM_rng (x := E r) (X := 7200) (Y := 100) ha.2 hb.2 (fun i hi => by have := rb i hi; omega) u5 (by omega)
  have v2 := vM_rng (y := E r) (X := 100) (Y := 7200) ha.2 hb.2 u5 (fun i hi => by have := rb i hi; omega) (by omega)
  have fr : ∀ z y, frm (pW al) σ (stV (stV σ (189 + 9 * al) z) 163 y) := fun z y => ((frm.rf σ).stV (fun j => Or.inr rfl)).stV (fun j => Or.inl rfl)
  have tE := ok.2.1
  have rng : ∀ w y, (∀ i, i < 4 → -(3721 * (7200 * 100)) ≤ vg i w ∧ vg i w ≤ 3721 * (7200 * 100)) → w = vS d (vC E y) → ∀ i, i < 4 → -1000000000000 ≤ vg i y ∧ vg i y ≤ 1000000000000 := fun w y g1 g2 i hi => by
    have := co_rng (W := 3721 * (7200 * 100)) (y := y) (exR_ord ha hb h6) (by omega) (fun i hi => by
      have g := g1 i hi
      rw [g2, vg_vS _ _ hi, Int.mul_comm d] at g
      refine can_le (show 0 < d by omega) ?_
      have := Int.mul_le_mul_of_nonneg_left (show 1 ≤ d by omega) (show (0 : Int) ≤ 3721 * (7200 * 100) by omega)
      omega) i hi
    omega
  constructor
  · have p := prodIn (ord_ok h6).2.1 (by omega) ok.1 (by omega) (latS_row hr) u7 (Or.inl rfl)
    rw [if_pos rfl] at p
    obtain ⟨y, e1, e2⟩ := exprProd_e (σ := σ) (O := 181 + 9 * al) (o := 182 + 9 * al) (pt := 189 + 9 * al) (x := 184 + 9 * al + r) (y := 166 + 2 * k) (to := 163) (a := a) (b := b) (eb := d) (U := 10000000000) h1 k1 h3 h4 k5 k6 k3 sr l4 k2 (by decide) (by omega) (by omega) (by omega) (by omega) (by omega) (by omega) (by omega) (by omega) hR (by omega) (fun i hi => by rw [rE, u4]; have := v1 i hi; omega) (fun i hi => by rw [rE, u4]; exact div_rng (by have := v1 i hi; omega) (by omega))
    rw [rE, u4, latS_congr h5.2] at e1 e2
    rw [vC_congr h5.2] at e2
    rw [b2_t p] at e1
    exact ⟨y, _, e1, fr _ _, rowV_stV _ _ _, e2 p, rng _ y (fun i hi => v1 i hi) (e2 p)⟩
  · have p := prodIn (ord_ok h6).2.1 (by omega) (by omega) ok.1 u7 (latS_row hr) (Or.inr rfl)
    have e0 : (if d = M then M else d) = d := by
      by_cases z : d = M
      · rw [if_pos z, z]
      · rw [if_neg z]
    rw [e0] at p
    obtain ⟨y, e1, e2⟩ := exprProd_e (σ := σ) (O := 181 + 9 * al) (o := 182 + 9 * al) (pt := 189 + 9 * al) (x := 166 + 2 * k) (y := 184 + 9 * al + r) (to := 163) (a := a) (b := b) (eb := d) (U := 10000000000) h1 k1 h3 h4 k5 k6 k3 l4 sr k2 (by decide) (by omega) (by omega) (by omega) (by omega) (by omega) (by omega) (by omega) (by omega) hR (by omega) (fun i hi => by rw [rE, u4]; have := v2 i hi; omega) (fun i hi => by rw [rE, u4]; exact div_rng (by have := v2 i hi; omega) (by omega))
    rw [rE, u4, latS_congr h5.2] at e1 e2
    rw [vC_congr h5.2] at e2
    rw [b2_t p] at e1
    exact ⟨y, _, e1, fr _ _, rowV_stV _ _ _, e2 p, rng _ y (fun i hi => by have := v2 i hi; omega) (e2 p)⟩
def gT (a b : Int) (E : Nat → V4) (u : V4) (d : Int) (s : Nat) (T : V4 → Prop) : Prop := ∀ r y, s ≤ r → r < 4 → vM a b (E r) u = vS d (vC E y) → T y
theorem joinL2 {σ0 : mSt} {al k : Nat} {a b M d N : Int} {E : Nat → V4} {u : V4} {x : mSt → Option (Int × mSt)} (hN : N ≤ 1000000000) : ∀ (m r n : Nat) (σ : mSt) (G : Nat → V4), r + m = 4 → m < n → frm (jW al) σ0 σ → idC σ al a b M E → elC σ k al M E u d → σ 146 0 = ((181 + 9 * al : Nat) : Int) → atC σ 156 N G → rOK N G → ∃ σ' F, mX4_join_L2 146 (165 + 2 * k) x n (r : Int) σ = x σ' ∧ frm (jW al) σ0 σ' ∧ idC σ' al a b M E ∧ elC σ' k al M E u d ∧ σ' 146 0 = ((181 + 9 * al : Nat) : Int) ∧ atC σ' 156 N F ∧ rOK N F ∧ ∀ T, Sub4 T → (rws T F ↔ (rws T G ∧ gT a b E u d r T)) := by
  intro m
  induction m with
  | zero =>
    intro r n σ G h1 h2 h3 h4 h5 h6 h7 h8
    obtain ⟨n, rfl⟩ : ∃ z, n = z + 1 := ⟨n - 1, by omega⟩
    obtain rfl : r = 4 := by omega
    exact ⟨σ, G, by rw [mX4_join_L2.eq_2, if_pos (by decide)], h3, h4, h5, h6, h7, h8, fun T _ => ⟨fun h => ⟨h, fun r y g1 g2 => by omega⟩, fun h => h.1⟩⟩
  | succ m ih =>
    intro r n σ G h1 h2 h3 h4 h5 h6 h7 h8
    obtain ⟨n, rfl⟩ : ∃ z, n = z + 1 := ⟨n - 1, by omega⟩
    have hr : r < 4 := by omega
    obtain ⟨⟨y, σ1, p1, p2, p3, p4, p5⟩, -⟩ := prodC h4 h5 hr
    have hL := h4.1
    have p2' : frm (jW al) σ σ1 := p2.mono (fun i j z => Or.inr z)
    have h4' := idC_fr h4 p2'
    have h5' := elC_fr h5 (fun i j z1 z2 => p2 i j (by unfold pW; omega))
    obtain ⟨l1, l2, l3, l4⟩ := el_lay hL k h5.1
    have l146 : ∀ τ, Lay τ → τ 146 1 = ((156 : Nat) : Int) ∧ τ 146 2 = ((163 : Nat) : Int) := fun τ z => ⟨z.get 146 1 (by decide +kernel) (by decide +kernel), z.get 146 2 (by decide +kernel) (by decide +kernel)⟩
    have al8 := h4.2.1
    have A1 : atC σ1 156 N G := atC_congr h7 (p2 _ _ (by unfold pW; omega)) (fun r hr j => p2 _ _ (by unfold pW; omega))
    obtain ⟨F1, σ2, q1, q2, q3, q4⟩ := add_at (o := 156) (v := 163) (y := y) h4'.1 (by decide) A1 hN (by decide) (by omega) p3 (fun i hi => by have := p5 i hi; omega) h8
    have q3' : frm (jW al) σ1 σ2 := q3.mono (fun i j z => Or.inl z)
    have h5'' := elC_fr h5' (fun i j z1 z2 => q3' i j (by unfold jW oW; omega))
    have h6' : σ2 146 0 = ((181 + 9 * al : Nat) : Int) := by rw [q3' _ _ (by unfold jW oW; omega), p2 _ _ (by unfold pW; omega)]; exact h6
    obtain ⟨σ3, F, i1, i2, i3, i4, i5, i6, i7, i8⟩ := ih (r + 1) n σ2 F1 (by omega) (by omega) ((h3.tr p2' (fun i j z => z)).tr q3' (fun i j z => z)) (idC_fr h4' q3') h5'' h6' q4 q1.1
    refine ⟨σ3, F, ?_, i2, i3, i4, i5, i6, i7, fun T hT => ?_⟩
    · rw [mX4_join_L2.eq_2, if_neg (by rw [wI_id (x := (r : Int)) (by omega)]; omega), gr' h6 (by omega), gr' h6 (by omega), numbersOf_e hL al8 hr, mCall_some, gc l3, gr' l2 (by omega), gr' (l146 σ hL).2 (by omega), Int.toNat_natCast, h5.2.1, p1, mCall_some, if_neg (by decide), gr' (l146 σ1 h4'.1).1 (by omega), gr' (l146 σ1 h4'.1).2 (by omega), q2, mCall_some, bnd_eq, show (r : Int) + 1 = ((r + 1 : Nat) : Int) by omega]
      exact i1
    · rw [i8 T hT, q1.2.1 T hT]
      have tE := (ord_ok h4.2.2.2.2.2.1).1.1.2.1
      constructor
      · rintro ⟨⟨z1, z2⟩, z3⟩
        refine ⟨z1, fun r' y' g1 g2 g3 => ?_⟩
        by_cases e : r' = r
        · rw [e, p4] at g3
          rw [← vC_inj tE (vS_cancel (show d ≠ 0 by have := h5.2.2.2.2.2.1; omega) g3)]
          exact z2
        · exact z3 r' y' (by omega) g2 g3
      · rintro ⟨z1, z2⟩
        exact ⟨⟨z1, z2 r y (by omega) hr p4⟩, fun r' y' g1 g2 g3 => z2 r' y' (by omega) g2 g3⟩
theorem join_e {σ : mSt} {al k : Nat} {a b M d N : Int} {E G : Nat → V4} {u : V4} (hN : N ≤ 1000000000) (h4 : idC σ al a b M E) (h5 : elC σ k al M E u d) (h6 : σ 146 0 = ((181 + 9 * al : Nat) : Int)) (h7 : atC σ 156 N G) (h8 : rOK N G) : ∃ σ' F, mX4_join 146 (165 + 2 * k) σ = some (0, σ') ∧ frm (jW al) σ σ' ∧ idC σ' al a b M E ∧ σ' 146 0 = ((181 + 9 * al : Nat) : Int) ∧ atC σ' 156 N F ∧ rOK N F ∧ Red F ∧ ∀ T, Sub4 T → (rws T F ↔ (rws T G ∧ gT a b E u d 0 T)) := by
  obtain ⟨σ1, F1, i1, i2, i3, i4, i5, i6, i7, i8⟩ := joinL2 (x := fun zσ => mX4_join_B54 146 (165 + 2 * k) zσ) hN 4 0 mF σ G (by omega) (by unfold mF; omega) (frm.rf σ) h4 h5 h6 h7 h8
  obtain ⟨F, σ2, s1, s2, s3, s4⟩ := settle_at (o := 156) i3.1 (by decide) i6 hN i7
  have s3' : frm (jW al) σ1 σ2 := s3.mono (fun i j z => Or.inl z)
  have al8 := h4.2.1
  refine ⟨σ2, F, ?_, i2.tr s3' (fun i j z => z), idC_fr i3 s3', by rw [s3' _ _ (by unfold jW oW; omega)]; exact i5, s4, set_ok i7 s1, s1.2.1, fun T hT => by rw [s1.2.2.1 T hT, i8 T hT]⟩
  unfold mX4_join
  rw [gc146]
  refine i1.trans ?_
  unfold mX4_join_B54
  rw [gr' (r := 156) (i3.1.get 146 1 (by decide +kernel) (by decide +kernel)) (by omega), s2, mCall_some]
/-- how a left ideal begins -/
theorem rOK_id {N : Int} (hN : 0 < N) : rOK N (idR N) := by
  refine ⟨hN, tri_mk (fun r hr => ?_) (fun r i hi hr => ?_), fun r i h1 h2 => ?_, fun i hi => ⟨vE i, (vC_row (idR N) hi).symm⟩⟩
  · rw [idR_at N hr hr, if_pos rfl]; exact hN
  · rw [idR_at N hr (by omega), if_neg (by omega)]
  · rw [idR_at N (by omega) h2, if_neg (by omega)]
    omega
def ideN (a b : Int) (u : V4) (d : Int) : Int := ((vN a b u / (d * d)).natAbs : Int)
theorem ideN_rng {al k : Nat} {σ : mSt} {a b M d : Int} {E : Nat → V4} {u : V4} (h : idC σ al a b M E) (hu : elC σ k al M E u d) (h0 : vN a b u ≠ 0) : d * d ∣ vN a b u ∧ 1 ≤ ideN a b u d ∧ ideN a b u d ≤ 37210000 ∧ ideN a b u d * (d * d) ≤ 37210000 ∧ (-37210000 ≤ vN a b u ∧ vN a b u ≤ 37210000) ∧ (1 ≤ d * d ∧ d * d ≤ 10000) := by
  obtain ⟨h1, h2, h3, h4, h5, h6, ha, hb⟩ := h
  obtain ⟨u1, u2, u3, u4, u5, u6, u7⟩ := hu
  have w := ((ord_ok h6).2.2 u d (by omega) u7).2
  have r0 := u5 0 (by omega)
  have r1 := u5 1 (by omega)
  have r2 := u5 2 (by omega)
  have r3 := u5 3 (by omega)
  have q0 := mul_rng (A := 100) (B := 100) r0 r0 (by omega)
  have q1 := mul_rng (A := 60 * 100) (B := 100) (mul_rng (A := 60) (B := 100) ha.2 r1 (by omega)) r1 (by omega)
  have q2 := mul_rng (A := 60 * 100) (B := 100) (mul_rng (A := 60) (B := 100) hb.2 r2 (by omega)) r2 (by omega)
  have q3 := mul_rng (A := 60 * 60 * 100) (B := 100) (mul_rng (A := 60 * 60) (B := 100) (mul_rng (A := 60) (B := 60) ha.2 hb.2 (by omega)) r3 (by omega)) r3 (by omega)
  have vr : -37210000 ≤ vN a b u ∧ vN a b u ≤ 37210000 := by
    have e : vN a b u = vg 0 u * vg 0 u - a * vg 1 u * vg 1 u - b * vg 2 u * vg 2 u + a * b * vg 3 u * vg 3 u := rfl
    rw [e]
    omega
  have dd : 1 ≤ d * d ∧ d * d ≤ 10000 := by
    have a1 := mul_rng (x := d) (y := d) (A := 100) (B := 100) (by omega) (by omega) (by omega)
    have a2 := Int.mul_pos (show 0 < d by omega) (show 0 < d by omega)
    omega
  have e := Int.mul_ediv_cancel' w
  have eN : ideN a b u d * (d * d) = ((vN a b u).natAbs : Int) := by
    unfold ideN
    rw [← e, Int.mul_ediv_cancel_left _ (show d * d ≠ 0 by omega), Int.natAbs_mul, Int.mul_comm]
    rw [Int.natCast_mul, Int.natAbs_of_nonneg (show 0 ≤ d * d by omega)]
  have n0 : 0 ≤ ideN a b u d := by unfold ideN; omega
  have n1 : 1 ≤ ideN a b u d := by
    rcases Int.lt_or_le 0 (ideN a b u d) with z | z
    · omega
    · have : ideN a b u d = 0 := by omega
      rw [this, Int.zero_mul] at eN
      omega
  have := Int.mul_le_mul_of_nonneg_left dd.1 n0
  exact ⟨w, n1, by omega, by omega, vr, dd⟩
theorem lbegin_e {σ : mSt} {al k : Nat} {a b M d : Int} {E : Nat → V4} {u : V4} (h : idC σ al a b M E) (hu : elC σ k al M E u d) (h0 : vN a b u ≠ 0) : ∃ σ', mX4_begin 146 (181 + 9 * al) (165 + 2 * k) σ = some (0, σ') ∧ frm (fun i j => jW al i j ∨ (i = 146 ∧ j = 0)) σ σ' ∧ idC σ' al a b M E ∧ σ' 146 0 = ((181 + 9 * al : Nat) : Int) ∧ atC σ' 156 (ideN a b u d) (idR (ideN a b u d)) := by
  have rn := ideN_rng h hu h0
  have h' := h
  obtain ⟨h1, h2, h3, h4, h5, h6, ha, hb⟩ := h
  obtain ⟨u1, u2, u3, u4, u5, u6, u7⟩ := hu
  obtain ⟨k1, k2, k3, k4, k5, k6⟩ := ord_lay h1 h2
  obtain ⟨l1, l2, l3, l4⟩ := el_lay h1 k u1
  obtain ⟨σ1, hs⟩ : ∃ σ1, σ1 = upS σ 146 0 ((181 + 9 * al : Nat) : Int) := ⟨_, rfl⟩
  have o1 : ∀ i j, i ≠ 146 → σ1 i j = σ i j := fun i j z => by rw [hs, upS_ne (by omega)]
  have L1 : Lay σ1 := by rw [hs]; exact h1.up (by decide +kernel)
  have c1 : σ1 146 0 = ((181 + 9 * al : Nat) : Int) := by rw [hs, upS_same]
  have r1 : rowV σ1 (166 + 2 * k) = u := by
    rw [← u4]
    unfold rowV
    rw [o1 _ _ (by omega), o1 _ _ (by omega), o1 _ _ (by omega), o1 _ _ (by omega)]
  have be := begin_e (v := ideN a b u d) L1 (show 156 ∈ latIds by decide)
  obtain ⟨σ2, hs2⟩ : ∃ σ2, σ2 = stQ (upS σ1 156 2 (ideN a b u d)) 156 (idR (ideN a b u d)) 16 := ⟨_, rfl⟩
  rw [← hs2] at be
  have f2 : frm (jW al) σ1 σ2 := by
    rw [hs2]
    exact (frm.one (Or.inl (Or.inr ⟨rfl, rfl⟩))).tr stQ_frm (fun i j z => Or.inl z)
  have f1 : frm (fun i j => jW al i j ∨ (i = 146 ∧ j = 0)) σ σ1 := by rw [hs]; exact frm.one (Or.inr ⟨rfl, rfl⟩)
  refine ⟨σ2, ?_, f1.tr f2 (fun i j z => Or.inl z), ?_, ?_, ?_⟩
  · unfold mX4_begin
    rw [gc146, mG_pos (by omega), bnd_eq, ← hs, gr' c1 (by omega), gc k1, gr' c1 (by omega), gc k1, gc l3, gr' (r := 166 + 2 * k) (by rw [o1 _ _ (by omega)]; exact l2) (by omega), o1 _ _ (by omega), o1 _ _ (by omega), h3, h4, form_e l4, mCall_some, r1, gr' (r := 156) (L1.get 146 1 (by decide +kernel) (by decide +kernel)) (by omega), o1 _ _ (by omega), u2, quot_e _ _ _ (by omega) (by omega) (by omega), mCall_some, abs_e _ _ (by have := rn.2.2.1; unfold ideN at this; omega), mCall_some]
    show (mCall (mX3_begin 156 (ideN a b u d) σ1) fun b24 s25 => some (0, s25)) = _
    rw [be, mCall_some]
  · refine idC_fr (σ := σ1) ⟨L1, h2, by rw [o1 _ _ (by omega)]; exact h3, by rw [o1 _ _ (by omega)]; exact h4, atC_congr h5 (o1 _ _ (by omega)) (fun r hr j => o1 _ _ (by omega)), h6, ha, hb⟩ f2
  · rw [f2 _ _ (by unfold jW oW; omega)]; exact c1
  · rw [hs2]
    refine ⟨by rw [stQ_ne _ _ _ _ _ _ (by omega), upS_same], fun r hr => rwC_stQ _ _ _ hr⟩

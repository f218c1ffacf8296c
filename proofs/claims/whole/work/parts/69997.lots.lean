/-! lots of a set and of a greater one -/
theorem diag_mul {E F : Nat → V4} (tE : Tri E) (tF : Tri F) (h1 : ∀ x, spn E x → spn F x) : ∀ r, r < 4 → ∃ c : Int, 1 ≤ c ∧ vg r (E r) = c * vg r (F r) := by
  have tE' := tE
  have tF' := tF
  obtain ⟨p0, z10, p1, z20, z21, p2, z30, z31, z32, p3⟩ := tE'
  obtain ⟨q0, w10, q1, w20, w21, q2, w30, w31, w32, q3⟩ := tF'
  intro r hr
  refine lt4 (p := fun r => ∃ c : Int, 1 ≤ c ∧ vg r (E r) = c * vg r (F r)) ?_ ?_ ?_ ?_ hr
  · obtain ⟨a, b, c, d, -, e0, -⟩ := tri_get tF (h1 _ (spn_row E (i := 0) (by omega)))
    exact ⟨a, mul_pos_inv q0 p0 e0, e0⟩
  · obtain ⟨a, b, c, d, -, e0, e1, -⟩ := tri_get tF (h1 _ (spn_row E (i := 1) (by omega)))
    have := mz q0 e0 z10
    subst a
    rw [Int.zero_mul, Int.zero_add] at e1
    exact ⟨b, mul_pos_inv q1 p1 e1, e1⟩
  · obtain ⟨a, b, c, d, -, e0, e1, e2, -⟩ := tri_get tF (h1 _ (spn_row E (i := 2) (by omega)))
    have := mz q0 e0 z20
    subst a
    rw [Int.zero_mul, Int.zero_add] at e1 e2
    have := mz q1 e1 z21
    subst b
    rw [Int.zero_mul, Int.zero_add] at e2
    exact ⟨c, mul_pos_inv q2 p2 e2, e2⟩
  · obtain ⟨a, b, c, d, -, e0, e1, e2, e3⟩ := tri_get tF (h1 _ (spn_row E (i := 3) (by omega)))
    have := mz q0 e0 z30
    subst a
    rw [Int.zero_mul, Int.zero_add] at e1 e2 e3
    have := mz q1 e1 z31
    subst b
    rw [Int.zero_mul, Int.zero_add] at e2 e3
    have := mz q2 e2 z32
    subst c
    rw [Int.zero_mul, Int.zero_add] at e3
    exact ⟨d, mul_pos_inv q3 p3 e3, e3⟩
theorem prod_one {a b c d : Int} (ha : 1 ≤ a) (hb : 1 ≤ b) (hc : 1 ≤ c) (hd : 1 ≤ d) (h : a * b * c * d = 1) : a = 1 ∧ b = 1 ∧ c = 1 ∧ d = 1 := by
  have m1 := Int.mul_le_mul_of_nonneg_left hb (show 0 ≤ a by omega)
  have m1' := Int.mul_le_mul_of_nonneg_right ha (show 0 ≤ b by omega)
  have m2 := Int.mul_le_mul_of_nonneg_left hc (show 0 ≤ a * b by omega)
  have m2' := Int.mul_le_mul_of_nonneg_right (show 1 ≤ a * b by omega) (show 0 ≤ c by omega)
  have m3 := Int.mul_le_mul_of_nonneg_left hd (show 0 ≤ a * b * c by omega)
  have m3' := Int.mul_le_mul_of_nonneg_right (show 1 ≤ a * b * c by omega) (show 0 ≤ d by omega)
  omega
theorem lot_grow {M N : Int} {E F : Nat → V4} (hE : rOK M E) (hF : rOK N F) (h : subL M E (latS N F)) : lot M E ∣ lot N F ∧ (lot M E = lot N F → subL N F (latS M E)) := by
  have M0 := hE.1
  have N0 := hF.1
  have tE := (rOK_vS N0 hE).2.1
  have tF := (rOK_vS M0 hF).2.1
  have sub : ∀ x, spn (fun r => vS N (E r)) x → spn (fun r => vS M (F r)) x := fun x hx => by
    refine spn_le (spn_sub _) (fun i hi => ?_) hx
    obtain ⟨c, hc⟩ := h i hi
    exact ⟨c, by rw [vS_rows]; exact hc⟩
  have dg := diag_mul tE tF sub
  have q : ∀ r, r < 4 → ∃ c : Int, 1 ≤ c ∧ N / vg r (F r) = M / vg r (E r) * c ∧ N * vg r (E r) = c * (M * vg r (F r)) := by
    intro r hr
    obtain ⟨c, c1, c2⟩ := dg r hr
    rw [vg_vS _ _ hr, vg_vS _ _ hr] at c2
    refine ⟨c, c1, ?_, c2⟩
    have e := div_get (tri_d hE.2.1 r hr) M0 (dia_dvd hE.2.1 hE.2.2.2 hr)
    have f := div_get (tri_d hF.2.1 r hr) N0 (dia_dvd hF.2.1 hF.2.2.2 hr)
    have de := tri_d hE.2.1 r hr
    have df := tri_d hF.2.1 r hr
    refine Int.eq_of_mul_eq_mul_left (show vg r (F r) * vg r (E r) ≠ 0 from Int.mul_ne_zero (by omega) (by omega)) ?_
    have e1 : vg r (F r) * vg r (E r) * (N / vg r (F r)) = (vg r (F r) * (N / vg r (F r))) * vg r (E r) := by grind
    have e2 : vg r (F r) * vg r (E r) * (M / vg r (E r) * c) = c * ((vg r (E r) * (M / vg r (E r))) * vg r (F r)) := by grind
    rw [e1, e2, e.1, f.1]
    exact c2
  obtain ⟨c0, k0, e0, f0⟩ := q 0 (by omega)
  obtain ⟨c1, k1, e1, f1⟩ := q 1 (by omega)
  obtain ⟨c2, k2, e2, f2⟩ := q 2 (by omega)
  obtain ⟨c3, k3, e3, f3⟩ := q 3 (by omega)
  have el : lot N F = lot M E * (c0 * c1 * c2 * c3) := by
    unfold lot
    simp only [vg] at e0 e1 e2 e3
    rw [e0, e1, e2, e3]
    grind
  refine ⟨⟨_, el⟩, fun heq => ?_⟩
  have lp := lot_pos M0 hE.2.1 (uni_of hE.2.2.2)
  have one : c0 * c1 * c2 * c3 = 1 := by
    refine Int.eq_of_mul_eq_mul_left (show lot M E ≠ 0 by omega) ?_
    rw [← el, Int.mul_one, heq]
  obtain ⟨rfl, rfl, rfl, rfl⟩ := prod_one k0 k1 k2 k3 one
  intro r hr
  have hd : ∀ r, r < 4 → N * vg r (E r) = M * vg r (F r) := fun r hr => lt4 (p := fun r => N * vg r (E r) = M * vg r (F r)) (by rw [f0, Int.one_mul]) (by rw [f1, Int.one_mul]) (by rw [f2, Int.one_mul]) (by rw [f3, Int.one_mul]) hr
  obtain ⟨c, hc⟩ := same_diag tE tF sub ⟨hd 0 (by omega), hd 1 (by omega), hd 2 (by omega), hd 3 (by omega)⟩ (spn_row (fun r => vS M (F r)) hr)
  rw [vS_rows] at hc
  exact ⟨c, hc⟩
theorem lot_two {x y : Int} (hx : 1 ≤ x) (hy : 1 ≤ y) (h : x ∣ y) (hn : x ≠ y) : 2 * x ≤ y := by
  obtain ⟨c, hc⟩ := h
  have c1 : 1 ≤ c := mul_pos_inv (show 0 < x by omega) (show 0 < y by omega) (by rw [hc, Int.mul_comm])
  have : c ≠ 1 := fun z => hn (by rw [hc, z, Int.mul_one])
  have := Int.mul_le_mul_of_nonneg_left (show 2 ≤ c by omega) (show 0 ≤ x by omega)
  omega
/-! how small the numbers below are -/
def dvS (k : Int) : V4 → Int → Prop := fun x N => ∀ i, i < 4 → N ∣ k * vg i x
theorem dvS_grp (k : Int) : Grp (dvS k) := by
  refine ⟨fun N hN i hi => ?_, fun x y N hN hx hy i hi => ?_, fun c x N hN hx i hi => ?_, fun c x N hN hc => ⟨fun hx i hi => ?_, fun hx i hi => ?_⟩⟩
  · rw [vg_v0 hi, Int.mul_zero]; exact Int.dvd_zero _
  · rw [vg_vA _ _ hi, Int.mul_add]; exact Int.dvd_add (hx i hi) (hy i hi)
  · rw [vg_vS _ _ hi, Int.mul_left_comm]; exact Int.dvd_trans (hx i hi) (Int.dvd_mul_left _ _)
  · have := hx i hi
    rw [vg_vS _ _ hi, Int.mul_left_comm] at this
    exact Int.dvd_of_mul_dvd_mul_left (show c ≠ 0 by omega) this
  · rw [vg_vS _ _ hi, Int.mul_left_comm]
    exact Int.mul_dvd_mul_left _ (hx i hi)
theorem dvS_low {k M : Int} {E : Nat → V4} (hM : 0 < M) (hl : Low M E) (h : subL M E (dvS k)) : M ∣ k :=
  low_dvd hM hl (fun i hi => ⟨h i hi 0 (by omega), h i hi 1 (by omega), h i hi 2 (by omega), h i hi 3 (by omega)⟩)
theorem who_dvS {a b M : Int} {E : Nat → V4} (hE : rOK M E) (hw : Who a b (latS M E)) : subL M E (dvS (2 * (a * b))) := fun r hr => by
  obtain ⟨d0, d1, d2, d3⟩ := whole_co2 hE.1 (uni_of hE.2.2.2) hw (latS_row hr)
  exact fun i hi => lt4 (p := fun i => M ∣ 2 * (a * b) * vg i (E r)) d0 d1 d2 d3 hi
theorem prod_dvS {a b M : Int} {E : Nat → V4} (hE : rOK M E) (hw : Who a b (latS M E)) {r s : Nat} (hr : r < 4) (hs : s < 4) : dvS (4 * (a * b)) (vM a b (E r) (E s)) (M * M) := by
  obtain ⟨d0, d1, d2, d3⟩ := prod_small hE.1 (uni_of hE.2.2.2) hw (latS_row hr) (latS_row hs)
  exact fun i hi => lt4 (p := fun i => M * M ∣ 4 * (a * b) * vg i (vM a b (E r) (E s))) d0 d1 d2 d3 hi
theorem dvS_mul {k : Int} (c : Int) {x : V4} {N : Int} (h : dvS k x N) : dvS (c * k) x N := fun i hi => by
  rw [Int.mul_assoc]
  exact Int.dvd_trans (h i hi) (Int.dvd_mul_left _ _)
theorem whole_rng {a b M : Int} {E : Nat → V4} (ha : a ≠ 0 ∧ -60 ≤ a ∧ a ≤ 60) (hb : b ≠ 0 ∧ -60 ≤ b ∧ b ≤ 60) (hE : gdL M E) {c : Int} (hc : 1 ≤ c ∧ c ≤ 4) (h : subL M E (dvS (c * (a * b)))) : M ≤ 14400 := by
  have d := dvS_low hE.1.1 hE.2.2 h
  have r := mul_rng (x := a) (y := b) (A := 60) (B := 60) (by omega) (by omega) (by omega)
  have r2 := mul_rng (x := c) (y := a * b) (A := 4) (B := 3600) (by omega) (by omega) (by omega)
  have nz : c * (a * b) ≠ 0 := Int.mul_ne_zero (by omega) (Int.mul_ne_zero ha.1 hb.1)
  have := Int.le_of_dvd (by omega) (abs_dvd.mpr d)
  omega
/-- the least closed set over a set and a four -/
def hull (a b M : Int) (E : Nat → V4) (x : V4) (d N : Int) (F : Nat → V4) : Prop := gdL N F ∧ Clo a b (latS N F) ∧ Who a b (latS N F) ∧ subL M E (latS N F) ∧ latS N F x d ∧ ∀ S, Grp S → Clo a b S → subL M E S → S x d → subL N F S
def fitS (a b M : Int) (E : Nat → V4) (x : V4) (d : Int) : Prop := ∃ S, Grp S ∧ Clo a b S ∧ Who a b S ∧ subL M E S ∧ S x d
theorem hull_fit {a b M d N : Int} {E F : Nat → V4} {x : V4} (h : hull a b M E x d N F) : fitS a b M E x d := ⟨latS N F, latS_grp, h.2.1, h.2.2.1, h.2.2.2.1, h.2.2.2.2.1⟩
theorem hull_eq {a b M d N K : Int} {E F G : Nat → V4} {x : V4} (h1 : hull a b M E x d N F) (h2 : hull a b M E x d K G) : N = K ∧ ∀ r, r < 4 → F r = G r :=
  gdL_eq h1.1 h2.1 (h1.2.2.2.2.2 _ latS_grp h2.2.1 h2.2.2.2.1 h2.2.2.2.2.1) (h2.2.2.2.2.2 _ latS_grp h1.2.1 h1.2.2.2.1 h1.2.2.2.2.1)

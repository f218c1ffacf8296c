/-! fours of numbers: laws -/
theorem vext {x y : V4} (h0 : x.1 = y.1) (h1 : x.2.1 = y.2.1) (h2 : x.2.2.1 = y.2.2.1) (h3 : x.2.2.2 = y.2.2.2) : x = y := by
  obtain ⟨a, b, c, d⟩ := x
  obtain ⟨e, f, g, i⟩ := y
  simp only at h0 h1 h2 h3
  subst h0 h1 h2 h3
  rfl
theorem vS_cancel {k : Int} (hk : k ≠ 0) {x y : V4} (h : vS k x = vS k y) : x = y := by
  have h0 := congrArg (fun z : V4 => z.1) h
  have h1 := congrArg (fun z : V4 => z.2.1) h
  have h2 := congrArg (fun z : V4 => z.2.2.1) h
  have h3 := congrArg (fun z : V4 => z.2.2.2) h
  simp only [vS] at h0 h1 h2 h3
  exact vext (Int.eq_of_mul_eq_mul_left hk h0) (Int.eq_of_mul_eq_mul_left hk h1) (Int.eq_of_mul_eq_mul_left hk h2) (Int.eq_of_mul_eq_mul_left hk h3)
theorem vS_vS (k l : Int) (x : V4) : vS k (vS l x) = vS (k * l) x := by
  apply vext <;> simp only [vS, Int.mul_assoc]
theorem vS_comm (k l : Int) (x : V4) : vS k (vS l x) = vS l (vS k x) := by rw [vS_vS, vS_vS, Int.mul_comm]
theorem vS_one (x : V4) : vS 1 x = x := by apply vext <;> simp only [vS, Int.one_mul]
theorem vS_vA (k : Int) (x y : V4) : vS k (vA x y) = vA (vS k x) (vS k y) := by
  apply vext <;> simp only [vS, vA, Int.mul_add]
theorem vS_v0 (k : Int) : vS k v0 = v0 := by apply vext <;> simp [vS, v0]
theorem vA_c (x y : V4) : vA x y = vA y x := by apply vext <;> simp only [vA] <;> omega
theorem vA_l (x y z : V4) : vA (vA x y) z = vA x (vA y z) := by apply vext <;> simp only [vA] <;> omega
theorem vA_0 (x : V4) : vA x v0 = x := by apply vext <;> simp [vA, v0]
def Sub4 (S : V4 → Prop) : Prop := S v0 ∧ (∀ x y, S x → S y → S (vA x y)) ∧ ∀ k x, S x → S (vS k x)
def spn (E : Nat → V4) (x : V4) : Prop := ∃ c : V4, x = vC E c
theorem vC_add (E : Nat → V4) (c d : V4) : vC E (vA c d) = vA (vC E c) (vC E d) := by
  apply vext <;> simp only [vC, vA, vS] <;> grind
theorem vC_smul (E : Nat → V4) (k : Int) (c : V4) : vC E (vS k c) = vS k (vC E c) := by
  apply vext <;> simp only [vC, vA, vS] <;> grind
theorem vC_0 (E : Nat → V4) : vC E v0 = v0 := by apply vext <;> simp [vC, vA, vS, v0]
theorem vC_row (E : Nat → V4) {i : Nat} (hi : i < 4) : vC E (vE i) = E i := by
  rcases (show i = 0 ∨ i = 1 ∨ i = 2 ∨ i = 3 by omega) with rfl | rfl | rfl | rfl <;> apply vext <;> simp [vC, vA, vS, vE]
theorem spn_sub (E : Nat → V4) : Sub4 (spn E) := by
  refine ⟨⟨v0, (vC_0 E).symm⟩, ?_, ?_⟩
  · rintro x y ⟨c, rfl⟩ ⟨d, rfl⟩
    exact ⟨vA c d, (vC_add E c d).symm⟩
  · rintro k x ⟨c, rfl⟩
    exact ⟨vS k c, (vC_smul E k c).symm⟩
theorem spn_row (E : Nat → V4) {i : Nat} (hi : i < 4) : spn E (E i) := ⟨vE i, (vC_row E hi).symm⟩
theorem spn_le {S : V4 → Prop} {E : Nat → V4} (hS : Sub4 S) (h : ∀ i, i < 4 → S (E i)) {x : V4} (hx : spn E x) : S x := by
  obtain ⟨c, rfl⟩ := hx
  obtain ⟨s0, s1, s2⟩ := hS
  exact s1 _ _ (s2 _ _ (h 0 (by omega))) (s1 _ _ (s2 _ _ (h 1 (by omega))) (s1 _ _ (s2 _ _ (h 2 (by omega))) (s2 _ _ (h 3 (by omega)))))
theorem tri_get {E : Nat → V4} (hT : Tri E) {x : V4} (h : spn E x) : ∃ a b c d : Int, x = vC E (a, b, c, d) ∧ x.1 = a * (E 0).1 ∧ x.2.1 = a * (E 0).2.1 + b * (E 1).2.1 ∧ x.2.2.1 = a * (E 0).2.2.1 + b * (E 1).2.2.1 + c * (E 2).2.2.1 ∧ x.2.2.2 = a * (E 0).2.2.2 + b * (E 1).2.2.2 + c * (E 2).2.2.2 + d * (E 3).2.2.2 := by
  obtain ⟨c, rfl⟩ := h
  obtain ⟨p0, z10, p1, z20, z21, p2, z30, z31, z32, p3⟩ := hT
  refine ⟨c.1, c.2.1, c.2.2.1, c.2.2.2, rfl, ?_⟩
  simp only [vC, vA, vS, z10, z20, z21, z30, z31, z32, Int.mul_zero, Int.add_zero]
  refine ⟨trivial, trivial, ?_, ?_⟩ <;> omega
theorem mz {c m x : Int} (hm : 0 < m) (h : x = c * m) (h0 : x = 0) : c = 0 := by
  rw [h0] at h
  rcases Int.mul_eq_zero.mp h.symm with h | h
  · exact h
  · omega
theorem mul_pos_inv {c m x : Int} (hm : 0 < m) (hx : 0 < x) (h : x = c * m) : 1 ≤ c := by
  rcases Int.lt_or_le 0 c with h1 | h1
  · omega
  · have := Int.mul_le_mul_of_nonneg_right h1 (show 0 ≤ m by omega)
    omega
theorem pos_unit {x y c d : Int} (hx : 0 < x) (hy : 0 < y) (h1 : x = c * y) (h2 : y = d * x) : x = y ∧ c = 1 := by
  have hc := mul_pos_inv hy hx h1
  have hd := mul_pos_inv hx hy h2
  have e1 := Int.mul_le_mul_of_nonneg_right hc (show 0 ≤ y by omega)
  have e2 := Int.mul_le_mul_of_nonneg_right hd (show 0 ≤ x by omega)
  have e : x = y := by omega
  refine ⟨e, ?_⟩
  rcases Int.lt_or_le c 2 with h | h
  · omega
  · have := Int.mul_le_mul_of_nonneg_right h (show 0 ≤ y by omega)
    omega
theorem red_unit {u v m c : Int} (hu : 0 ≤ u ∧ u < m) (hv : 0 ≤ v ∧ v < m) (h : u = v + c * m) : c = 0 := by
  rcases Int.lt_or_le c 0 with h1 | h1
  · have := Int.mul_le_mul_of_nonneg_right (show c ≤ -1 by omega) (show 0 ≤ m by omega)
    omega
  · rcases Int.lt_or_le 0 c with h2 | h2
    · have := Int.mul_le_mul_of_nonneg_right (show 1 ≤ c by omega) (show 0 ≤ m by omega)
      omega
    · omega
/-- rows of one set, told by those of another: what is ahead of the diagonal does not come in -/
theorem diag_eq {E F : Nat → V4} (tE : Tri E) (tF : Tri F) (h1 : ∀ x, spn E x → spn F x) (h2 : ∀ x, spn F x → spn E x) : (E 0).1 = (F 0).1 ∧ (E 1).2.1 = (F 1).2.1 ∧ (E 2).2.2.1 = (F 2).2.2.1 ∧ (E 3).2.2.2 = (F 3).2.2.2 := by
  have tE' := tE
  have tF' := tF
  obtain ⟨p0, z10, p1, z20, z21, p2, z30, z31, z32, p3⟩ := tE'
  obtain ⟨q0, w10, q1, w20, w21, q2, w30, w31, w32, q3⟩ := tF'
  refine ⟨?_, ?_, ?_, ?_⟩
  · obtain ⟨a, b, c, d, -, e0, -⟩ := tri_get tF (h1 _ (spn_row E (i := 0) (by omega)))
    obtain ⟨a', b', c', d', -, f0, -⟩ := tri_get tE (h2 _ (spn_row F (i := 0) (by omega)))
    exact (pos_unit p0 q0 e0 f0).1
  · obtain ⟨a, b, c, d, -, e0, e1, -⟩ := tri_get tF (h1 _ (spn_row E (i := 1) (by omega)))
    obtain ⟨a', b', c', d', -, f0, f1, -⟩ := tri_get tE (h2 _ (spn_row F (i := 1) (by omega)))
    have := mz q0 e0 z10
    have := mz p0 f0 w10
    subst a a'
    rw [Int.zero_mul, Int.zero_add] at e1 f1
    exact (pos_unit p1 q1 e1 f1).1
  · obtain ⟨a, b, c, d, -, e0, e1, e2, -⟩ := tri_get tF (h1 _ (spn_row E (i := 2) (by omega)))
    obtain ⟨a', b', c', d', -, f0, f1, f2, -⟩ := tri_get tE (h2 _ (spn_row F (i := 2) (by omega)))
    have := mz q0 e0 z20
    have := mz p0 f0 w20
    subst a a'
    rw [Int.zero_mul, Int.zero_add] at e1 f1 e2 f2
    have := mz q1 e1 z21
    have := mz p1 f1 w21
    subst b b'
    rw [Int.zero_mul, Int.zero_add] at e2 f2
    exact (pos_unit p2 q2 e2 f2).1
  · obtain ⟨a, b, c, d, -, e0, e1, e2, e3⟩ := tri_get tF (h1 _ (spn_row E (i := 3) (by omega)))
    obtain ⟨a', b', c', d', -, f0, f1, f2, f3⟩ := tri_get tE (h2 _ (spn_row F (i := 3) (by omega)))
    have := mz q0 e0 z30
    have := mz p0 f0 w30
    subst a a'
    rw [Int.zero_mul, Int.zero_add] at e1 f1 e2 f2 e3 f3
    have := mz q1 e1 z31
    have := mz p1 f1 w31
    subst b b'
    rw [Int.zero_mul, Int.zero_add] at e2 f2 e3 f3
    have := mz q2 e2 z32
    have := mz p2 f2 w32
    subst c c'
    rw [Int.zero_mul, Int.zero_add] at e3 f3
    exact (pos_unit p3 q3 e3 f3).1
/-- rows with the same diagonal: each row of E is that of F and a sum of those behind it -/
theorem row_diag {E F : Nat → V4} (tE : Tri E) (tF : Tri F) (h1 : ∀ x, spn E x → spn F x) (hd : (E 0).1 = (F 0).1 ∧ (E 1).2.1 = (F 1).2.1 ∧ (E 2).2.2.1 = (F 2).2.2.1 ∧ (E 3).2.2.2 = (F 3).2.2.2) : (∃ b c d, E 0 = vC F (1, b, c, d)) ∧ (∃ c d, E 1 = vC F (0, 1, c, d)) ∧ (∃ d, E 2 = vC F (0, 0, 1, d)) ∧ E 3 = F 3 := by
  have tE' := tE
  have tF' := tF
  obtain ⟨p0, z10, p1, z20, z21, p2, z30, z31, z32, p3⟩ := tE'
  obtain ⟨q0, w10, q1, w20, w21, q2, w30, w31, w32, q3⟩ := tF'
  obtain ⟨d0, d1, d2, d3⟩ := hd
  have un : ∀ {c x y : Int}, 0 < y → x = y → x = c * y → c = 1 := fun {c x y} hy e h => (pos_unit (d := 1) (by omega) hy h (by omega)).2
  refine ⟨?_, ?_, ?_, ?_⟩
  · obtain ⟨a, b, c, d, e, e0, -⟩ := tri_get tF (h1 _ (spn_row E (i := 0) (by omega)))
    rw [un q0 d0 e0] at e
    exact ⟨b, c, d, e⟩
  · obtain ⟨a, b, c, d, e, e0, e1, -⟩ := tri_get tF (h1 _ (spn_row E (i := 1) (by omega)))
    have := mz q0 e0 z10
    subst a
    rw [Int.zero_mul, Int.zero_add] at e1
    rw [un q1 d1 e1] at e
    exact ⟨c, d, e⟩
  · obtain ⟨a, b, c, d, e, e0, e1, e2, -⟩ := tri_get tF (h1 _ (spn_row E (i := 2) (by omega)))
    have := mz q0 e0 z20
    subst a
    rw [Int.zero_mul, Int.zero_add] at e1 e2
    have := mz q1 e1 z21
    subst b
    rw [Int.zero_mul, Int.zero_add] at e2
    rw [un q2 d2 e2] at e
    exact ⟨d, e⟩
  · obtain ⟨a, b, c, d, e, e0, e1, e2, e3⟩ := tri_get tF (h1 _ (spn_row E (i := 3) (by omega)))
    have := mz q0 e0 z30
    subst a
    rw [Int.zero_mul, Int.zero_add] at e1 e2 e3
    have := mz q1 e1 z31
    subst b
    rw [Int.zero_mul, Int.zero_add] at e2 e3
    have := mz q2 e2 z32
    subst c
    rw [Int.zero_mul, Int.zero_add] at e3
    rw [un q3 d3 e3] at e
    rw [e]
    exact vC_row F (i := 3) (by omega)
theorem hnf_unique {E F : Nat → V4} (tE : Tri E) (rE : Red E) (tF : Tri F) (rF : Red F) (h1 : ∀ x, spn E x → spn F x) (h2 : ∀ x, spn F x → spn E x) : ∀ i, i < 4 → E i = F i := by
  have hd := diag_eq tE tF h1 h2
  obtain ⟨⟨b0, c0, e0, g0⟩, ⟨c1, e1, g1⟩, ⟨e2, g2⟩, g3⟩ := row_diag tE tF h1 hd
  obtain ⟨q0, w10, q1, w20, w21, q2, w30, w31, w32, q3⟩ := tF
  obtain ⟨d0, d1, d2, d3⟩ := hd
  obtain ⟨r01, r02, r03, r12, r13, r23⟩ := rE
  obtain ⟨s01, s02, s03, s12, s13, s23⟩ := rF
  rw [d1] at r01
  rw [d2] at r02 r12
  rw [d3] at r03 r13 r23
  have k2 : E 2 = F 2 := by
    have t3 := congrArg (fun z : V4 => z.2.2.2) g2
    simp only [vC, vA, vS, Int.zero_mul, Int.one_mul, Int.zero_add] at t3
    have := red_unit r23 s23 t3
    subst this
    rw [g2]
    exact vC_row F (i := 2) (by omega)
  have k1 : E 1 = F 1 := by
    have t2 := congrArg (fun z : V4 => z.2.2.1) g1
    have t3 := congrArg (fun z : V4 => z.2.2.2) g1
    simp only [vC, vA, vS, Int.zero_mul, Int.one_mul, Int.zero_add, w32, Int.mul_zero, Int.add_zero] at t2 t3
    have := red_unit r12 s12 t2
    subst this
    rw [Int.zero_mul, Int.zero_add] at t3
    have := red_unit r13 s13 t3
    subst this
    rw [g1]
    exact vC_row F (i := 1) (by omega)
  have k0 : E 0 = F 0 := by
    have t1 := congrArg (fun z : V4 => z.2.1) g0
    have t2 := congrArg (fun z : V4 => z.2.2.1) g0
    have t3 := congrArg (fun z : V4 => z.2.2.2) g0
    simp only [vC, vA, vS, Int.zero_mul, Int.one_mul, Int.zero_add, w21, w31, w32, Int.mul_zero, Int.add_zero] at t1 t2 t3
    have := red_unit r01 s01 t1
    subst this
    rw [Int.zero_mul, Int.zero_add] at t2 t3
    have := red_unit r02 s02 t2
    subst this
    rw [Int.zero_mul, Int.zero_add] at t3
    have := red_unit r03 s03 t3
    subst this
    rw [g0]
    exact vC_row F (i := 0) (by omega)
  intro i hi
  rcases (show i = 0 ∨ i = 1 ∨ i = 2 ∨ i = 3 by omega) with rfl | rfl | rfl | rfl
  · exact k0
  · exact k1
  · exact k2
  · exact g3
/-- sets with the same diagonal are the same -/
theorem same_diag {E F : Nat → V4} (tE : Tri E) (tF : Tri F) (h1 : ∀ x, spn E x → spn F x) (hd : (E 0).1 = (F 0).1 ∧ (E 1).2.1 = (F 1).2.1 ∧ (E 2).2.2.1 = (F 2).2.2.1 ∧ (E 3).2.2.2 = (F 3).2.2.2) {x : V4} (hx : spn F x) : spn E x := by
  obtain ⟨⟨b0, c0, e0, g0⟩, ⟨c1, e1, g1⟩, ⟨e2, g2⟩, g3⟩ := row_diag tE tF h1 hd
  obtain ⟨s0, s1, s2⟩ := spn_sub E
  have k3 : spn E (F 3) := by rw [← g3]; exact spn_row E (by omega)
  have k2 : spn E (F 2) := by
    rw [show F 2 = vA (E 2) (vS (-e2) (F 3)) by rw [g2]; apply vext <;> simp only [vC, vA, vS] <;> grind]
    exact s1 _ _ (spn_row E (by omega)) (s2 _ _ k3)
  have k1 : spn E (F 1) := by
    rw [show F 1 = vA (E 1) (vA (vS (-c1) (F 2)) (vS (-e1) (F 3))) by rw [g1]; apply vext <;> simp only [vC, vA, vS] <;> grind]
    exact s1 _ _ (spn_row E (by omega)) (s1 _ _ (s2 _ _ k2) (s2 _ _ k3))
  have k0 : spn E (F 0) := by
    rw [show F 0 = vA (E 0) (vA (vS (-b0) (F 1)) (vA (vS (-c0) (F 2)) (vS (-e0) (F 3)))) by rw [g0]; apply vext <;> simp only [vC, vA, vS] <;> grind]
    exact s1 _ _ (spn_row E (by omega)) (s1 _ _ (s2 _ _ k1) (s1 _ _ (s2 _ _ k2) (s2 _ _ k3)))
  refine spn_le (spn_sub E) (fun i hi => ?_) hx
  rcases (show i = 0 ∨ i = 1 ∨ i = 2 ∨ i = 3 by omega) with rfl | rfl | rfl | rfl
  · exact k0
  · exact k1
  · exact k2
  · exact k3
/-! sets over a number below them -/
theorem latS_row {M : Int} {E : Nat → V4} {i : Nat} (hi : i < 4) : latS M E (E i) M := ⟨vE i, by rw [vC_row E hi]⟩
theorem latS_spn {M : Int} {E : Nat → V4} (hM : M ≠ 0) {x : V4} : latS M E x M ↔ spn E x := by
  constructor
  · rintro ⟨c, h⟩
    exact ⟨c, vS_cancel hM h⟩
  · rintro ⟨c, rfl⟩
    exact ⟨c, rfl⟩
theorem latS_add {M N : Int} {E : Nat → V4} {x y : V4} (hx : latS M E x N) (hy : latS M E y N) : latS M E (vA x y) N := by
  obtain ⟨c, hc⟩ := hx
  obtain ⟨d, hd⟩ := hy
  exact ⟨vA c d, by rw [vS_vA, hc, hd, vC_add, vS_vA]⟩
theorem latS_smul {M N : Int} {E : Nat → V4} {x : V4} (k : Int) (hx : latS M E x N) : latS M E (vS k x) N := by
  obtain ⟨c, hc⟩ := hx
  exact ⟨vS k c, by rw [vS_comm, hc, vC_smul, vS_comm]⟩
theorem latS_scale {M N k : Int} {E : Nat → V4} {x : V4} (hk : k ≠ 0) : latS M E (vS k x) (k * N) ↔ latS M E x N := by
  constructor
  · rintro ⟨c, hc⟩
    refine ⟨c, vS_cancel hk ?_⟩
    rw [vS_comm, hc, vS_vS]
  · rintro ⟨c, hc⟩
    refine ⟨c, ?_⟩
    rw [vS_comm, hc, vS_vS]
theorem latS_zero (M N : Int) (E : Nat → V4) : latS M E v0 N := ⟨v0, by rw [vC_0, vS_v0, vS_v0]⟩
theorem latS_grp {M : Int} {E : Nat → V4} : Grp (latS M E) :=
  ⟨fun N _ => latS_zero M N E, fun x y N _ hx hy => latS_add hx hy, fun k x N _ hx => latS_smul k hx, fun k x N _ hk => latS_scale (by omega)⟩
theorem Grp.eq {S : V4 → Int → Prop} (h : Grp S) {x y : V4} {M N : Int} (hM : 0 < M) (hN : 0 < N) (e : vS M x = vS N y) (hx : S x N) : S y M := by
  have := (h.2.2.2 M x N hN hM).mpr hx
  rw [e, Int.mul_comm] at this
  exact (h.2.2.2 N y M hM hN).mp this
theorem latS_le {S : V4 → Int → Prop} {M N : Int} {E : Nat → V4} (hS : Grp S) (hM : 0 < M) (hN : 0 < N) (h : ∀ i, i < 4 → S (E i) M) {x : V4} (hx : latS M E x N) : S x N := by
  obtain ⟨c, hc⟩ := hx
  obtain ⟨g0, g1, g2, g3⟩ := hS
  have hy : S (vC E c) M := g1 _ _ _ hM (g2 _ _ _ hM (h 0 (by omega))) (g1 _ _ _ hM (g2 _ _ _ hM (h 1 (by omega))) (g1 _ _ _ hM (g2 _ _ _ hM (h 2 (by omega))) (g2 _ _ _ hM (h 3 (by omega)))))
  exact Grp.eq ⟨g0, g1, g2, g3⟩ hN hM hc.symm hy
theorem low_dvd {M k : Int} {E : Nat → V4} (hM : 0 < M) (hL : Low M E) (h : ∀ i, i < 4 → M ∣ k * (E i).1 ∧ M ∣ k * (E i).2.1 ∧ M ∣ k * (E i).2.2.1 ∧ M ∣ k * (E i).2.2.2) : M ∣ k := by
  have hg : (0 : Int) < Int.gcd M k := by
    have := Int.gcd_pos_of_ne_zero_left k (show M ≠ 0 by omega)
    omega
  obtain ⟨d, hd⟩ := Int.gcd_dvd_left M k
  have d0 : 0 < d := by
    rcases Int.lt_or_le 0 d with h | h
    · exact h
    · have := Int.mul_le_mul_of_nonneg_left h (show (0 : Int) ≤ Int.gcd M k by omega)
      omega
  have key : ∀ e : Int, M ∣ k * e → d ∣ e := by
    intro e he
    have := Int.dvd_gcd_mul_iff_dvd_mul.mpr he
    obtain ⟨q, hq⟩ := this
    refine ⟨q, Int.eq_of_mul_eq_mul_left (show (Int.gcd M k : Int) ≠ 0 by omega) ?_⟩
    rw [hq, ← Int.mul_assoc, ← hd]
  have d1 : d = 1 := hL d d0 ⟨Int.gcd M k, by rw [Int.mul_comm]; exact hd⟩ (fun i hi => ⟨key _ (h i hi).1, key _ (h i hi).2.1, key _ (h i hi).2.2.1, key _ (h i hi).2.2.2⟩)
  rw [d1, Int.mul_one] at hd
  rw [hd]
  exact Int.gcd_dvd_right M k
theorem lat_unique {M N : Int} {E F : Nat → V4} (hM : 0 < M) (hN : 0 < N) (tE : Tri E) (rE : Red E) (tF : Tri F) (rF : Red F) (lE : Low M E) (lF : Low N F) (h1 : ∀ i, i < 4 → latS N F (E i) M) (h2 : ∀ i, i < 4 → latS M E (F i) N) : M = N ∧ ∀ i, i < 4 → E i = F i := by
  have dv : ∀ {M N : Int} {E F : Nat → V4}, (∀ i, i < 4 → latS N F (E i) M) → ∀ i, i < 4 → M ∣ N * (E i).1 ∧ M ∣ N * (E i).2.1 ∧ M ∣ N * (E i).2.2.1 ∧ M ∣ N * (E i).2.2.2 := by
    intro M N E F h i hi
    obtain ⟨c, hc⟩ := h i hi
    have h0 := congrArg (fun z : V4 => z.1) hc
    have h1 := congrArg (fun z : V4 => z.2.1) hc
    have h2 := congrArg (fun z : V4 => z.2.2.1) hc
    have h3 := congrArg (fun z : V4 => z.2.2.2) hc
    exact ⟨⟨_, h0⟩, ⟨_, h1⟩, ⟨_, h2⟩, ⟨_, h3⟩⟩
  have a1 := low_dvd hM lE (dv h1)
  have a2 := low_dvd hN lF (dv h2)
  have e : M = N := Int.dvd_antisymm (by omega) (by omega) a1 a2
  subst e
  refine ⟨rfl, hnf_unique tE rE tF rF (fun x hx => ?_) (fun x hx => ?_)⟩
  · exact spn_le (spn_sub F) (fun i hi => (latS_spn (by omega)).mp (h1 i hi)) hx
  · exact spn_le (spn_sub E) (fun i hi => (latS_spn (by omega)).mp (h2 i hi)) hx

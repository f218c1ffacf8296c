/-! what is whole -/
def vB (a b : Int) (x y : V4) : Int := 2 * (x.1 * y.1 - a * x.2.1 * y.2.1 - b * x.2.2.1 * y.2.2.1 + a * b * x.2.2.2 * y.2.2.2)
theorem vN_add (a b : Int) (x y : V4) : vN a b (vA x y) = vN a b x + vN a b y + vB a b x y := by simp only [vN, vA, vB]; grind
theorem vN_smul (a b k : Int) (x : V4) : vN a b (vS k x) = k * k * vN a b x := by simp only [vN, vS]; grind
theorem vB_comm (a b : Int) (x y : V4) : vB a b x y = vB a b y x := by simp only [vB]; grind
theorem vB_addr (a b : Int) (x y z : V4) : vB a b x (vA y z) = vB a b x y + vB a b x z := by simp only [vB, vA]; grind
theorem vB_smulr (a b k : Int) (x y : V4) : vB a b x (vS k y) = k * vB a b x y := by simp only [vB, vS]; grind
theorem vB_smull (a b k : Int) (x y : V4) : vB a b (vS k x) y = k * vB a b x y := by simp only [vB, vS]; grind
def rWho (a b M : Int) (E : Nat → V4) : Prop := ∀ r, r < 4 → (M ∣ 2 * (E r).1 ∧ M * M ∣ vN a b (E r)) ∧ ∀ s, s < r → M * M ∣ vB a b (E r) (E s)
theorem who_of_rows {a b M : Int} {E : Nat → V4} (hM : 0 < M) (h : rWho a b M E) : Who a b (latS M E) := by
  intro x N hN hx
  obtain ⟨c, hc⟩ := hx
  obtain ⟨⟨⟨t0, m0⟩, ⟨n0, k0⟩⟩, -⟩ := h 0 (by omega)
  obtain ⟨⟨⟨t1, m1⟩, ⟨n1, k1⟩⟩, h1⟩ := h 1 (by omega)
  obtain ⟨⟨⟨t2, m2⟩, ⟨n2, k2⟩⟩, h2⟩ := h 2 (by omega)
  obtain ⟨⟨⟨t3, m3⟩, ⟨n3, k3⟩⟩, h3⟩ := h 3 (by omega)
  obtain ⟨b10, e10⟩ := h1 0 (by omega)
  obtain ⟨b20, e20⟩ := h2 0 (by omega)
  obtain ⟨b21, e21⟩ := h2 1 (by omega)
  obtain ⟨b30, e30⟩ := h3 0 (by omega)
  obtain ⟨b31, e31⟩ := h3 1 (by omega)
  obtain ⟨b32, e32⟩ := h3 2 (by omega)
  rw [vB_comm] at e10 e20 e21 e30 e31 e32
  have y1 : 2 * (vC E c).1 = M * (c.1 * t0 + c.2.1 * t1 + c.2.2.1 * t2 + c.2.2.2 * t3) := by
    simp only [vC, vA, vS]
    grind
  have yn : vN a b (vC E c) = M * M * (c.1 * c.1 * n0 + c.2.1 * c.2.1 * n1 + c.2.2.1 * c.2.2.1 * n2 + c.2.2.2 * c.2.2.2 * n3 + c.1 * c.2.1 * b10 + c.1 * c.2.2.1 * b20 + c.1 * c.2.2.2 * b30 + c.2.1 * c.2.2.1 * b21 + c.2.1 * c.2.2.2 * b31 + c.2.2.1 * c.2.2.2 * b32) := by
    unfold vC
    simp only [vN_add, vN_smul, vB_addr, vB_smulr, vB_smull, k0, k1, k2, k3, e10, e20, e21, e30, e31, e32]
    grind
  constructor
  · refine ⟨c.1 * t0 + c.2.1 * t1 + c.2.2.1 * t2 + c.2.2.2 * t3, Int.eq_of_mul_eq_mul_left (show M ≠ 0 by omega) ?_⟩
    have h0 := congrArg (fun z : V4 => z.1) hc
    simp only [vS] at h0
    grind
  · refine ⟨c.1 * c.1 * n0 + c.2.1 * c.2.1 * n1 + c.2.2.1 * c.2.2.1 * n2 + c.2.2.2 * c.2.2.2 * n3 + c.1 * c.2.1 * b10 + c.1 * c.2.2.1 * b20 + c.1 * c.2.2.2 * b30 + c.2.1 * c.2.2.1 * b21 + c.2.1 * c.2.2.2 * b31 + c.2.2.1 * c.2.2.2 * b32, Int.eq_of_mul_eq_mul_left (show M * M ≠ 0 from Int.mul_ne_zero (by omega) (by omega)) ?_⟩
    rw [← vN_smul, hc, vN_smul, yn, Int.mul_left_comm]
theorem acl (A B C : Int) : A + B + C - (A + B) = C := by omega
theorem rows_of_who {a b M : Int} {E : Nat → V4} (hM : 0 < M) (h : Who a b (latS M E)) : rWho a b M E := by
  intro r hr
  have hr1 := h _ _ hM (latS_row hr)
  refine ⟨hr1, fun s hs => ?_⟩
  have hs1 := h _ _ hM (latS_row (E := E) (i := s) (by omega))
  have ha := (h _ _ hM (latS_add (latS_row hr) (latS_row (E := E) (i := s) (by omega)))).2
  rw [vN_add] at ha
  have := Int.dvd_sub ha (Int.dvd_add hr1.2 hs1.2)
  rwa [acl] at this
/-- the determinant of four times four numbers, alike across -/
def det4 (g00 g01 g02 g03 g11 g12 g13 g22 g23 g33 : Int) : Int :=
  g00 * (g11 * (g22 * g33 - g23 * g23) - g12 * (g12 * g33 - g23 * g13) + g13 * (g12 * g23 - g22 * g13)) - g01 * (g01 * (g22 * g33 - g23 * g23) - g12 * (g02 * g33 - g23 * g03) + g13 * (g02 * g23 - g22 * g03)) + g02 * (g01 * (g12 * g33 - g23 * g13) - g11 * (g02 * g33 - g23 * g03) + g13 * (g02 * g13 - g12 * g03)) - g03 * (g01 * (g12 * g23 - g22 * g13) - g11 * (g02 * g23 - g22 * g03) + g12 * (g02 * g13 - g12 * g03))
theorem det_scale (D g00 g01 g02 g03 g11 g12 g13 g22 g23 g33 : Int) : det4 (D * g00) (D * g01) (D * g02) (D * g03) (D * g11) (D * g12) (D * g13) (D * g22) (D * g23) (D * g33) = (D * D) ^ 2 * det4 g00 g01 g02 g03 g11 g12 g13 g22 g23 g33 := by
  unfold det4
  grind
theorem det_tri (d0 d1 d2 d3 e00 e01 e02 e03 e11 e12 e13 e22 e23 e33 : Int) : det4 (d0 * e00 * e00 + d1 * e01 * e01 + d2 * e02 * e02 + d3 * e03 * e03) (d1 * e01 * e11 + d2 * e02 * e12 + d3 * e03 * e13) (d2 * e02 * e22 + d3 * e03 * e23) (d3 * e03 * e33) (d1 * e11 * e11 + d2 * e12 * e12 + d3 * e13 * e13) (d2 * e12 * e22 + d3 * e13 * e23) (d3 * e13 * e33) (d2 * e22 * e22 + d3 * e23 * e23) (d3 * e23 * e33) (d3 * e33 * e33) = d0 * d1 * d2 * d3 * (e00 * e11 * e22 * e33) ^ 2 := by
  unfold det4
  grind
theorem vB_self (a b : Int) (x : V4) : vB a b x x = 2 * vN a b x := by simp only [vB, vN]
theorem gram {a b M : Int} {E : Nat → V4} (tE : Tri E) (h : rWho a b M E) : M * M * (M * M) ∣ 4 * a * b * ((E 0).1 * (E 1).2.1 * (E 2).2.2.1 * (E 3).2.2.2) := by
  obtain ⟨⟨-, ⟨n0, k0⟩⟩, -⟩ := h 0 (by omega)
  obtain ⟨⟨-, ⟨n1, k1⟩⟩, h1⟩ := h 1 (by omega)
  obtain ⟨⟨-, ⟨n2, k2⟩⟩, h2⟩ := h 2 (by omega)
  obtain ⟨⟨-, ⟨n3, k3⟩⟩, h3⟩ := h 3 (by omega)
  obtain ⟨b10, e10⟩ := h1 0 (by omega)
  obtain ⟨b20, e20⟩ := h2 0 (by omega)
  obtain ⟨b21, e21⟩ := h2 1 (by omega)
  obtain ⟨b30, e30⟩ := h3 0 (by omega)
  obtain ⟨b31, e31⟩ := h3 1 (by omega)
  obtain ⟨b32, e32⟩ := h3 2 (by omega)
  rw [vB_comm] at e10 e20 e21 e30 e31 e32
  obtain ⟨p0, z10, p1, z20, z21, p2, z30, z31, z32, p3⟩ := tE
  have f0 : M * M * (2 * n0) = vB a b (E 0) (E 0) := by rw [vB_self, k0]; grind
  have f1 : M * M * (2 * n1) = vB a b (E 1) (E 1) := by rw [vB_self, k1]; grind
  have f2 : M * M * (2 * n2) = vB a b (E 2) (E 2) := by rw [vB_self, k2]; grind
  have f3 : M * M * (2 * n3) = vB a b (E 3) (E 3) := by rw [vB_self, k3]; grind
  have s := det_scale (M * M) (2 * n0) b10 b20 b30 (2 * n1) b21 b31 (2 * n2) b32 (2 * n3)
  have t := det_tri 2 (-2 * a) (-2 * b) (2 * (a * b)) (E 0).1 (E 0).2.1 (E 0).2.2.1 (E 0).2.2.2 (E 1).2.1 (E 1).2.2.1 (E 1).2.2.2 (E 2).2.2.1 (E 2).2.2.2 (E 3).2.2.2
  rw [f0, f1, f2, f3, ← e10, ← e20, ← e21, ← e30, ← e31, ← e32] at s
  have u : det4 (vB a b (E 0) (E 0)) (vB a b (E 0) (E 1)) (vB a b (E 0) (E 2)) (vB a b (E 0) (E 3)) (vB a b (E 1) (E 1)) (vB a b (E 1) (E 2)) (vB a b (E 1) (E 3)) (vB a b (E 2) (E 2)) (vB a b (E 2) (E 3)) (vB a b (E 3) (E 3)) = (4 * a * b * ((E 0).1 * (E 1).2.1 * (E 2).2.2.1 * (E 3).2.2.2)) ^ 2 := by
    rw [show (4 * a * b * ((E 0).1 * (E 1).2.1 * (E 2).2.2.1 * (E 3).2.2.2)) ^ 2 = 2 * (-2 * a) * (-2 * b) * (2 * (a * b)) * ((E 0).1 * (E 1).2.1 * (E 2).2.2.1 * (E 3).2.2.2) ^ 2 by grind, ← t]
    have r00 : vB a b (E 0) (E 0) = 2 * (E 0).1 * (E 0).1 + -2 * a * (E 0).2.1 * (E 0).2.1 + -2 * b * (E 0).2.2.1 * (E 0).2.2.1 + 2 * (a * b) * (E 0).2.2.2 * (E 0).2.2.2 := by unfold vB; grind
    have r01 : vB a b (E 0) (E 1) = -2 * a * (E 0).2.1 * (E 1).2.1 + -2 * b * (E 0).2.2.1 * (E 1).2.2.1 + 2 * (a * b) * (E 0).2.2.2 * (E 1).2.2.2 := by unfold vB; rw [z10]; grind
    have r02 : vB a b (E 0) (E 2) = -2 * b * (E 0).2.2.1 * (E 2).2.2.1 + 2 * (a * b) * (E 0).2.2.2 * (E 2).2.2.2 := by unfold vB; rw [z20, z21]; grind
    have r03 : vB a b (E 0) (E 3) = 2 * (a * b) * (E 0).2.2.2 * (E 3).2.2.2 := by unfold vB; rw [z30, z31, z32]; grind
    have r11 : vB a b (E 1) (E 1) = -2 * a * (E 1).2.1 * (E 1).2.1 + -2 * b * (E 1).2.2.1 * (E 1).2.2.1 + 2 * (a * b) * (E 1).2.2.2 * (E 1).2.2.2 := by unfold vB; rw [z10]; grind
    have r12 : vB a b (E 1) (E 2) = -2 * b * (E 1).2.2.1 * (E 2).2.2.1 + 2 * (a * b) * (E 1).2.2.2 * (E 2).2.2.2 := by unfold vB; rw [z20, z21]; grind
    have r13 : vB a b (E 1) (E 3) = 2 * (a * b) * (E 1).2.2.2 * (E 3).2.2.2 := by unfold vB; rw [z30, z31, z32]; grind
    have r22 : vB a b (E 2) (E 2) = -2 * b * (E 2).2.2.1 * (E 2).2.2.1 + 2 * (a * b) * (E 2).2.2.2 * (E 2).2.2.2 := by unfold vB; rw [z20, z21]; grind
    have r23 : vB a b (E 2) (E 3) = 2 * (a * b) * (E 2).2.2.2 * (E 3).2.2.2 := by unfold vB; rw [z30, z31, z32]; grind
    have r33 : vB a b (E 3) (E 3) = 2 * (a * b) * (E 3).2.2.2 * (E 3).2.2.2 := by unfold vB; rw [z30, z31, z32]; grind
    rw [r00, r01, r02, r03, r11, r12, r13, r22, r23, r33]
  rw [u] at s
  exact (Int.pow_dvd_pow_iff (n := 2) (by decide)).mp ⟨_, s⟩
theorem uni_dvd {M : Int} {E : Nat → V4} (tE : Tri E) (hU : Uni (latS M E)) : (E 0).1 ∣ M ∧ (E 1).2.1 ∣ M ∧ (E 2).2.2.1 ∣ M ∧ (E 3).2.2.2 ∣ M := by
  have u : ∀ i, i < 4 → spn E (vS M (vE i)) := fun i hi => by
    obtain ⟨c, hc⟩ := hU i hi
    exact ⟨c, by rw [hc, vS_one]⟩
  have tE' := tE
  obtain ⟨p0, z10, p1, z20, z21, p2, z30, z31, z32, p3⟩ := tE'
  refine ⟨?_, ?_, ?_, ?_⟩
  · obtain ⟨a, b, c, d, -, e0, -⟩ := tri_get tE (u 0 (by omega))
    simp only [vS, vE, Int.mul_one] at e0
    exact ⟨a, by rw [e0, Int.mul_comm]⟩
  · obtain ⟨a, b, c, d, -, e0, e1, -⟩ := tri_get tE (u 1 (by omega))
    simp only [vS, vE, Int.mul_one, Int.mul_zero] at e0 e1
    have := mz p0 e0 rfl
    subst this
    exact ⟨b, by rw [e1, Int.zero_mul, Int.zero_add, Int.mul_comm]⟩
  · obtain ⟨a, b, c, d, -, e0, e1, e2, -⟩ := tri_get tE (u 2 (by omega))
    simp only [vS, vE, Int.mul_one, Int.mul_zero] at e0 e1 e2
    have := mz p0 e0 rfl
    subst this
    rw [Int.zero_mul, Int.zero_add] at e1 e2
    have := mz p1 e1 rfl
    subst this
    exact ⟨c, by rw [e2, Int.zero_mul, Int.zero_add, Int.mul_comm]⟩
  · obtain ⟨a, b, c, d, -, e0, e1, e2, e3⟩ := tri_get tE (u 3 (by omega))
    simp only [vS, vE, Int.mul_one, Int.mul_zero] at e0 e1 e2 e3
    have := mz p0 e0 rfl
    subst this
    rw [Int.zero_mul, Int.zero_add] at e1 e2 e3
    have := mz p1 e1 rfl
    subst this
    rw [Int.zero_mul, Int.zero_add] at e2 e3
    have := mz p2 e2 rfl
    subst this
    exact ⟨d, by rw [e3, Int.zero_mul, Int.zero_add, Int.mul_comm]⟩
/-- into how many lots a set over M falls by whole numbers -/
def lot (M : Int) (E : Nat → V4) : Int := (M / (E 0).1) * (M / (E 1).2.1) * (M / (E 2).2.2.1) * (M / (E 3).2.2.2)
theorem div_get {x M : Int} (hx : 0 < x) (hM : 0 < M) (h : x ∣ M) : x * (M / x) = M ∧ 1 ≤ M / x ∧ M / x ≤ M := by
  have e := Int.mul_ediv_cancel' h
  refine ⟨e, ?_, Int.ediv_le_self _ (by omega)⟩
  rcases Int.lt_or_le 0 (M / x) with h1 | h1
  · omega
  · have := Int.mul_le_mul_of_nonneg_left h1 (show 0 ≤ x by omega)
    omega
theorem lot_pos {M : Int} {E : Nat → V4} (hM : 0 < M) (tE : Tri E) (hU : Uni (latS M E)) : 1 ≤ lot M E := by
  obtain ⟨d0, d1, d2, d3⟩ := uni_dvd tE hU
  obtain ⟨p0, z10, p1, z20, z21, p2, z30, z31, z32, p3⟩ := tE
  have a0 := (div_get p0 hM d0).2.1
  have a1 := (div_get p1 hM d1).2.1
  have a2 := (div_get p2 hM d2).2.1
  have a3 := (div_get p3 hM d3).2.1
  have m1 := Int.mul_pos (show 0 < M / (E 0).1 by omega) (show 0 < M / (E 1).2.1 by omega)
  have m2 := Int.mul_pos m1 (show 0 < M / (E 2).2.2.1 by omega)
  have m3 := Int.mul_pos m2 (show 0 < M / (E 3).2.2.2 by omega)
  unfold lot
  omega
theorem lot_dvd {a b M : Int} {E : Nat → V4} (hM : 0 < M) (tE : Tri E) (hU : Uni (latS M E)) (h : Who a b (latS M E)) : lot M E ∣ 4 * a * b := by
  obtain ⟨d0, d1, d2, d3⟩ := uni_dvd tE hU
  have g := gram tE (rows_of_who hM h)
  obtain ⟨p0, z10, p1, z20, z21, p2, z30, z31, z32, p3⟩ := tE
  have a0 := (div_get p0 hM d0).1
  have a1 := (div_get p1 hM d1).1
  have a2 := (div_get p2 hM d2).1
  have a3 := (div_get p3 hM d3).1
  have e : M * M * (M * M) = (E 0).1 * (E 1).2.1 * (E 2).2.2.1 * (E 3).2.2.2 * lot M E := by
    unfold lot
    generalize M / (E 0).1 = q0 at *
    generalize M / (E 1).2.1 = q1 at *
    generalize M / (E 2).2.2.1 = q2 at *
    generalize M / (E 3).2.2.2 = q3 at *
    rw [show (E 0).1 * (E 1).2.1 * (E 2).2.2.1 * (E 3).2.2.2 * (q0 * q1 * q2 * q3) = ((E 0).1 * q0) * ((E 1).2.1 * q1) * (((E 2).2.2.1 * q2) * ((E 3).2.2.2 * q3)) by grind, a0, a1, a2, a3]
  rw [e, Int.mul_comm (4 * a * b)] at g
  have P : (E 0).1 * (E 1).2.1 * (E 2).2.2.1 * (E 3).2.2.2 ≠ 0 := Int.mul_ne_zero (Int.mul_ne_zero (Int.mul_ne_zero (by omega) (by omega)) (by omega)) (by omega)
  exact Int.dvd_of_mul_dvd_mul_left P g
theorem cancel_dvd {M x : Int} (hM : 0 < M) (h : M * M ∣ M * x) : M ∣ x := Int.dvd_of_mul_dvd_mul_left (show M ≠ 0 by omega) h
/-- what the whole ones are like: twice the first and so on -/
theorem whole_co {a b M : Int} {E : Nat → V4} (hM : 0 < M) (hU : Uni (latS M E)) (h : Who a b (latS M E)) {x : V4} (hx : latS M E x M) : M ∣ 2 * x.1 ∧ M ∣ 2 * a * x.2.1 ∧ M ∣ 2 * b * x.2.2.1 ∧ M ∣ 2 * (a * b) * x.2.2.2 := by
  have key : ∀ i, i < 4 → M ∣ vB a b x (vE i) := by
    intro i hi
    have u : latS M E (vS M (vE i)) M := by
      have := (latS_scale (show M ≠ 0 by omega)).mpr (hU i hi)
      rwa [Int.mul_one] at this
    have h1 := (h _ _ hM hx).2
    have h2 := (h _ _ hM u).2
    have h3 := (h _ _ hM (latS_add hx u)).2
    rw [vN_add] at h3
    have h4 := Int.dvd_sub h3 (Int.dvd_add h1 h2)
    rw [acl, vB_smulr] at h4
    exact cancel_dvd hM h4
  have k0 := key 0 (by omega)
  have k1 := key 1 (by omega)
  have k2 := key 2 (by omega)
  have k3 := key 3 (by omega)
  simp only [vB, vE, Int.mul_zero, Int.mul_one, Int.sub_zero, Int.add_zero, Int.zero_sub, Int.zero_add, Int.sub_self] at k0 k1 k2 k3
  refine ⟨k0, ?_, ?_, ?_⟩
  · rw [show 2 * a * x.2.1 = -(2 * -(a * x.2.1)) by grind]
    exact Int.dvd_neg.mpr k1
  · rw [show 2 * b * x.2.2.1 = -(2 * -(b * x.2.2.1)) by grind]
    exact Int.dvd_neg.mpr k2
  · rw [show 2 * (a * b) * x.2.2.2 = 2 * (a * b * x.2.2.2) by grind]
    exact k3
theorem whole_co2 {a b M : Int} {E : Nat → V4} (hM : 0 < M) (hU : Uni (latS M E)) (h : Who a b (latS M E)) {x : V4} (hx : latS M E x M) : M ∣ 2 * (a * b) * x.1 ∧ M ∣ 2 * (a * b) * x.2.1 ∧ M ∣ 2 * (a * b) * x.2.2.1 ∧ M ∣ 2 * (a * b) * x.2.2.2 := by
  obtain ⟨⟨k0, e0⟩, ⟨k1, e1⟩, ⟨k2, e2⟩, k3⟩ := whole_co hM hU h hx
  refine ⟨⟨a * b * k0, ?_⟩, ⟨b * k1, ?_⟩, ⟨a * k2, ?_⟩, k3⟩
  · rw [show 2 * (a * b) * x.1 = a * b * (2 * x.1) by grind, e0]; grind
  · rw [show 2 * (a * b) * x.2.1 = b * (2 * a * x.2.1) by grind, e1]; grind
  · rw [show 2 * (a * b) * x.2.2.1 = a * (2 * b * x.2.2.1) by grind, e2]; grind
theorem prod_small {a b M : Int} {E : Nat → V4} (hM : 0 < M) (hU : Uni (latS M E)) (h : Who a b (latS M E)) {x y : V4} (hx : latS M E x M) (hy : latS M E y M) : M * M ∣ 4 * (a * b) * (vM a b x y).1 ∧ M * M ∣ 4 * (a * b) * (vM a b x y).2.1 ∧ M * M ∣ 4 * (a * b) * (vM a b x y).2.2.1 ∧ M * M ∣ 4 * (a * b) * (vM a b x y).2.2.2 := by
  obtain ⟨⟨p0, e0⟩, ⟨p1, e1⟩, ⟨p2, e2⟩, ⟨p3, e3⟩⟩ := whole_co hM hU h hx
  obtain ⟨⟨q0, f0⟩, ⟨q1, f1⟩, ⟨q2, f2⟩, ⟨q3, f3⟩⟩ := whole_co hM hU h hy
  simp only [vM]
  refine ⟨⟨a * b * (p0 * q0) + b * (p1 * q1) + a * (p2 * q2) - p3 * q3, ?_⟩, ⟨b * (p0 * q1) + b * (p1 * q0) + p3 * q2 - p2 * q3, ?_⟩, ⟨a * (p0 * q2) + a * (p2 * q0) + p1 * q3 - p3 * q1, ?_⟩, ⟨p0 * q3 + p3 * q0 + p1 * q2 - p2 * q1, ?_⟩⟩
  · rw [show M * M * (a * b * (p0 * q0) + b * (p1 * q1) + a * (p2 * q2) - p3 * q3) = a * b * ((M * p0) * (M * q0)) + b * ((M * p1) * (M * q1)) + a * ((M * p2) * (M * q2)) - (M * p3) * (M * q3) by grind, ← e0, ← e1, ← e2, ← e3, ← f0, ← f1, ← f2, ← f3]; grind
  · rw [show M * M * (b * (p0 * q1) + b * (p1 * q0) + p3 * q2 - p2 * q3) = b * ((M * p0) * (M * q1)) + b * ((M * p1) * (M * q0)) + (M * p3) * (M * q2) - (M * p2) * (M * q3) by grind, ← e0, ← e1, ← e2, ← e3, ← f0, ← f1, ← f2, ← f3]; grind
  · rw [show M * M * (a * (p0 * q2) + a * (p2 * q0) + p1 * q3 - p3 * q1) = a * ((M * p0) * (M * q2)) + a * ((M * p2) * (M * q0)) + (M * p1) * (M * q3) - (M * p3) * (M * q1) by grind, ← e0, ← e1, ← e2, ← e3, ← f0, ← f1, ← f2, ← f3]; grind
  · rw [show M * M * (p0 * q3 + p3 * q0 + p1 * q2 - p2 * q1) = (M * p0) * (M * q3) + (M * p3) * (M * q0) + (M * p1) * (M * q2) - (M * p2) * (M * q1) by grind, ← e0, ← e1, ← e2, ← e3, ← f0, ← f1, ← f2, ← f3]; grind

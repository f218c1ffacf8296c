/-! a four is put to a set of rows, column by column -/
def rIn (M : Int) (E : Nat → V4) : Prop := ∀ r i, r < i → i < 4 → 0 ≤ vg i (E r) ∧ vg i (E r) < M
def uSp (M : Int) (E : Nat → V4) : Prop := ∀ i, i < 4 → spn E (vS M (vE i))
def rOK (M : Int) (E : Nat → V4) : Prop := 0 < M ∧ Tri E ∧ rIn M E ∧ uSp M E
theorem tri_d {E : Nat → V4} (h : Tri E) : ∀ r, r < 4 → 0 < vg r (E r) := by
  obtain ⟨p0, z10, p1, z20, z21, p2, z30, z31, z32, p3⟩ := h
  exact fun r hr => lt4 (p := fun r => 0 < vg r (E r)) p0 p1 p2 p3 hr
theorem tri_z {E : Nat → V4} (h : Tri E) : ∀ r i, i < r → r < 4 → vg i (E r) = 0 := by
  obtain ⟨p0, z10, p1, z20, z21, p2, z30, z31, z32, p3⟩ := h
  intro r i h1 h2
  rcases (show (r = 1 ∧ i = 0) ∨ (r = 2 ∧ i = 0) ∨ (r = 2 ∧ i = 1) ∨ (r = 3 ∧ i = 0) ∨ (r = 3 ∧ i = 1) ∨ (r = 3 ∧ i = 2) by omega) with ⟨rfl, rfl⟩ | ⟨rfl, rfl⟩ | ⟨rfl, rfl⟩ | ⟨rfl, rfl⟩ | ⟨rfl, rfl⟩ | ⟨rfl, rfl⟩ <;> assumption
theorem tri_mk {E : Nat → V4} (h1 : ∀ r, r < 4 → 0 < vg r (E r)) (h2 : ∀ r i, i < r → r < 4 → vg i (E r) = 0) : Tri E :=
  ⟨h1 0 (by omega), h2 1 0 (by omega) (by omega), h1 1 (by omega), h2 2 0 (by omega) (by omega), h2 2 1 (by omega) (by omega), h1 2 (by omega), h2 3 0 (by omega) (by omega), h2 3 1 (by omega) (by omega), h2 3 2 (by omega) (by omega), h1 3 (by omega)⟩
theorem tail_in {M : Int} {E : Nat → V4} (tE : Tri E) (hu : uSp M E) {S : V4 → Prop} (hS : Sub4 S) {c : Nat} (hr : ∀ j, c ≤ j → j < 4 → S (E j)) {i : Nat} (hc : c ≤ i) (hi : i < 4) : S (vS M (vE i)) := by
  have tE' := tE
  obtain ⟨p0, z10, p1, z20, z21, p2, z30, z31, z32, p3⟩ := tE'
  obtain ⟨s0, s1, s2⟩ := hS
  obtain ⟨a, b, c', d, e, e0, e1, e2, e3⟩ := tri_get tE (hu i hi)
  rw [e]
  have z : ∀ (k : Int) (j : Nat), k = 0 ∨ S (E j) → S (vS k (E j)) := by
    intro k j h
    rcases h with rfl | h
    · rw [show vS 0 (E j) = v0 by apply vext <;> simp [vS, v0]]
      exact s0
    · exact s2 _ _ h
  have fin : (a = 0 ∨ S (E 0)) → (b = 0 ∨ S (E 1)) → (c' = 0 ∨ S (E 2)) → (d = 0 ∨ S (E 3)) → S (vC E (a, b, c', d)) := fun h0 h1 h2 h3 => s1 _ _ (z _ _ h0) (s1 _ _ (z _ _ h1) (s1 _ _ (z _ _ h2) (z _ _ h3)))
  rcases (show i = 0 ∨ i = 1 ∨ i = 2 ∨ i = 3 by omega) with rfl | rfl | rfl | rfl
  · exact fin (Or.inr (hr 0 (by omega) (by omega))) (Or.inr (hr 1 (by omega) (by omega))) (Or.inr (hr 2 (by omega) (by omega))) (Or.inr (hr 3 (by omega) (by omega)))
  · simp only [vS, vE, Int.mul_one, Int.mul_zero] at e0
    exact fin (Or.inl (mz p0 e0 rfl)) (Or.inr (hr 1 (by omega) (by omega))) (Or.inr (hr 2 (by omega) (by omega))) (Or.inr (hr 3 (by omega) (by omega)))
  · simp only [vS, vE, Int.mul_one, Int.mul_zero] at e0 e1
    have a0 := mz p0 e0 rfl
    rw [a0, Int.zero_mul, Int.zero_add] at e1
    exact fin (Or.inl a0) (Or.inl (mz p1 e1 rfl)) (Or.inr (hr 2 (by omega) (by omega))) (Or.inr (hr 3 (by omega) (by omega)))
  · simp only [vS, vE, Int.mul_one, Int.mul_zero] at e0 e1 e2
    have a0 := mz p0 e0 rfl
    rw [a0, Int.zero_mul, Int.zero_add] at e1 e2
    have b0 := mz p1 e1 rfl
    rw [b0, Int.zero_mul, Int.zero_add] at e2
    exact fin (Or.inl a0) (Or.inl b0) (Or.inl (mz p2 e2 rfl)) (Or.inr (hr 3 (by omega) (by omega)))
def rws (S : V4 → Prop) (E : Nat → V4) : Prop := ∀ j, j < 4 → S (E j)
def cInv (M : Int) (E : Nat → V4) (v : V4) (c : Nat) (F : Nat → V4) (w : V4) : Prop :=
  (∀ j, c ≤ j → j < 4 → F j = E j) ∧ Tri F ∧ rIn M F ∧ (∀ i, i < c → i < 4 → vg i w = 0) ∧ (∀ i, i < 4 → 0 ≤ vg i w ∧ vg i w < M) ∧ (∀ S : V4 → Prop, Sub4 S → ((rws S F ∧ S w) ↔ (rws S E ∧ S v))) ∧ ∀ j, j < 4 → vg j (F j) ∣ vg j (E j)
theorem cInv_pre {M : Int} {E F : Nat → V4} {v w : V4} {c : Nat} (hc : c < 4) (h : cInv M E v c F w) : euP M c (F c) w := by
  obtain ⟨h1, h2, h3, h4, h5, h6, h7⟩ := h
  exact ⟨tri_d h2 c hc, (h5 c hc).1, fun i hi => ⟨tri_z h2 c i hi hc, h4 i hi (by omega)⟩, fun i hi hi4 => ⟨h3 c i hi hi4, h5 i hi4⟩⟩
def sRow (F : Nat → V4) (c : Nat) (r : V4) : Nat → V4 := fun j => if j = c then r else F j
theorem sRow_c (F : Nat → V4) (c : Nat) (r : V4) : sRow F c r c = r := if_pos rfl
theorem sRow_n (F : Nat → V4) (c : Nat) (r : V4) {j : Nat} (h : j ≠ c) : sRow F c r j = F j := if_neg h
theorem rws_sRow {S : V4 → Prop} {F : Nat → V4} {c : Nat} {r : V4} (hc : c < 4) : rws S (sRow F c r) ↔ S r ∧ ∀ j, j < 4 → j ≠ c → S (F j) := by
  constructor
  · intro h
    refine ⟨?_, fun j hj hjc => ?_⟩
    · have := h c hc
      rwa [sRow_c] at this
    · have := h j hj
      rwa [sRow_n _ _ _ hjc] at this
  · rintro ⟨h1, h2⟩ j hj
    by_cases hjc : j = c
    · rw [hjc, sRow_c]; exact h1
    · rw [sRow_n _ _ _ hjc]; exact h2 j hj hjc
theorem rws_sp {S : V4 → Prop} {F : Nat → V4} {c : Nat} (hc : c < 4) : rws S F ↔ S (F c) ∧ ∀ j, j < 4 → j ≠ c → S (F j) :=
  ⟨fun h => ⟨h c hc, fun j hj _ => h j hj⟩, fun h j hj => by
    by_cases hjc : j = c
    · rw [hjc]; exact h.1
    · exact h.2 j hj hjc⟩
theorem cInv_step {M : Int} {E F : Nat → V4} {v w r' w' : V4} {c : Nat} (hE : rOK M E) (hc : c < 4) (h : cInv M E v c F w) (hs : euS M c (F c) w r' w') : cInv M E v (c + 1) (sRow F c r') w' := by
  obtain ⟨h1, h2, h3, h4, h5, h6, h7⟩ := h
  obtain ⟨⟨g1, g2, g3, g4⟩, g5, g6, g7⟩ := hs
  obtain ⟨e0, e1, e2, e3⟩ := hE
  refine ⟨fun j hj hj4 => by rw [sRow_n _ _ _ (by omega)]; exact h1 j (by omega) hj4, tri_mk (fun r hr => ?_) (fun r i hi hr => ?_), fun r i hi hi4 => ?_, fun i hi hi4 => ?_, fun i hi => ?_, fun S hS => ?_, fun j hj => ?_⟩
  · by_cases hrc : r = c
    · rw [hrc, sRow_c]; exact g1
    · rw [sRow_n _ _ _ hrc]; exact tri_d h2 r hr
  · by_cases hrc : r = c
    · rw [hrc, sRow_c]; exact (g3 i (by omega)).1
    · rw [sRow_n _ _ _ hrc]; exact tri_z h2 r i hi hr
  · by_cases hrc : r = c
    · rw [hrc, sRow_c]; exact (g4 i (by omega) hi4).1
    · rw [sRow_n _ _ _ hrc]; exact h3 r i hi hi4
  · by_cases hic : i = c
    · rw [hic]; exact g5
    · exact (g3 i (by omega)).2
  · rcases (show i < c ∨ i = c ∨ c < i by omega) with hi2 | hi2 | hi2
    · rw [(g3 i hi2).2]; omega
    · rw [hi2, g5]; omega
    · exact (g4 i hi2 hi).2
  · rw [← h6 S hS, rws_sRow hc, rws_sp hc]
    have hm : (∀ j, j < 4 → j ≠ c → S (F j)) → ∀ i, c < i → i < 4 → S (vS M (vE i)) := fun hh i hi hi4 =>
      tail_in e1 e3 hS (c := c + 1) (fun j hj hj4 => by rw [← h1 j (by omega) hj4]; exact hh j hj4 (by omega)) (by omega) hi4
    constructor
    · rintro ⟨⟨a, b⟩, d⟩
      have := (g7 S hS (hm b)).mpr ⟨a, d⟩
      exact ⟨⟨this.1, b⟩, this.2⟩
    · rintro ⟨⟨a, b⟩, d⟩
      have := (g7 S hS (hm b)).mp ⟨a, d⟩
      exact ⟨⟨this.1, b⟩, this.2⟩
  · by_cases hjc : j = c
    · rw [hjc, sRow_c, g6]
      exact Int.dvd_trans (Int.gcd_dvd_left _ _) (h7 c hc)
    · rw [sRow_n _ _ _ hjc]; exact h7 j hj
theorem rws_spn {E : Nat → V4} : rws (spn E) E := fun j hj => spn_row E hj
/-- what comes of it -/
def addS (M : Int) (E : Nat → V4) (v : V4) (F : Nat → V4) : Prop := rOK M F ∧ (∀ S : V4 → Prop, Sub4 S → (rws S F ↔ (rws S E ∧ S v))) ∧ ∀ j, j < 4 → vg j (F j) ∣ vg j (E j)
theorem cInv_end {M : Int} {E F : Nat → V4} {v w : V4} (hE : rOK M E) (h : cInv M E v 4 F w) : addS M E v F := by
  obtain ⟨h1, h2, h3, h4, h5, h6, h7⟩ := h
  have w0 : w = v0 := vg_ext fun i hi => by rw [h4 i hi hi, vg_v0 hi]
  subst w0
  have h8 : ∀ S : V4 → Prop, Sub4 S → (rws S F ↔ (rws S E ∧ S v)) := fun S hS => by
    rw [← h6 S hS]
    exact ⟨fun h => ⟨h, hS.1⟩, fun h => h.1⟩
  refine ⟨⟨hE.1, h2, h3, fun i hi => ?_⟩, h8, h7⟩
  exact spn_le (spn_sub F) ((h8 _ (spn_sub F)).mp rws_spn).1 (hE.2.2.2 i hi)
theorem cInv_start {M : Int} {E : Nat → V4} {v w : V4} (hE : rOK M E) (hw : ∀ i, i < 4 → vg i w = vg i v % M) : cInv M E v 0 E w := by
  obtain ⟨e0, e1, e2, e3⟩ := hE
  refine ⟨fun j _ _ => rfl, e1, e2, fun i hi => by omega, fun i hi => ?_, fun S hS => ?_, fun j _ => Int.dvd_refl _⟩
  · rw [hw i hi]
    exact ⟨Int.emod_nonneg _ (by omega), Int.emod_lt_of_pos _ e0⟩
  · have sh : ∀ {x y : V4}, rws S E → (∀ i, i < 4 → ∃ k, vg i x = vg i y + k * M) → S y → S x := fun hr h hy =>
      S_shift hS (M := M) (fun i hi => by
        obtain ⟨k, hk⟩ := h i hi
        exact ⟨k, hk, Or.inr (spn_le hS hr (e3 i hi))⟩) hy
    constructor
    · rintro ⟨a, b⟩
      refine ⟨a, sh a (fun i hi => ⟨vg i v / M, ?_⟩) b⟩
      rw [hw i hi]
      have := Int.mul_ediv_add_emod (vg i v) M
      grind
    · rintro ⟨a, b⟩
      refine ⟨a, sh a (fun i hi => ⟨-(vg i v / M), ?_⟩) b⟩
      rw [hw i hi]
      have := Int.mul_ediv_add_emod (vg i v) M
      grind
/-- has it grown -/
theorem add_grown {M : Int} {E F : Nat → V4} {v : V4} (hE : rOK M E) (h : addS M E v F) : (∀ j, j < 4 → vg j (F j) = vg j (E j)) ↔ spn E v := by
  obtain ⟨h1, h2, h3⟩ := h
  have le : ∀ x, spn E x → spn F x := fun x hx => spn_le (spn_sub F) ((h2 _ (spn_sub F)).mp rws_spn).1 hx
  constructor
  · intro h
    have hd : (E 0).1 = (F 0).1 ∧ (E 1).2.1 = (F 1).2.1 ∧ (E 2).2.2.1 = (F 2).2.2.1 ∧ (E 3).2.2.2 = (F 3).2.2.2 := ⟨(h 0 (by omega)).symm, (h 1 (by omega)).symm, (h 2 (by omega)).symm, (h 3 (by omega)).symm⟩
    exact same_diag hE.2.1 h1.2.1 le hd ((h2 _ (spn_sub F)).mp rws_spn).2
  · intro h
    have ge : ∀ x, spn F x → spn E x := fun x hx => spn_le (spn_sub E) ((h2 _ (spn_sub E)).mpr ⟨rws_spn, h⟩) hx
    obtain ⟨d0, d1, d2, d3⟩ := diag_eq hE.2.1 h1.2.1 le ge
    exact fun j hj => lt4 (p := fun j => vg j (F j) = vg j (E j)) d0.symm d1.symm d2.symm d3.symm hj
/-! rows less by those behind them -/
def setS (E F : Nat → V4) : Prop := Tri F ∧ Red F ∧ (∀ S : V4 → Prop, Sub4 S → (rws S F ↔ rws S E)) ∧ ∀ j, j < 4 → vg j (F j) = vg j (E j)
theorem red_in {M : Int} {F : Nat → V4} (hM : 0 < M) (tF : Tri F) (rF : Red F) (hu : uSp M F) : rOK M F := by
  have hU : Uni (latS M F) := fun i hi => by
    obtain ⟨c, hc⟩ := hu i hi
    exact ⟨c, by rw [hc, vS_one]⟩
  obtain ⟨d0, d1, d2, d3⟩ := uni_dvd tF hU
  have l1 := Int.le_of_dvd hM d1
  have l2 := Int.le_of_dvd hM d2
  have l3 := Int.le_of_dvd hM d3
  obtain ⟨r01, r02, r03, r12, r13, r23⟩ := rF
  refine ⟨hM, tF, fun r i h1 h2 => ?_, hu⟩
  rcases (show (r = 0 ∧ i = 1) ∨ (r = 0 ∧ i = 2) ∨ (r = 0 ∧ i = 3) ∨ (r = 1 ∧ i = 2) ∨ (r = 1 ∧ i = 3) ∨ (r = 2 ∧ i = 3) by omega) with ⟨rfl, rfl⟩ | ⟨rfl, rfl⟩ | ⟨rfl, rfl⟩ | ⟨rfl, rfl⟩ | ⟨rfl, rfl⟩ | ⟨rfl, rfl⟩ <;> simp only [vg] <;> omega
theorem set_ok {M : Int} {E F : Nat → V4} (hE : rOK M E) (h : setS E F) : rOK M F := by
  obtain ⟨h1, h2, h3, h4⟩ := h
  exact red_in hE.1 h1 h2 (fun i hi => spn_le (spn_sub F) ((h3 _ (spn_sub F)).mp rws_spn) (hE.2.2.2 i hi))

/-! one put into the reference's work lattice -/
def cW (i j : Nat) : Prop := i = 265 ∨ i = 266 ∨ i = 267 ∨ i = 272 ∨ (i = 269 ∧ 128 ≤ j ∧ j < 144) ∨ ((i = 270 ∨ i = 271) ∧ j = 8)
theorem sR4_frm (τ : mSt) (E : Nat → V4) (B m : Int) (u : V4) : frm cW τ (sR4 τ 8 E B m u) := by
  unfold sR4 rl
  have f : frm cW τ (stP τ 8 E 16) := fun i j h => by
    unfold stP
    rw [if_neg (fun z => h (Or.inr (Or.inr (Or.inr (Or.inr (Or.inl ⟨z.1, by omega, by omega⟩))))))]
  exact ((f.stV (fun j => Or.inr (Or.inr (Or.inr (Or.inl rfl))))).put (Or.inr (Or.inr (Or.inr (Or.inr (Or.inr ⟨Or.inl rfl, rfl⟩)))))).put (Or.inr (Or.inr (Or.inr (Or.inr (Or.inr ⟨Or.inr rfl, rfl⟩)))))
theorem low_of {e g : Int} {u : V4} (he : 0 < e) (hg : gcP (g * e) (fun _ => u) 4 g) : Low e (fun _ => ltV g u) := by
  intro d hd hde h
  obtain ⟨g0, g1, g2, g3⟩ := hg
  have hu : ∀ c, c < 4 → vg c u = g * vg c (ltV g u) := fun c hc => by
    unfold ltV
    rw [vg_vk _ hc, Int.mul_ediv_cancel' (g2 0 c (by omega) hc (by omega))]
  have h0 := h 0 (by omega)
  have k : g * d ∣ g := g3 _ (Int.mul_dvd_mul_left _ hde) (fun r c _ hc => by
    rw [hu c hc]
    exact Int.mul_dvd_mul_left _ (lt4 (p := fun c => d ∣ vg c (ltV g u)) h0.1 h0.2.1 h0.2.2.1 h0.2.2.2 hc))
  have := Int.le_of_dvd g0 k
  rcases Int.lt_or_le 1 d with h | h
  · have := Int.mul_le_mul_of_nonneg_left (show 2 ≤ d by omega) (show 0 ≤ g by omega)
    omega
  · omega
theorem least_sem {den B g L k : Int} {E F G : Nat → V4} {u : V4} (hd : 0 < den) (hg : gcP den (fun _ => u) 4 g) (hL : L = B / (Int.gcd B (den / g) : Int) * (den / g)) (hk : k = L / B) (hE : gdL B E) (a1 : addS L (fun r => vS k (E r)) (vS (L / (den / g)) (ltV g u)) F) (s : setS F G) : gdL L G ∧ (∀ S, Grp S → (subL L G S ↔ (subL B E S ∧ S u den))) ∧ (spn (fun r => vS k (E r)) (vS (L / (den / g)) (ltV g u)) ↔ latS B E u den) ∧ (B ∣ den → L ∣ den) := by
  obtain ⟨g0, g1, g2, g3⟩ := hg
  obtain ⟨e, he⟩ : ∃ e, e = den / g := ⟨_, rfl⟩
  have dg : g * e = den := by rw [he]; exact Int.mul_ediv_cancel' g1
  have e0 : 0 < e := by
    rcases Int.lt_or_le 0 e with h | h
    · exact h
    · have := Int.mul_le_mul_of_nonneg_left h (show 0 ≤ g by omega); omega
  rw [← he] at hL a1 ⊢
  have B0 := hE.1.1
  obtain ⟨L0, c1, c2, c3, c4, c5, c6⟩ := lcm_facts B0 e0
  rw [← hL] at L0 c1 c2 c3 c4 c5 c6
  rw [← hk] at c3 c4
  have hu : u = vS g (ltV g u) := vg_ext fun c hc => by
    rw [vg_vS _ _ hc]
    unfold ltV
    rw [vg_vk _ hc, Int.mul_ediv_cancel' (g2 0 c (by omega) hc (by omega))]
  have eL : L / e * e = L := Int.ediv_mul_cancel c2
  have q0 : 0 < L / e := div_pos L0 e0 c2
  have vec : ∀ S, Grp S → (S (vS (L / e) (ltV g u)) L ↔ S u den) := fun S hS => by
    have h1 := hS.2.2.2 (L / e) (ltV g u) e e0 q0
    rw [eL] at h1
    have h2 := hS.2.2.2 g (ltV g u) e e0 g0
    rw [dg, ← hu] at h2
    rw [h1, h2]
  have sem : ∀ S, Grp S → (subL L G S ↔ (subL B E S ∧ S u den)) := fun S hS => by
    have h1 := put_sem L0 a1 s hS
    have h2 := subL_vS (k := k) (E := E) B0 c4 hS
    rw [c3] at h2
    rw [h1, h2, vec S hS]
  have okG := set_ok a1.1 s
  refine ⟨⟨okG, s.2.1, fun d hd0 hdL hall => ?_⟩, sem, ?_, fun h => c6 _ h ⟨g, by rw [← dg, Int.mul_comm]⟩⟩
  · obtain ⟨w, hw⟩ := hdL
    have w0 : 0 < w := by
      rcases Int.lt_or_le 0 w with h | h
      · exact h
      · have := Int.mul_le_mul_of_nonneg_left h (show 0 ≤ d by omega); omega
    have sd : subL L G (dvS w) := fun r hr i hi => by
      have h4 := hall r hr
      obtain ⟨z, hz⟩ := lt4 (p := fun i => d ∣ vg i (G r)) h4.1 h4.2.1 h4.2.2.1 h4.2.2.2 hi
      exact ⟨z, by rw [hz, hw]; grind⟩
    obtain ⟨s1, s2⟩ := (sem _ (dvS_grp w)).mp sd
    have b1 := dvS_low B0 hE.2.2 s1
    have s3 : dvS w (ltV g u) e := by
      have h2 := (dvS_grp w).2.2.2 g (ltV g u) e e0 g0
      rw [dg, ← hu] at h2
      exact h2.mp s2
    have b2 : e ∣ w := dvS_low e0 (low_of (u := u) e0 (by rw [dg]; exact ⟨g0, g1, g2, g3⟩)) (fun r hr => s3)
    have := Int.le_of_dvd w0 (c6 w b1 b2)
    rcases Int.lt_or_le 1 d with h | h
    · have := Int.mul_le_mul_of_nonneg_right (show 2 ≤ d by omega) (show 0 ≤ w by omega)
      omega
    · omega
  · rw [← vec _ latS_grp]
    have h2 := (subL_vS (k := k) (E := E) (S := latS L (fun r => vS k (E r))) B0 c4 latS_grp)
    rw [c3] at h2
    rw [← latS_spn (M := L) (by omega)]
    constructor
    · intro h
      refine ((subL_lat L0 latS_grp).mp ?_ _ _ L0 h)
      have h3 := (subL_vS (k := k) (E := E) (S := latS B E) B0 c4 latS_grp)
      rw [c3] at h3
      exact h3.mpr (subL_self B E)
    · intro h
      exact (subL_lat B0 latS_grp).mp (h2.mp (subL_self L _)) _ _ L0 h
theorem put8 {τ : mSt} {den B : Int} {E : Nat → V4} {u : V4} (ha : atR τ 8 E B B u) (hE : gdL B E) (hBd : B ∣ den) (hd : 0 < den ∧ den ≤ 1000000000) (hb : ∀ i, i < 4 → -9223372036854775807 ≤ vg i u ∧ vg i u < 9223372036854775808) : ∃ L G v τ', gdL L G ∧ L ∣ den ∧ (∀ S, Grp S → (subL L G S ↔ (subL B E S ∧ S u den))) ∧ mX12_putsLeast 253 den τ = some (v, τ') ∧ frm cW τ τ' ∧ atR τ' 8 G L L v0 ∧ ((v = 0 ∧ latS B E u den) ∨ (v = 1 ∧ ¬ latS B E u den)) := by
  have Bl := Int.le_of_dvd hd.1 hBd
  obtain ⟨g, g1, g2⟩ := putsLeast_e ha ⟨hE.1.1, by omega⟩ hd hb hE.1
  obtain ⟨L, hL⟩ : ∃ L, L = B / (Int.gcd B (den / g) : Int) * (den / g) := ⟨_, rfl⟩
  have Ld : L ∣ den := by
    have gq : g * (den / g) = den := Int.mul_ediv_cancel' g1.2.1
    have := lcm_facts (den := den / g) hE.1.1 (div_pos hd.1 g1.1 g1.2.1)
    rw [← hL] at this
    exact this.2.2.2.2.2.2 den hBd ⟨g, by rw [Int.mul_comm]; exact gq.symm⟩
  have L9 := Int.le_of_dvd hd.1 Ld
  obtain ⟨F, G, i1, i2, i3, i4⟩ := g2 L (L / B) hL rfl (by omega)
  obtain ⟨s1, s2, s3, s4⟩ := least_sem hd.1 g1 hL rfl hE i2 i3
  refine ⟨L, G, _, _, s1, Ld, s2, i4, sR4_frm _ _ _ _ _, sR4_at ha.1 _ _ _ _ _, ?_⟩
  by_cases h : latS B E u den
  · exact Or.inl ⟨by rw [b2_t (s3.mpr h)]; rfl, h⟩
  · exact Or.inr ⟨by rw [b2_f (fun z => h (s3.mp z))]; rfl, h⟩

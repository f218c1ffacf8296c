/-! a row and a four, by what is told in a column, till the four has 0 there -/
theorem S_shift {S : V4 → Prop} (hS : Sub4 S) {M : Int} {x y : V4} (h : ∀ i, i < 4 → ∃ k, vg i x = vg i y + k * M ∧ (k = 0 ∨ S (vS M (vE i)))) (hy : S y) : S x := by
  obtain ⟨k0, e0, s0⟩ := h 0 (by omega)
  obtain ⟨k1, e1, s1⟩ := h 1 (by omega)
  obtain ⟨k2, e2, s2⟩ := h 2 (by omega)
  obtain ⟨k3, e3, s3⟩ := h 3 (by omega)
  simp only [vg] at e0 e1 e2 e3
  obtain ⟨t0, t1, t2⟩ := hS
  have g : ∀ {k : Int} {i : Nat}, (k = 0 ∨ S (vS M (vE i))) → S (vS k (vS M (vE i))) := by
    intro k i hk
    rcases hk with rfl | hk
    · rw [show vS 0 (vS M (vE i)) = v0 by apply vext <;> simp [vS, v0]]
      exact t0
    · exact t2 _ _ hk
  rw [show x = vA y (vA (vS k0 (vS M (vE 0))) (vA (vS k1 (vS M (vE 1))) (vA (vS k2 (vS M (vE 2))) (vS k3 (vS M (vE 3)))))) by
    apply vext <;> simp [vA, vS, vE] <;> assumption]
  exact t1 _ _ hy (t1 _ _ (g s0) (t1 _ _ (g s1) (t1 _ _ (g s2) (g s3))))
/-- what the four is behind a step -/
def stp (M : Int) (c : Nat) (r w : V4) : V4 := vk (fun i => if i < c then 0 else if i = c then vg c r - (vg c r / vg c w) * vg c w else (vg i r - (vg c r / vg c w) * vg i w) % M)
def euP (M : Int) (c : Nat) (r w : V4) : Prop := 0 < vg c r ∧ 0 ≤ vg c w ∧ (∀ i, i < c → vg i r = 0 ∧ vg i w = 0) ∧ ∀ i, c < i → i < 4 → (0 ≤ vg i r ∧ vg i r < M) ∧ 0 ≤ vg i w ∧ vg i w < M
def euS (M : Int) (c : Nat) (r w r' w' : V4) : Prop := euP M c r' w' ∧ vg c w' = 0 ∧ vg c r' = Int.gcd (vg c r) (vg c w) ∧ ∀ S : V4 → Prop, Sub4 S → (∀ i, c < i → i < 4 → S (vS M (vE i))) → ((S r ∧ S w) ↔ (S r' ∧ S w'))
theorem stp_c {M : Int} {c : Nat} (hc : c < 4) (r w : V4) : vg c (stp M c r w) = vg c r % vg c w := by
  unfold stp
  rw [vg_vk _ hc, if_neg (by omega), if_pos rfl]
  have := Int.mul_ediv_add_emod (vg c r) (vg c w)
  rw [Int.mul_comm] at this
  omega
theorem euP_step {M : Int} {c : Nat} {r w : V4} (hM : 0 < M) (hc : c < 4) (h : euP M c r w) (h0 : vg c w ≠ 0) : euP M c w (stp M c r w) := by
  obtain ⟨h1, h2, h3, h4⟩ := h
  refine ⟨by omega, ?_, fun i hi => ⟨(h3 i hi).2, ?_⟩, fun i hi hi4 => ⟨(h4 i hi hi4).2, ?_⟩⟩
  · rw [stp_c hc]
    exact Int.emod_nonneg _ h0
  · unfold stp
    rw [vg_vk _ (by omega), if_pos hi]
  · unfold stp
    rw [vg_vk _ hi4, if_neg (by omega), if_neg (by omega)]
    exact ⟨Int.emod_nonneg _ (by omega), Int.emod_lt_of_pos _ hM⟩
theorem euS_stop {M : Int} {c : Nat} {r w : V4} (h : euP M c r w) (h0 : vg c w = 0) : euS M c r w r w := by
  refine ⟨h, h0, ?_, fun S _ _ => Iff.rfl⟩
  have := h.1
  rw [h0, Int.gcd_zero]
  omega
theorem euS_step {M : Int} {c : Nat} {r w r' w' : V4} (hM : 0 < M) (hc : c < 4) (h : euP M c r w) (h0 : vg c w ≠ 0) (h' : euS M c w (stp M c r w) r' w') : euS M c r w r' w' := by
  obtain ⟨h1, h2, h3, h4⟩ := h
  obtain ⟨g1, g2, g3, g4⟩ := h'
  refine ⟨g1, g2, ?_, fun S hS hm => ?_⟩
  · rw [g3, stp_c hc, gcd_step]
  · rw [← g4 S hS hm]
    have hS' := hS
    obtain ⟨t0, t1, t2⟩ := hS'
    have q : ∀ i, i < 4 → vg i (stp M c r w) = if i < c then 0 else if i = c then vg c r - (vg c r / vg c w) * vg c w else (vg i r - (vg c r / vg c w) * vg i w) % M := fun i hi => by
      unfold stp
      rw [vg_vk _ hi]
    constructor
    · rintro ⟨a, b⟩
      refine ⟨b, S_shift hS (M := M) (y := vA r (vS (-(vg c r / vg c w)) w)) (fun i hi => ?_) (t1 _ _ a (t2 _ _ b))⟩
      rw [vg_vA _ _ hi, vg_vS _ _ hi, q i hi]
      rcases (show i < c ∨ i = c ∨ c < i by omega) with hi2 | hi2 | hi2
      · rw [if_pos hi2, (h3 i hi2).1, (h3 i hi2).2]
        exact ⟨0, by simp, Or.inl rfl⟩
      · rw [if_neg (by omega), if_pos hi2, hi2]
        exact ⟨0, by grind, Or.inl rfl⟩
      · rw [if_neg (by omega), if_neg (by omega)]
        refine ⟨-((vg i r - vg c r / vg c w * vg i w) / M), ?_, Or.inr (hm i hi2 hi)⟩
        have := Int.mul_ediv_add_emod (vg i r - vg c r / vg c w * vg i w) M
        grind
    · rintro ⟨b, a⟩
      refine ⟨S_shift hS (M := M) (y := vA (stp M c r w) (vS (vg c r / vg c w) w)) (fun i hi => ?_) (t1 _ _ a (t2 _ _ b)), b⟩
      rw [vg_vA _ _ hi, vg_vS _ _ hi, q i hi]
      rcases (show i < c ∨ i = c ∨ c < i by omega) with hi2 | hi2 | hi2
      · rw [if_pos hi2, (h3 i hi2).1, (h3 i hi2).2]
        exact ⟨0, by simp, Or.inl rfl⟩
      · rw [if_neg (by omega), if_pos hi2, hi2]
        exact ⟨0, by grind, Or.inl rfl⟩
      · rw [if_neg (by omega), if_neg (by omega)]
        refine ⟨(vg i r - vg c r / vg c w * vg i w) / M, ?_, Or.inr (hm i hi2 hi)⟩
        have := Int.mul_ediv_add_emod (vg i r - vg c r / vg c w * vg i w) M
        grind

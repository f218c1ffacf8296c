theorem form_e {σ : mSt} {a b : Int} {x : Nat} (hx : shp x = (21, 4)) : mX1_form a b x σ = some (vN a b (rowV σ x), σ) := by
  unfold mX1_form
  simp (disch := omega) only [gx hx]
  rfl
theorem formOf_e {σ : mSt} {B n k al : Nat} (hL : Lay σ) (hB : iBook σ B n) (ha : al < n) (hal : σ 257 al = 0) (f4 : shp (165 + 2 * k) = (1, 0)) (f5 : shp (166 + 2 * k) = (21, 4)) (f3 : σ (165 + 2 * k) 2 = (al : Int)) (f2 : σ (165 + 2 * k) 0 = ((166 + 2 * k : Nat) : Int)) (f6 : rowV σ (166 + 2 * k) = elV σ k) : mX11_formOf 0 (165 + 2 * k) σ = some (vN (σ 258 al) (σ 259 al) (elV σ k), σ) := by
  obtain ⟨⟨ab1, ab2⟩, ⟨-, ra1, ra2, -⟩, -, rb1, rb2, -⟩ := quatF hB ha hal
  obtain ⟨q1, hn, q3, q4, q5, q6, q7⟩ := hB
  unfold mX11_formOf
  simp (disch := omega) only [gc0, gr, bnd_eq, up_ne, upS_same, stV_ne, mCall_some, wI_id, wL_id, cLtF, cLtT, cLeF, cLeT, cEqF, cEqT, ↓reduceIte, Int.toNat_natCast, Int.reduceToNat, q3, gc f4, f3, first_c hL q1 (show al < 8 by omega), second_c hL q1 (show al < 8 by omega), ab1, ab2, f2, form_e f5, f6]
theorem normAbove_e {τ : mSt} {k al : Nat} (hk : k < 8) (ha : al < 8) (l15 : τ 253 15 = ((258 : Nat) : Int)) (l16 : τ 253 16 = ((259 : Nat) : Int)) (l22 : τ 253 22 = ((262 : Nat) : Int)) (l23 : τ 253 23 = ((263 : Nat) : Int)) (h2 : τ 262 k = (al : Int)) (ra : -60 ≤ τ 258 al ∧ τ 258 al ≤ 60) (rb : -60 ≤ τ 259 al ∧ τ 259 al ≤ 60) : mX12_normAbove 253 (k : Int) τ = some (vN (τ 258 al) (τ 259 al) (elV τ k), τ) := by
  unfold mX12_normAbove
  simp (disch := omega) only [gc253, part_e l23, gr, bnd_eq, up_ne, upS_same, stV_ne, mCall_some, wI_id, wL_id, cLtF, cLtT, cLeF, cLeT, cEqF, cEqT, ↓reduceIte, Int.toNat_natCast, Int.reduceToNat, l15, l16, l22, gx262, gx258, gx259, h2]
  unfold mX12_normOf
  rw [gc253]
  rfl
theorem vN_rng {a b X : Int} {x : V4} (ha : -60 ≤ a ∧ a ≤ 60) (hb : -60 ≤ b ∧ b ≤ 60) (hx : ∀ i, i < 4 → -X ≤ vg i x ∧ vg i x ≤ X) (hX : 0 ≤ X) : -(3721 * (X * X)) ≤ vN a b x ∧ vN a b x ≤ 3721 * (X * X) := by
  have := vM_rng ha hb hx (y := (x.1, -x.2.1, -x.2.2.1, -x.2.2.2)) (fun i hi => by
    have h0 := hx 0 (by omega)
    have h1 := hx 1 (by omega)
    have h2 := hx 2 (by omega)
    have h3 := hx 3 (by omega)
    simp only [vg] at h0 h1 h2 h3
    refine lt4 (p := fun i => -X ≤ vg i (x.1, -x.2.1, -x.2.2.1, -x.2.2.2) ∧ vg i (x.1, -x.2.1, -x.2.2.1, -x.2.2.2) ≤ X) ?_ ?_ ?_ ?_ hi <;> simp only [vg] <;> omega) hX 0 (by omega)
  rw [show vN a b x = vg 0 (vM a b x (x.1, -x.2.1, -x.2.2.1, -x.2.2.2)) by simp only [vg, vM, vN]; grind]
  exact this

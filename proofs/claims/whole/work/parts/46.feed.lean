theorem inv_start : Inv mS0 := by
  have e : ∀ k, k < 8 → mS0 (165 + 2 * k) 2 = -1 := by decide +kernel
  refine ⟨fun _ _ _ => rfl, by decide +kernel, 0, 37, 0, 0, ⟨by omega, by decide +kernel, by decide +kernel, fun k hk => by omega⟩, ⟨Or.inl rfl, by omega, by decide +kernel, by decide +kernel, by decide +kernel, by decide +kernel, fun k hk => by omega⟩, ⟨by omega, by decide +kernel, fun i j _ h => by omega, fun i h => by omega, fun k i h => by omega, fun k p h => by omega⟩, ⟨?_, fun k hk hn => absurd (e k hk) hn⟩, fun k hk => by omega, Or.inl ⟨by decide +kernel, by decide +kernel⟩⟩
  show mS0 253 21 = 0 + _ + _ + _ + _ + _ + _ + _ + _
  rw [e 0 (by omega), e 1 (by omega), e 2 (by omega), e 3 (by omega), e 4 (by omega), e 5 (by omega), e 6 (by omega), e 7 (by omega)]
  simp only [if_pos]
  decide +kernel
theorem bits_mask (σ : mSt) : wI (bits σ 8) = bits σ 8 := by
  obtain ⟨x, x1, x2, -⟩ := bits_rng σ
  rw [x2]
  exact wI_id (by omega)
theorem keptL_e {σ : mSt} (hL : Lay σ) (hO : own32 σ) : ∀ (m k : Nat) (f : Nat), k + m = 8 → m < f → mX11_keptBits_L4 0 (fun z1 zσ => mX11_keptBits_B38 0 z1 zσ) f (bits σ k) (k : Int) σ = some (bits σ 8, σ) := by
  intro m
  induction m with
  | zero =>
    intro k f h1 h2
    obtain ⟨f, rfl⟩ : ∃ q, f = q + 1 := ⟨f - 1, by omega⟩
    rw [mX11_keptBits_L4.eq_2, if_pos (by rw [wI_id (by omega)]; omega), show k = 8 by omega]
    rfl
  | succ m ih =>
    intro k f h1 h2
    obtain ⟨f, rfl⟩ : ∃ q, f = q + 1 := ⟨f - 1, by omega⟩
    obtain ⟨l1, l2, l3, l4⟩ := el_lay hL k (by omega)
    rw [mX11_keptBits_L4.eq_2]
    have hb : ∃ x : Nat, x < 2 ^ k ∧ bits σ k = (x : Int) := by
      clear h1 h2 ih l1 l2 l3 l4
      induction k with
      | zero => exact ⟨0, by decide, rfl⟩
      | succ k ih =>
        obtain ⟨x, x1, x2⟩ := ih
        have h2 : 2 ^ (k + 1) = 2 * 2 ^ k := by rw [Nat.pow_succ]; omega
        by_cases e : σ (165 + 2 * k) 2 = -1
        · exact ⟨x, by omega, by show bits σ k + _ = _; rw [if_pos e, x2]; omega⟩
        · refine ⟨x + 2 ^ k, by omega, ?_⟩
          show bits σ k + _ = _
          rw [if_neg e, x2]
          simp
    obtain ⟨x, x1, x2⟩ := hb
    have hp : 2 ^ k ≤ 2 ^ 7 := Nat.pow_le_pow_right (by decide) (by omega)
    refine mR_eq (mR_neg (by rw [wI_id (by omega)]; omega) (mR_ref (r := 112) (hL.get 0 6 (by decide +kernel) (by decide +kernel)) (by omega) (mR_G (ixOK_of (n := 8) (by decide) (by omega) (by omega) (by omega)) ?_)))
    rw [wI_nat (by omega)]
    refine mR_ref l1 (by omega) (mR_callE (there_e l3 (hO k (by omega))) (mR_if (fun c => ?_) (fun c => ?_)))
    · rw [wI_b2, b2_z] at c
      refine mR_bnd (mR_bnd ?_)
      have e : oOr (bits σ k) 0 = bits σ (k + 1) := by
        have := bit_or0 ⟨x, by omega⟩
        simp only at this
        rw [x2, this]
        show (x : Int) = bits σ k + _
        rw [if_pos (Classical.not_not.mp c), x2]
        omega
      rw [e, show (k : Int) + 1 = ((k + 1 : Nat) : Int) by omega]
      exact mR_of (ih (k + 1) f (by omega) (by omega)) ⟨rfl, rfl⟩
    · rw [wI_b2, b2_z] at c
      refine mR_bnd (mR_bnd ?_)
      have e : oOr (bits σ k) (oShl 1 (k : Int)) = bits σ (k + 1) := by
        have := bit_or ⟨x, by omega⟩ ⟨k, by omega⟩
        simp only at this
        rw [x2, this, if_neg (by rw [Nat.div_eq_of_lt x1]; decide)]
        show (x : Int) + 2 ^ k = bits σ k + _
        rw [if_neg (Classical.not_not.mp c), x2]
      rw [e, show (k : Int) + 1 = ((k + 1 : Nat) : Int) by omega]
      exact mR_of (ih (k + 1) f (by omega) (by omega)) ⟨rfl, rfl⟩
theorem scr_s {i k : Nat} (h : sSlot i k) (hf : fixR i k = false) : scr i k := ⟨hf, Or.inr h⟩
theorem scr_t {σ : mSt} {v : Int} : frm scr σ (upS σ 253 0 v) := frm.one (scr_s (by unfold sSlot; omega) (by decide +kernel))
theorem pr_count (σ : mSt) (h : Inv σ) (a1 : Int) (h1 : i32 a1) : ∃ b s b2 s2, mX11_count 0 a1 σ = some (b, s) ∧ mX12_count 253 a1 s = some (b2, s2) ∧ wI b = wI b2 ∧ Inv s2 := by
  have hI := h
  obtain ⟨hL, hb, t, B, n, s, hT, hB, hP, hE, hO⟩ := h
  obtain ⟨q1, q2, q3, q4, q5, q6, q7⟩ := hB
  obtain ⟨t1, t2, t3, t4⟩ := hT
  have hs : Inv (upS σ 253 0 0) := hI.scr scr_t
  have l12 : upS σ 253 0 0 253 12 = 255 := by rw [upS_ne (by omega)]; exact hL.get 253 12 (by decide +kernel) (by decide +kernel)
  have c : mX11_count 0 a1 σ = some ((if a1 = 0 then (n : Int) else if a1 = 1 then bits σ 8 else if a1 = 2 then (t : Int) else -1), σ) := by
    unfold mX11_count
    refine mR_eq (mR_G (by decide) ?_)
    rw [wI_id h1]
    refine mR_if (fun c => ?_) (fun c => mR_if (fun c2 => ?_) (fun c2 => mR_if (fun c3 => ?_) (fun c3 => ?_)))
    · refine mR_ref q3 (by omega) (mR_callE (b := (n : Int)) (s := σ) ?_ (mR_ret ⟨by rw [if_pos c], rfl⟩))
      unfold mX0_size
      rw [mG_pos (by rcases q1 with rfl | rfl <;> decide), q5]
    · refine mR_callE (b := bits σ 8) (s := σ) ?_ (mR_ret ⟨by rw [if_neg c, if_pos c2], rfl⟩)
      unfold mX11_keptBits
      rw [mG_pos (by decide)]
      exact keptL_e hL (hE.own q2) 8 0 mF (by omega) (by unfold mF; omega)
    · exact mR_ret ⟨by rw [if_neg c, if_neg c2, if_pos c3, t2], rfl⟩
    · exact mR_ret ⟨by rw [if_neg c, if_neg c2, if_neg c3], rfl⟩
  refine ⟨_, _, (if a1 = 0 then (n : Int) else if a1 = 1 then bits σ 8 else if a1 = 2 then (t : Int) else -1), upS σ 253 0 0, c, ?_, rfl, hs⟩
  unfold mX12_count
  refine mR_eq (mR_G (by decide) (mR_bnd ?_))
  rw [wI_id h1]
  refine mR_if (fun c => ?_) (fun c => mR_if (fun c2 => ?_) (fun c2 => mR_if (fun c3 => ?_) (fun c3 => ?_)))
  · refine mR_ref (r := 255) l12 (by omega) (mR_G (ixOK_of (n := 2) (by decide) (by omega) (by omega) (by omega)) (mR_ret ⟨by rw [if_pos c, upS_ne (by omega), q6], rfl⟩))
  · exact mR_ret ⟨by rw [if_neg c, if_pos c2, upS_ne (by omega), hE.1], rfl⟩
  · exact mR_ret ⟨by rw [if_neg c, if_neg c2, if_pos c3, upS_ne (by omega), t3], rfl⟩
  · exact mR_ret ⟨by rw [if_neg c, if_neg c2, if_neg c3], rfl⟩
def gB (t : Nat) (a b c d e : Int) (k : Nat) : Int := if k < t + 4 then wB (oShr a (24 - 8 * ((k : Int) - t))) else if k < t + 8 then wB (oShr b (24 - 8 * ((k : Int) - (t + 4 : Nat)))) else if k < t + 12 then wB (oShr c (24 - 8 * ((k : Int) - (t + 8 : Nat)))) else if k < t + 16 then wB (oShr d (24 - 8 * ((k : Int) - (t + 12 : Nat)))) else wB (oShr e (24 - 8 * ((k : Int) - (t + 16 : Nat))))
def put5 (σ : mSt) (x o z t : Nat) (a b c d e : Int) : mSt := put4 (put4 (put4 (put4 (put4 σ x o z t a) x o z (t + 4) b) x o z (t + 8) c) x o z (t + 12) d) x o z (t + 16) e
theorem put4_size {σ : mSt} {a o z t : Nat} {v : Int} (h : a ≠ o) : put4 σ a o z t v o z = ((t + 4 : Nat) : Int) := by
  unfold put4
  rw [if_neg (by omega), if_pos ⟨rfl, rfl⟩]
  omega
theorem put4_old {σ : mSt} {a o z t i k : Nat} {v : Int} (h : i ≠ a) (h2 : ¬ (i = o ∧ k = z)) : put4 σ a o z t v i k = σ i k := by
  unfold put4
  rw [if_neg (by omega), if_neg h2]
theorem put5_old {σ : mSt} {x o z t i k : Nat} {a b c d e : Int} (h : i ≠ x) (h2 : ¬ (i = o ∧ k = z)) : put5 σ x o z t a b c d e i k = σ i k := by
  unfold put5
  rw [put4_old h h2, put4_old h h2, put4_old h h2, put4_old h h2, put4_old h h2]
theorem put5_size {σ : mSt} {x o z t : Nat} {a b c d e : Int} (h : x ≠ o) : put5 σ x o z t a b c d e o z = ((t + 20 : Nat) : Int) := put4_size h
theorem put5_arr {σ : mSt} {x o z t k : Nat} {a b c d e : Int} (h : x ≠ o) : put5 σ x o z t a b c d e x k = if t ≤ k ∧ k < t + 20 then gB t a b c d e k else σ x k := by
  unfold put5 gB
  by_cases h0 : k < t
  · rw [if_neg (by omega)]
    unfold put4
    rw [if_neg (by omega), if_neg (by omega), if_neg (by omega), if_neg (by omega), if_neg (by omega), if_neg (by omega), if_neg (by omega), if_neg (by omega), if_neg (by omega), if_neg (by omega)]
  · by_cases h6 : t + 20 ≤ k
    · rw [if_neg (by omega)]
      unfold put4
      rw [if_neg (by omega), if_neg (by omega), if_neg (by omega), if_neg (by omega), if_neg (by omega), if_neg (by omega), if_neg (by omega), if_neg (by omega), if_neg (by omega), if_neg (by omega)]
    · rw [if_pos (by omega)]
      unfold put4
      by_cases h1 : k < t + 4
      · rw [if_neg (by omega), if_neg (by omega), if_neg (by omega), if_neg (by omega), if_neg (by omega), if_neg (by omega), if_neg (by omega), if_neg (by omega), if_pos (by omega), if_pos h1]
      · rw [if_neg h1]
        by_cases h2 : k < t + 8
        · rw [if_neg (by omega), if_neg (by omega), if_neg (by omega), if_neg (by omega), if_neg (by omega), if_neg (by omega), if_pos (by omega), if_pos h2]
        · rw [if_neg h2]
          by_cases h3 : k < t + 12
          · rw [if_neg (by omega), if_neg (by omega), if_neg (by omega), if_neg (by omega), if_pos (by omega), if_pos h3]
          · rw [if_neg h3]
            by_cases h4 : k < t + 16
            · rw [if_neg (by omega), if_neg (by omega), if_pos (by omega), if_pos h4]
            · rw [if_neg h4, if_pos (by omega)]
theorem gB_rng (t : Nat) (a b c d e : Int) (k : Nat) : -128 ≤ gB t a b c d e k ∧ gB t a b c d e k < 128 := by
  unfold gB
  split
  · exact wB_rng _
  · split
    · exact wB_rng _
    · split
      · exact wB_rng _
      · split <;> exact wB_rng _
theorem pr_feed (σ : mSt) (h : Inv σ) (a1 : Int) (h1 : i32 a1) (a2 : Int) (h2 : i32 a2) (a3 : Int) (h3 : i32 a3) (a4 : Int) (h4 : i32 a4) (a5 : Int) (h5 : i32 a5) : ∃ b s b2 s2, mX11_feed 0 a1 a2 a3 a4 a5 σ = some (b, s) ∧ mX12_feed 253 a1 a2 a3 a4 a5 s = some (b2, s2) ∧ wI b = wI b2 ∧ Inv s2 := by
  have hI := h
  obtain ⟨hL, hb, t, B, n, s, hT, hB, hP, hE, hO⟩ := h
  obtain ⟨t1, t2, t3, t4⟩ := hT
  by_cases hc : t + 20 ≤ 600
  · have l0 : σ 0 0 = 1 := hL.get 0 0 (by decide +kernel) (by decide +kernel)
    have l1 : σ 253 1 = 254 := hL.get 253 1 (by decide +kernel) (by decide +kernel)
    have c : mX11_feed 0 a1 a2 a3 a4 a5 σ = some (((t + 20 : Nat) : Int), put5 σ 1 0 1 t a1 a2 a3 a4 a5) := by
      unfold mX11_feed
      refine mR_eq (mR_G (by decide) (mR_pos (by rw [t2, wI_id (by omega)]; omega) ?_))
      refine mR_callE (put_c l0 t2 (by omega)) ?_
      refine mR_callE (put_c (t := t + 4) (by rw [put4_old (by omega) (by omega)]; exact l0) (put4_size (by omega)) (by omega)) ?_
      refine mR_callE (put_c (t := t + 8) (by rw [put4_old (by omega) (by omega), put4_old (by omega) (by omega)]; exact l0) (put4_size (by omega)) (by omega)) ?_
      refine mR_callE (put_c (t := t + 12) (by rw [put4_old (by omega) (by omega), put4_old (by omega) (by omega), put4_old (by omega) (by omega)]; exact l0) (put4_size (by omega)) (by omega)) ?_
      refine mR_callE (put_c (t := t + 16) (by rw [put4_old (by omega) (by omega), put4_old (by omega) (by omega), put4_old (by omega) (by omega), put4_old (by omega) (by omega)]; exact l0) (put4_size (by omega)) (by omega)) ?_
      exact mR_ret ⟨put4_size (by omega), rfl⟩
    obtain ⟨τ, hτ⟩ : ∃ τ, τ = upS (put5 σ 1 0 1 t a1 a2 a3 a4 a5) 253 0 0 := ⟨_, rfl⟩
    have r1 : τ 253 1 = 254 := by rw [hτ, upS_ne (by omega), put5_old (by omega) (by omega)]; exact l1
    have r2 : τ 253 2 = (t : Int) := by rw [hτ, upS_ne (by omega), put5_old (by omega) (by omega)]; exact t3
    have r : mX12_feed 253 a1 a2 a3 a4 a5 (put5 σ 1 0 1 t a1 a2 a3 a4 a5) = some (((t + 20 : Nat) : Int), put5 τ 254 253 2 t a1 a2 a3 a4 a5) := by
      unfold mX12_feed
      refine mR_eq (mR_G (by decide) (mR_bnd ?_))
      rw [← hτ]
      refine mR_pos (by rw [r2, wI_id (by omega)]; omega) ?_
      refine mR_callE (put_r r1 r2 (by omega)) ?_
      refine mR_callE (put_r (t := t + 4) (by rw [put4_old (by omega) (by omega)]; exact r1) (put4_size (by omega)) (by omega)) ?_
      refine mR_callE (put_r (t := t + 8) (by rw [put4_old (by omega) (by omega), put4_old (by omega) (by omega)]; exact r1) (put4_size (by omega)) (by omega)) ?_
      refine mR_callE (put_r (t := t + 12) (by rw [put4_old (by omega) (by omega), put4_old (by omega) (by omega), put4_old (by omega) (by omega)]; exact r1) (put4_size (by omega)) (by omega)) ?_
      refine mR_callE (put_r (t := t + 16) (by rw [put4_old (by omega) (by omega), put4_old (by omega) (by omega), put4_old (by omega) (by omega), put4_old (by omega) (by omega)]; exact r1) (put4_size (by omega)) (by omega)) ?_
      exact mR_ret ⟨put4_size (by omega), rfl⟩
    refine ⟨_, _, _, _, c, r, rfl, ?_⟩
    have hf : frm scr2 σ (put5 τ 254 253 2 t a1 a2 a3 a4 a5) := by
      intro i k z
      have z1 : ¬ tapeW i k := fun q => z (Or.inr q)
      have z2 : ¬ (i = 253 ∧ k = 0) := fun q => z (Or.inl (by rw [q.1, q.2]; exact scr_s (by unfold sSlot; omega) (by decide +kernel)))
      unfold tapeW at z1
      rw [put5_old (by omega) (by omega), hτ, upS_ne (by omega), put5_old (by omega) (by omega)]
    obtain ⟨g1, g2, g3⟩ := InvR.scr2 (B := B) (n := n) (s := s) ⟨hL, hb, hB, hP, hE, hO⟩ hf
    refine ⟨g1, g2, t + 20, B, n, s, ⟨hc, ?_, ?_, fun k hk => ?_⟩, g3⟩
    · rw [put5_old (by omega) (by omega), hτ, upS_ne (by omega)]
      exact put5_size (by omega)
    · exact put5_size (by omega)
    · rw [put5_old (by omega) (by omega), put5_arr (by omega), hτ, upS_ne (by omega), upS_ne (by omega), put5_arr (by omega), put5_old (by omega) (by omega)]
      by_cases hk2 : t ≤ k ∧ k < t + 20
      · rw [if_pos hk2, if_pos hk2]
        exact ⟨rfl, gB_rng _ _ _ _ _ _ _⟩
      · rw [if_neg hk2, if_neg hk2]
        exact t4 k (by omega)
  · refine ⟨-1, σ, -1, upS σ 253 0 0, ?_, ?_, rfl, hI.scr scr_t⟩
    · unfold mX11_feed
      exact mR_eq (mR_G (by decide) (mR_neg (by rw [t2, wI_id (by omega)]; omega) (mR_ret ⟨rfl, rfl⟩)))
    · unfold mX12_feed
      exact mR_eq (mR_G (by decide) (mR_bnd (mR_neg (by rw [upS_ne (by omega), t3, wI_id (by omega)]; omega) (mR_ret ⟨rfl, rfl⟩))))

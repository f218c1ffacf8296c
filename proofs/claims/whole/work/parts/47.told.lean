theorem shr5 {x : Int} (h : -9223372036854775808 ≤ x ∧ x < 9223372036854775808) : oShrL x 5 = x / 32 := by
  unfold oShrL
  rw [show ((Int32.ofInt 5).toInt64 &&& 63 : Int64) = 5 by decide, ← Int64.toInt_toBitVec, Int64.toBitVec_shiftRight, BitVec.sshiftRight_eq', BitVec.toInt_sshiftRight]
  rw [show (Int64.ofInt x).toBitVec.toInt = x from wL_id h]
  rw [Int.shiftRight_eq_div_pow]
  rfl
theorem spellF_rng {σ : mSt} {r : Nat} : ∀ n : Nat, (∀ i, i < n → 97 ≤ σ r i ∧ σ r i ≤ 122) → 0 ≤ spellF σ r n ∧ spellF σ r n < 32 ^ n ∧ (1 ≤ n → 1 ≤ spellF σ r n) := by
  intro n
  induction n with
  | zero => intro _; exact ⟨Int.le_refl _, (show (0 : Int) < 32 ^ 0 by decide), fun h => by omega⟩
  | succ n ih =>
    intro h
    obtain ⟨h1, h2, h3⟩ := ih (fun i hi => h i (by omega))
    have h4 := h n (by omega)
    have e : (32 : Int) ^ (n + 1) = 32 * 32 ^ n := by rw [Int.pow_succ]; omega
    show 0 ≤ 32 * spellF σ r n + (σ r n - 96) ∧ 32 * spellF σ r n + (σ r n - 96) < 32 ^ (n + 1) ∧ (1 ≤ n + 1 → 1 ≤ 32 * spellF σ r n + (σ r n - 96))
    rw [e]
    exact ⟨by omega, by omega, fun _ => by omega⟩
theorem firstL_e {σ τ : mSt} {r : Nat} {v : Int} : ∀ (n f : Nat), n + 1 ≤ 10 → n < f → (∀ i, i < n + 1 → 97 ≤ σ r i ∧ σ r i ≤ 122) → mX12_firstLetter_L2 v (fun z2 zσ => mX12_firstLetter_B17 v z2 zσ) f (spellF σ r (n + 1)) τ = some (σ r 0 - 97, τ) := by
  intro n
  induction n with
  | zero =>
    intro f h1 h2 h3
    obtain ⟨f, rfl⟩ : ∃ q, f = q + 1 := ⟨f - 1, by omega⟩
    have h4 := h3 0 (by omega)
    have e0 : spellF σ r (0 + 1) = 32 * 0 + (σ r 0 - 96) := rfl
    have e : spellF σ r (0 + 1) = σ r 0 - 96 := by rw [e0]; omega
    rw [e, mX12_firstLetter_L2.eq_2, if_pos (by rw [wL_id (by omega)]; omega)]
    unfold mX12_firstLetter_B17
    rw [show σ r 0 - 96 - 1 = σ r 0 - 97 by omega]
  | succ n ih =>
    intro f h1 h2 h3
    obtain ⟨f, rfl⟩ : ∃ q, f = q + 1 := ⟨f - 1, by omega⟩
    have h4 := h3 (n + 1) (by omega)
    obtain ⟨g1, g2, g3⟩ := spellF_rng (n + 1) (fun i hi => h3 i (by omega))
    have g4 := g3 (by omega)
    have g5 : (32 : Int) ^ (n + 1) ≤ 32 ^ 9 := by
      have : (32 : Nat) ^ (n + 1) ≤ 32 ^ 9 := Nat.pow_le_pow_right (by decide) (by omega)
      exact_mod_cast this
    have e : spellF σ r (n + 1 + 1) = 32 * spellF σ r (n + 1) + (σ r (n + 1) - 96) := rfl
    rw [e, mX12_firstLetter_L2.eq_2, if_neg (by rw [wL_id (by omega)]; omega), bnd_eq, shr5 (by omega), show (32 * spellF σ r (n + 1) + (σ r (n + 1) - 96)) / 32 = spellF σ r (n + 1) by omega]
    exact ih f (by omega) (by omega) (fun i hi => h3 i (by omega))
theorem b2n {p : Prop} (h : wI (b2 p) = 0) : ¬ p := b2_z.mp (by rw [wI_b2] at h; exact h)
theorem b2p {p : Prop} (h : ¬ wI (b2 p) = 0) : p := Classical.not_not.mp (fun z => h (by rw [wI_b2]; exact b2_z.mpr z))
theorem book_lay {σ : mSt} (hL : Lay σ) {B : Nat} (h : B = 37 ∨ B = 69) : shp B = (0, 0) ∧ σ B 1 = ((B + 1 : Nat) : Int) ∧ σ B 2 = ((B + 2 : Nat) : Int) ∧ σ B 3 = ((B + 3 : Nat) : Int) ∧ σ B 4 = ((B + 4 : Nat) : Int) ∧ σ B 5 = ((B + 5 : Nat) : Int) ∧ σ B 6 = ((B + 14 : Nat) : Int) ∧ σ B 7 = ((B + 23 : Nat) : Int) ∧ shp (B + 1) = (20, 8) ∧ shp (B + 2) = (20, 8) ∧ shp (B + 3) = (20, 8) ∧ shp (B + 4) = (20, 8) ∧ shp (B + 5) = (25, 8) ∧ shp (B + 14) = (26, 8) ∧ shp (B + 23) = (26, 8) ∧ ∀ k, k < 8 → σ (B + 5) k = ((B + 6 + k : Nat) : Int) ∧ σ (B + 14) k = ((B + 15 + k : Nat) : Int) ∧ σ (B + 23) k = ((B + 24 + k : Nat) : Int) ∧ shp (B + 6 + k) = (22, 10) ∧ shp (B + 15 + k) = (20, 4) ∧ shp (B + 24 + k) = (20, 4) := by
  have k1 : ∀ k, k < 8 → (fixR 42 k = true ∧ mS0 42 k = ((37 + 6 + k : Nat) : Int) ∧ fixR 51 k = true ∧ mS0 51 k = ((37 + 15 + k : Nat) : Int) ∧ fixR 60 k = true ∧ mS0 60 k = ((37 + 24 + k : Nat) : Int) ∧ shp (37 + 6 + k) = (22, 10) ∧ shp (37 + 15 + k) = (20, 4) ∧ shp (37 + 24 + k) = (20, 4)) ∧ (fixR 74 k = true ∧ mS0 74 k = ((69 + 6 + k : Nat) : Int) ∧ fixR 83 k = true ∧ mS0 83 k = ((69 + 15 + k : Nat) : Int) ∧ fixR 92 k = true ∧ mS0 92 k = ((69 + 24 + k : Nat) : Int) ∧ shp (69 + 6 + k) = (22, 10) ∧ shp (69 + 15 + k) = (20, 4) ∧ shp (69 + 24 + k) = (20, 4)) := by decide +kernel
  rcases h with rfl | rfl
  · refine ⟨by decide, hL.get _ _ (by decide +kernel) (by decide +kernel), hL.get _ _ (by decide +kernel) (by decide +kernel), hL.get _ _ (by decide +kernel) (by decide +kernel), hL.get _ _ (by decide +kernel) (by decide +kernel), hL.get _ _ (by decide +kernel) (by decide +kernel), hL.get _ _ (by decide +kernel) (by decide +kernel), hL.get _ _ (by decide +kernel) (by decide +kernel), by decide, by decide, by decide, by decide, by decide, by decide, by decide, fun k hk => ?_⟩
    obtain ⟨⟨a1, a2, a3, a4, a5, a6, a7⟩, -⟩ := k1 k hk
    exact ⟨hL.get _ _ a1 a2, hL.get _ _ a3 a4, hL.get _ _ a5 a6, a7⟩
  · refine ⟨by decide, hL.get _ _ (by decide +kernel) (by decide +kernel), hL.get _ _ (by decide +kernel) (by decide +kernel), hL.get _ _ (by decide +kernel) (by decide +kernel), hL.get _ _ (by decide +kernel) (by decide +kernel), hL.get _ _ (by decide +kernel) (by decide +kernel), hL.get _ _ (by decide +kernel) (by decide +kernel), hL.get _ _ (by decide +kernel) (by decide +kernel), by decide, by decide, by decide, by decide, by decide, by decide, by decide, fun k hk => ?_⟩
    obtain ⟨-, ⟨a1, a2, a3, a4, a5, a6, a7⟩⟩ := k1 k hk
    exact ⟨hL.get _ _ a1 a2, hL.get _ _ a3 a4, hL.get _ _ a5 a6, a7⟩
theorem kind_c {σ : mSt} (hL : Lay σ) {B k : Nat} (h : B = 37 ∨ B = 69) (hk : k < 8) : mX0_kind B (k : Int) σ = some (σ (B + 1) k, σ) := by
  obtain ⟨l0, l1, l2, l3, l4, l5, l6, l7, m1, m2, m3, m4, m5, m6, m7, -⟩ := book_lay hL h
  unfold mX0_kind
  refine mR_eq (mR_G (isC_of l0) (mR_ref l1 (by omega) (mR_G (ixOK_of m1 (by omega) (by omega) (by omega)) (mR_ret ⟨by rw [wI_nat (by omega)], rfl⟩))))
theorem first_c {σ : mSt} (hL : Lay σ) {B k : Nat} (h : B = 37 ∨ B = 69) (hk : k < 8) : mX0_first B (k : Int) σ = some (σ (B + 2) k, σ) := by
  obtain ⟨l0, l1, l2, l3, l4, l5, l6, l7, m1, m2, m3, m4, m5, m6, m7, -⟩ := book_lay hL h
  unfold mX0_first
  refine mR_eq (mR_G (isC_of l0) (mR_ref l2 (by omega) (mR_G (ixOK_of m2 (by omega) (by omega) (by omega)) (mR_ret ⟨by rw [wI_nat (by omega)], rfl⟩))))
theorem second_c {σ : mSt} (hL : Lay σ) {B k : Nat} (h : B = 37 ∨ B = 69) (hk : k < 8) : mX0_second B (k : Int) σ = some (σ (B + 3) k, σ) := by
  obtain ⟨l0, l1, l2, l3, l4, l5, l6, l7, m1, m2, m3, m4, m5, m6, m7, -⟩ := book_lay hL h
  unfold mX0_second
  refine mR_eq (mR_G (isC_of l0) (mR_ref l3 (by omega) (mR_G (ixOK_of m3 (by omega) (by omega) (by omega)) (mR_ret ⟨by rw [wI_nat (by omega)], rfl⟩))))
theorem letter_c {σ : mSt} (hL : Lay σ) {B k : Nat} (h : B = 37 ∨ B = 69) (hk : k < 8) : mX0_letter B (k : Int) σ = some (σ (B + 6 + k) 0 - 97, σ) := by
  obtain ⟨l0, l1, l2, l3, l4, l5, l6, l7, m1, m2, m3, m4, m5, m6, m7, mk⟩ := book_lay hL h
  obtain ⟨k1, k2, k3, k4, k5, k6⟩ := mk k hk
  unfold mX0_letter
  refine mR_eq (mR_G (isC_of l0) (mR_ref l5 (by omega) (mR_G (ixOK_of m5 (by omega) (by omega) (by omega)) ?_)))
  rw [wI_nat (by omega)]
  exact mR_ref k1 (by omega) (mR_G (ixOK_of k4 (by omega) (by omega) (by omega)) (mR_ret ⟨rfl, rfl⟩))
theorem mThrow_ne {x : Int} (h : i32 x) : x ≠ mThrow := by unfold i32 at h; unfold mThrow; omega
theorem frm275 {s s1 : mSt} (h : frm (fun i _ => i = 275) s s1) (i : Nat) (hi : i ≠ 275) : s1 i = s i := funext fun k => h i k hi
theorem iAlg.rng {σ : mSt} {B o k : Nat} (h : iAlg σ B o k) (hk : k < 8) : 0 ≤ σ 257 (o + k) ∧ σ 257 (o + k) ≤ 2 ∧ -999 ≤ σ 258 (o + k) ∧ σ 258 (o + k) ≤ 999 ∧ -999 ≤ σ 259 (o + k) ∧ σ 259 (o + k) ≤ 999 := by
  have := h.2.2.2.2
  omega
theorem pr_algebra (σ : mSt) (h : Inv σ) (a1 : Int) (h1 : i32 a1) (a2 : Int) (h2 : i32 a2) : ∃ b s, mX11_algebra 0 a1 a2 σ = some (b, s) ∧ Inv s ∧ ((b = mThrow ∧ ∃ b2 s2, mX12_algebra 253 a1 a2 s = some (b2, s2) ∧ s2 253 0 = 1 ∧ Inv s2) ∨ (b ≠ mThrow ∧ ∀ s1, Inv s1 → frm (fun i _ => i = 275) s s1 → ∃ b2 s2, mX12_algebra 253 a1 a2 s1 = some (b2, s2) ∧ s2 253 0 = 0 ∧ s2 275 0 = s1 275 0 ∧ wI b = wI b2 ∧ Inv s2)) := by
  have hI := h
  obtain ⟨hL, hb, t, B, n, s, hT, hB, hP, hE, hO⟩ := h
  have hB2 := hB
  obtain ⟨q1, q2, q3, q4, q5, q6, q7⟩ := hB
  by_cases hv : (0 ≤ a1 ∧ a1 < (n : Int)) ∧ 0 ≤ a2 ∧ a2 ≤ 3
  · obtain ⟨k, rfl⟩ : ∃ k : Nat, a1 = (k : Int) := ⟨a1.toNat, by omega⟩
    have hA := q7 k (by omega)
    have hR := hA.rng (by omega)
    obtain ⟨g1, g2, g3, ⟨m, w1, w2, w3, w4, w5⟩, g5⟩ := hA
    rw [Nat.zero_add] at g1 g2 g3 w5 hR
    have hw := w4 0 (by omega)
    have c : mX11_algebra 0 (k : Int) a2 σ = some ((if a2 = 0 then σ 257 k else if a2 = 1 then σ 258 k else if a2 = 2 then σ 259 k else σ (B + 6 + k) 0 - 97), σ) := by
      unfold mX11_algebra
      refine mR_eq (mR_G (by decide) (mR_callE (told_c hB2 h1) (mR_neg (by rw [wI_b2, b2_t hv.1]; decide) ?_)))
      rw [wI_id h2]
      refine mR_neg (by omega) (mR_pos (by omega) (mR_if (fun z => ?_) (fun z => mR_if (fun z2 => ?_) (fun z2 => mR_if (fun z3 => ?_) (fun z3 => ?_)))))
      · exact mR_ref q3 (by omega) (mR_callE (kind_c hL q1 (by omega)) (mR_ret ⟨by rw [if_pos z, g1, wI_id (by omega)], rfl⟩))
      · exact mR_ref q3 (by omega) (mR_callE (first_c hL q1 (by omega)) (mR_ret ⟨by rw [if_neg z, if_pos z2, g2, wI_id (by omega)], rfl⟩))
      · exact mR_ref q3 (by omega) (mR_callE (second_c hL q1 (by omega)) (mR_ret ⟨by rw [if_neg z, if_neg z2, if_pos z3, g3, wI_id (by omega)], rfl⟩))
      · exact mR_ref q3 (by omega) (mR_callE (letter_c hL q1 (by omega)) (mR_ret ⟨by rw [if_neg z, if_neg z2, if_neg z3, wI_id (by omega)], rfl⟩))
    refine ⟨_, _, c, hI, Or.inr ⟨mThrow_ne (by unfold i32; split; omega; split; omega; split <;> omega), fun s1 hs1 hf => ?_⟩⟩
    have o := frm275 hf
    have hL1 := hs1.1
    refine ⟨(if a2 = 0 then σ 257 k else if a2 = 1 then σ 258 k else if a2 = 2 then σ 259 k else σ (B + 6 + k) 0 - 97), upS s1 253 0 0, ?_, upS_same _ _ _ _, by rw [upS_ne (by omega)], rfl, hs1.scr scr_t⟩
    have hB1 : iBook s1 B n := ⟨q1, q2, by rw [o 0 (by omega)]; exact q3, by rw [o 0 (by omega)]; exact q4, by rw [o B (by omega)]; exact q5, by rw [o 255 (by omega)]; exact q6, fun j hj => iAlg_congr (fun i _ _ => o i (by omega)) (fun i _ _ => o i (by omega)) (by omega) (q7 j hj)⟩
    unfold mX12_algebra
    refine mR_eq (mR_G (by decide) (mR_callE (told_r hL1 hB1 h1) (mR_neg (by rw [wI_b2, b2_t hv.1]; decide) ?_)))
    rw [wI_id h2]
    refine mR_callE (within_e a2 0 3 s1 (by unfold i32 at h2; omega) (by omega) (by omega)) (mR_neg (by rw [wI_b2, b2_t hv.2]; decide) ?_)
    unfold mX12_algebra_B26
    rw [wI_id h2]
    refine mR_G (by decide) (mR_bnd (mR_neg (by rw [upS_same]; decide) ?_))
    have lay : ∀ j v, fixR 253 j = true → mS0 253 j = v → 1 ≤ j → upS s1 253 0 0 253 j = v := fun j v f m hj => by rw [upS_ne (by omega)]; exact hL1.get 253 j f m
    refine mR_if (fun z => ?_) (fun z => mR_if (fun z2 => ?_) (fun z2 => mR_if (fun z3 => ?_) (fun z3 => ?_)))
    · refine mR_ref (r := 257) (lay 14 257 (by decide +kernel) (by decide +kernel) (by omega)) (by omega) (mR_G (ixOK_of (n := 16) (by decide) (by omega) (by omega) (by omega)) (mR_ret ⟨?_, rfl⟩))
      rw [if_pos z, wI_nat (by omega), upS_ne (by omega), o 257 (by omega)]
    · refine mR_ref (r := 258) (lay 15 258 (by decide +kernel) (by decide +kernel) (by omega)) (by omega) (mR_G (ixOK_of (n := 16) (by decide) (by omega) (by omega) (by omega)) (mR_ret ⟨?_, rfl⟩))
      rw [if_neg z, if_pos z2, wI_nat (by omega), upS_ne (by omega), o 258 (by omega)]
    · refine mR_ref (r := 259) (lay 16 259 (by decide +kernel) (by decide +kernel) (by omega)) (by omega) (mR_G (ixOK_of (n := 16) (by decide) (by omega) (by omega) (by omega)) (mR_ret ⟨?_, rfl⟩))
      rw [if_neg z, if_neg z2, if_pos z3, wI_nat (by omega), upS_ne (by omega), o 259 (by omega)]
    · refine mR_ref (r := 256) (lay 13 256 (by decide +kernel) (by decide +kernel) (by omega)) (by omega) (mR_G (ixOK_of (n := 16) (by decide) (by omega) (by omega) (by omega)) ?_)
      rw [wI_nat (by omega), upS_ne (by omega), o 256 (by omega), w5]
      obtain ⟨m, rfl⟩ : ∃ q, m = q + 1 := ⟨m - 1, by omega⟩
      unfold mX12_firstLetter
      exact mR_callE (firstL_e m mF (by omega) (by unfold mF; omega) w4) (mR_ret ⟨by rw [if_neg z, if_neg z2, if_neg z3], rfl⟩)
  · have c : mX11_algebra 0 a1 a2 σ = some (mThrow, σ) := by
      unfold mX11_algebra mX11_algebra_B17
      refine mR_eq (mR_G (by decide) (mR_callE (told_c hB2 h1) (mR_if (fun z => mR_ret ⟨rfl, rfl⟩) (fun z => ?_))))
      rw [wI_id h2]
      have := b2p z
      exact mR_if (fun z => mR_ret ⟨rfl, rfl⟩) (fun z2 => mR_neg (by omega) (mR_ret ⟨rfl, rfl⟩))
    refine ⟨_, _, c, hI, Or.inl ⟨rfl, 0, upS σ 253 0 1, ?_, upS_same _ _ _ _, hI.scr scr_t⟩⟩
    have e : mX12_algebra_B25 253 a1 a2 253 σ = some (0, upS σ 253 0 1) := by
      unfold mX12_algebra_B25 mX12_algebra_B26
      exact mR_eq (mR_G (by decide) (mR_bnd (mR_pos (by rw [upS_same]; decide) (mR_ret ⟨rfl, rfl⟩))))
    unfold mX12_algebra
    refine mR_eq (mR_G (by decide) (mR_callE (told_r hL hB2 h1) (mR_if (fun z => mR_of e ⟨rfl, rfl⟩) (fun z => ?_))))
    rw [wI_id h2]
    have := b2p z
    exact mR_callE (within_e a2 0 3 σ (by unfold i32 at h2; omega) (by omega) (by omega)) (mR_pos (by rw [wI_b2, b2_f (by omega)]) (mR_of e ⟨rfl, rfl⟩))

/-! what an ideal may be refused for: class, reference -/
def dull (i j : Nat) : Prop := i = 164 ∨ i = 272 ∨ i = 273 ∨ (i = 253 ∧ j = 0)
theorem dull_scr {i j : Nat} (h : dull i j) : scr i j := by
  rcases h with rfl | rfl | rfl | ⟨rfl, rfl⟩
  · exact scr164 (σ := mS0) (v := 0)
  · exact scrD _ _ (by omega)
  · exact scrD _ _ (by omega)
  · exact scr_s (by unfold sSlot; omega) (by decide +kernel)
theorem dull_inv {σ ρ : mSt} (h : Inv σ) (hf : frm dull σ ρ) : Inv ρ := h.scr (hf.mono (fun i j z => dull_scr z))
theorem dull_o {σ ρ : mSt} (hf : frm dull σ ρ) {i : Nat} (h : i ≠ 164 ∧ i ≠ 272 ∧ i ≠ 273 ∧ i ≠ 253) : ρ i = σ i := funext fun j => hf i j (by unfold dull; omega)
noncomputable def inP (σ : mSt) (k : Nat) : Prop := latS (σ 270 (σ 262 k).toNat) (rowL σ (σ 262 k).toNat) (elV σ k) (σ 263 (5 * k + 4))
def smP (σ : mSt) (k : Nat) : Prop := (∀ i, i < 4 → -100 ≤ vg i (elV σ k) ∧ vg i (elV σ k) ≤ 100) ∧ σ 263 (5 * k + 4) ≤ 100
def idP (σ : mSt) (a1 a2 : Int) : Prop := kp σ a1 ∧ (a2 = -1 ∨ (kp σ a2 ∧ σ 262 a1.toNat = σ 262 a2.toNat))
def foP (σ : mSt) (k : Nat) : Prop := vN (σ 258 (σ 262 k).toNat) (σ 259 (σ 262 k).toNat) (elV σ k) ≠ 0
theorem kp_dull {σ ρ : mSt} (hf : frm dull σ ρ) {k : Nat} (hk : k < 8) (h : σ (165 + 2 * k) 2 ≠ -1) : ρ (165 + 2 * k) 2 ≠ -1 := by
  rw [dull_o hf (by omega)]; exact h
theorem inC {σ ρ : mSt} (h : Inv σ) (hf : frm dull σ ρ) {k : Nat} (hk : k < 8) (hkk : σ (165 + 2 * k) 2 ≠ -1) : ∃ ρ', mX11_isInOrder 0 (k : Int) ρ = some (b2 (inP σ k), ρ') ∧ frm dull σ ρ' := by
  obtain ⟨hL, hb, t, B, n, s0, hT, hB, hP, hE, hO⟩ := dull_inv h hf
  obtain ⟨al, f1, f2, f3, f4, f5, f6, r0, r1, r2, r3, r4, r5⟩ := elF hL hE hB.2.1 hk (kp_dull hf hk hkk)
  obtain ⟨y, ey⟩ := inOrd_c hL hB hE hO hk (kp_dull hf hk hkk) f3.2.2.2.1
  have e : (σ 262 k).toNat = al := by
    rw [← dull_o hf (i := 262) (by omega), f3.2.2.2.1]
    exact Int.toNat_natCast _
  refine ⟨stV ρ 164 y, ?_, hf.stV (fun j => Or.inl rfl)⟩
  rw [ey]
  have ev : elV ρ k = elV σ k := by unfold elV; rw [dull_o hf (i := 263) (by omega)]
  rw [dull_o hf (i := 270) (by omega), rowL_congr (dull_o hf (i := 269) (by omega)), ev, dull_o hf (i := 263) (by omega)]
  unfold inP
  rw [e]
theorem inR {σ ρ : mSt} (h : Inv σ) (hf : frm dull σ ρ) {k : Nat} (hk : k < 8) (hkk : σ (165 + 2 * k) 2 ≠ -1) : ∃ ρ', mX12_isInOrder 253 (k : Int) ρ = some (b2 (inP σ k), ρ') ∧ frm dull σ ρ' := by
  obtain ⟨hL, hb, t, B, n, s0, hT, hB, hP, hE, hO⟩ := dull_inv h hf
  have hn := hB.2.1
  obtain ⟨al, f1, f2, f3, f4, f5, f6, r0, r1, r2, r3, r4, r5⟩ := elF hL hE hn hk (kp_dull hf hk hkk)
  obtain ⟨-, ⟨na, ra1, ra2, -⟩, nb, rb1, rb2, -⟩ := quatF hB f1 f2
  obtain ⟨v', y, ey⟩ := inOrd_r (τ := ρ) (al := al) hL hk (by omega) f3.2.2.2.1 ⟨na, ra1, ra2⟩ ⟨nb, rb1, rb2⟩ (hO.1 al f1 f2).2.2.2.2.2 (elR r0 r1 r2 r3) r4 r5
  have e : (σ 262 k).toNat = al := by
    rw [← dull_o hf (i := 262) (by omega), f3.2.2.2.1]
    exact Int.toNat_natCast _
  refine ⟨stV (stV ρ 272 v') 273 y, ?_, (hf.stV (fun j => Or.inr (Or.inl rfl))).stV (fun j => Or.inr (Or.inr (Or.inl rfl)))⟩
  rw [ey]
  have ev : elV ρ k = elV σ k := by unfold elV; rw [dull_o hf (i := 263) (by omega)]
  rw [dull_o hf (i := 270) (by omega), rowL_congr (dull_o hf (i := 269) (by omega)), ev, dull_o hf (i := 263) (by omega)]
  unfold inP
  rw [e]
theorem wiL18 {σ : mSt} {k : Nat} {u : V4} {x : Int → mSt → Option (Int × mSt)} (l2 : σ (165 + 2 * k) 0 = ((166 + 2 * k : Nat) : Int)) (l4 : shp (166 + 2 * k) = (21, 4)) (hu : rowV σ (166 + 2 * k) = u) (ur : ∀ i, i < 4 → -1000000 ≤ vg i u ∧ vg i u ≤ 1000000) : ∀ (m i n : Nat), i + m = 4 → m + 1 < n → mX1_isWithin_L18 (165 + 2 * k) 100 x n 1 (i : Int) σ = x (b2 (∀ j, i ≤ j → j < 4 → -100 ≤ vg j u ∧ vg j u ≤ 100)) σ := by
  intro m
  induction m with
  | zero =>
    intro i n h1 h2
    obtain ⟨n, rfl⟩ : ∃ z, n = z + 1 := ⟨n - 1, by omega⟩
    obtain rfl : i = 4 := by omega
    rw [mX1_isWithin_L18.eq_2, if_pos (by decide), b2_t (fun j g1 g2 => by omega)]
  | succ m ih =>
    intro i n h1 h2
    obtain ⟨n, rfl⟩ : ∃ z, n = z + 1 := ⟨n - 1, by omega⟩
    have hi : i < 4 := by omega
    have yr := ur i hi
    rw [mX1_isWithin_L18.eq_2, if_neg (by rw [wI_id (x := (i : Int)) (by omega)]; omega), if_neg (by decide), gr' l2 (by omega), gx l4 _ (by omega), wI_nat (k := i) (by omega), show σ (166 + 2 * k) i = vg i u by rw [← hu, vg_rowV _ _ hi], abs_e _ _ (by omega), mCall_some, wL_id (x := ((vg i u).natAbs : Int)) (by omega), bnd_eq, bnd_eq, show (i : Int) + 1 = ((i + 1 : Nat) : Int) by omega]
    by_cases h : -100 ≤ vg i u ∧ vg i u ≤ 100
    · rw [if_neg (by rw [show wL (wI 100) = 100 by decide]; omega), ih (i + 1) n (by omega) (by omega)]
      congr 1
      refine b2_iff ⟨fun z j g1 g2 => ?_, fun z j g1 g2 => z j (by omega) g2⟩
      by_cases e : j = i
      · rw [e]; exact h
      · exact z j (by omega) g2
    · rw [if_pos (by rw [show wL (wI 100) = 100 by decide]; omega), b2_f (fun z => h (z i (by omega) hi))]
      obtain ⟨n, rfl⟩ : ∃ z, n = z + 1 := ⟨n - 1, by omega⟩
      rw [mX1_isWithin_L18.eq_2]
      by_cases e : 4 ≤ wI ((i + 1 : Nat) : Int)
      · rw [if_pos e]
      · rw [if_neg e, if_pos (by decide)]
theorem smC {σ ρ : mSt} (h : Inv σ) (hf : frm dull σ ρ) {k : Nat} (hk : k < 8) (hkk : σ (165 + 2 * k) 2 ≠ -1) : mX1_isWithin (165 + 2 * k) 100 ρ = some (b2 (smP σ k), ρ) := by
  obtain ⟨hL, hb, t, B, n, s0, hT, hB, hP, hE, hO⟩ := dull_inv h hf
  obtain ⟨al, f1, f2, f3, f4, f5, f6, r0, r1, r2, r3, r4, r5⟩ := elF hL hE hB.2.1 hk (kp_dull hf hk hkk)
  have ev : elV ρ k = elV σ k := by unfold elV; rw [dull_o hf (i := 263) (by omega)]
  have e3 : ρ 263 = σ 263 := dull_o hf (by omega)
  have er := elR r0 r1 r2 r3
  rw [ev] at er f6
  rw [e3] at r4 r5
  have d1 : ρ (165 + 2 * k) 1 = σ 263 (5 * k + 4) := by rw [f3.2.2.2.2, e3]
  have l18 := wiL18 (x := fun z2 zσ => mX1_isWithin_B54 (165 + 2 * k) 100 z2 zσ) f3.2.1 f5 f6 er 4 0 mF (by omega) (by unfold mF; omega)
  unfold mX1_isWithin
  rw [gc f4, d1, wL_id (x := σ 263 (5 * k + 4)) (by omega), show wL (wI 100) = 100 by decide]
  by_cases hd : σ 263 (5 * k + 4) ≤ 100
  · rw [if_neg (by omega)]
    unfold mX1_isWithin_B15
    refine l18.trans ?_
    unfold mX1_isWithin_B54
    rw [mG_pos (b2_01 _), b2_iff (q := smP σ k) ⟨fun z => ⟨fun i hi => z i (by omega) hi, hd⟩, fun z j _ g2 => z.1 j g2⟩]
  · rw [if_pos (by omega), b2_f (fun z => hd z.2)]
    unfold mX1_isWithin_B15
    obtain ⟨f, hf⟩ := mF5
    rw [hf, mX1_isWithin_L18.eq_2, if_neg (by decide), if_pos (by decide)]
    rfl
theorem ssL2 {τ : mSt} {k : Nat} (l23 : τ 253 23 = ((263 : Nat) : Int)) (hk : k < 8) (ur : ∀ i, i < 5 → -1000000 ≤ τ 263 (5 * k + i) ∧ τ 263 (5 * k + i) ≤ 1000000) : ∀ (m i n : Nat), i + m = 5 → m < n → mX12_isSmall_L2 253 (k : Int) (fun zσ => mX12_isSmall_B33 253 (k : Int) zσ) n (i : Int) τ = some (b2 (∀ j, i ≤ j → j < 5 → -100 ≤ τ 263 (5 * k + j) ∧ τ 263 (5 * k + j) ≤ 100), τ) := by
  intro m
  induction m with
  | zero =>
    intro i n h1 h2
    obtain ⟨n, rfl⟩ : ∃ z, n = z + 1 := ⟨n - 1, by omega⟩
    obtain rfl : i = 5 := by omega
    rw [mX12_isSmall_L2.eq_2, if_pos (by decide), b2_t (fun j g1 g2 => by omega)]
    rfl
  | succ m ih =>
    intro i n h1 h2
    obtain ⟨n, rfl⟩ : ∃ z, n = z + 1 := ⟨n - 1, by omega⟩
    have hi : i < 5 := by omega
    have yr := ur i hi
    have pe := part_e (τ := τ) (k := k) (i := (i : Int)) l23 ⟨hk, by omega, by omega⟩
    rw [Int.toNat_natCast] at pe
    rw [mX12_isSmall_L2.eq_2, if_neg (by rw [wI_id (x := (i : Int)) (by omega)]; omega), pe, mCall_some, within_e _ _ _ _ (by omega) (by omega) (by omega), mCall_some, bnd_eq, show (i : Int) + 1 = ((i + 1 : Nat) : Int) by omega]
    by_cases h : -100 ≤ τ 263 (5 * k + i) ∧ τ 263 (5 * k + i) ≤ 100
    · rw [if_neg (by rw [b2_t h]; decide), ih (i + 1) n (by omega) (by omega)]
      congr 2
      refine b2_iff ⟨fun z j g1 g2 => ?_, fun z j g1 g2 => z j (by omega) g2⟩
      by_cases e : j = i
      · rw [e]; exact h
      · exact z j (by omega) g2
    · rw [if_pos (by rw [b2_f h]; decide), b2_f (fun z => h (z i (by omega) hi))]
theorem smR {σ ρ : mSt} (h : Inv σ) (hf : frm dull σ ρ) {k : Nat} (hk : k < 8) (hkk : σ (165 + 2 * k) 2 ≠ -1) : mX12_isSmall 253 (k : Int) ρ = some (b2 (smP σ k), ρ) := by
  obtain ⟨hL, hb, t, B, n, s0, hT, hB, hP, hE, hO⟩ := dull_inv h hf
  obtain ⟨al, f1, f2, f3, f4, f5, f6, r0, r1, r2, r3, r4, r5⟩ := elF hL hE hB.2.1 hk (kp_dull hf hk hkk)
  have e3 : ρ 263 = σ 263 := dull_o hf (by omega)
  have ev : elV ρ k = elV σ k := by unfold elV; rw [e3]
  have er := elR r0 r1 r2 r3
  have q : ∀ i, i < 4 → ρ 263 (5 * k + i) = vg i (elV σ k) := fun i hi => by
    rw [← ev]
    exact lt4 (p := fun i => ρ 263 (5 * k + i) = vg i (elV ρ k)) rfl rfl rfl rfl hi
  have l2 := ssL2 (τ := ρ) (k := k) (lay253 hL).2.2.2.2.2.2.2.2.2.1 hk (fun i hi => by
    by_cases e : i = 4
    · rw [e]; omega
    · rw [q i (by omega), ← ev]; exact er i (by omega)) 5 0 mF (by omega) (by unfold mF; omega)
  unfold mX12_isSmall
  rw [gc253]
  refine l2.trans ?_
  congr 2
  refine b2_iff ⟨fun z => ⟨fun i hi => by rw [← q i hi]; exact z i (by omega) (by omega), by rw [← e3]; exact (z 4 (by omega) (by omega)).2⟩, fun z j _ g2 => ?_⟩
  by_cases e : j = 4
  · rw [e]
    have := z.2
    rw [← e3] at this
    omega
  · rw [q j (by omega)]
    exact z.1 j (by omega)
theorem foC {σ ρ : mSt} (h : Inv σ) (hf : frm dull σ ρ) {k : Nat} (hk : k < 8) (hkk : σ (165 + 2 * k) 2 ≠ -1) : ∃ v, (v ≠ 0 ↔ foP σ k) ∧ (-9223372036854775808 ≤ v ∧ v < 9223372036854775808) ∧ mX11_formOf 0 (165 + 2 * k) ρ = some (v, ρ) ∧ mX12_normAbove 253 (k : Int) ρ = some (v, ρ) := by
  obtain ⟨hL, hb, t, B, n, s0, hT, hB, hP, hE, hO⟩ := dull_inv h hf
  have hn := hB.2.1
  obtain ⟨al, f1, f2, f3, f4, f5, f6, r0, r1, r2, r3, r4, r5⟩ := elF hL hE hn hk (kp_dull hf hk hkk)
  obtain ⟨-, ⟨na, ra1, ra2, -⟩, nb, rb1, rb2, -⟩ := quatF hB f1 f2
  have e : (σ 262 k).toNat = al := by
    rw [← dull_o hf (i := 262) (by omega), f3.2.2.2.1]
    exact Int.toNat_natCast _
  have ev : elV ρ k = elV σ k := by unfold elV; rw [dull_o hf (i := 263) (by omega)]
  have ly := lay253 hL
  have er := elR r0 r1 r2 r3
  have pr := pr_rng (M := 1000000) (x := elV ρ k) (y := elV ρ k) ⟨ra1, ra2⟩ ⟨rb1, rb2⟩ (by omega) er er
  have vn : vN (ρ 258 al) (ρ 259 al) (elV ρ k) = (elV ρ k).1 * (elV ρ k).1 - ρ 258 al * (elV ρ k).2.1 * (elV ρ k).2.1 - ρ 259 al * (elV ρ k).2.2.1 * (elV ρ k).2.2.1 + ρ 258 al * ρ 259 al * (elV ρ k).2.2.2 * (elV ρ k).2.2.2 := rfl
  rw [← vn] at pr
  refine ⟨vN (ρ 258 al) (ρ 259 al) (elV ρ k), ?_, by omega, formOf_e hL hB f1 f2 f4 f5 f3.2.2.1 f3.2.1 f6, normAbove_e hk (by omega) ly.2.2.2.2.1 ly.2.2.2.2.2.1 ly.2.2.2.2.2.2.2.2.1 ly.2.2.2.2.2.2.2.2.2.1 f3.2.2.2.1 ⟨ra1, ra2⟩ ⟨rb1, rb2⟩⟩
  unfold foP
  rw [e, ev, dull_o hf (i := 258) (by omega), dull_o hf (i := 259) (by omega)]
def fvP (σ : mSt) (a1 a2 v : Int) : Prop := (v = -1 ∧ ¬ idP σ a1 a2) ∨ (v = -2 ∧ idP σ a1 a2 ∧ ¬ (inP σ a1.toNat ∧ (a2 ≠ -1 → inP σ a2.toNat))) ∨ (v = -3 ∧ idP σ a1 a2 ∧ (inP σ a1.toNat ∧ (a2 ≠ -1 → inP σ a2.toNat)) ∧ ¬ ((smP σ a1.toNat ∧ (a2 ≠ -1 → smP σ a2.toNat)) ∧ foP σ a1.toNat)) ∨ (v = 0 ∧ idP σ a1 a2 ∧ (inP σ a1.toNat ∧ (a2 ≠ -1 → inP σ a2.toNat)) ∧ (smP σ a1.toNat ∧ (a2 ≠ -1 → smP σ a2.toNat)) ∧ foP σ a1.toNat)
theorem fvP_eq {σ : mSt} {a1 a2 v w : Int} (h1 : fvP σ a1 a2 v) (h2 : fvP σ a1 a2 w) : v = w := by
  rcases h1 with ⟨e1, p1⟩ | ⟨e1, p1, p2⟩ | ⟨e1, p1, p2, p3⟩ | ⟨e1, p1, p2, p3⟩ <;> rcases h2 with ⟨e2, q1⟩ | ⟨e2, q1, q2⟩ | ⟨e2, q1, q2, q3⟩ | ⟨e2, q1, q2, q3⟩ <;> first | (rw [e1, e2]; done) | (exact absurd q1 p1) | (exact absurd p1 q1) | (exact absurd q2 p2) | (exact absurd p2 q2) | (exact absurd q3 p3) | (exact absurd p3 q3)
theorem faultC {σ : mSt} (h : Inv σ) {a1 a2 : Int} (h1 : i32 a1) (h2 : i32 a2) : ∃ v σ', mX11_idealFault 0 a1 a2 σ = some (v, σ') ∧ frm dull σ σ' ∧ fvP σ a1 a2 v := by
  have hI := h
  obtain ⟨hL, hb, t, B, n, s0, hT, hB, hP, hE, hO⟩ := h
  have hn := hB.2.1
  have ip : mX11_isIdealPair 0 a1 a2 σ = some (b2 (idP σ a1 a2), σ) := by
    unfold mX11_isIdealPair
    rw [gc0, wI_id h2]
    by_cases z : a2 = -1
    · rw [if_pos z, kept_c hL (hE.own hn) h1, mCall_some, mG_pos (b2_01 _), b2_iff (p := 0 ≤ a1 ∧ a1 < 8 ∧ σ (165 + 2 * a1.toNat) 2 ≠ -1) (q := idP σ a1 a2) ⟨fun y => ⟨y, Or.inl z⟩, fun y => y.1⟩]
    · rw [if_neg z, pair_c hL hE hn h1 h2, mCall_some, mG_pos (b2_01 _), b2_iff (p := pr2 σ a1 a2) (q := idP σ a1 a2) ⟨fun y => ⟨y.1, Or.inr y.2⟩, fun y => ⟨y.1, (y.2.resolve_left z).1, (y.2.resolve_left z).2⟩⟩]
  by_cases hp : idP σ a1 a2
  · obtain ⟨k, rfl, hk, hkk⟩ := kp_nat hp.1
    rw [b2_t hp] at ip
    obtain ⟨σ1, c1, c2⟩ := inC hI (frm.rf σ) hk hkk
    have tn : ((k : Int)).toNat = k := Int.toNat_natCast k
    -- the last questions
    have B35 : ∀ ρ, frm dull σ ρ → (inP σ k ∧ (a2 ≠ -1 → inP σ a2.toNat)) → ∃ v, mX11_idealFault_B35 0 (k : Int) a2 ρ = some (v, ρ) ∧ fvP σ (k : Int) a2 v := fun ρ hf hin => by
      have hin' : inP σ ((k : Int)).toNat ∧ (a2 ≠ -1 → inP σ a2.toNat) := by rw [tn]; exact hin
      have Lρ := (dull_inv hI hf).1
      have l0 := lay0 Lρ
      obtain ⟨l1, l2, l3, l4⟩ := el_lay Lρ k hk
      obtain ⟨v, v1, v2, v3, -⟩ := foC hI hf hk hkk
      have b97 : ∀ (q : ¬ ((smP σ k ∧ (a2 ≠ -1 → smP σ a2.toNat)) ∧ foP σ k)), fvP σ (k : Int) a2 (-3) := fun q => Or.inr (Or.inr (Or.inl ⟨rfl, hp, hin', by rw [tn]; exact q⟩))
      have B68 : (smP σ k ∧ (a2 ≠ -1 → smP σ a2.toNat)) → ∃ v, mX11_idealFault_B68 0 (k : Int) a2 ρ = some (v, ρ) ∧ fvP σ (k : Int) a2 v := fun q => by
        unfold mX11_idealFault_B68 mX11_idealFault_B73
        rw [if_neg (by decide), gr' l0.2.2.2.1 (by omega), gx112 _ (by omega), wI_nat (k := k) (by omega), gr' l1 (by omega), v3, mCall_some, wL_id (x := v) v2]
        by_cases z : v = 0
        · rw [if_pos z]
          exact ⟨-3, rfl, b97 (fun y => v1.mpr y.2 z)⟩
        · rw [if_neg z]
          exact ⟨0, rfl, Or.inr (Or.inr (Or.inr ⟨rfl, hp, hin', by rw [tn]; exact q, by rw [tn]; exact v1.mp z⟩))⟩
      have B72 : (¬ (smP σ k ∧ (a2 ≠ -1 → smP σ a2.toNat))) → ∃ v, mX11_idealFault_B72 0 (k : Int) a2 ρ = some (v, ρ) ∧ fvP σ (k : Int) a2 v := fun q => by
        unfold mX11_idealFault_B72 mX11_idealFault_B73
        rw [if_pos (by decide)]
        exact ⟨-3, rfl, b97 (fun y => q y.1)⟩
      unfold mX11_idealFault_B35
      rw [gr' l0.2.2.2.1 (by omega), gx112 _ (by omega), wI_nat (k := k) (by omega), gr' l1 (by omega), smC hI hf hk hkk, mCall_some]
      by_cases s1 : smP σ k
      · rw [b2_t s1, if_neg (by decide)]
        by_cases z : a2 = -1
        · rw [if_pos (by rw [wI_id h2]; exact z)]
          exact B68 ⟨s1, fun y => absurd z y⟩
        · rw [if_neg (by rw [wI_id h2]; exact z)]
          obtain ⟨k2, e2, hk2, hkk2⟩ := kp_nat (hp.2.resolve_left z).1
          subst e2
          obtain ⟨m1, m2, m3, m4⟩ := el_lay Lρ k2 hk2
          rw [gr' l0.2.2.2.1 (by omega), gx112 _ (by omega), wI_nat (k := k2) (by omega), gr' m1 (by omega), smC hI hf hk2 hkk2, mCall_some]
          by_cases s2 : smP σ k2
          · rw [b2_t s2, if_neg (by decide)]
            exact B68 ⟨s1, fun _ => by rw [Int.toNat_natCast]; exact s2⟩
          · rw [b2_f s2, if_pos (by decide)]
            exact B72 (fun y => s2 (by have := y.2 z; rwa [Int.toNat_natCast] at this))
      · rw [b2_f s1, if_pos (by decide)]
        exact B72 (fun y => s1 y.1)
    have head : ∀ o, (if wI (b2 (inP σ k)) = 0 then (some ((-2 : Int), σ1)) else if wI a2 = (-1) then (mX11_idealFault_B35 0 (k : Int) a2 σ1) else mCall (mX11_isInOrder 0 a2 σ1) fun b39 s40 => if wI b39 = 0 then (some ((-2), s40)) else mX11_idealFault_B35 0 (k : Int) a2 s40) = o → mX11_idealFault 0 (k : Int) a2 σ = o := fun o z => by
      unfold mX11_idealFault
      rw [gc0, ip, mCall_some, if_neg (by decide), c1, mCall_some]
      exact z
    by_cases i1 : inP σ k
    · by_cases z : a2 = -1
      · obtain ⟨v, w1, w2⟩ := B35 σ1 c2 ⟨i1, fun y => absurd z y⟩
        refine ⟨v, σ1, head _ ?_, c2, w2⟩
        rw [b2_t i1, if_neg (by decide), wI_id h2, if_pos z, w1]
      · obtain ⟨k2, e2, hk2, hkk2⟩ := kp_nat (hp.2.resolve_left z).1
        subst e2
        obtain ⟨σ2, d1, d2⟩ := inC hI c2 hk2 hkk2
        by_cases i2 : inP σ k2
        · obtain ⟨v, w1, w2⟩ := B35 σ2 d2 ⟨i1, fun _ => by rw [Int.toNat_natCast]; exact i2⟩
          refine ⟨v, σ2, head _ ?_, d2, w2⟩
          rw [b2_t i1, if_neg (by decide), wI_id h2, if_neg z, d1, mCall_some, b2_t i2, if_neg (by decide), w1]
        · refine ⟨-2, σ2, head _ ?_, d2, Or.inr (Or.inl ⟨rfl, hp, fun y => i2 (by have := y.2 z; rwa [Int.toNat_natCast] at this)⟩)⟩
          rw [b2_t i1, if_neg (by decide), wI_id h2, if_neg z, d1, mCall_some, b2_f i2, if_pos (by decide)]
    · refine ⟨-2, σ1, head _ ?_, c2, Or.inr (Or.inl ⟨rfl, hp, fun y => i1 (by have := y.1; rwa [tn] at this)⟩)⟩
      rw [b2_f i1, if_pos (by decide)]
  · rw [b2_f hp] at ip
    refine ⟨-1, σ, ?_, frm.rf σ, Or.inl ⟨rfl, hp⟩⟩
    unfold mX11_idealFault
    rw [gc0, ip, mCall_some, if_pos (by decide)]
theorem faultR {σ τ : mSt} (h : Inv σ) (hf0 : frm dull σ τ) {a1 a2 : Int} (h1 : i32 a1) (h2 : i32 a2) : ∃ v τ', mX12_refusal 253 a1 a2 τ = some (v, τ') ∧ frm dull σ τ' ∧ fvP σ a1 a2 v := by
  have hI := h
  have ht := dull_inv h hf0
  obtain ⟨hL, hb, t, B, n, s0, hT, hB, hP, hE, hO⟩ := ht
  obtain ⟨-, -, -, B0, n0, -, -, hB0, -, hE0, -⟩ := h
  have w2 : wI a2 = a2 := wI_id h2
  have e21 : τ 253 21 = bits σ 8 := by rw [hf0 _ _ (by unfold dull; omega)]; exact hE0.1
  have kp1 := kept_r2 (σ := σ) e21 h1
  have kp2 := kept_r2 (σ := σ) e21 h2
  by_cases hk1 : kp σ a1
  · obtain ⟨k, rfl, hk, hkk⟩ := kp_nat hk1
    have tn : ((k : Int)).toNat = k := Int.toNat_natCast k
    rw [b2_t (show 0 ≤ (k : Int) ∧ (k : Int) < 8 ∧ σ (165 + 2 * ((k : Int)).toNat) 2 ≠ -1 from hk1)] at kp1
    -- behind the pair
    have B62 : ∀ ρ, frm dull σ ρ → idP σ (k : Int) a2 → (inP σ k ∧ (a2 ≠ -1 → inP σ a2.toNat)) → ∃ v, mX12_refusal_B62 253 (k : Int) a2 ρ = some (v, ρ) ∧ fvP σ (k : Int) a2 v := fun ρ hf hp hin => by
      have hin' : inP σ ((k : Int)).toNat ∧ (a2 ≠ -1 → inP σ a2.toNat) := by rw [tn]; exact hin
      obtain ⟨v, v1, v2, -, v3⟩ := foC hI hf hk hkk
      have b97 : ∀ (q : ¬ ((smP σ k ∧ (a2 ≠ -1 → smP σ a2.toNat)) ∧ foP σ k)), fvP σ (k : Int) a2 (-3) := fun q => Or.inr (Or.inr (Or.inl ⟨rfl, hp, hin', by rw [tn]; exact q⟩))
      have ok : (smP σ k ∧ (a2 ≠ -1 → smP σ a2.toNat)) → foP σ k → fvP σ (k : Int) a2 0 := fun q y => Or.inr (Or.inr (Or.inr ⟨rfl, hp, hin', by rw [tn]; exact q, by rw [tn]; exact y⟩))
      unfold mX12_refusal_B62
      rw [v3, mCall_some, wL_id (x := v) v2]
      by_cases z0 : v = 0
      · rw [if_pos z0]
        exact ⟨-3, rfl, b97 (fun y => v1.mpr y.2 z0)⟩
      · rw [if_neg z0, smR hI hf hk hkk, mCall_some]
        by_cases s1 : smP σ k
        · rw [b2_t s1, if_neg (by decide), w2]
          by_cases z : a2 = -1
          · rw [if_pos z]
            exact ⟨0, rfl, ok ⟨s1, fun y => absurd z y⟩ (v1.mp z0)⟩
          · rw [if_neg z]
            obtain ⟨k2, e2, hk2, hkk2⟩ := kp_nat (hp.2.resolve_left z).1
            subst e2
            rw [smR hI hf hk2 hkk2, mCall_some]
            by_cases s2 : smP σ k2
            · rw [b2_t s2, if_neg (by decide)]
              exact ⟨0, rfl, ok ⟨s1, fun _ => by rw [Int.toNat_natCast]; exact s2⟩ (v1.mp z0)⟩
            · rw [b2_f s2, if_pos (by decide)]
              exact ⟨-3, rfl, b97 (fun y => s2 (by have := y.1.2 z; rwa [Int.toNat_natCast] at this))⟩
        · rw [b2_f s1, if_pos (by decide)]
          exact ⟨-3, rfl, b97 (fun y => s1 y.1.1)⟩
    obtain ⟨τ1, c1, c2⟩ := inR hI hf0 hk hkk
    have B38 : idP σ (k : Int) a2 → ∃ v τ', mX12_refusal_B38 253 (k : Int) a2 τ = some (v, τ') ∧ frm dull σ τ' ∧ fvP σ (k : Int) a2 v := fun hp => by
      unfold mX12_refusal_B38
      rw [c1, mCall_some]
      by_cases i1 : inP σ k
      · rw [b2_t i1, if_neg (by decide), w2]
        by_cases z : a2 = -1
        · rw [if_pos z]
          obtain ⟨v, w1, w3⟩ := B62 τ1 c2 hp ⟨i1, fun y => absurd z y⟩
          exact ⟨v, τ1, w1, c2, w3⟩
        · rw [if_neg z]
          obtain ⟨k2, e2, hk2, hkk2⟩ := kp_nat (hp.2.resolve_left z).1
          subst e2
          obtain ⟨τ2, d1, d2⟩ := inR hI c2 hk2 hkk2
          rw [d1, mCall_some]
          by_cases i2 : inP σ k2
          · rw [b2_t i2, if_neg (by decide)]
            obtain ⟨v, w1, w3⟩ := B62 τ2 d2 hp ⟨i1, fun _ => by rw [Int.toNat_natCast]; exact i2⟩
            exact ⟨v, τ2, w1, d2, w3⟩
          · rw [b2_f i2, if_pos (by decide)]
            exact ⟨-2, τ2, rfl, d2, Or.inr (Or.inl ⟨rfl, hp, fun y => i2 (by have := y.2 z; rwa [Int.toNat_natCast] at this)⟩)⟩
      · rw [b2_f i1, if_pos (by decide)]
        exact ⟨-2, τ1, rfl, c2, Or.inr (Or.inl ⟨rfl, hp, fun y => i1 (by have := y.1; rwa [tn] at this)⟩)⟩
    unfold mX12_refusal
    rw [gc253, kp1, mCall_some, if_neg (by decide)]
    by_cases z : a2 = -1
    · rw [if_pos (by rw [w2]; exact z)]
      exact B38 ⟨hk1, Or.inl z⟩
    · rw [if_neg (by rw [w2]; exact z), kp2, mCall_some]
      by_cases hk2 : kp σ a2
      · rw [b2_t (show 0 ≤ a2 ∧ a2 < 8 ∧ σ (165 + 2 * a2.toNat) 2 ≠ -1 from hk2), if_neg (by decide)]
        obtain ⟨k2, e2, hk2', hkk2⟩ := kp_nat hk2
        subst e2
        have l22 := (lay253 hL).2.2.2.2.2.2.2.2.1
        have n8 := hB.2.1
        obtain ⟨al, f1, f2, f3, -⟩ := elF hL hE n8 hk (kp_dull hf0 hk hkk)
        obtain ⟨al2, f1', f2', f3', -⟩ := elF hL hE n8 hk2' (kp_dull hf0 hk2' hkk2)
        have o262 : τ 262 = σ 262 := dull_o hf0 (by omega)
        rw [gr' l22 (by omega), gx262 _ (by omega), gr' l22 (by omega), gx262 _ (by omega), wI_nat (k := k) (by omega), wI_nat (k := k2) (by omega), f3.2.2.2.1, f3'.2.2.2.1, wI_id (x := (al : Int)) (by omega), wI_id (x := (al2 : Int)) (by omega)]
        have s1 : σ 262 k = (al : Int) := by rw [← o262]; exact f3.2.2.2.1
        have s2 : σ 262 k2 = (al2 : Int) := by rw [← o262]; exact f3'.2.2.2.1
        by_cases e : (al2 : Int) = al
        · rw [if_pos e]
          exact B38 ⟨hk1, Or.inr ⟨hk2, by rw [tn, Int.toNat_natCast, s1, s2, e]⟩⟩
        · rw [if_neg e]
          refine ⟨-1, τ, rfl, hf0, Or.inl ⟨rfl, fun y => e ?_⟩⟩
          have := (y.2.resolve_left z).2
          rw [tn, Int.toNat_natCast, s1, s2] at this
          exact this.symm
      · rw [b2_f (show ¬ (0 ≤ a2 ∧ a2 < 8 ∧ σ (165 + 2 * a2.toNat) 2 ≠ -1) from hk2), if_pos (by decide)]
        exact ⟨-1, τ, rfl, hf0, Or.inl ⟨rfl, fun y => hk2 (y.2.resolve_left z).1⟩⟩
  · rw [b2_f (show ¬ (0 ≤ a1 ∧ a1 < 8 ∧ σ (165 + 2 * a1.toNat) 2 ≠ -1) from hk1)] at kp1
    refine ⟨-1, τ, ?_, hf0, Or.inl ⟨rfl, fun y => hk1 y.1⟩⟩
    unfold mX12_refusal
    rw [gc253, kp1, mCall_some, if_pos (by decide)]

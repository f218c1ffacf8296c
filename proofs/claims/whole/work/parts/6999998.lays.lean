/-! laysIdeal -/
theorem copy9 {τ : mSt} {l : Nat} {M : Int} {E : Nat → V4} {w : V4} (h : atR τ l E M M w) (hl : l < 8) : ∃ τ', mX12_copies 253 (l : Int) 9 τ = some (0, τ') ∧ frm jR τ τ' ∧ atR τ' 9 E M M w := by
  obtain ⟨h3, h4, h5, h6, h7⟩ := h
  have c := copies_e (b := 9) h3 (show l < 10 by omega) (by omega) (by omega)
  have e : upS (upS (stP τ 9 (rowL τ l) 16) 270 9 (τ 270 l)) 271 9 (τ 271 l) = sR4 τ 9 E M M w := by
    unfold sR4 rl
    rw [h5, h6]
    congr 2
    funext i j
    by_cases h1 : i = 272
    · by_cases h2 : j < 4
      · rw [h1, vg_stV _ _ _ h2, stP_ne _ _ _ _ _ _ (by omega), ← h7, vg_rowV _ _ h2]
      · unfold stV st4
        simp only [upS]
        rw [if_neg (by omega), if_neg (by omega), if_neg (by omega), if_neg (by omega), stP_ne _ _ _ _ _ _ (by omega), stP_ne _ _ _ _ _ _ (by omega)]
    · rw [stV_ne _ _ _ _ _ h1]
      unfold stP
      by_cases h2 : i = 269 ∧ 16 * 9 ≤ j ∧ j < 16 * 9 + 16
      · rw [if_pos h2, if_pos h2, h4 _ (by omega)]
      · rw [if_neg h2, if_neg h2]
  rw [e] at c
  exact ⟨_, c, sR9_frm _ _ _ _ _, sR4_at h3 _ _ _ _ _⟩
theorem liL55 {τ : mSt} {v1 v2 v3 k : Int} {x : mSt → Option (Int × mSt)} (l29 : τ 253 29 = ((269 : Nat) : Int)) : ∀ (m i N : Nat), i + m = 16 → m < N → mX12_laysIdeal_L55 253 v1 v2 v3 k x N (i : Int) (stP τ 9 (fun r => vk (fun c => vg c (rowL τ 9 r) * k)) i) = x (stP τ 9 (fun r => vk (fun c => vg c (rowL τ 9 r) * k)) 16) := by
  intro m
  induction m with
  | zero =>
    intro i N h1 h2
    obtain ⟨N, rfl⟩ : ∃ q, N = q + 1 := ⟨N - 1, by omega⟩
    rw [mX12_laysIdeal_L55.eq_2, if_pos (by rw [wI_id (by omega)]; omega), show i = 16 by omega]
  | succ m ih =>
    intro i N h1 h2
    obtain ⟨N, rfl⟩ : ∃ q, N = q + 1 := ⟨N - 1, by omega⟩
    have rd : stP τ 9 (fun r => vk (fun c => vg c (rowL τ 9 r) * k)) i 269 (16 * 9 + i) = vg (i % 4) (rowL τ 9 (i / 4)) := by
      rw [stP_out _ _ _ _ _ (by omega), ← rowL_at τ 9 (show i / 4 < 4 by omega) (show i % 4 < 4 by omega), show 16 * 9 + 4 * (i / 4) + i % 4 = 16 * 9 + i by omega]
    rw [mX12_laysIdeal_L55.eq_2, if_neg (by rw [wI_id (by omega)]; omega), gr' (by rw [stP_ne _ _ _ _ _ _ (by omega)]; exact l29) (by omega), gx269 _ (by omega), show 144 + (i : Int) = ((16 * 9 + i : Nat) : Int) by omega, wI_nat (by omega), rd, bnd_eq, bnd_eq, stP_step _ _ _ _ (by rw [vg_vk _ (by omega)]), show (i : Int) + 1 = ((i + 1 : Nat) : Int) by omega]
    exact ih (i + 1) N (by omega) (by omega)
def ilR (τ : mSt) (al : Nat) (a b M : Int) (E : Nat → V4) (N L : Int) (G : Nat → V4) : Prop := rO τ al a b M E ∧ al < 8 ∧ (a ≠ 0 ∧ -60 ≤ a ∧ a ≤ 60) ∧ (b ≠ 0 ∧ -60 ≤ b ∧ b ≤ 60) ∧ (∃ w, atR τ 9 G L (L * N) w) ∧ rOK (L * N) G ∧ (1 ≤ N ∧ N ≤ 37210000) ∧ (0 < L ∧ L ≤ 72000000) ∧ M ∣ L
theorem lays_e {τ : mSt} {al k1 : Nat} {a b M d1 d2 a2 : Int} {E : Nat → V4} {u1 u2 : V4} (hO : rO τ al a b M E) (hal : al < 8) (ha : a ≠ 0 ∧ -60 ≤ a ∧ a ≤ 60) (hb : b ≠ 0 ∧ -60 ≤ b ∧ b ≤ 60) (hu : elS τ k1 al u1 d1) (hN : d1 * d1 ∣ vN a b u1 ∧ 1 ≤ ideN a b u1 d1 ∧ ideN a b u1 d1 ≤ 37210000 ∧ (-37210000 ≤ vN a b u1 ∧ vN a b u1 ≤ 37210000) ∧ 1 ≤ d1 * d1 ∧ d1 * d1 ≤ 10000) (ha2 : i32 a2) (h2 : a2 = -1 ∨ ∃ k2 : Nat, a2 = (k2 : Int) ∧ elS τ k2 al u2 d2) : ∃ τ' L G, mX12_laysIdeal 253 (k1 : Int) a2 τ = some (0, τ') ∧ frm jR τ τ' ∧ ilR τ' al a b M E (ideN a b u1 d1) L G ∧ ∀ S, Grp S → (subL L G S ↔ (subL M (fun r => vS (ideN a b u1 d1) (E r)) S ∧ (∀ r, r < 4 → S (vM a b (E r) u1) (M * d1)) ∧ (a2 ≠ -1 → ∀ r, r < 4 → S (vM a b (E r) u2) (M * d2)))) := by
  have hO' := hO
  obtain ⟨hL, g2, g3, g4, g5, g6, g7⟩ := hO
  obtain ⟨u1', u2', u3', u4', u5', u6', u7'⟩ := hu
  have hu : elS τ k1 al u1 d1 := ⟨u1', u2', u3', u4', u5', u6', u7'⟩
  have ly := lay253 hL
  have M7 := (ord_facts ha hb g7).1
  have ok := (ord_ok g7).1.1
  obtain ⟨N, hNe⟩ : ∃ N, N = ideN a b u1 d1 := ⟨_, rfl⟩
  rw [← hNe] at hN ⊢
  obtain ⟨n1, n2, n3, n4, n5, n6⟩ := hN
  have A0 : atR τ al E M M (rowV τ 272) := ⟨lay_rL3 hL, fun r hr => by rw [g2], g3, g4, rfl⟩
  obtain ⟨τ1, c1, c2, c3⟩ := copy9 A0 hal
  have O1 := rO_fr hal hO' c2
  have S1 := elS_fr hu c2
  have L1 := O1.1
  have ly1 := lay253 L1
  have na := normAbove_e (τ := τ1) S1.1 hal ly1.2.2.2.2.1 ly1.2.2.2.2.2.1 ly1.2.2.2.2.2.2.2.2.1 ly1.2.2.2.2.2.2.2.2.2.1 S1.2.1 (by rw [O1.2.2.2.2.1]; exact ha.2) (by rw [O1.2.2.2.2.2.1]; exact hb.2)
  rw [O1.2.2.2.2.1, O1.2.2.2.2.2.1, S1.2.2.1] at na
  have pt : mX12_part 253 (k1 : Int) 4 τ1 = some (d1, τ1) := by
    rw [part_e ly1.2.2.2.2.2.2.2.2.2.1 ⟨u1', by omega, by omega⟩]
    exact congrArg (fun z => some (z, τ1)) S1.2.2.2.1
  have td : (vN a b u1).tdiv (d1 * d1) = vN a b u1 / (d1 * d1) := Int.tdiv_eq_ediv_of_dvd n1
  obtain ⟨q, hq⟩ : ∃ q, q = vN a b u1 / (d1 * d1) := ⟨_, rfl⟩
  have qN : (q.natAbs : Int) = N := by rw [hq, hNe]; rfl
  -- the rows scaled
  obtain ⟨τ2, ht2⟩ : ∃ τ2, τ2 = stP τ1 9 (fun r => vk (fun c => vg c (rowL τ1 9 r) * N)) 16 := ⟨_, rfl⟩
  obtain ⟨τ3, ht3⟩ : ∃ τ3, τ3 = upS (upS τ2 271 9 (M * N)) 253 34 0 := ⟨_, rfl⟩
  have f2 : frm jR τ1 τ2 := fun i j h => by
    rw [ht2]
    unfold stP
    rw [if_neg (fun z => h (by unfold jR; omega))]
  have f3 : frm jR τ1 τ3 := by
    rw [ht3]
    exact (f2.put (by unfold jR; omega)).put (by unfold jR; omega)
  have O3 := rO_fr hal O1 f3
  have S3 := elS_fr S1 f3
  have A3 : atR τ3 9 (fun r => vS N (E r)) M (M * N) (rowV τ 272) := by
    obtain ⟨x1, x2, x3, x4, x5⟩ := c3
    refine ⟨lay_rL3 O3.1, fun r hr => ?_, ?_, ?_, ?_⟩
    · refine vg_ext fun c hc => ?_
      rw [← rowL_at _ 9 hr hc, ht3, upS_ne (by omega), upS_ne (by omega), rowL_at τ2 9 hr hc, ht2, rowL_stP _ _ _ hr, vg_vk _ hc, x2 r hr, vg_vS _ _ hc, Int.mul_comm]
    · rw [ht3, upS_ne (by omega), upS_ne (by omega), ht2, stP_ne _ _ _ _ _ _ (by omega)]; exact x3
    · rw [ht3, upS_ne (by omega), upS_same]
    · rw [← x5]
      unfold rowV
      rw [ht3, upS_ne (by omega), upS_ne (by omega), upS_ne (by omega), upS_ne (by omega), upS_ne (by omega), upS_ne (by omega), upS_ne (by omega), upS_ne (by omega), ht2, stP_ne _ _ _ _ _ _ (by omega), stP_ne _ _ _ _ _ _ (by omega), stP_ne _ _ _ _ _ _ (by omega), stP_ne _ _ _ _ _ _ (by omega)]
  have F3 : flg τ3 := Or.inl (by rw [ht3, upS_same])
  have l55 : ∀ x : mSt → Option (Int × mSt), mX12_laysIdeal_L55 253 (k1 : Int) a2 (al : Int) N x mF 0 τ1 = x τ2 := fun x => by
    have := liL55 (v1 := (k1 : Int)) (v2 := a2) (v3 := (al : Int)) (k := N) (x := x) ly1.2.2.2.2.2.2.2.2.2.2.2.2.2.2.2.1 16 0 mF (by omega) (by unfold mF; omega)
    rw [stP_0] at this
    rw [ht2]
    exact this
  have md1 := mul_rng (x := M) (y := d1) (A := 7200) (B := 100) (by omega) (by omega) (by omega)
  have md1p : 0 < M * d1 := Int.mul_pos (by omega) (by omega)
  have L2 : Lay τ2 := L1.frm f2 (fun i j z => jR_fix z)
  have ly2 := lay253 L2
  have head : ∀ o, (mCall (mX12_putsProducts 253 (al : Int) (k1 : Int) τ3) fun b11 s12 => if wI a2 = (-1) then (some ((0 : Int), s12)) else mCall (mX12_putsProducts 253 (al : Int) a2 s12) fun b15 s16 => some (0, s16)) = o → mX12_laysIdeal 253 (k1 : Int) a2 τ = o := fun o z => by
    have b84 : mX12_laysIdeal_B84 253 (k1 : Int) a2 (al : Int) N τ2 = o := by
      unfold mX12_laysIdeal_B84
      have e9 : τ2 270 9 = M := by rw [ht2, stP_ne _ _ _ _ _ _ (by omega)]; exact c3.2.2.1
      rw [gr' ly2.2.2.2.2.2.2.2.2.2.2.2.2.2.2.2.2.2.1 (by omega), gr' ly2.2.2.2.2.2.2.2.2.2.2.2.2.2.2.2.2.1 (by omega), gx270 _ (by omega), gx271 _ (by omega), e9, bnd_eq, bnd_eq, ← ht3]
      exact z
    have b50 : mX12_laysIdeal_B50 253 (k1 : Int) a2 (al : Int) N τ1 = o := by
      unfold mX12_laysIdeal_B50
      rw [l55]
      exact b84
    have dn : ¬ wL (d1 * d1) = 0 := by rw [wL_id (x := d1 * d1) (by omega)]; omega
    unfold mX12_laysIdeal
    rw [gc253, gr' ly.2.2.2.2.2.2.2.2.1 (by omega), gx262 _ (by omega), wI_nat (k := k1) (by omega), u2', bnd_eq, c1, mCall_some, na, mCall_some, pt, mCall_some, pt, mCall_some, mG_pos dn, wL_id (x := vN a b u1) (by omega), wL_id (x := d1 * d1) (by omega), td, ← hq, bnd_eq, wL_id (x := q) (by omega)]
    by_cases hs : 0 ≤ q
    · rw [if_pos hs, show q = N by omega]
      exact b50
    · rw [if_neg hs, show -q = N by omega]
      exact b50
  have E0 : rOK (M * N) (fun r => vS N (E r)) := rOK_vS (by omega) ok
  rcases h2 with rfl | ⟨k2, rfl, hv⟩
  · obtain ⟨τ4, L, G, w', q1, q2, q3, q4, q5, q6, q7, q9, q8⟩ := pp_e (X := M * d1) hal ha hb ⟨n2, n3⟩ ⟨md1p, by omega⟩ (Int.dvd_refl _) O3 S3 F3 A3 E0 (by omega) (Int.dvd_mul_right _ _)
    have f4 := (c2.tr f3 (fun i j z => z)).tr q2 (fun i j z => z)
    have Ld := Int.le_of_dvd md1p q7
    refine ⟨τ4, L, G, head _ ?_, f4, ⟨rO_fr hal hO' f4, hal, ha, hb, ⟨w', q4⟩, q5, ⟨n2, n3⟩, ⟨q6, by omega⟩, ?_⟩, fun S hS => ?_⟩
    · rw [q1, mCall_some, if_pos (by decide)]
    · exact q9
    · rw [q8 S hS]
      exact ⟨fun z => ⟨z.1, z.2, fun y => absurd rfl y⟩, fun z => ⟨z.1, z.2.1⟩⟩
  · have md2 := mul_rng (x := M * d1) (y := d2) (A := 720000) (B := 100) (by omega) (by have := hv.2.2.2.2.2; omega) (by omega)
    have d20 := hv.2.2.2.2.2.1
    have md2p : 0 < M * d1 * d2 := Int.mul_pos md1p (by omega)
    obtain ⟨τ4, L, G, w', q1, q2, q3, q4, q5, q6, q7, q9, q8⟩ := pp_e (X := M * d1 * d2) hal ha hb ⟨n2, n3⟩ ⟨md2p, by omega⟩ (Int.dvd_mul_right _ _) O3 S3 F3 A3 E0 (by omega) (by rw [Int.mul_assoc]; exact Int.dvd_mul_right _ _)
    have S4 := elS_fr (elS_fr (elS_fr hv c2) f3) q2
    obtain ⟨τ5, L', G', w'', p1, p2, p3, p4, p5, p6, p7, p9, p8⟩ := pp_e (X := M * d1 * d2) hal ha hb ⟨n2, n3⟩ ⟨md2p, by omega⟩ (d := d2) ⟨d1, by grind⟩ (rO_fr hal O3 q2) S4 q3 q4 q5 q6 q7
    have f5 := ((c2.tr f3 (fun i j z => z)).tr q2 (fun i j z => z)).tr p2 (fun i j z => z)
    have Ld := Int.le_of_dvd md2p p7
    have kk2 := hv.1
    refine ⟨τ5, L', G', head _ ?_, f5, ⟨rO_fr hal hO' f5, hal, ha, hb, ⟨w'', p4⟩, p5, ⟨n2, n3⟩, ⟨p6, by omega⟩, ?_⟩, fun S hS => ?_⟩
    · rw [q1, mCall_some, if_neg (by rw [wI_id (x := (k2 : Int)) (by omega)]; omega), p1, mCall_some]
    · exact Int.dvd_trans q9 p9
    · rw [p8 S hS, q8 S hS]
      exact ⟨fun z => ⟨z.1.1, z.1.2, fun _ => z.2⟩, fun z => ⟨⟨z.1, z.2.1⟩, z.2.2 (by omega)⟩⟩

/-! enlarge -/
theorem gU_out {q : Nat} (hq : q < 8) {i j : Nat} (hi : i ≤ 111 ∨ 253 ≤ i) : ¬ gU q i j := fun z => by
  unfold gU gV gW eW nW oW at z
  omega
theorem rW_out {q : Nat} {i j : Nat} (hi : i ≤ 253 ∨ (254 ≤ i ∧ i ≤ 264)) : ¬ rW q i j := fun z => by
  unfold rW cW at z
  omega
theorem inv_cO {σ : mSt} {k : Nat} (hL : Lay σ) (h9 : ∀ j, j < 4 → σ 139 j = 0) (io : iOrd σ k) (hsw : (σ 114 3 = 124 ∧ σ 114 4 = 131) ∨ (σ 114 3 = 131 ∧ σ 114 4 = 124)) : cO σ k (σ 258 k) (σ 259 k) (σ 270 k) (rowL σ k) := by
  obtain ⟨rc, rm⟩ := iord_c io
  obtain ⟨g1, g2, g3, g4, g5, g6⟩ := io
  refine ⟨hL, ⟨g1, g2, rm, rc⟩, g6, hsw, ?_⟩
  exact vg_ext fun i hi => by rw [vg_rowV _ _ hi, h9 i hi, vg_v0 hi]
theorem inv_rO {σ τ : mSt} {k : Nat} (hL : Lay τ) (io : iOrd σ k) (o : ∀ i, (258 ≤ i ∧ i ≤ 259) ∨ (269 ≤ i ∧ i ≤ 271) → τ i = σ i) : rO τ k (σ 258 k) (σ 259 k) (σ 270 k) (rowL σ k) := by
  obtain ⟨g1, g2, g3, g4, g5, g6⟩ := io
  refine ⟨hL, ?_, by rw [o 270 (by omega)], by rw [o 271 (by omega)]; exact g4, by rw [o 258 (by omega)], by rw [o 259 (by omega)], g6⟩
  funext r
  exact congrFun (rowL_congr (o 269 (by omega))) r
/-- both sides behind -/
theorem inv_back {σ σ1 τ : mSt} {k : Nat} {N : Int} {F : Nat → V4} (h : Inv σ) (hk : k < 8) (f1 : frm (ordW k) σ σ1) (f2 : frm (ordW k) σ1 τ) (hc : cO σ1 k (σ 258 k) (σ 259 k) N F) (hr : rO τ k (σ 258 k) (σ 259 k) N F) (o1 : ∀ i, (258 ≤ i ∧ i ≤ 259) → σ1 i = σ i) (o2 : ∀ i, (112 ≤ i ∧ i ≤ 252) ∨ (258 ≤ i ∧ i ≤ 259) → τ i = σ1 i) : Inv τ := by
  obtain ⟨c1, ⟨c2, c3, c4⟩, c5, c6, c7⟩ := hc
  obtain ⟨r1, r2, r3, r4, r5, r6, r7⟩ := hr
  refine h.ord hk (f1.tr f2 (fun i j z => z)) ?_ ?_
  · refine ⟨?_, ?_, ?_, ?_, fun r hr => ?_, ?_⟩
    · rw [o2 _ (by omega), c2, r5]
    · rw [o2 _ (by omega), c3, r6]
    · rw [o2 _ (by omega), c4.1, r3]
    · rw [r4, r3]
    · rw [r2, ← c4.2 r hr]
      unfold rwC
      rw [show 182 + 9 * k + 2 + r = 184 + 9 * k + r by omega]
      unfold rowV
      rw [o2 _ (by omega)]
    · rw [r2, r3, r5, r6]; exact r7
  · rw [o2 114 (by omega)]
    exact c6
theorem ratio_rng {A l m : Int} (hA : 1 ≤ A ∧ A ≤ 14400) (hl : 1 ≤ l) (hm : 1 ≤ m) (h1 : l ∣ A) (h2 : m ∣ A) (h3 : l ≤ m) : 1 ≤ A / l / (A / m) ∧ A / l / (A / m) ≤ 14400 ∧ 1 ≤ A / m ∧ A / m ≤ 14400 ∧ 1 ≤ A / l ∧ A / l ≤ 14400 := by
  have p1 := dq_pos hA.1 hl h1
  have p2 := dq_pos hA.1 hm h2
  have le : A / m ≤ A / l := by
    rcases Int.lt_or_le (A / l) (A / m) with z | z
    · have a1 := Int.mul_le_mul_of_nonneg_left (show A / l + 1 ≤ A / m by omega) (show 0 ≤ m by omega)
      have a2 := Int.mul_le_mul_of_nonneg_right h3 (show 0 ≤ A / l by omega)
      rw [Int.mul_add] at a1
      omega
    · exact z
  have q := Int.ediv_le_self (A / m) (show 0 ≤ A / l by omega)
  exact ⟨Int.le_ediv_of_mul_le (by omega) (by omega), by omega, p2.1, by omega, p1.1, by omega⟩
theorem pr_enlarge (σ : mSt) (h : Inv σ) (a1 : Int) (h1 : i32 a1) (a2 : Int) (h2 : i32 a2) : ∃ b s b2 s2, mX11_enlarge 0 a1 a2 σ = some (b, s) ∧ mX12_enlarge 253 a1 a2 s = some (b2, s2) ∧ wI b = wI b2 ∧ Inv s2 := by
  have hI := h
  obtain ⟨hL, hb, t, B, n, s0, hT, hB, hP, hE, hO⟩ := h
  have hn := hB.2.1
  have ht := hI.scr (scr_t (σ := σ) (v := 0))
  have h2' := h2
  unfold i32 at h2'
  have w2 : wI a2 = a2 := wI_id h2
  by_cases hv : 0 ≤ a1 ∧ a1 < (n : Int) ∧ σ 257 a1.toNat = 0
  · obtain ⟨k, rfl, hk, hq⟩ := quat_nat hv
    have hk8 : k < 8 := by omega
    have hBt : iBook (upS σ 253 0 0) B n := book_up hB
    have qr := quatr_t ht.1 hBt hk (by rw [upS_row (by omega)]; exact hq)
    have qc := quat_t hL hB hk hq
    by_cases hp : prm a2 ∧ a2 ≤ 60
    · have hp2 : 2 ≤ a2 ∧ a2 ≤ 60 := ⟨hp.1.1, hp.2⟩
      obtain ⟨-, ⟨na, ra1, ra2, -⟩, nb, rb1, rb2, -⟩ := quatF hB hk hq
      have io := hO.1 k hk hq
      have co := inv_cO hL hb.2 io hO.2
      have du := due_rng hB hP hk hq
      have pl : plS σ B n s0 k (duF (σ 102) (lx σ k) s0 0 1) := ⟨hB, hP, hk, hq, rfl, du⟩
      obtain ⟨D, hD⟩ : ∃ D, D = duF (σ 102) (lx σ k) s0 0 1 := ⟨_, rfl⟩
      rw [← hD] at pl
      obtain ⟨A, hA⟩ : ∃ A, A = ((4 * σ 258 k * σ 259 k).natAbs : Int) := ⟨_, rfl⟩
      have A12 := ab_rng (a := σ 258 k) (b := σ 259 k) ⟨na, ra1, ra2⟩ ⟨nb, rb1, rb2⟩
      rw [← hA] at A12
      have cg := canGrow_e co pl ⟨na, ra1, ra2⟩ ⟨nb, rb1, rb2⟩ hp2
      rw [← hA] at cg
      have prc : mX5_isPrime a2 σ = some (1, σ) := by rw [prime_e a2 h2, b2_t ⟨hp.1, by omega⟩]
      by_cases hc : canV a2 (A / lot (σ 270 k) (rowL σ k)) D = 0
      · refine ⟨0, σ, 0, upS σ 253 0 0, ?_, ?_, rfl, ht⟩
        · unfold mX11_enlarge
          rw [gc0, qc, mCall_some, if_neg (by decide), if_neg (by rw [w2]; omega), prc, mCall_some, if_neg (by decide), cg, mCall_some, hc, if_pos (by decide)]
        · have ro : rO (upS σ 253 0 0) k (σ 258 k) (σ 259 k) (σ 270 k) (rowL σ k) := inv_rO ht.1 io (fun i hi => upS_row (by omega))
          have pl2 : plS (upS σ 253 0 0) B n s0 k D := plS_fr pl (by rw [upS_ne (by omega)]) (by rw [upS_ne (by omega)]) (fun i hi => upS_row (by omega))
          have hm := hasMore_e ro pl2 ⟨na, ra1, ra2⟩ ⟨nb, rb1, rb2⟩ hp2
          rw [← hA, hc] at hm
          unfold mX12_enlarge
          rw [gc253, bnd_eq, qr, mCall_some, if_neg (by decide), w2, within_e _ _ _ _ (by omega) (by omega) (by omega), mCall_some, if_neg (by rw [b2_t hp2]; decide), rprime_e a2 (by omega) (by omega), mCall_some, if_neg (by rw [b2_t hp.1]; decide), hm, mCall_some, if_pos (by decide)]
      · have hc1 : canV a2 (A / lot (σ 270 k) (rowL σ k)) D = 1 := by
          unfold canV at hc ⊢
          by_cases z : vlF 20 a2 (A / lot (σ 270 k) (rowL σ k)) ≤ vlF 20 a2 D
          · rw [if_pos z] at hc; exact absurd rfl hc
          · rw [if_neg z]
        obtain ⟨v, σ1, g1, g2, g3⟩ := step_c hk8 ⟨na, ra1, ra2⟩ ⟨nb, rb1, rb2⟩ hp2 co
        rw [← hA] at g3
        obtain ⟨τ0, hτ0⟩ : ∃ τ0, τ0 = upS σ1 253 0 0 := ⟨_, rfl⟩
        have o1 : ∀ i, i ≤ 111 ∨ 253 ≤ i → σ1 i = σ i := fun i hi => funext fun j => g2 i j (gU_out hk8 hi)
        have L1 : Lay σ1 := hL.frm g2 (fun i j z => ordW_fix hk8 (gU_ord hk8 z))
        have L2 : Lay τ0 := by rw [hτ0]; exact L1.up (by decide +kernel)
        have o0 : ∀ i, i ≠ 253 → τ0 i = σ1 i := fun i hi => by rw [hτ0, upS_row (by omega)]
        have ro : rO τ0 k (σ 258 k) (σ 259 k) (σ 270 k) (rowL σ k) := inv_rO L2 io (fun i hi => by rw [o0 i (by omega), o1 i (by omega)])
        have pl2 : plS τ0 B n s0 k D := plS_fr pl (by rw [o0 0 (by omega), o1 0 (by omega)]) (by rw [o0 0 (by omega), o1 0 (by omega)]) (fun i hi => by rw [o0 i (by omega), o1 i (by omega)])
        have hm := hasMore_e ro pl2 ⟨na, ra1, ra2⟩ ⟨nb, rb1, rb2⟩ hp2
        rw [← hA, hc1] at hm
        obtain ⟨v2, τ1, e1, e2, e3⟩ := step_r hk8 ⟨na, ra1, ra2⟩ ⟨nb, rb1, rb2⟩ hp2 ro
        have d1 := discR_e ro hk8 ⟨na, ra1, ra2⟩ ⟨nb, rb1, rb2⟩
        rw [← hA] at d1
        have qr2 := quatr_t L2 pl2.1 hk pl2.2.2.2.1
        have cl : mX11_enlarge 0 (k : Int) a2 σ = some (v, σ1) := by
          unfold mX11_enlarge
          rw [gc0, qc, mCall_some, if_neg (by decide), if_neg (by rw [w2]; omega), prc, mCall_some, if_neg (by decide), cg, mCall_some, hc1, if_neg (by decide), gr' (lay0 hL).2.2.2.2.2.1 (by omega), gr' (lay0 hL).2.2.2.2.1 (by omega), gx113 _ (by omega), wI_nat (k := k) (by omega), gr' (ord_lay hL hk8).2.2.2.1 (by omega), g1, mCall_some]
        have rf : ∀ b s, (if wI v2 = 0 then (some ((0 : Int), τ1)) else mCall (mX12_discOf 253 (k : Int) (k : Int) τ1) fun b26 s27 => mG (wI b26 ≠ 0) <| some ((wI (A / lot (σ 270 k) (rowL σ k))).tdiv (wI b26), s27)) = some (b, s) → mX12_enlarge 253 (k : Int) a2 σ1 = some (b, s) := fun b s z => by
          unfold mX12_enlarge
          rw [gc253, bnd_eq, ← hτ0, qr2, mCall_some, if_neg (by decide), w2, within_e _ _ _ _ (by omega) (by omega) (by omega), mCall_some, if_neg (by rw [b2_t hp2]; decide), rprime_e a2 (by omega) (by omega), mCall_some, if_neg (by rw [b2_t hp.1]; decide), hm, mCall_some, if_neg (by decide), d1, mCall_some, e1, mCall_some]
          exact z
        have f1 : frm (ordW k) σ σ1 := g2.mono (fun i j z => gU_ord hk8 z)
        have f2 : frm (ordW k) σ1 τ1 := by
          have z0 : frm (ordW k) σ1 τ0 := by
            rw [hτ0]
            exact frm.mono scr_t (fun i j z => Or.inl z)
          exact z0.tr e2 (fun i j z => rW_ord hk8 z)
        have o2 : ∀ i, (112 ≤ i ∧ i ≤ 252) ∨ (258 ≤ i ∧ i ≤ 259) → τ1 i = σ1 i := fun i hi => by
          rw [← o0 i (by omega)]
          exact funext fun j => e2 i j (rW_out (by omega))
        rcases g3 with ⟨N, F, s1, s2, s3⟩ | ⟨s1, s2, s3⟩
        · rcases e3 with ⟨K, G, x1, x2, x3⟩ | ⟨-, x2, -⟩
          · obtain ⟨rfl, rfl⟩ := St_uniq (by omega) s1 x2
            have okE := (ord_ok co.2.2.1).1
            have okF := (ord_ok (St_ord s1)).1
            have dvE := abs_dvd.mpr (lotd okE (ord_ok co.2.2.1).2.2)
            have dvF := abs_dvd.mpr (lotd okF (ord_ok (St_ord s1)).2.2)
            rw [← hA] at dvE dvF
            have l2 := St_lot (by omega) co.2.2.1 s1
            have lE := lot_pos okE.1.1 okE.1.2.1 (uni_of okE.1.2.2.2)
            have lF := lot_pos okF.1.1 okF.1.2.1 (uni_of okF.1.2.2.2)
            have rr := ratio_rng (A := A) ⟨A12.1, A12.2.1⟩ lE lF dvE dvF (by omega)
            have d2 := discR_e x3 hk8 ⟨na, ra1, ra2⟩ ⟨nb, rb1, rb2⟩
            rw [← hA] at d2
            refine ⟨_, _, _, τ1, cl, rf (A / lot (σ 270 k) (rowL σ k) / (A / lot N F)) τ1 ?_, by rw [s3], inv_back hI hk8 f1 f2 s2 x3 (fun i hi => o1 i (by omega)) o2⟩
            rw [x1, if_neg (by decide), d2, mCall_some, mG_pos (by rw [wI_id (x := A / lot N F) (by omega)]; omega), wI_id (x := A / lot N F) (by omega), wI_id (x := A / lot (σ 270 k) (rowL σ k)) (by omega), Int.tdiv_eq_ediv_of_nonneg (by omega)]
          · exact absurd x2 (St_no s1)
        · rcases e3 with ⟨K, G, x1, x2, x3⟩ | ⟨x1, x2, x3⟩
          · exact absurd s2 (St_no x2)
          · exact ⟨_, _, _, τ1, cl, rf 0 τ1 (by rw [x1, if_pos (by decide)]), by rw [s1], inv_back hI hk8 f1 f2 s3 x3 (fun i hi => o1 i (by omega)) o2⟩
    · refine ⟨-1, σ, -1, upS σ 253 0 0, ?_, ?_, rfl, ht⟩
      · unfold mX11_enlarge
        rw [gc0, qc, mCall_some, if_neg (by decide), w2]
        by_cases z : 60 < a2
        · rw [if_pos z]
        · rw [if_neg z, prime_e a2 h2, mCall_some, if_pos (by rw [b2_f (fun y => hp ⟨y.1, by omega⟩)]; decide)]
      · unfold mX12_enlarge
        rw [gc253, bnd_eq, qr, mCall_some, if_neg (by decide), w2, within_e _ _ _ _ (by omega) (by omega) (by omega), mCall_some]
        by_cases z : 2 ≤ a2 ∧ a2 ≤ 60
        · rw [if_neg (by rw [b2_t z]; decide), rprime_e a2 (by omega) (by omega), mCall_some, if_pos (by rw [b2_f (fun y => hp ⟨y, z.2⟩)]; decide)]
        · rw [if_pos (by rw [b2_f z]; decide)]
  · refine ⟨-1, σ, -1, upS σ 253 0 0, ?_, ?_, rfl, ht⟩
    · unfold mX11_enlarge
      exact mR_eq (mR_G (by decide) (mR_callE (quat_c hL hB h1) (mR_pos (by rw [wI_b2, b2_f hv]) (mR_ret ⟨rfl, rfl⟩))))
    · unfold mX12_enlarge
      exact mR_eq (mR_G (by decide) (mR_bnd (mR_callE (quat_r ht.1 (book_up hB) h1) (mR_pos (by rw [wI_b2, b2_f (by rw [upS_row (by omega)]; exact hv)]) (mR_ret ⟨rfl, rfl⟩)))))

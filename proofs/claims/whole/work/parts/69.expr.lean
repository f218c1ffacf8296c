/-! how often rows come in a four: class -/
def vU (v : V4) (i : Nat) (u : Int) : V4 := vk (fun j => if j = i then u else vg j v)
theorem vg_vU (v : V4) (i : Nat) (u : Int) {j : Nat} (hj : j < 4) : vg j (vU v i u) = if j = i then u else vg j v := vg_vk _ hj
theorem stV_eq {σ : mSt} {r : Nat} {v w : V4} (h : v = w) : stV σ r v = stV σ r w := by rw [h]
theorem stV_at (σ : mSt) (r : Nat) (v : V4) (a b : Nat) : stV σ r v a b = if a = r ∧ b < 4 then vg b v else σ a b := by
  by_cases h : a = r ∧ b < 4
  · rw [if_pos h, h.1, vg_stV _ _ _ h.2]
  · rw [if_neg h]
    by_cases h2 : a = r
    · rw [h2, stV_hi _ _ _ _ _ (by omega)]
    · exact stV_ne _ _ _ _ _ h2
theorem stV_up (σ : mSt) (r : Nat) (v : V4) {i : Nat} (u : Int) (hi : i < 4) : upS (stV σ r v) r i u = stV σ r (vU v i u) := by
  funext a b
  rw [upS_at, stV_at, stV_at]
  by_cases h : a = r ∧ b = i
  · rw [if_pos h, if_pos ⟨h.1, by omega⟩, vg_vU _ _ _ (by omega), if_pos h.2]
  · rw [if_neg h]
    by_cases h2 : a = r ∧ b < 4
    · rw [if_pos h2, if_pos h2, vg_vU _ _ _ h2.2, if_neg (by omega)]
    · rw [if_neg h2, if_neg h2]
theorem stV_self (σ : mSt) (r : Nat) : stV σ r (rowV σ r) = σ := by
  funext a b
  rw [stV_at]
  by_cases h : a = r ∧ b < 4
  · rw [if_pos h, vg_rowV _ _ h.2, h.1]
  · rw [if_neg h]
theorem stV_stV (σ : mSt) (r : Nat) (v w : V4) : stV (stV σ r v) r w = stV σ r w := by
  funext a b
  rw [stV_at, stV_at, stV_at]
  by_cases h : a = r ∧ b < 4
  · rw [if_pos h, if_pos h]
  · rw [if_neg h, if_neg h, if_neg h]
def exQ (E : Nat → V4) (r : Nat) (x : V4) : Int := vg r x / vg r (E r)
def exP (E : Nat → V4) (r i : Nat) (x : V4) : V4 := vk (fun j => if r < j ∧ j < i then vg j x - exQ E r x * vg j (E r) else vg j x)
def exS (E : Nat → V4) (r : Nat) (x : V4) : V4 := vk (fun j => if j = r then exQ E r x else if r < j then vg j x - exQ E r x * vg j (E r) else vg j x)
theorem exprL46 {σ : mSt} {o w r : Nat} {v : V4} {q : Int} {xx : mSt → Option (Int × mSt)} (hL : Lay σ) (ho : o ∈ latIds) (hw : shp w = (21, 4)) (hwo : w < o ∨ o + 6 ≤ w) (hr : r < 4) (hq : q = exQ (rwC σ o) r v) : ∀ (m i n : Nat), r < i → i + m = 4 → m < n → mX3_express_L46 o w (r : Int) q xx n (i : Int) (stV σ w (exP (rwC σ o) r i v)) = xx (stV σ w (exP (rwC σ o) r 4 v)) := by
  obtain ⟨k1, k2, k3, k4, k5, k6⟩ := lat_lay hL ho
  intro m
  induction m with
  | zero =>
    intro i n h0 h1 h2
    obtain ⟨n, rfl⟩ : ∃ q, n = q + 1 := ⟨n - 1, by omega⟩
    rw [mX3_express_L46.eq_2, if_pos (by rw [wI_id (by omega)]; omega), show i = 4 by omega]
  | succ m ih =>
    intro i n h0 h1 h2
    obtain ⟨n, rfl⟩ : ∃ q, n = q + 1 := ⟨n - 1, by omega⟩
    rw [mX3_express_L46.eq_2, if_neg (by rw [wI_id (by omega)]; omega), gx hw _ (by omega), gr' (r := o + 1) (by rw [stV_ne _ _ _ _ _ (by omega)]; exact k4) (by omega), gx k2 _ (by omega), wI_nat (by omega), gr' (r := o + 2 + r) (by rw [stV_ne _ _ _ _ _ (by omega)]; exact (k6 r hr).2) (by omega), gx (k6 r hr).1 _ (by omega), bnd_eq, bnd_eq, wI_nat (by omega), stV_ne _ _ _ (o + 2 + r) _ (by omega), rwC_at σ o (show i < 4 by omega), vg_stV _ _ _ (by omega), stV_up _ _ _ _ (by omega), show (i : Int) + 1 = ((i + 1 : Nat) : Int) by omega]
    rw [show vU (exP (rwC σ o) r i v) i (vg i (exP (rwC σ o) r i v) - q * vg i (rwC σ o r)) = exP (rwC σ o) r (i + 1) v by
      refine vg_ext (fun j hj => ?_)
      unfold exP
      rw [vg_vU _ _ _ hj, vg_vk _ hj, vg_vk _ hj, vg_vk _ (by omega), hq]
      by_cases hji : j = i
      · rw [if_pos hji, if_neg (by omega), if_pos (by omega), hji]
      · rw [if_neg hji]
        by_cases h3 : r < j ∧ j < i
        · rw [if_pos h3, if_pos (by omega)]
        · rw [if_neg h3, if_neg (by omega)]]
    exact ih (i + 1) n (by omega) (by omega) (by omega)
theorem exprL2 {σ : mSt} {o w r n : Nat} {v : V4} {xx : mSt → Option (Int × mSt)} (hL : Lay σ) (ho : o ∈ latIds) (hw : shp w = (21, 4)) (hwo : w < o ∨ o + 6 ≤ w) (hr : r < 4) (hE : 0 < vg r (rwC σ o r) ∧ vg r (rwC σ o r) < 9223372036854775808) (hv : -9223372036854775808 ≤ vg r v ∧ vg r v < 9223372036854775808) : mX3_express_L2 o w xx (n + 1) (r : Int) (stV σ w v) = if vg r (rwC σ o r) ∣ vg r v then mX3_express_L2 o w xx n ((r + 1 : Nat) : Int) (stV σ w (exS (rwC σ o) r v)) else some (0, stV σ w v) := by
  obtain ⟨k1, k2, k3, k4, k5, k6⟩ := lat_lay hL ho
  have e1 : mRef (stV σ w v o 0) = fun (f : Nat → Option (Int × mSt)) => f (o + 1) := by
    funext f
    exact gr' (by rw [stV_ne _ _ _ _ _ (by omega)]; exact k4) (by omega)
  have e2 : mRef (stV σ w v (o + 1) (wI (r : Int)).toNat) = fun (f : Nat → Option (Int × mSt)) => f (o + 2 + r) := by
    funext f
    exact gr' (by rw [wI_nat (by omega), stV_ne _ _ _ _ _ (by omega)]; exact (k6 r hr).2) (by omega)
  rw [mX3_express_L2.eq_2, if_neg (by rw [wI_id (by omega)]; omega), e1]
  simp only []
  rw [gx k2 _ (by omega), e2]
  simp only []
  rw [gx (k6 r hr).1 _ (by omega), gx hw _ (by omega), wI_nat (by omega), stV_ne _ _ _ (o + 2 + r) _ (by omega), rwC_at σ o hr, vg_stV _ _ _ hr, div_e _ _ _ hv (by omega), mCall_some]
  by_cases hd : vg r (rwC σ o r) ∣ vg r v
  · rw [b2_t ⟨by omega, hd⟩, if_neg (by decide), if_pos hd, e1]
    simp only []
    rw [gx k2 _ (by omega)]
    have e3 := e2
    rw [wI_nat (by omega)] at e3
    rw [e3]
    simp only []
    rw [gx (k6 r hr).1 _ (by omega), stV_ne _ _ _ (o + 2 + r) _ (by omega), rwC_at σ o hr, vg_stV _ _ _ hr, quot_e _ _ _ (by omega) hv (by omega), mCall_some, bnd_eq]
    have := exprL46 (v := v) (xx := fun zσ => mX3_express_B76 o w (mX3_express_L2 o w xx n) xx (r : Int) (vg r v / vg r (rwC σ o r)) zσ) hL ho hw hwo hr rfl (4 - (r + 1)) (r + 1) mF (by omega) (by omega) (by unfold mF; omega)
    rw [show exP (rwC σ o) r (r + 1) v = v by
      refine vg_ext (fun j hj => ?_)
      unfold exP
      rw [vg_vk _ hj, if_neg (by omega)]] at this
    rw [show (r : Int) + 1 = ((r + 1 : Nat) : Int) by omega]
    refine this.trans ?_
    unfold mX3_express_B76
    rw [gx hw _ (by omega), bnd_eq, bnd_eq, wI_nat (by omega), stV_up _ _ _ _ hr, show (r : Int) + 1 = ((r + 1 : Nat) : Int) by omega]
    rw [show vU (exP (rwC σ o) r 4 v) r (vg r v / vg r (rwC σ o r)) = exS (rwC σ o) r v by
      refine vg_ext (fun j hj => ?_)
      unfold exP exS
      rw [vg_vU _ _ _ hj, vg_vk _ hj, vg_vk _ hj]
      by_cases h3 : j = r
      · rw [if_pos h3, if_pos h3]; rfl
      · rw [if_neg h3, if_neg h3]
        by_cases h4 : r < j
        · rw [if_pos ⟨h4, hj⟩, if_pos h4]
        · rw [if_neg (by omega), if_neg h4]]
  · rw [b2_f (fun z => hd z.2), if_pos (by decide), if_neg hd]
/-! the same, as sums -/
def tlv (r : Nat) (x : V4) : V4 := vk (fun i => if i < r then 0 else vg i x)
def hdv (r : Nat) (x : V4) : V4 := vk (fun i => if i < r then vg i x else 0)
def exI (E : Nat → V4) (x0 : V4) (r : Nat) (x : V4) : Prop := x0 = vA (vC E (hdv r x)) (tlv r x)
theorem vg_vC (E : Nat → V4) (c : V4) {i : Nat} (hi : i < 4) : vg i (vC E c) = vg 0 c * vg i (E 0) + (vg 1 c * vg i (E 1) + (vg 2 c * vg i (E 2) + vg 3 c * vg i (E 3))) := by
  unfold vC
  rw [vg_vA _ _ hi, vg_vA _ _ hi, vg_vA _ _ hi, vg_vS _ _ hi, vg_vS _ _ hi, vg_vS _ _ hi, vg_vS _ _ hi]
  rfl
theorem exI_0 (E : Nat → V4) (x : V4) : exI E x 0 x := by
  unfold exI
  rw [show hdv 0 x = v0 from vg_ext fun i hi => by unfold hdv; rw [vg_vk _ hi, if_neg (by omega), vg_v0 hi], vC_0]
  refine vg_ext (fun i hi => ?_)
  unfold tlv
  rw [vg_vA _ _ hi, vg_v0 hi, vg_vk _ hi, if_neg (by omega), Int.zero_add]
theorem exI_4 {E : Nat → V4} {x0 x : V4} (h : exI E x0 4 x) : x0 = vC E x := by
  unfold exI at h
  rw [h, show hdv 4 x = x from vg_ext fun i hi => by unfold hdv; rw [vg_vk _ hi, if_pos hi], show tlv 4 x = v0 from vg_ext fun i hi => by unfold tlv; rw [vg_vk _ hi, if_pos hi, vg_v0 hi], vA_0]
theorem exI_step {E : Nat → V4} {x0 x : V4} {r : Nat} (hT : Tri E) (hr : r < 4) (h : exI E x0 r x) (hd : vg r (E r) ∣ vg r x) : exI E x0 (r + 1) (exS E r x) := by
  unfold exI at h ⊢
  rw [h]
  have z := tri_z hT r
  have p := tri_d hT r hr
  have e : vg r (E r) * exQ E r x = vg r x := Int.mul_ediv_cancel' hd
  refine vg_ext (fun i hi => ?_)
  rw [vg_vA _ _ hi, vg_vA _ _ hi, vg_vC _ _ hi, vg_vC _ _ hi]
  have t1 : vg i (tlv r x) = if i < r then 0 else vg i x := by unfold tlv; rw [vg_vk _ hi]
  have t2 : vg i (tlv (r + 1) (exS E r x)) = if i < r + 1 then 0 else vg i x - exQ E r x * vg i (E r) := by
    unfold tlv exS
    rw [vg_vk _ hi, vg_vk _ hi]
    by_cases h3 : i < r + 1
    · rw [if_pos h3, if_pos h3]
    · rw [if_neg h3, if_neg h3, if_neg (by omega), if_pos (by omega)]
  have hd1 : ∀ j, j < 4 → vg j (hdv (r + 1) (exS E r x)) = if j = r then exQ E r x else vg j (hdv r x) := fun j hj => by
    unfold hdv exS
    rw [vg_vk _ hj, vg_vk _ hj, vg_vk _ hj]
    by_cases h3 : j = r
    · rw [if_pos (by omega), if_pos h3, if_pos h3]
    · rw [if_neg h3]
      by_cases h4 : j < r
      · rw [if_pos (by omega), if_neg h3, if_neg (by omega), if_pos h4]
      · rw [if_neg (by omega), if_neg h4, if_neg h3]
  have hd0 : vg r (hdv r x) = 0 := by
    unfold hdv
    rw [vg_vk _ hr, if_neg (by omega)]
  rw [t1, t2, hd1 0 (by omega), hd1 1 (by omega), hd1 2 (by omega), hd1 3 (by omega)]
  have fin : ∀ A : Int, (if i < r then 0 else vg i x) = exQ E r x * vg i (E r) + (if i < r + 1 then 0 else vg i x - exQ E r x * vg i (E r)) := by
    intro _
    rcases (show i < r ∨ i = r ∨ r < i by omega) with h3 | h3 | h3
    · rw [if_pos h3, if_pos (by omega), z i h3 hr, Int.mul_zero, Int.zero_add]
    · rw [if_neg (by omega), if_pos (by omega), h3]
      have e' := e
      rw [Int.mul_comm] at e'
      omega
    · rw [if_neg (by omega), if_neg (by omega)]
      omega
  rw [fin 0]
  rcases (show r = 0 ∨ r = 1 ∨ r = 2 ∨ r = 3 by omega) with rfl | rfl | rfl | rfl <;> simp only [hd0, if_true, if_false, Nat.reduceEqDiff, Int.zero_mul] <;> omega
theorem exI_stop {E : Nat → V4} {x0 x : V4} {r : Nat} (hT : Tri E) (hr : r < 4) (h : exI E x0 r x) (hd : ¬ vg r (E r) ∣ vg r x) : ¬ spn E x0 := by
  intro hs
  unfold exI at h
  obtain ⟨s0, s1, s2⟩ := spn_sub E
  have ht : spn E (tlv r x) := by
    have := s1 _ _ hs (s2 (-1) _ ⟨hdv r x, rfl⟩)
    rw [h] at this
    rw [show tlv r x = vA (vA (vC E (hdv r x)) (tlv r x)) (vS (-1) (vC E (hdv r x))) from vg_ext fun i hi => by rw [vg_vA _ _ hi, vg_vA _ _ hi, vg_vS _ _ hi]; omega]
    exact this
  obtain ⟨a, b, c, d, -, e0, e1, e2, e3⟩ := tri_get hT ht
  obtain ⟨p0, z10, p1, z20, z21, p2, z30, z31, z32, p3⟩ := hT
  have t : ∀ i, i < 4 → vg i (tlv r x) = if i < r then 0 else vg i x := fun i hi => by unfold tlv; rw [vg_vk _ hi]
  have t0 := t 0 (by omega)
  have t1 := t 1 (by omega)
  have t2 := t 2 (by omega)
  have t3 := t 3 (by omega)
  rcases (show r = 0 ∨ r = 1 ∨ r = 2 ∨ r = 3 by omega) with rfl | rfl | rfl | rfl
  · rw [if_neg (by omega)] at t0
    exact hd ⟨a, by rw [← t0, Int.mul_comm]; exact e0⟩
  · rw [if_pos (by omega)] at t0
    rw [if_neg (by omega)] at t1
    have := mz p0 e0 t0
    subst this
    rw [Int.zero_mul, Int.zero_add] at e1
    exact hd ⟨b, by rw [← t1, Int.mul_comm]; exact e1⟩
  · rw [if_pos (by omega)] at t0 t1
    rw [if_neg (by omega)] at t2
    have := mz p0 e0 t0
    subst this
    rw [Int.zero_mul, Int.zero_add] at e1 e2
    have := mz p1 e1 t1
    subst this
    rw [Int.zero_mul, Int.zero_add] at e2
    exact hd ⟨c, by rw [← t2, Int.mul_comm]; exact e2⟩
  · rw [if_pos (by omega)] at t0 t1 t2
    rw [if_neg (by omega)] at t3
    have := mz p0 e0 t0
    subst this
    rw [Int.zero_mul, Int.zero_add] at e1 e2 e3
    have := mz p1 e1 t1
    subst this
    rw [Int.zero_mul, Int.zero_add] at e2 e3
    have := mz p2 e2 t2
    subst this
    rw [Int.zero_mul, Int.zero_add] at e3
    exact hd ⟨d, by rw [← t3, Int.mul_comm]; exact e3⟩
/-! how great the numbers come -/
def exR (E : Nat → V4) : Prop := Tri E ∧ (∀ r i, r < i → i < 4 → 0 ≤ vg i (E r) ∧ vg i (E r) ≤ vg i (E i)) ∧ ∀ i, i < 4 → vg i (E i) ≤ 100000000
def exB (E : Nat → V4) (r : Nat) (U : Int) (x : V4) : Prop := ∀ i, r ≤ i → i < 4 → -(U * vg i (E i)) ≤ vg i x ∧ vg i x ≤ U * vg i (E i)
theorem exB_step {E : Nat → V4} {r : Nat} {U : Int} {x : V4} (hE : exR E) (hr : r < 4) (hU : 0 ≤ U) (h : exB E r U x) : exB E (r + 1) (2 * U) (exS E r x) := by
  obtain ⟨hT, h1, h2⟩ := hE
  have p := tri_d hT r hr
  have hx := h r (by omega) hr
  have q1 : -U ≤ exQ E r x := by
    unfold exQ
    refine Int.le_ediv_of_mul_le p ?_
    rw [Int.neg_mul]
    exact hx.1
  have q2 : exQ E r x ≤ U := by
    unfold exQ
    exact Int.ediv_le_of_le_mul p hx.2
  intro i hi hi4
  have hxi := h i (by omega) hi4
  have he := h1 r i (by omega) hi4
  have m := mul_rng (x := exQ E r x) (y := vg i (E r)) (A := U) (B := vg i (E i)) ⟨q1, q2⟩ (by omega) hU
  unfold exS
  rw [vg_vk _ hi4, if_neg (by omega), if_pos (by omega)]
  rw [show 2 * U * vg i (E i) = U * vg i (E i) + U * vg i (E i) by rw [Int.mul_assoc]; omega]
  omega
theorem exB_in {E : Nat → V4} {r : Nat} {U : Int} {x : V4} (hE : exR E) (hr : r < 4) (hU : 0 ≤ U ∧ U ≤ 80000000000) (h : exB E r U x) : (0 < vg r (E r) ∧ vg r (E r) < 9223372036854775808) ∧ -9223372036854775808 ≤ vg r x ∧ vg r x < 9223372036854775808 := by
  have p := tri_d hE.1 r hr
  have b := hE.2.2 r hr
  have hx := h r (by omega) hr
  have m := mul_rng (x := U) (y := vg r (E r)) (A := 80000000000) (B := 100000000) (by omega) (by omega) (by omega)
  omega
theorem express_e {σ : mSt} {o w : Nat} {x : V4} {U : Int} (hL : Lay σ) (ho : o ∈ latIds) (hw : shp w = (21, 4)) (hwo : w < o ∨ o + 6 ≤ w) (hE : exR (rwC σ o)) (hU : 0 ≤ U ∧ U ≤ 10000000000) (hx : exB (rwC σ o) 0 U x) : ∃ y, mX3_express o w (stV σ w x) = some (b2 (spn (rwC σ o) x), stV σ w y) ∧ (spn (rwC σ o) x → x = vC (rwC σ o) y) := by
  obtain ⟨f, hf⟩ := mF5
  have k1 := (lat_lay hL ho).1
  have step := fun (r n : Nat) (v : V4) (V : Int) (hr : r < 4) (hV : 0 ≤ V ∧ V ≤ 80000000000) (hv : exB (rwC σ o) r V v) => exprL2 (n := n) (v := v) (xx := fun zσ => mX3_express_B86 o w zσ) hL ho hw hwo hr (exB_in hE hr hV hv).1 (exB_in hE hr hV hv).2
  unfold mX3_express
  rw [gc k1, hf]
  have i0 := exI_0 (rwC σ o) x
  rw [show (0 : Int) = ((0 : Nat) : Int) from rfl, step 0 _ _ _ (by omega) (by omega) hx]
  by_cases d0 : vg 0 (rwC σ o 0) ∣ vg 0 x
  · have i1 := exI_step hE.1 (by omega) i0 d0
    have b1 := exB_step hE (by omega) hU.1 hx
    rw [if_pos d0, step 1 _ _ _ (by omega) (by omega) b1]
    by_cases d1 : vg 1 (rwC σ o 1) ∣ vg 1 (exS (rwC σ o) 0 x)
    · have i2 := exI_step hE.1 (by omega) i1 d1
      have b2 := exB_step hE (by omega) (by omega) b1
      rw [if_pos d1, step 2 _ _ _ (by omega) (by omega) b2]
      by_cases d2 : vg 2 (rwC σ o 2) ∣ vg 2 (exS (rwC σ o) 1 (exS (rwC σ o) 0 x))
      · have i3 := exI_step hE.1 (by omega) i2 d2
        have b3 := exB_step hE (by omega) (by omega) b2
        rw [if_pos d2, step 3 _ _ _ (by omega) (by omega) b3]
        by_cases d3 : vg 3 (rwC σ o 3) ∣ vg 3 (exS (rwC σ o) 2 (exS (rwC σ o) 1 (exS (rwC σ o) 0 x)))
        · have i4 := exI_4 (exI_step hE.1 (by omega) i3 d3)
          refine ⟨exS (rwC σ o) 3 (exS (rwC σ o) 2 (exS (rwC σ o) 1 (exS (rwC σ o) 0 x))), ?_, fun _ => i4⟩
          rw [if_pos d3, mX3_express_L2.eq_2, if_pos (by decide), b2_t ⟨_, i4⟩]
          rfl
        · have ns := exI_stop hE.1 (by omega) i3 d3
          exact ⟨_, by rw [if_neg d3, b2_f ns], fun h => absurd h ns⟩
      · have ns := exI_stop hE.1 (by omega) i2 d2
        exact ⟨_, by rw [if_neg d2, b2_f ns], fun h => absurd h ns⟩
    · have ns := exI_stop hE.1 (by omega) i1 d1
      exact ⟨_, by rw [if_neg d1, b2_f ns], fun h => absurd h ns⟩
  · have ns := exI_stop hE.1 (by omega) i0 d0
    exact ⟨_, by rw [if_neg d0, b2_f ns], fun h => absurd h ns⟩

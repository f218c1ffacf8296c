/-! what is put, as sets -/
def subL (M : Int) (E : Nat → V4) (S : V4 → Int → Prop) : Prop := ∀ r, r < 4 → S (E r) M
theorem subL_lat {M : Int} {E : Nat → V4} {S : V4 → Int → Prop} (hM : 0 < M) (hS : Grp S) : subL M E S ↔ ∀ x N, 0 < N → latS M E x N → S x N :=
  ⟨fun h x N hN hx => latS_le hS hM hN h hx, fun h r hr => h _ _ hM (latS_row hr)⟩
theorem subL_vS {M k : Int} {E : Nat → V4} {S : V4 → Int → Prop} (hM : 0 < M) (hk : 0 < k) (hS : Grp S) : subL (M * k) (fun r => vS k (E r)) S ↔ subL M E S := by
  have e : ∀ r, S (vS k (E r)) (M * k) ↔ S (E r) M := fun r => by rw [Int.mul_comm]; exact hS.2.2.2 k (E r) M hM hk
  exact ⟨fun h r hr => (e r).mp (h r hr), fun h r hr => (e r).mpr (h r hr)⟩
theorem subL_lwr {M g : Int} {E : Nat → V4} {S : V4 → Int → Prop} (hM : 0 < M) (h : gcP M E 16 g) (hS : Grp S) : subL (M / g) (lwr g E) S ↔ subL M E S := by
  have g0 := h.1
  have e := Int.mul_ediv_cancel' h.2.1
  have M0 : 0 < M / g := by
    rcases Int.lt_or_le 0 (M / g) with h1 | h1
    · exact h1
    · have := Int.mul_le_mul_of_nonneg_left h1 (show 0 ≤ g by omega)
      omega
  rw [subL_lat M0 hS, subL_lat hM hS]
  exact ⟨fun hh x N hN hx => hh x N hN ((lwr_lat h x N).mpr hx), fun hh x N hN hx => hh x N hN ((lwr_lat h x N).mp hx)⟩
theorem div_pos {M g : Int} (hM : 0 < M) (hg : 0 < g) (h : g ∣ M) : 0 < M / g := by
  have e := Int.mul_ediv_cancel' h
  rcases Int.lt_or_le 0 (M / g) with h1 | h1
  · exact h1
  · have := Int.mul_le_mul_of_nonneg_left h1 (show 0 ≤ g by omega)
    omega
theorem grp_sub4 {S : V4 → Int → Prop} (hS : Grp S) {L : Int} (hL : 0 < L) : Sub4 (fun x => S x L) :=
  ⟨hS.1 L hL, fun x y hx hy => hS.2.1 x y L hL hx hy, fun k x hx => hS.2.2.1 k x L hL hx⟩
theorem put_sem {m L : Int} {E F G : Nat → V4} {y : V4} {S : V4 → Int → Prop} (hL : 0 < L) (h : addS m E y F) (hs : setS F G) (hS : Grp S) : subL L G S ↔ (subL L E S ∧ S y L) := by
  have s4 := grp_sub4 hS hL
  have e1 := hs.2.2.1 _ s4
  have e2 := h.2.1 _ s4
  exact e1.trans e2
theorem add_sem {m L : Int} {E F : Nat → V4} {y : V4} {S : V4 → Int → Prop} (hL : 0 < L) (h : addS m E y F) (hS : Grp S) : subL L F S ↔ (subL L E S ∧ S y L) := h.2.1 _ (grp_sub4 hS hL)
theorem set_sem {L : Int} {F G : Nat → V4} {S : V4 → Int → Prop} (hL : 0 < L) (hs : setS F G) (hS : Grp S) : subL L G S ↔ subL L F S := hs.2.2.1 _ (grp_sub4 hS hL)
theorem subL_self (M : Int) (E : Nat → V4) : subL M E (latS M E) := fun r hr => latS_row hr
theorem vS_rows {k : Int} {E : Nat → V4} (c : V4) : vC (fun r => vS k (E r)) c = vS k (vC E c) := by
  unfold vC
  simp only [vS_vA]
  rw [vS_comm k c.1, vS_comm k c.2.1, vS_comm k c.2.2.1, vS_comm k c.2.2.2]
theorem rOK_vS {B k : Int} {E : Nat → V4} (hk : 0 < k) (hE : rOK B E) : rOK (B * k) (fun r => vS k (E r)) := by
  obtain ⟨e0, e1, e2, e3⟩ := hE
  refine ⟨Int.mul_pos e0 hk, tri_mk (fun r hr => ?_) (fun r i hi hr => ?_), fun r i h1 h2 => ?_, fun i hi => ?_⟩
  · rw [vg_vS _ _ hr]; exact Int.mul_pos hk (tri_d e1 r hr)
  · rw [vg_vS _ _ (by omega), tri_z e1 r i hi hr, Int.mul_zero]
  · rw [vg_vS _ _ h2]
    have := e2 r i h1 h2
    refine ⟨Int.mul_nonneg (by omega) this.1, ?_⟩
    rw [Int.mul_comm B]
    exact Int.mul_lt_mul_of_pos_left this.2 hk
  · obtain ⟨c, hc⟩ := e3 i hi
    exact ⟨c, by rw [vS_rows, ← hc, vS_vS, Int.mul_comm]⟩
theorem uni_of {M : Int} {E : Nat → V4} (hu : uSp M E) : Uni (latS M E) := fun i hi => by
  obtain ⟨c, hc⟩ := hu i hi
  exact ⟨c, by rw [hc, vS_one]⟩
theorem of_uni {M : Int} {E : Nat → V4} (hU : Uni (latS M E)) : uSp M E := fun i hi => by
  obtain ⟨c, hc⟩ := hU i hi
  exact ⟨c, by rw [hc, vS_one]⟩
/-- a good set: rows in order, lowest terms, all whole fours -/
def gdL (M : Int) (E : Nat → V4) : Prop := rOK M E ∧ Red E ∧ Low M E
theorem gdL_eq {M N : Int} {E F : Nat → V4} (h1 : gdL M E) (h2 : gdL N F) (s1 : subL M E (latS N F)) (s2 : subL N F (latS M E)) : M = N ∧ ∀ i, i < 4 → E i = F i :=
  lat_unique h1.1.1 h2.1.1 h1.1.2.1 h1.2.1 h2.1.2.1 h2.2.1 h1.2.2 h2.2.2 s1 s2
theorem rOK_lwr {M g : Int} {E : Nat → V4} (h : gcP M E 16 g) (rE : Red E) (hE : rOK M E) : gdL (M / g) (lwr g E) := by
  have t := lwr_tri h hE.2.1
  have r := lwr_red h rE
  have m := div_pos hE.1 h.1 h.2.1
  have u : uSp (M / g) (lwr g E) := of_uni (fun i hi => (lwr_lat h _ _).mpr (uni_of hE.2.2.2 i hi))
  exact ⟨red_in m t r u, r, lwr_low h⟩
/-! closed, by the rows -/
theorem vM_addl (a b : Int) (x y z : V4) : vM a b (vA x y) z = vA (vM a b x z) (vM a b y z) := by apply vext <;> simp only [vM, vA] <;> grind
theorem vM_addr (a b : Int) (x y z : V4) : vM a b x (vA y z) = vA (vM a b x y) (vM a b x z) := by apply vext <;> simp only [vM, vA] <;> grind
theorem vM_sl (a b k : Int) (x y : V4) : vM a b (vS k x) y = vS k (vM a b x y) := by have := vM_smul a b k 1 x y; rwa [vS_one, Int.mul_one] at this
theorem vM_sr (a b k : Int) (x y : V4) : vM a b x (vS k y) = vS k (vM a b x y) := by have := vM_smul a b 1 k x y; rwa [vS_one, Int.one_mul] at this
theorem prd_lat {a b M N P : Int} {E F : Nat → V4} {S : V4 → Int → Prop} (hS : Grp S) (hM : 0 < M) (hP : 0 < P) (h : ∀ r s, r < 4 → s < 4 → S (vM a b (E r) (F s)) (M * P)) {x y : V4} {K : Int} (hN : 0 < N) (hK : 0 < K) (hx : latS M E x N) (hy : latS P F y K) : S (vM a b x y) (N * K) := by
  obtain ⟨c, hc⟩ := hx
  obtain ⟨d, hd⟩ := hy
  have MP : 0 < M * P := Int.mul_pos hM hP
  obtain ⟨g0, g1, g2, g3⟩ := hS
  have key : S (vM a b (vC E c) (vC F d)) (M * P) := by
    have row : ∀ r, r < 4 → S (vM a b (E r) (vC F d)) (M * P) := fun r hr => by
      unfold vC
      simp only [vM_addr, vM_sr]
      exact g1 _ _ _ MP (g2 _ _ _ MP (h r 0 hr (by omega))) (g1 _ _ _ MP (g2 _ _ _ MP (h r 1 hr (by omega))) (g1 _ _ _ MP (g2 _ _ _ MP (h r 2 hr (by omega))) (g2 _ _ _ MP (h r 3 hr (by omega)))))
    have e : vM a b (vC E c) (vC F d) = vA (vS c.1 (vM a b (E 0) (vC F d))) (vA (vS c.2.1 (vM a b (E 1) (vC F d))) (vA (vS c.2.2.1 (vM a b (E 2) (vC F d))) (vS c.2.2.2 (vM a b (E 3) (vC F d))))) := by
      rw [show vC E c = vA (vS c.1 (E 0)) (vA (vS c.2.1 (E 1)) (vA (vS c.2.2.1 (E 2)) (vS c.2.2.2 (E 3)))) from rfl]
      simp only [vM_addl, vM_sl]
    rw [e]
    exact g1 _ _ _ MP (g2 _ _ _ MP (row 0 (by omega))) (g1 _ _ _ MP (g2 _ _ _ MP (row 1 (by omega))) (g1 _ _ _ MP (g2 _ _ _ MP (row 2 (by omega))) (g2 _ _ _ MP (row 3 (by omega)))))
  refine Grp.eq ⟨g0, g1, g2, g3⟩ (Int.mul_pos hN hK) MP ?_ key
  rw [← vM_smul, ← vM_smul, hc, hd]
theorem clo_rows {a b M : Int} {E : Nat → V4} (hM : 0 < M) (h : ∀ r s, r < 4 → s < 4 → latS M E (vM a b (E r) (E s)) (M * M)) : Clo a b (latS M E) := fun _ _ _ _ hN hK hx hy => prd_lat latS_grp hM hM h hN hK hx hy
theorem who_le {a b : Int} {S T : V4 → Int → Prop} (h : ∀ x N, 0 < N → S x N → T x N) (hT : Who a b T) : Who a b S := fun x N hN hx => hT x N hN (h x N hN hx)
/-! isWhole of the reference -/
theorem tmod0 {x m : Int} : x.tmod m = 0 ↔ m ∣ x := ⟨Int.dvd_of_tmod_eq_zero, Int.tmod_eq_zero_of_dvd⟩
theorem tm_rng (x m : Int) (h : -9223372036854775808 ≤ x ∧ x < 9223372036854775808) (hm : 0 < m) : -9223372036854775808 ≤ x.tmod m ∧ x.tmod m < 9223372036854775808 := by
  by_cases h0 : 0 ≤ x
  · rw [Int.tmod_eq_emod_of_nonneg h0]
    have := Int.emod_nonneg x (show m ≠ 0 by omega)
    have e1 := Int.mul_ediv_add_emod x m
    have e2 := Int.mul_nonneg (show 0 ≤ m by omega) (Int.ediv_nonneg h0 (show 0 ≤ m by omega))
    omega
  · have e : x.tmod m = -((-x) % m) := by
      rw [← Int.tmod_eq_emod_of_nonneg (show 0 ≤ -x by omega), Int.neg_tmod, Int.neg_neg]
    have := Int.emod_nonneg (-x) (show m ≠ 0 by omega)
    have e1 := Int.mul_ediv_add_emod (-x) m
    have e2 := Int.mul_nonneg (show 0 ≤ m by omega) (Int.ediv_nonneg (show 0 ≤ -x by omega) (show 0 ≤ m by omega))
    omega
def whR (a b M : Int) (E : Nat → V4) (n : Nat) : Prop := ∀ r, r < n → r < 4 → (M ∣ 2 * vg 0 (E r) ∧ M * M ∣ vN a b (E r)) ∧ ∀ s, s < r → M * M ∣ vB a b (E r) (E s)
theorem whR_4 {a b M : Int} {E : Nat → V4} : whR a b M E 4 ↔ rWho a b M E := ⟨fun h r hr => h r hr hr, fun h r hr _ => h r hr⟩
theorem pr_rng {a b M : Int} {x y : V4} (ha : -60 ≤ a ∧ a ≤ 60) (hb : -60 ≤ b ∧ b ≤ 60) (hM : 0 ≤ M ∧ M ≤ 10000000) (hx : ∀ i, i < 4 → -M ≤ vg i x ∧ vg i x ≤ M) (hy : ∀ i, i < 4 → -M ≤ vg i y ∧ vg i y ≤ M) : -1000000000000000000 ≤ x.1 * y.1 - a * x.2.1 * y.2.1 - b * x.2.2.1 * y.2.2.1 + a * b * x.2.2.2 * y.2.2.2 ∧ x.1 * y.1 - a * x.2.1 * y.2.1 - b * x.2.2.1 * y.2.2.1 + a * b * x.2.2.2 * y.2.2.2 ≤ 1000000000000000000 := by
  have x0 := hx 0 (by omega)
  have x1 := hx 1 (by omega)
  have x2 := hx 2 (by omega)
  have x3 := hx 3 (by omega)
  have y0 := hy 0 (by omega)
  have y1 := hy 1 (by omega)
  have y2 := hy 2 (by omega)
  have y3 := hy 3 (by omega)
  simp only [vg] at x0 x1 x2 x3 y0 y1 y2 y3
  have m0 := mul_rng (x := x.1) (y := y.1) (A := 10000000) (B := 10000000) (by omega) (by omega) (by omega)
  have m1 := mul_rng (x := a) (y := x.2.1) (A := 60) (B := 10000000) (by omega) (by omega) (by omega)
  have m1' := mul_rng (x := a * x.2.1) (y := y.2.1) (A := 60 * 10000000) (B := 10000000) m1 (by omega) (by omega)
  have m2 := mul_rng (x := b) (y := x.2.2.1) (A := 60) (B := 10000000) (by omega) (by omega) (by omega)
  have m2' := mul_rng (x := b * x.2.2.1) (y := y.2.2.1) (A := 60 * 10000000) (B := 10000000) m2 (by omega) (by omega)
  have m3 := mul_rng (x := a) (y := b) (A := 60) (B := 60) (by omega) (by omega) (by omega)
  have m4 := mul_rng (x := a * b) (y := x.2.2.2) (A := 60 * 60) (B := 10000000) m3 (by omega) (by omega)
  have m5 := mul_rng (x := a * b * x.2.2.2) (y := y.2.2.2) (A := 60 * 60 * 10000000) (B := 10000000) m4 (by omega) (by omega)
  omega
def rB2 (E : Nat → V4) (M : Int) : Prop := ∀ r, r < 4 → ∀ i, i < 4 → -M ≤ vg i (E r) ∧ vg i (E r) ≤ M
theorem rB2_of {M : Int} {E : Nat → V4} (hE : rOK M E) : rB2 E M := fun r hr i hi => by
  have hM := hE.1
  rcases (show i < r ∨ i = r ∨ r < i by omega) with h | h | h
  · rw [tri_z hE.2.1 r i h hr]; omega
  · have := Int.le_of_dvd hM (dia_dvd hE.2.1 hE.2.2.2 hr)
    have := tri_d hE.2.1 r hr
    rw [h]; omega
  · have := hE.2.2.1 r i h hi; omega
theorem wholeL107 {τ : mSt} {l al r : Nat} {a b M : Int} {E : Nat → V4} {x : mSt → Option (Int × mSt)} (hL : Lay τ) (hl : l < 10) (hr : r < 4) (hE : ∀ r, r < 4 → rowL τ l r = E r) (ha : -60 ≤ a ∧ a ≤ 60) (hb : -60 ≤ b ∧ b ≤ 60) (hM : 0 < M ∧ M ≤ 10000000) (hB : rB2 E M) : ∀ (m s N : Nat) (w : V4), s + m = r → m < N → ∃ w', ((∀ s', s ≤ s' → s' < r → M * M ∣ vB a b (E r) (E s')) → mX12_isWhole_L107 253 (l : Int) (al : Int) a b M (r : Int) x N (s : Int) (stV (stV τ 265 (E r)) 266 w) = x (stV (stV τ 265 (E r)) 266 w')) ∧ (¬ (∀ s', s ≤ s' → s' < r → M * M ∣ vB a b (E r) (E s')) → mX12_isWhole_L107 253 (l : Int) (al : Int) a b M (r : Int) x N (s : Int) (stV (stV τ 265 (E r)) 266 w) = some (0, stV (stV τ 265 (E r)) 266 w')) := by
  intro m
  induction m with
  | zero =>
    intro s N w h1 h2
    obtain ⟨N, rfl⟩ : ∃ q, N = q + 1 := ⟨N - 1, by omega⟩
    refine ⟨w, fun _ => ?_, fun z => absurd (fun s' p1 p2 => by omega) z⟩
    rw [mX12_isWhole_L107.eq_2, if_pos (by rw [wI_id (x := (r : Int)) (by omega), wI_id (x := (s : Int)) (by omega)]; omega)]
  | succ m ih =>
    intro s N w h1 h2
    obtain ⟨N, rfl⟩ : ∃ q, N = q + 1 := ⟨N - 1, by omega⟩
    have hs : s < 4 := by omega
    have l := lay253 hL
    have l25 := l.2.2.2.2.2.2.2.2.2.2.2.1
    have l26 := l.2.2.2.2.2.2.2.2.2.2.2.2.1
    have l29 := l.2.2.2.2.2.2.2.2.2.2.2.2.2.2.2.1
    have u : ∀ w' i j, i ≠ 265 → i ≠ 266 → stV (stV τ 265 (E r)) 266 w' i j = τ i j := fun w' i j p1 p2 => by rw [stV_ne _ _ _ _ _ p2, stV_ne _ _ _ _ _ p1]
    have tr := takesRow1_e (τ := stV (stV τ 265 (E r)) 266 w) (l := _) (r := s) (by rw [u _ _ _ (by omega) (by omega)]; exact l29) (by rw [u _ _ _ (by omega) (by omega)]; exact l26) hl hs
    have rl' : rowL (stV (stV τ 265 (E r)) 266 w) _ s = E s := (show rowL (stV (stV τ 265 (E r)) 266 w) _ s = rowL τ _ s by rw [rowL_congr (σ := τ) (funext fun j => u w 269 j (by omega) (by omega))]).trans (hE s hs)
    rw [rl'] at tr
    have e2 : stV (stV (stV τ 265 (E r)) 266 w) 266 (E s) = stV (stV τ 265 (E r)) 266 (E s) := by funext p q; simp only [stV, st4, upS]; grind
    rw [e2] at tr
    obtain ⟨w', hw'⟩ := ih (s + 1) N (E s) (by omega) (by omega)
    have g5 : ∀ i, i < 4 → stV (stV τ 265 (E r)) 266 (E s) 265 i = vg i (E r) := fun i hi => by rw [stV_ne _ _ _ _ _ (by omega), vg_stV _ _ _ hi]
    have g6 : ∀ i, i < 4 → stV (stV τ 265 (E r)) 266 (E s) 266 i = vg i (E s) := fun i hi => vg_stV _ _ _ hi
    have pr := pr_rng (x := E r) (y := E s) ha hb (by omega) (hB r hr) (hB s hs)
    have MM := mul_rng (x := M) (y := M) (A := 10000000) (B := 10000000) (by omega) (by omega) (by omega)
    have MM0 : 0 < M * M := Int.mul_pos hM.1 hM.1
    rw [mX12_isWhole_L107.eq_2, if_neg (by rw [wI_id (x := (r : Int)) (by omega), wI_id (x := (s : Int)) (by omega)]; omega), tr, mCall_some]
    simp (disch := first | omega | (rw [u _ _ _ (by omega) (by omega)]; assumption)) only [gr' (r := 265) ((u (E s) 253 25 (by omega) (by omega)).trans l25), gr' (r := 266) ((u (E s) 253 26 (by omega) (by omega)).trans l26), gx265, gx266, g5, g6]
    rw [bnd_eq, wL_id (x := M * M) (by omega), mG_pos (by omega)]
    simp only [vg]
    rw [wL_id (x := 2 * _) (by omega)]
    have vb : 2 * ((E r).1 * (E s).1 - a * (E r).2.1 * (E s).2.1 - b * (E r).2.2.1 * (E s).2.2.1 + a * b * (E r).2.2.2 * (E s).2.2.2) = vB a b (E r) (E s) := rfl
    rw [vb]
    by_cases hd : M * M ∣ vB a b (E r) (E s)
    · rw [if_pos (by rw [wL_id (x := Int.tmod _ _) (by rw [tmod0.mpr hd]; omega)]; exact tmod0.mpr hd), bnd_eq, show (s : Int) + 1 = ((s + 1 : Nat) : Int) by omega]
      refine ⟨w', fun z => hw'.1 (fun s' p1 p2 => z s' (by omega) p2), fun z => hw'.2 (fun z2 => z (fun s' p1 p2 => by
        by_cases hss : s' = s
        · rw [hss]; exact hd
        · exact z2 s' (by omega) p2))⟩
    · refine ⟨E s, fun z => absurd (z s (by omega) (by omega)) hd, fun _ => ?_⟩
      rw [if_neg (fun z => hd (tmod0.mp (by rw [wL_id (x := Int.tmod _ _) (tm_rng _ _ (by omega) (by omega))] at z; exact z)))]

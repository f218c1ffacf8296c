theorem stV_comm (σ : mSt) (r s : Nat) (v w : V4) (h : r ≠ s) : stV (stV σ r v) s w = stV (stV σ s w) r v := by
  funext a b
  rw [stV_at, stV_at, stV_at, stV_at]
  by_cases h1 : a = s ∧ b < 4
  · rw [if_pos h1, if_neg (by omega), if_pos h1]
  · rw [if_neg h1]
    by_cases h2 : a = r ∧ b < 4
    · rw [if_pos h2, if_pos h2]
    · rw [if_neg h2, if_neg h2, if_neg h1]
theorem Lay.stV {σ : mSt} (h : Lay σ) {r : Nat} {v : V4} (hr : shp r = (21, 4)) : Lay (stV σ r v) :=
  h.frm (W := fun i _ => i = r) (frm.stV (frm.rf σ) (fun _ => rfl)) (fun i j z => by rw [z]; exact fixR_data (by rw [hr]; exact Or.inr (Or.inl rfl)) j)
theorem rwC_stV (σ : mSt) (o r : Nat) (v : V4) (h : r < o + 2 ∨ o + 6 ≤ r) : ∀ i, i < 4 → rwC (stV σ r v) o i = rwC σ o i := fun i hi => by
  unfold rwC
  exact rowV_ne _ _ _ _ (by omega)
theorem vC_inj {E : Nat → V4} (hT : Tri E) {c d : V4} (h : vC E c = vC E d) : c = d := by
  have key : vC E (vA c (vS (-1) d)) = v0 := by
    rw [vC_add, vC_smul, h]
    apply vext <;> simp only [vA, vS, v0] <;> omega
  obtain ⟨p0, z10, p1, z20, z21, p2, z30, z31, z32, p3⟩ := hT
  have h0 := congrArg (fun z : V4 => z.1) key
  have h1 := congrArg (fun z : V4 => z.2.1) key
  have h2 := congrArg (fun z : V4 => z.2.2.1) key
  have h3 := congrArg (fun z : V4 => z.2.2.2) key
  simp only [vC, vA, vS, v0, z10, z20, z21, z30, z31, z32, Int.mul_zero, Int.add_zero] at h0 h1 h2 h3
  have a0 := mz p0 h0.symm rfl
  rw [a0, Int.zero_mul, Int.zero_add] at h1 h2 h3
  have a1 := mz p1 h1.symm rfl
  rw [a1, Int.zero_mul, Int.zero_add] at h2 h3
  have a2 := mz p2 h2.symm rfl
  rw [a2, Int.zero_mul, Int.zero_add] at h3
  have a3 := mz p3 h3.symm rfl
  exact vext (by omega) (by omega) (by omega) (by omega)
/-! class: a four over a number, times a factor, by rows -/
theorem eoL3 {σ : mSt} {O num to i n : Nat} {dv f : Int} {u : V4} {xx : mSt → Option (Int × mSt)} (hn : shp num = (21, 4)) (ht : shp to = (21, 4)) (hne : num ≠ to) (hi : i < 4) (hd : 0 < dv ∧ dv < 9223372036854775808) (hr : -9223372036854775808 ≤ vg i (rowV σ num) * f ∧ vg i (rowV σ num) * f < 9223372036854775808) : mX6_expressOver_L3 O num dv to f xx (n + 1) (i : Int) (stV σ to u) = if dv ∣ vg i (rowV σ num) * f then mX6_expressOver_L3 O num dv to f xx n ((i + 1 : Nat) : Int) (stV σ to (vU u i (vg i (rowV σ num) * f / dv))) else some (0, stV σ to u) := by
  rw [mX6_expressOver_L3.eq_2, if_neg (by rw [wI_id (by omega)]; omega), gx hn _ (by omega), wI_nat (by omega), stV_ne _ _ _ _ _ hne, ← vg_rowV σ num hi, div_e _ _ _ hr (by omega), mCall_some]
  by_cases hdv : dv ∣ vg i (rowV σ num) * f
  · rw [b2_t ⟨by omega, hdv⟩, if_neg (by decide), if_pos hdv, stV_ne _ _ _ _ _ hne, ← vg_rowV σ num hi, quot_e _ _ _ hd.1 hr hd.2, mCall_some, gx ht _ (by omega), bnd_eq, bnd_eq, stV_up _ _ _ _ hi]
    rfl
  · rw [b2_f (fun z => hdv z.2), if_pos (by decide), if_neg hdv]
theorem exprOver_e {σ : mSt} {O o num to : Nat} {dv f U : Int} (hL : Lay σ) (hO : shp O = (5, 0)) (hOo : σ O 2 = ((o : Nat) : Int)) (ho : o ∈ latIds) (hO0 : to ≠ O) (hn : shp num = (21, 4)) (ht : shp to = (21, 4)) (hto : to < o ∨ o + 6 ≤ to) (hne : num ≠ to) (hd : 0 < dv ∧ dv < 9223372036854775808) (hr : ∀ i, i < 4 → -9223372036854775808 ≤ vg i (rowV σ num) * f ∧ vg i (rowV σ num) * f < 9223372036854775808) (hE : exR (rwC σ o)) (hU : 0 ≤ U ∧ U ≤ 10000000000) (hx : exB (rwC σ o) 0 U (vk (fun i => vg i (rowV σ num) * f / dv))) : ∃ y, mX6_expressOver O num dv to f σ = some (b2 ((∀ i, i < 4 → dv ∣ vg i (rowV σ num) * f) ∧ spn (rwC σ o) (vk (fun i => vg i (rowV σ num) * f / dv))), stV σ to y) ∧ (((∀ i, i < 4 → dv ∣ vg i (rowV σ num) * f) ∧ spn (rwC σ o) (vk (fun i => vg i (rowV σ num) * f / dv))) → vk (fun i => vg i (rowV σ num) * f / dv) = vC (rwC σ o) y) := by
  have ho0 : o ≠ 0 := by
    intro h
    rw [h] at ho
    exact absurd ho (by decide)
  obtain ⟨g, hg⟩ := mF5
  have step := fun (i n : Nat) (u : V4) (hi : i < 4) => eoL3 (O := O) (f := f) (n := n) (u := u) (xx := fun zσ => mX6_expressOver_B47 O num dv to f zσ) hn ht hne hi hd (hr i hi)
  unfold mX6_expressOver
  rw [gc hO, hg]
  obtain ⟨v, hv⟩ : ∃ v, v = rowV σ num := ⟨_, rfl⟩
  rw [← hv] at step hx ⊢
  have e0 : mX6_expressOver_L3 O num dv to f (fun zσ => mX6_expressOver_B47 O num dv to f zσ) (g + 6) 0 σ = mX6_expressOver_L3 O num dv to f (fun zσ => mX6_expressOver_B47 O num dv to f zσ) (g + 5 + 1) ((0 : Nat) : Int) (stV σ to (rowV σ to)) := by rw [stV_self]; rfl
  rw [e0, step 0 _ _ (by omega)]
  have no : ∀ {i : Nat} {u : V4}, i < 4 → ¬ dv ∣ vg i v * f → ∃ y, some ((0 : Int), stV σ to u) = some (b2 ((∀ i, i < 4 → dv ∣ vg i v * f) ∧ spn (rwC σ o) (vk (fun i => vg i v * f / dv))), stV σ to y) ∧ (((∀ i, i < 4 → dv ∣ vg i v * f) ∧ spn (rwC σ o) (vk (fun i => vg i v * f / dv))) → vk (fun i => vg i v * f / dv) = vC (rwC σ o) y) := fun {i u} hi h => ⟨u, by rw [b2_f (fun z => h (z.1 i hi))], fun z => absurd (z.1 i hi) h⟩
  by_cases d0 : dv ∣ vg 0 v * f
  · rw [if_pos d0, step 1 _ _ (by omega)]
    by_cases d1 : dv ∣ vg 1 v * f
    · rw [if_pos d1, step 2 _ _ (by omega)]
      by_cases d2 : dv ∣ vg 2 v * f
      · rw [if_pos d2, step 3 _ _ (by omega)]
        by_cases d3 : dv ∣ vg 3 v * f
        · rw [if_pos d3, mX6_expressOver_L3.eq_2, if_pos (by decide)]
          rw [show vU (vU (vU (vU (rowV σ to) 0 (vg 0 v * f / dv)) 1 (vg 1 v * f / dv)) 2 (vg 2 v * f / dv)) 3 (vg 3 v * f / dv) = vk (fun i => vg i v * f / dv) from rfl]
          have all : ∀ i, i < 4 → dv ∣ vg i v * f := fun i hi => lt4 (p := fun i => dv ∣ vg i v * f) d0 d1 d2 d3 hi
          obtain ⟨y, ey, hy⟩ := express_e (w := to) (x := vk (fun i => vg i v * f / dv)) hL ho ht hto hE hU hx
          refine ⟨y, ?_, fun z => hy z.2⟩
          unfold mX6_expressOver_B47
          rw [gr' (r := o) (by rw [stV_ne _ _ _ _ _ (by omega)]; exact hOo) ho0, ey, mCall_some, mG_pos (b2_01 _), b2_iff (q := (∀ i, i < 4 → dv ∣ vg i v * f) ∧ spn (rwC σ o) (vk (fun i => vg i v * f / dv))) ⟨fun z => ⟨all, z⟩, fun z => z.2⟩]
        · rw [if_neg d3]
          exact no (by omega) d3
      · rw [if_neg d2]
        exact no (by omega) d2
    · rw [if_neg d1]
      exact no (by omega) d1
  · rw [if_neg d0]
    exact no (by omega) d0
theorem latS_div {M dv : Int} {E : Nat → V4} {v : V4} (hd : 0 < dv) : latS M E v dv ↔ ((∀ i, i < 4 → dv ∣ vg i v * M) ∧ spn E (vk (fun i => vg i v * M / dv))) := by
  constructor
  · rintro ⟨c, hc⟩
    have e : ∀ i, i < 4 → vg i v * M = dv * vg i (vC E c) := fun i hi => by
      rw [← vg_vS dv _ hi, ← hc, vg_vS _ _ hi, Int.mul_comm]
    refine ⟨fun i hi => ⟨_, e i hi⟩, c, vg_ext fun i hi => ?_⟩
    rw [vg_vk _ hi, e i hi, Int.mul_ediv_cancel_left _ (by omega)]
  · rintro ⟨h, c, hc⟩
    refine ⟨c, vg_ext fun i hi => ?_⟩
    rw [vg_vS _ _ hi, vg_vS _ _ hi, ← hc, vg_vk _ hi, Int.mul_ediv_cancel' (h i hi), Int.mul_comm]
/-! reference: holds -/
theorem tm_dvd {a b : Int} (h1 : -9223372036854775808 ≤ a ∧ a < 9223372036854775808) : wL (a.tmod b) = 0 ↔ b ∣ a := by
  rw [wL_id (tmod_lt63 a b h1)]
  exact ⟨fun h => Int.dvd_of_tmod_eq_zero h, fun h => Int.tmod_eq_zero_of_dvd h⟩
theorem hoL3 {τ : mSt} {l c n : Nat} {M over g d : Int} {v : V4} {xx : mSt → Option (Int × mSt)} (l30 : τ 253 30 = ((270 : Nat) : Int)) (l32 : τ 253 32 = ((272 : Nat) : Int)) (hl : l < 10) (hc : c < 4) (hM : τ 270 l = M) (hM0 : 0 < M ∧ M < 9223372036854775808) (ho : 0 < over ∧ over < 9223372036854775808) (hg : g = (Int.gcd M over : Int)) (hd : over = g * d) (hr : -9223372036854775808 ≤ vg c v ∧ vg c v < 9223372036854775808) : mX12_holds_L3 253 (l : Int) over xx (n + 1) (c : Int) (stV τ 272 v) = if d ∣ vg c v then mX12_holds_L3 253 (l : Int) over xx n ((c + 1 : Nat) : Int) (stV τ 272 (vU v c (vg c v / d))) else some (0, stV τ 272 v) := by
  have g0 := gcd_le (a := M) (b := over) hM0.1
  rw [← hg] at g0
  have d0 : 0 < d := by
    rcases Int.lt_or_le 0 d with h | h
    · exact h
    · have := Int.mul_le_mul_of_nonneg_left h (show 0 ≤ g by omega)
      omega
  have d1 : d ≤ over := by
    have := Int.mul_le_mul_of_nonneg_right (show 1 ≤ g by omega) (show 0 ≤ d by omega)
    omega
  have td : over.tdiv g = d := by rw [hd, Int.mul_tdiv_cancel_left _ (by omega)]
  rw [mX12_holds_L3.eq_2, if_neg (by rw [wI_id (by omega)]; omega), gr' (r := 270) (by rw [stV_ne _ _ _ _ _ (by omega)]; exact l30) (by omega), gx270 _ (by omega), wI_nat (by omega), stV_ne _ _ _ _ _ (by omega), hM, com_e _ _ _ (by omega) (by omega), mCall_some, ← hg, mG_pos (by rw [wL_id (by omega)]; omega), wL_id (x := over) (by omega), wL_id (x := g) (by omega), td, bnd_eq, gr' (r := 272) (by rw [stV_ne _ _ _ _ _ (by omega)]; exact l32) (by omega), gx272 _ (by omega), mG_pos (by rw [wL_id (by omega)]; omega), wI_nat (by omega), vg_stV _ _ _ hc, wL_id (x := vg c v) hr, wL_id (x := d) (by omega)]
  by_cases hdv : d ∣ vg c v
  · rw [if_pos ((tm_dvd hr).mpr hdv), if_pos hdv, gr' (r := 272) (by rw [stV_ne _ _ _ _ _ (by omega)]; exact l32) (by omega), gr' (r := 272) (by rw [stV_ne _ _ _ _ _ (by omega)]; exact l32) (by omega), gx272 _ (by omega), gx272 _ (by omega), bnd_eq, bnd_eq, vg_stV _ _ _ hc, wL_id (x := vg c v) hr, Int.tdiv_eq_ediv_of_dvd hdv, stV_up _ _ _ _ hc]
    rfl
  · rw [if_neg (fun z => hdv ((tm_dvd hr).mp z)), if_neg hdv]
theorem hoL89 {τ : mSt} {l : Nat} {over up : Int} {xx : mSt → Option (Int × mSt)} {v : V4} (l32 : τ 253 32 = ((272 : Nat) : Int)) (f : Nat) : mX12_holds_L89 253 (l : Int) over up xx (f + 5) 0 (stV τ 272 v) = xx (stV τ 272 (vk (fun i => vg i v * up))) := by
  have step : ∀ (c n : Nat) (u : V4), c < 4 → mX12_holds_L89 253 (l : Int) over up xx (n + 1) (c : Int) (stV τ 272 u) = mX12_holds_L89 253 (l : Int) over up xx n ((c + 1 : Nat) : Int) (stV τ 272 (vU u c (vg c u * up))) := by
    intro c n u hc
    rw [mX12_holds_L89.eq_2, if_neg (by rw [wI_id (by omega)]; omega), gr' (r := 272) (by rw [stV_ne _ _ _ _ _ (by omega)]; exact l32) (by omega), gx272 _ (by omega), bnd_eq, bnd_eq, wI_nat (by omega), vg_stV _ _ _ hc, stV_up _ _ _ _ hc]
    rfl
  rw [show (0 : Int) = ((0 : Nat) : Int) from rfl, step 0 _ _ (by omega), step 1 _ _ (by omega), step 2 _ _ (by omega), step 3 _ _ (by omega), mX12_holds_L89.eq_2, if_pos (by decide)]
  rfl
def hoP (E : Nat → V4) (r c : Nat) (q : Int) (v : V4) : V4 := vk (fun j => if r ≤ j ∧ j < c then vg j v - q * vg j (E r) else vg j v)
theorem hoL174 {τ : mSt} {l r : Nat} {over q : Int} {xx : mSt → Option (Int × mSt)} {v y : V4} (l29 : τ 253 29 = ((269 : Nat) : Int)) (l32 : τ 253 32 = ((272 : Nat) : Int)) (l33 : τ 253 33 = ((273 : Nat) : Int)) (hl : l < 10) (hr : r < 4) (hq : vg r y = q) : ∀ (m c n : Nat), r ≤ c → c + m = 4 → m < n → mX12_holds_L174 253 (l : Int) over (r : Int) xx n (c : Int) (stV (stV τ 272 (hoP (rowL τ l) r c q v)) 273 y) = xx (stV (stV τ 272 (hoP (rowL τ l) r 4 q v)) 273 y) := by
  intro m
  induction m with
  | zero =>
    intro c n h0 h1 h2
    obtain ⟨n, rfl⟩ : ∃ q, n = q + 1 := ⟨n - 1, by omega⟩
    rw [mX12_holds_L174.eq_2, if_pos (by rw [wI_id (by omega)]; omega), show c = 4 by omega]
  | succ m ih =>
    intro c n h0 h1 h2
    obtain ⟨n, rfl⟩ : ∃ q, n = q + 1 := ⟨n - 1, by omega⟩
    have lz : ∀ (i j : Nat) (u : V4), i ≠ 272 → i ≠ 273 → stV (stV τ 272 u) 273 y i j = τ i j := fun i j u a b => by rw [stV_ne _ _ _ _ _ b, stV_ne _ _ _ _ _ a]
    rw [mX12_holds_L174.eq_2, if_neg (by rw [wI_id (by omega)]; omega), gr' (r := 272) (by rw [lz _ _ _ (by omega) (by omega)]; exact l32) (by omega), gx272 _ (by omega), gr' (r := 273) (by rw [lz _ _ _ (by omega) (by omega)]; exact l33) (by omega), gx273 _ (by omega), get_e (by rw [lz _ _ _ (by omega) (by omega)]; exact l29) ⟨hl, by omega, by omega, by omega, by omega⟩, mCall_some, Int.toNat_natCast, Int.toNat_natCast, lz 269 _ _ (by omega) (by omega), rowL_at τ l hr (show c < 4 by omega), bnd_eq, bnd_eq, wI_nat (by omega), wI_nat (by omega), vg_stV _ _ _ hr, hq, stV_ne _ _ _ _ _ (by omega), vg_stV _ _ _ (by omega), stV_comm _ _ _ _ _ (by omega), stV_up _ _ _ _ (by omega), stV_comm _ _ _ _ _ (by omega), show (c : Int) + 1 = ((c + 1 : Nat) : Int) by omega]
    rw [show vU (hoP (rowL τ l) r c q v) c (vg c (hoP (rowL τ l) r c q v) - q * vg c (rowL τ l r)) = hoP (rowL τ l) r (c + 1) q v by
      refine vg_ext (fun j hj => ?_)
      unfold hoP
      rw [vg_vU _ _ _ hj, vg_vk _ hj, vg_vk _ hj, vg_vk _ (by omega)]
      by_cases hji : j = c
      · rw [if_pos hji, if_neg (by omega), if_pos (by omega), hji]
      · rw [if_neg hji]
        by_cases h3 : r ≤ j ∧ j < c
        · rw [if_pos h3, if_pos (by omega)]
        · rw [if_neg h3, if_neg (by omega)]]
    exact ih (c + 1) n (by omega) (by omega) (by omega)
theorem hoL116 {τ : mSt} {l r n : Nat} {over : Int} {xx : mSt → Option (Int × mSt)} {x y : V4} (l29 : τ 253 29 = ((269 : Nat) : Int)) (l32 : τ 253 32 = ((272 : Nat) : Int)) (l33 : τ 253 33 = ((273 : Nat) : Int)) (hl : l < 10) (hr : r < 4) (hT : Tri (rowL τ l)) (hE : 0 < vg r (rowL τ l r) ∧ vg r (rowL τ l r) < 9223372036854775808) (hx : -9223372036854775808 ≤ vg r x ∧ vg r x < 9223372036854775808) : mX12_holds_L116 253 (l : Int) over xx (n + 1) (r : Int) (stV (stV τ 272 (tlv r x)) 273 y) = if vg r (rowL τ l r) ∣ vg r x then mX12_holds_L116 253 (l : Int) over xx n ((r + 1 : Nat) : Int) (stV (stV τ 272 (tlv (r + 1) (exS (rowL τ l) r x))) 273 (vU y r (exQ (rowL τ l) r x))) else some (0, stV (stV τ 272 (tlv r x)) 273 y) := by
  have lz : ∀ (i j : Nat) (u w : V4), i ≠ 272 → i ≠ 273 → stV (stV τ 272 u) 273 w i j = τ i j := fun i j u w a b => by rw [stV_ne _ _ _ _ _ b, stV_ne _ _ _ _ _ a]
  have tr : vg r (tlv r x) = vg r x := by unfold tlv; rw [vg_vk _ hr, if_neg (by omega)]
  rw [mX12_holds_L116.eq_2, if_neg (by rw [wI_id (by omega)]; omega), gr' (r := 272) (by rw [lz _ _ _ _ (by omega) (by omega)]; exact l32) (by omega), gx272 _ (by omega), get_e (by rw [lz _ _ _ _ (by omega) (by omega)]; exact l29) ⟨hl, by omega, by omega, by omega, by omega⟩, mCall_some, Int.toNat_natCast, lz 269 _ _ _ (by omega) (by omega), rowL_at τ l hr hr, mG_pos (by rw [wL_id (by omega)]; omega), wI_nat (by omega), stV_ne _ _ _ _ _ (by omega), vg_stV _ _ _ hr, tr, wL_id (x := vg r x) hx, wL_id (x := vg r (rowL τ l r)) (by omega)]
  by_cases hd : vg r (rowL τ l r) ∣ vg r x
  · rw [if_pos ((tm_dvd hx).mpr hd), if_pos hd, gr' (r := 273) (by rw [lz _ _ _ _ (by omega) (by omega)]; exact l33) (by omega), gr' (r := 272) (by rw [lz _ _ _ _ (by omega) (by omega)]; exact l32) (by omega), gx272 _ (by omega), get_e (by rw [lz _ _ _ _ (by omega) (by omega)]; exact l29) ⟨hl, by omega, by omega, by omega, by omega⟩, mCall_some, Int.toNat_natCast, lz 269 _ _ _ (by omega) (by omega), rowL_at τ l hr hr, mG_pos (by rw [wL_id (by omega)]; omega), gx273 _ (by omega), stV_ne _ _ _ _ _ (by omega), vg_stV _ _ _ hr, tr, wL_id (x := vg r x) hx, wL_id (x := vg r (rowL τ l r)) (by omega), Int.tdiv_eq_ediv_of_dvd hd, bnd_eq, stV_up _ _ _ _ hr]
    have := hoL174 (τ := τ) (over := over) (v := tlv r x) (y := vU y r (vg r x / vg r (rowL τ l r))) (xx := fun zσ => mX12_holds_B213 253 (l : Int) over (mX12_holds_L116 253 (l : Int) over xx n) xx (r : Int) zσ) l29 l32 l33 hl hr (q := exQ (rowL τ l) r x) (by rw [vg_vU _ _ _ hr, if_pos rfl]; rfl) (4 - r) r mF (by omega) (by omega) (by unfold mF; omega)
    rw [show hoP (rowL τ l) r r (exQ (rowL τ l) r x) (tlv r x) = tlv r x from vg_ext fun j hj => by unfold hoP; rw [vg_vk _ hj, if_neg (by omega)]] at this
    refine this.trans ?_
    unfold mX12_holds_B213
    rw [bnd_eq, show (r : Int) + 1 = ((r + 1 : Nat) : Int) by omega]
    rw [show hoP (rowL τ l) r 4 (exQ (rowL τ l) r x) (tlv r x) = tlv (r + 1) (exS (rowL τ l) r x) from vg_ext fun j hj => by
      unfold hoP tlv exS
      rw [vg_vk _ hj, vg_vk _ hj, vg_vk _ hj, vg_vk _ hj]
      rcases (show j < r ∨ j = r ∨ r < j by omega) with h3 | h3 | h3
      · rw [if_neg (by omega), if_pos h3, if_pos (by omega)]
      · have e : vg r (rowL τ l r) * exQ (rowL τ l) r x = vg r x := Int.mul_ediv_cancel' hd
        rw [Int.mul_comm] at e
        rw [if_pos (by omega), if_neg (by omega), if_pos (by omega), h3]
        omega
      · rw [if_pos (by omega), if_neg (by omega), if_neg (by omega), if_neg (by omega), if_pos h3]]
    rfl
  · rw [if_neg (fun z => hd ((tm_dvd hx).mp z)), if_neg hd]

/-! holdsBy -/
theorem hbL15 {τ : mSt} {d g e : Int} {u : V4} {x : mSt → Option (Int × mSt)} (l32 : τ 253 32 = ((272 : Nat) : Int)) (hu : rowV τ 272 = u) (hg : 0 < g ∧ g ≤ 1000000000000000000) (hd : 0 < d ∧ d ≤ 1000000000000000000) (he : d.tdiv g = e) (he0 : 0 < e ∧ e ≤ 1000000000000000000) (ur : ∀ i, i < 4 → -9223372036854775808 ≤ vg i u ∧ vg i u < 9223372036854775808) : ∀ (m i N : Nat), i + m = 4 → m < N → ((∀ j, i ≤ j → j < 4 → e ∣ vg j u) → mX12_holdsBy_L15 253 d g x N (i : Int) τ = x τ) ∧ ((¬ ∀ j, i ≤ j → j < 4 → e ∣ vg j u) → mX12_holdsBy_L15 253 d g x N (i : Int) τ = some (0, τ)) := by
  intro m
  induction m with
  | zero =>
    intro i N h1 h2
    obtain ⟨N, rfl⟩ : ∃ z, N = z + 1 := ⟨N - 1, by omega⟩
    obtain rfl : i = 4 := by omega
    exact ⟨fun _ => by rw [mX12_holdsBy_L15.eq_2, if_pos (by decide)], fun h => absurd (fun j g1 g2 => by omega) h⟩
  | succ m ih =>
    intro i N h1 h2
    obtain ⟨N, rfl⟩ : ∃ z, N = z + 1 := ⟨N - 1, by omega⟩
    have hi : i < 4 := by omega
    have wg : wL g = g := wL_id (x := g) (by omega)
    have wd : wL d = d := wL_id (x := d) (by omega)
    have we : wL e = e := wL_id (x := e) (by omega)
    have wu : wL (vg i u) = vg i u := wL_id (x := vg i u) (ur i hi)
    have st : mX12_holdsBy_L15 253 d g x (N + 1) (i : Int) τ = if wL ((vg i u).tmod e) = 0 then mX12_holdsBy_L15 253 d g x N ((i + 1 : Nat) : Int) τ else some (0, τ) := by
      rw [mX12_holdsBy_L15.eq_2, if_neg (by rw [wI_id (x := (i : Int)) (by omega)]; omega), gr' l32 (by omega), gx272 _ (by omega), mG_pos (by rw [wg]; omega), mG_pos (by rw [wd, wg, he, we]; omega), wI_nat (k := i) (by omega), ← vg_rowV τ 272 hi, hu, wu, wd, wg, he, we, bnd_eq, show (i : Int) + 1 = ((i + 1 : Nat) : Int) by omega]
    obtain ⟨i1, i2⟩ := ih (i + 1) N (by omega) (by omega)
    rw [st]
    by_cases hdv : e ∣ vg i u
    · rw [if_pos ((tm_dvd (ur i hi)).mpr hdv)]
      refine ⟨fun h => i1 (fun j g1 g2 => h j (by omega) g2), fun h => i2 (fun z => h (fun j g1 g2 => ?_))⟩
      by_cases ej : j = i
      · rw [ej]; exact hdv
      · exact z j (by omega) g2
    · rw [if_neg (fun z => hdv ((tm_dvd (ur i hi)).mp z))]
      exact ⟨fun h => absurd (h i (by omega) hi) hdv, fun _ => rfl⟩
theorem hbL48 {τ : mSt} {d g e m B : Int} {u w : V4} {x : mSt → Option (Int × mSt)} (h3 : rL3 τ) (hB : τ 270 9 = B) (hm : τ 271 9 = m) (hm0 : 0 < m ∧ m ≤ 4000000000000000) (hB0 : 0 < B ∧ B ≤ 1000000000000000000) (hg : 0 < g ∧ g ≤ 1000000000000000000) (hd : 0 < d ∧ d ≤ 1000000000000000000) (he : d.tdiv g = e) (he0 : 0 < e ∧ e ≤ 1000000000000000000) (ur : ∀ i, i < 4 → -9223372036854775807 ≤ vg i u ∧ vg i u < 9223372036854775808) (hdv : ∀ i, i < 4 → e ∣ vg i u) (hw : ∀ i, i < 4 → vg i w = vg i u / e * (B / g) % m) : ∀ (n i N : Nat), i + n = 4 → n < N → mX12_holdsBy_L48 253 d g x N (i : Int) (stV τ 272 (vMix i w u)) = x (stV τ 272 w) := by
  intro n
  induction n with
  | zero =>
    intro i N h1 h2
    obtain ⟨N, rfl⟩ : ∃ z, N = z + 1 := ⟨N - 1, by omega⟩
    obtain rfl : i = 4 := by omega
    rw [mX12_holdsBy_L48.eq_2, if_pos (by decide), vMix_4]
  | succ n ih =>
    intro i N h1 h2
    obtain ⟨N, rfl⟩ : ∃ z, N = z + 1 := ⟨N - 1, by omega⟩
    have hi : i < 4 := by omega
    have wg : wL g = g := wL_id (x := g) (by omega)
    have wd : wL d = d := wL_id (x := d) (by omega)
    have we : wL e = e := wL_id (x := e) (by omega)
    have wB : wL B = B := wL_id (x := B) (by omega)
    have wu : wL (vg i u) = vg i u := wL_id (x := vg i u) (by have := ur i hi; omega)
    have dr := div_rng (a := vg i u) (d := e) (A := 9223372036854775807) (by have := ur i hi; omega) (by omega)
    have b0 := Int.ediv_nonneg (show 0 ≤ B by omega) (show 0 ≤ g by omega)
    have b1 := Int.ediv_le_self g (show 0 ≤ B by omega)
    have ne : ∀ a b, a ≠ 272 → stV τ 272 (vMix i w u) a b = τ a b := fun a b z => stV_ne _ _ _ _ _ z
    rw [mX12_holdsBy_L48.eq_2, if_neg (by rw [wI_id (x := (i : Int)) (by omega)]; omega), gr' (r := 272) (by rw [ne _ _ (by omega)]; exact h3.2.2.2) (by omega), gr' (r := 272) (by rw [ne _ _ (by omega)]; exact h3.2.2.2) (by omega), gx272 _ (by omega), mG_pos (by rw [wg]; omega), mG_pos (by rw [wd, wg, he, we]; omega), gr' (r := 270) (by rw [ne _ _ (by omega)]; exact h3.2.1) (by omega), gx270 _ (by omega), gr' (r := 271) (by rw [ne _ _ (by omega)]; exact h3.2.2.1) (by omega), gx271 _ (by omega), wI_nat (k := i) (by omega), vg_stV _ _ _ hi, vMix_i hi, ne _ _ (by omega), ne _ _ (by omega), hB, hm, wu, wd, wg, he, we, wB, Int.tdiv_eq_ediv_of_dvd (hdv i hi), Int.tdiv_eq_ediv_of_nonneg (a := B) (by omega), mulMod_e _ _ _ _ (by omega) (by omega) (by omega), mCall_some, gx272 _ (by omega), bnd_eq, bnd_eq, ← hw i hi, stV_up _ _ _ _ hi, vMix_s rfl, show (i : Int) + 1 = ((i + 1 : Nat) : Int) by omega]
    exact ih (i + 1) N (by omega) (by omega)
theorem hbL155 {τ : mSt} {d q m : Int} {r : Nat} {G : Nat → V4} {y w : V4} {x : mSt → Option (Int × mSt)} (h3 : rL3 τ) (hG : ∀ r, r < 4 → rowL τ 9 r = G r) (hm : τ 271 9 = m) (hm0 : 0 < m ∧ m ≤ 4000000000000000) (hr : r < 4) (hq : 0 ≤ q ∧ q ≤ 4000000000000000) (hGr : ∀ i, i < 4 → -4000000000000000 ≤ vg i (G r) ∧ vg i (G r) ≤ 4000000000000000) (hy : ∀ i, i < 4 → 0 ≤ vg i y ∧ vg i y ≤ 4000000000000000) (hw : ∀ i, i < 4 → vg i w = (vg i y - q * vg i (G r)) % m) : ∀ (n i N : Nat), i + n = 4 → n < N → mX12_holdsBy_L155 253 d (r : Int) q x N (i : Int) (stV τ 272 (vMix i w y)) = x (stV τ 272 w) := by
  intro n
  induction n with
  | zero =>
    intro i N h1 h2
    obtain ⟨N, rfl⟩ : ∃ z, N = z + 1 := ⟨N - 1, by omega⟩
    obtain rfl : i = 4 := by omega
    rw [mX12_holdsBy_L155.eq_2, if_pos (by decide), vMix_4]
  | succ n ih =>
    intro i N h1 h2
    obtain ⟨N, rfl⟩ : ∃ z, N = z + 1 := ⟨N - 1, by omega⟩
    have hi : i < 4 := by omega
    have ne : ∀ a b, a ≠ 272 → stV τ 272 (vMix i w y) a b = τ a b := fun a b z => stV_ne _ _ _ _ _ z
    have ge : mX12_get 253 9 (r : Int) (i : Int) (stV τ 272 (vMix i w y)) = some (vg i (G r), stV τ 272 (vMix i w y)) := by
      have := get_e (τ := stV τ 272 (vMix i w y)) (l := 9) (r := (r : Int)) (c := (i : Int)) (by rw [ne _ _ (by omega)]; exact h3.1) ⟨by omega, by omega, by omega, by omega, by omega⟩
      rw [Int.toNat_natCast, Int.toNat_natCast, ne _ _ (by omega), rowL_at τ 9 hr hi, hG r hr] at this
      exact this
    have e1 := Int.emod_nonneg (q * vg i (G r)) (show m ≠ 0 by omega)
    have e2 := Int.emod_lt_of_pos (q * vg i (G r)) hm0.1
    have gr := hGr i hi
    have yr := hy i hi
    have h31 : stV τ 272 (vMix i w y) 253 31 = ((271 : Nat) : Int) := by rw [ne _ _ (by omega)]; exact h3.2.2.1
    rw [mX12_holdsBy_L155.eq_2, if_neg (by rw [wI_id (x := (i : Int)) (by omega)]; omega), gr' (r := 272) (by rw [ne _ _ (by omega)]; exact h3.2.2.2) (by omega), gr' (r := 272) (by rw [ne _ _ (by omega)]; exact h3.2.2.2) (by omega), gx272 _ (by omega), ge, mCall_some, gr' h31 (by omega), gx271 _ (by omega), ne 271 9 (by omega), hm, mulMod_e _ _ _ _ (by omega) (by omega) (by omega), mCall_some, gr' h31 (by omega), gx271 _ (by omega), ne 271 9 (by omega), hm, wI_nat (k := i) (by omega), vg_stV _ _ _ hi, vMix_i hi, mod_e _ _ _ hm0.1 (by omega) (by omega), mCall_some, gx272 _ (by omega), bnd_eq, bnd_eq, sub_mm, ← hw i hi, stV_up _ _ _ _ hi, vMix_s rfl, show (i : Int) + 1 = ((i + 1 : Nat) : Int) by omega]
    exact ih (i + 1) N (by omega) (by omega)
theorem spn_stop {G : Nat → V4} {y : V4} {r : Nat} (tG : Tri G) (hr : r < 4) (hz : ∀ i, i < r → i < 4 → vg i y = 0) (hd : ¬ vg r (G r) ∣ vg r y) : ¬ spn G y := by
  refine exI_stop tG hr (x := y) ?_ hd
  unfold exI
  have e1 : hdv r y = v0 := vg_ext fun i hi => by
    unfold hdv
    rw [vg_vk _ hi, vg_v0 hi]
    by_cases z : i < r
    · rw [if_pos z]; exact hz i z hi
    · rw [if_neg z]
  have e2 : tlv r y = y := vg_ext fun i hi => by
    unfold tlv
    rw [vg_vk _ hi]
    by_cases z : i < r
    · rw [if_pos z, hz i z hi]
    · rw [if_neg z]
  rw [e1, e2, vC_0]
  exact vg_ext fun i hi => by rw [vg_vA _ _ hi, vg_v0 hi, Int.zero_add]
theorem hbL100 {τ : mSt} {d m : Int} {G : Nat → V4} (h3 : rL3 τ) (hG : ∀ r, r < 4 → rowL τ 9 r = G r) (hm : τ 271 9 = m) (hm0 : m ≤ 4000000000000000) (ok : rOK m G) : ∀ (n r N : Nat) (y : V4), r + n = 4 → n < N → (∀ i, i < r → i < 4 → vg i y = 0) → (∀ i, i < 4 → 0 ≤ vg i y ∧ vg i y < m) → ∃ w, mX12_holdsBy_L100 253 d (fun zσ => mX12_holdsBy_B220 253 d zσ) N (r : Int) (stV τ 272 y) = some (b2 (spn G y), stV τ 272 w) := by
  intro n
  induction n with
  | zero =>
    intro r N y h1 h2 hz hy
    obtain ⟨N, rfl⟩ : ∃ z, N = z + 1 := ⟨N - 1, by omega⟩
    obtain rfl : r = 4 := by omega
    have y0 : y = v0 := vg_ext fun i hi => by rw [hz i hi hi, vg_v0 hi]
    refine ⟨y, ?_⟩
    rw [mX12_holdsBy_L100.eq_2, if_pos (by decide), b2_t (by rw [y0]; exact (spn_sub G).1)]
    rfl
  | succ n ih =>
    intro r N y h1 h2 hz hy
    obtain ⟨N, rfl⟩ : ∃ z, N = z + 1 := ⟨N - 1, by omega⟩
    have hr : r < 4 := by omega
    have m0 := ok.1
    have dp := tri_d ok.2.1 r hr
    have dm := Int.le_of_dvd m0 (dia_dvd ok.2.1 ok.2.2.2 hr)
    have yr := hy r hr
    have ne : ∀ a b, a ≠ 272 → stV τ 272 y a b = τ a b := fun a b z => stV_ne _ _ _ _ _ z
    have ge : mX12_get 253 9 (r : Int) (r : Int) (stV τ 272 y) = some (vg r (G r), stV τ 272 y) := by
      have := get_e (τ := stV τ 272 y) (l := 9) (r := (r : Int)) (c := (r : Int)) (by rw [ne _ _ (by omega)]; exact h3.1) ⟨by omega, by omega, by omega, by omega, by omega⟩
      rw [Int.toNat_natCast, ne _ _ (by omega), rowL_at τ 9 hr hr, hG r hr] at this
      exact this
    have wd : wL (vg r (G r)) = vg r (G r) := wL_id (x := vg r (G r)) (by omega)
    have wy : wL (vg r y) = vg r y := wL_id (x := vg r y) (by omega)
    have h32 : stV τ 272 y 253 32 = ((272 : Nat) : Int) := by rw [ne _ _ (by omega)]; exact h3.2.2.2
    by_cases hd : vg r (G r) ∣ vg r y
    · obtain ⟨q, hq⟩ : ∃ q, q = vg r y / vg r (G r) := ⟨_, rfl⟩
      have eq := Int.mul_ediv_cancel' hd
      rw [← hq] at eq
      have q0 : 0 ≤ q := by rw [hq]; exact Int.ediv_nonneg yr.1 (by omega)
      have q1 : q ≤ vg r y := by rw [hq]; exact Int.ediv_le_self _ yr.1
      obtain ⟨w, hw⟩ : ∃ w, w = vk (fun i => (vg i y - q * vg i (G r)) % m) := ⟨_, rfl⟩
      have hw2 : ∀ i, i < 4 → vg i w = (vg i y - q * vg i (G r)) % m := fun i hi => by rw [hw, vg_vk _ hi]
      have rb := rB2_of ok r hr
      have l155 := hbL155 (d := d) (w := w) (y := y) (x := fun zσ => mX12_holdsBy_B214 253 d (mX12_holdsBy_L100 253 d (fun zσ => mX12_holdsBy_B220 253 d zσ) N) (fun zσ => mX12_holdsBy_B220 253 d zσ) (r : Int) zσ) h3 hG hm ⟨m0, hm0⟩ hr ⟨q0, by omega⟩ (fun i hi => by have := rb i hi; omega) (fun i hi => by have := hy i hi; omega) hw2 (4 - r) r mF (by omega) (by unfold mF; omega)
      have wz : ∀ i, i < r → i < 4 → vg i w = 0 := fun i h1 h4 => by
        rw [hw2 i h4, hz i h1 h4, tri_z ok.2.1 r i h1 hr, Int.mul_zero, Int.sub_zero, Int.zero_emod]
      rw [vMix_c (fun i hi h4 => by rw [wz i hi h4, hz i hi h4])] at l155
      have wr : ∀ i, i < 4 → 0 ≤ vg i w ∧ vg i w < m := fun i hi => by
        rw [hw2 i hi]
        exact ⟨Int.emod_nonneg _ (by omega), Int.emod_lt_of_pos _ m0⟩
      obtain ⟨w', i1⟩ := ih (r + 1) N w (by omega) (by omega) (fun i h1 h4 => by
        by_cases e : i = r
        · rw [e, hw2 r hr, show vg r y - q * vg r (G r) = 0 by rw [Int.mul_comm]; omega, Int.zero_emod]
        · exact wz i (by omega) h4) wr
      refine ⟨w', ?_⟩
      have iff1 : spn G w ↔ spn G y := by
        have a1 := spn_mod ok.2.2.2 (y := vA y (vS (-q) (G r))) (w := w) (fun i hi => by
          rw [hw2 i hi, vg_vA _ _ hi, vg_vS _ _ hi, Int.neg_mul]
          rfl)
        rw [a1]
        have sb := spn_sub G
        have gr := spn_row G hr
        constructor
        · intro z
          have := sb.2.1 _ _ z (sb.2.2 q _ gr)
          have e : vA (vA y (vS (-q) (G r))) (vS q (G r)) = y := vg_ext fun i hi => by
            rw [vg_vA _ _ hi, vg_vA _ _ hi, vg_vS _ _ hi, vg_vS _ _ hi, Int.neg_mul]
            omega
          rwa [e] at this
        · intro z
          exact sb.2.1 _ _ z (sb.2.2 _ _ gr)
      rw [b2_iff iff1] at i1
      rw [mX12_holdsBy_L100.eq_2, if_neg (by rw [wI_id (x := (r : Int)) (by omega)]; omega), gr' h32 (by omega), gx272 _ (by omega), ge, mCall_some, mG_pos (by rw [wd]; omega), wI_nat (k := r) (by omega), vg_stV _ _ _ hr, wy, wd, if_pos ((tm_dvd (by omega)).mpr hd), gr' h32 (by omega), gx272 _ (by omega), ge, mCall_some, mG_pos (by rw [wd]; omega), vg_stV _ _ _ hr, wy, wd, Int.tdiv_eq_ediv_of_dvd hd, ← hq, bnd_eq]
      refine l155.trans ?_
      unfold mX12_holdsBy_B214
      rw [bnd_eq, show (r : Int) + 1 = ((r + 1 : Nat) : Int) by omega]
      exact i1
    · refine ⟨y, ?_⟩
      rw [mX12_holdsBy_L100.eq_2, if_neg (by rw [wI_id (x := (r : Int)) (by omega)]; omega), gr' h32 (by omega), gx272 _ (by omega), ge, mCall_some, mG_pos (by rw [wd]; omega), wI_nat (k := r) (by omega), vg_stV _ _ _ hr, wy, wd, if_neg (fun z => hd ((tm_dvd (by omega)).mp z)), b2_f (spn_stop ok.2.1 hr hz hd)]
theorem holdsBy_e {τ : mSt} {d L m : Int} {G : Nat → V4} {u : V4} (hA : atR τ 9 G L m u) (hL : 0 < L ∧ L ≤ 1000000000000000000) (hm : m ≤ 4000000000000000) (ok : rOK m G) (hd : 0 < d ∧ d ≤ 1000000000000000000) (ur : ∀ i, i < 4 → -9223372036854775807 ≤ vg i u ∧ vg i u < 9223372036854775808) : ∃ w, mX12_holdsBy 253 d τ = some (b2 (latS L G u d), stV τ 272 w) := by
  obtain ⟨h3, hG, h270, h271, h272⟩ := hA
  have m0 := ok.1
  obtain ⟨g, hg⟩ : ∃ g, g = (Int.gcd L d : Int) := ⟨_, rfl⟩
  have g0 : 0 < g := by
    have := Int.gcd_pos_of_ne_zero_left d (show L ≠ 0 by omega)
    omega
  have gL : g ≤ L := by rw [hg]; exact Int.le_of_dvd hL.1 (Int.gcd_dvd_left _ _)
  obtain ⟨e, he⟩ : ∃ e, e = d / g := ⟨_, rfl⟩
  obtain ⟨up, hup⟩ : ∃ up, up = L / g := ⟨_, rfl⟩
  have dv1 : d = g * e := by rw [he, hg, Int.mul_ediv_cancel' (Int.gcd_dvd_right L d)]
  have dv2 : L = g * up := by rw [hup, hg, Int.mul_ediv_cancel' (Int.gcd_dvd_left L d)]
  have e0 : 0 < e := by
    rcases Int.lt_or_le 0 e with h | h
    · exact h
    · have := Int.mul_le_mul_of_nonneg_left h (show 0 ≤ g by omega)
      omega
  have e1 : e ≤ d := by rw [he]; exact Int.ediv_le_self _ (by omega)
  have td : d.tdiv g = e := by rw [Int.tdiv_eq_ediv_of_nonneg (by omega), he]
  have key1 : latS L G u d → ∀ i, i < 4 → e ∣ vg i u := by
    rintro ⟨c, hc⟩ i hi
    have e2 : L * vg i u = d * vg i (vC G c) := by rw [← vg_vS _ _ hi, hc, vg_vS _ _ hi]
    have h2 := Int.dvd_gcd_mul_iff_dvd_mul.mpr (show d ∣ L * vg i u from ⟨_, e2⟩)
    rw [Int.gcd_comm, ← hg, dv1] at h2
    exact Int.dvd_of_mul_dvd_mul_left (show g ≠ 0 by omega) h2
  obtain ⟨l15a, l15b⟩ := hbL15 (x := fun zσ => mX12_holdsBy_B45 253 d g zσ) h3.2.2.2 h272 ⟨g0, by omega⟩ hd td ⟨e0, by omega⟩ (fun i hi => by have := ur i hi; omega) 4 0 mF (by omega) (by unfold mF; omega)
  have head : ∀ o, mX12_holdsBy_L15 253 d g (fun zσ => mX12_holdsBy_B45 253 d g zσ) mF 0 τ = o → mX12_holdsBy 253 d τ = o := fun o z => by
    unfold mX12_holdsBy
    rw [gc253, gr' h3.2.1 (by omega), gx270 _ (by omega)]
    have q : τ 270 (wI 9).toNat = L := h270
    rw [show τ 270 9 = L from h270, com_e _ _ _ (by omega) (by omega), mCall_some, ← hg]
    exact z
  by_cases all : ∀ i, i < 4 → e ∣ vg i u
  · obtain ⟨w, hw⟩ : ∃ w, w = vk (fun i => vg i u / e * up % m) := ⟨_, rfl⟩
    have l48 := hbL48 (w := w) (x := fun zσ => mX12_holdsBy_B97 253 d zσ) h3 h270 h271 ⟨m0, hm⟩ hL ⟨g0, by omega⟩ hd td ⟨e0, by omega⟩ ur all (fun i hi => by rw [hw, vg_vk _ hi, hup]) 4 0 mF (by omega) (by unfold mF; omega)
    rw [vMix_c (fun i hi _ => by omega), ← h272, stV_self] at l48
    have wr : ∀ i, i < 4 → 0 ≤ vg i w ∧ vg i w < m := fun i hi => by
      rw [hw, vg_vk _ hi]
      exact ⟨Int.emod_nonneg _ (by omega), Int.emod_lt_of_pos _ m0⟩
    obtain ⟨w', l100⟩ := hbL100 (d := d) h3 hG h271 hm ok 4 0 mF w (by omega) (by unfold mF; omega) (fun i hi => by omega) wr
    refine ⟨w', head _ ?_⟩
    refine (l15a (fun j _ g2 => all j g2)).trans ?_
    unfold mX12_holdsBy_B45
    refine l48.trans ?_
    unfold mX12_holdsBy_B97
    refine l100.trans ?_
    rw [b2_iff (q := latS L G u d)]
    rw [spn_mod ok.2.2.2 (y := vk (fun i => vg i u / e * up)) (fun i hi => by rw [hw, vg_vk _ hi, vg_vk _ hi])]
    constructor
    · rintro ⟨c, hc⟩
      refine ⟨c, vg_ext fun i hi => ?_⟩
      rw [vg_vS _ _ hi, vg_vS _ _ hi, ← hc, vg_vk _ hi, dv1, dv2]
      have := Int.mul_ediv_cancel' (all i hi)
      generalize vg i u / e = z at this ⊢
      rw [← this]
      grind
    · rintro ⟨c, hc⟩
      refine ⟨c, vg_ext fun i hi => ?_⟩
      have e2 : L * vg i u = d * vg i (vC G c) := by rw [← vg_vS _ _ hi, hc, vg_vS _ _ hi]
      rw [vg_vk _ hi]
      have := Int.mul_ediv_cancel' (all i hi)
      generalize vg i u / e = z at this ⊢
      rw [← this, dv1, dv2] at e2
      refine Int.eq_of_mul_eq_mul_left (show g * e ≠ 0 from Int.mul_ne_zero (by omega) (by omega)) ?_
      rw [← e2]
      grind
  · refine ⟨rowV τ 272, head _ ?_⟩
    rw [stV_self, b2_f (fun z => all (key1 z))]
    exact l15b (fun z => all (fun i hi => z i (by omega) hi))

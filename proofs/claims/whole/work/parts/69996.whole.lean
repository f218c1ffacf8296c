theorem wholeL28 {τ : mSt} {l al : Nat} {a b M : Int} {E : Nat → V4} {x : mSt → Option (Int × mSt)} (hL : Lay τ) (hl : l < 10) (hE : ∀ r, r < 4 → rowL τ l r = E r) (ha : -60 ≤ a ∧ a ≤ 60) (hb : -60 ≤ b ∧ b ≤ 60) (hM : 0 < M ∧ M ≤ 10000000) (hB : rB2 E M) : ∀ (m r N : Nat) (u w : V4), r + m = 4 → m < N → ∃ u' w', ((∀ r', r ≤ r' → r' < 4 → (M ∣ 2 * vg 0 (E r') ∧ M * M ∣ vN a b (E r')) ∧ ∀ s, s < r' → M * M ∣ vB a b (E r') (E s)) → mX12_isWhole_L28 253 (l : Int) (al : Int) a b M x N (r : Int) (stV (stV τ 265 u) 266 w) = x (stV (stV τ 265 u') 266 w')) ∧ ((¬ ∀ r', r ≤ r' → r' < 4 → (M ∣ 2 * vg 0 (E r') ∧ M * M ∣ vN a b (E r')) ∧ ∀ s, s < r' → M * M ∣ vB a b (E r') (E s)) → mX12_isWhole_L28 253 (l : Int) (al : Int) a b M x N (r : Int) (stV (stV τ 265 u) 266 w) = some (0, stV (stV τ 265 u') 266 w')) := by
  intro m
  induction m with
  | zero =>
    intro r N u w h1 h2
    obtain ⟨N, rfl⟩ : ∃ q, N = q + 1 := ⟨N - 1, by omega⟩
    refine ⟨u, w, fun _ => ?_, fun z => absurd (fun r' p1 p2 => by omega) z⟩
    rw [mX12_isWhole_L28.eq_2, if_pos (by rw [wI_id (x := (r : Int)) (by omega)]; omega)]
  | succ m ih =>
    intro r N u w h1 h2
    obtain ⟨N, rfl⟩ : ∃ q, N = q + 1 := ⟨N - 1, by omega⟩
    have hr : r < 4 := by omega
    have ly := lay253 hL
    have l25 := ly.2.2.2.2.2.2.2.2.2.2.2.1
    have l29 := ly.2.2.2.2.2.2.2.2.2.2.2.2.2.2.2.1
    have un : ∀ u' w' i j, i ≠ 265 → i ≠ 266 → stV (stV τ 265 u') 266 w' i j = τ i j := fun u' w' i j p1 p2 => by rw [stV_ne _ _ _ _ _ p2, stV_ne _ _ _ _ _ p1]
    have tr := takesRow0_e (τ := stV (stV τ 265 u) 266 w) (l := _) (r := r) (by rw [un _ _ _ _ (by omega) (by omega)]; exact l29) (by rw [un _ _ _ _ (by omega) (by omega)]; exact l25) hl hr
    have rl' : rowL (stV (stV τ 265 u) 266 w) _ r = E r := (show rowL (stV (stV τ 265 u) 266 w) _ r = rowL τ _ r by rw [rowL_congr (σ := τ) (funext fun j => un u w 269 j (by omega) (by omega))]).trans (hE r hr)
    rw [rl'] at tr
    have e2 : stV (stV (stV τ 265 u) 266 w) 265 (E r) = stV (stV τ 265 (E r)) 266 w := by funext p q; simp only [stV, st4, upS]; grind
    rw [e2] at tr
    have g5 : ∀ i, i < 4 → stV (stV τ 265 (E r)) 266 w 265 i = vg i (E r) := fun i hi => by rw [stV_ne _ _ _ _ _ (by omega), vg_stV _ _ _ hi]
    have pr := pr_rng (x := E r) (y := E r) ha hb (by omega) (hB r hr) (hB r hr)
    have x0 := hB r hr 0 (by omega)
    have MM := mul_rng (x := M) (y := M) (A := 10000000) (B := 10000000) (by omega) (by omega) (by omega)
    have MM0 : 0 < M * M := Int.mul_pos hM.1 hM.1
    have vn : vN a b (E r) = (E r).1 * (E r).1 - a * (E r).2.1 * (E r).2.1 - b * (E r).2.2.1 * (E r).2.2.1 + a * b * (E r).2.2.2 * (E r).2.2.2 := rfl
    obtain ⟨w', k1, k2⟩ := wholeL107 (al := al) (x := fun zσ => mX12_isWhole_B214 253 (l : Int) (al : Int) a b M (mX12_isWhole_L28 253 (l : Int) (al : Int) a b M x N) x (r : Int) zσ) hL hl hr hE ha hb hM hB r 0 mF w (by omega) (by unfold mF; omega)
    obtain ⟨u'', w'', i1, i2⟩ := ih (r + 1) N (E r) w' (by omega) (by omega)
    rw [mX12_isWhole_L28.eq_2, if_neg (by rw [wI_id (x := (r : Int)) (by omega)]; omega), tr, mCall_some]
    simp (disch := first | omega | (rw [un _ _ _ _ (by omega) (by omega)]; assumption)) only [gr' (r := 265) ((un (E r) w 253 25 (by omega) (by omega)).trans l25), gx265, g5]
    rw [wL_id (x := M) (by omega), mG_pos (by omega), wL_id (x := 2 * vg 0 (E r)) (by omega)]
    by_cases d1 : M ∣ 2 * vg 0 (E r)
    · rw [if_pos (by rw [wL_id (x := Int.tmod _ _) (by rw [tmod0.mpr d1]; omega)]; exact tmod0.mpr d1)]
      unfold mX12_normOf
      rw [gc253, mCall_some]
      simp only [vg]
      rw [← vn, wL_id (x := M * M) (by omega), mG_pos (by omega), wL_id (x := vN a b (E r)) (by rw [vn]; omega)]
      by_cases d2 : M * M ∣ vN a b (E r)
      · rw [if_pos (by rw [wL_id (x := Int.tmod _ _) (by rw [tmod0.mpr d2]; omega)]; exact tmod0.mpr d2)]
        by_cases d3 : ∀ s', 0 ≤ s' → s' < r → M * M ∣ vB a b (E r) (E s')
        · rw [show (0 : Int) = ((0 : Nat) : Int) from rfl, k1 d3]
          unfold mX12_isWhole_B214
          rw [bnd_eq, show (r : Int) + 1 = ((r + 1 : Nat) : Int) by omega]
          refine ⟨u'', w'', fun z => i1 (fun r' p1 p2 => z r' (by omega) p2), fun z => i2 (fun z2 => z (fun r' p1 p2 => ?_))⟩
          by_cases hrr : r' = r
          · rw [hrr]; exact ⟨⟨d1, d2⟩, fun s hs => d3 s (by omega) hs⟩
          · exact z2 r' (by omega) p2
        · refine ⟨E r, w', fun z => absurd (fun s' _ p2 => (z r (by omega) hr).2 s' p2) d3, fun _ => ?_⟩
          exact k2 d3
      · refine ⟨E r, w, fun z => absurd (z r (by omega) hr).1.2 d2, fun _ => ?_⟩
        rw [if_neg (fun z => d2 (tmod0.mp (by rw [wL_id (x := Int.tmod _ _) (tm_rng _ _ (by rw [vn]; omega) (by omega))] at z; exact z)))]
    · refine ⟨E r, w, fun z => absurd (z r (by omega) hr).1.1 d1, fun _ => ?_⟩
      rw [if_neg (fun z => d1 (tmod0.mp (by rw [wL_id (x := Int.tmod _ _) (tm_rng _ _ (by omega) (by omega))] at z; exact z)))]
theorem wholeR_e {τ : mSt} {l al : Nat} {a b M : Int} {E : Nat → V4} (hL : Lay τ) (hl : l < 10) (hal : al < 16) (hE : ∀ r, r < 4 → rowL τ l r = E r) (h0 : τ 258 al = a) (h1 : τ 259 al = b) (h2 : τ 270 l = M) (ha : -60 ≤ a ∧ a ≤ 60) (hb : -60 ≤ b ∧ b ≤ 60) (hM : 0 < M ∧ M ≤ 10000000) (hB : rB2 E M) : ∃ u w, mX12_isWhole 253 (l : Int) (al : Int) τ = some (b2 (rWho a b M E), stV (stV τ 265 u) 266 w) := by
  have ly := lay253 hL
  obtain ⟨u, w, k1, k2⟩ := wholeL28 (al := al) (x := fun zσ => mX12_isWhole_B220 253 (l : Int) (al : Int) zσ) hL hl hE ha hb hM hB 4 0 mF (rowV τ 265) (rowV τ 266) (by omega) (by unfold mF; omega)
  have e : stV (stV τ 265 (rowV τ 265)) 266 (rowV τ 266) = τ := by rw [stV_self, stV_self]
  rw [e] at k1 k2
  refine ⟨u, w, ?_⟩
  unfold mX12_isWhole
  rw [gc253, gr' ly.2.2.2.2.1 (by omega), gx258 _ (by omega), wI_nat (by omega), h0, wI_id (x := a) (by omega), bnd_eq, gr' ly.2.2.2.2.2.1 (by omega), gx259 _ (by omega), h1, wI_id (x := b) (by omega), bnd_eq, gr' ly.2.2.2.2.2.2.2.2.2.2.2.2.2.2.2.2.1 (by omega), gx270 _ (by omega), wI_nat (by omega), h2, bnd_eq]
  by_cases hw : rWho a b M E
  · rw [b2_t hw]
    exact k1 (fun r' _ p2 => hw r' p2)
  · rw [b2_f hw]
    exact k2 (fun z => hw (fun r hr => z r (by omega) hr))
/-! isWhole of the class -/
theorem pairing_e {σ : mSt} {a b : Int} {x y : Nat} (hx : shp x = (21, 4)) (hy : shp y = (21, 4)) : mX1_pairing a b x y σ = some (vB a b (rowV σ x) (rowV σ y), σ) := by
  unfold mX1_pairing
  rw [gx hx _ (by omega), gx hy _ (by omega), gx hx _ (by omega), gx hy _ (by omega), gx hx _ (by omega), gx hy _ (by omega), gx hx _ (by omega), gx hy _ (by omega)]
  rfl
/-- where the enlarger stands -/
def enL (σ : mSt) (O t n : Nat) : Prop := Lay σ ∧ σ 114 0 = (O : Int) ∧ O ≠ 0 ∧ shp O = (5, 0) ∧ σ 114 3 = (t : Int) ∧ σ 114 4 = (n : Int) ∧ t ∈ latIds ∧ n ∈ latIds ∧ ((t = 124 ∧ n = 131) ∨ (t = 131 ∧ n = 124))
theorem wclL98 {σ : mSt} {O t n r : Nat} {a b M : Int} {E : Nat → V4} {x : Int → mSt → Option (Int × mSt)} (h : enL σ O t n) (h0 : σ O 0 = a) (h1 : σ O 1 = b) (hr : r < 4) (hE : ∀ r, r < 4 → rwC σ t r = E r) (ha : -60 ≤ a ∧ a ≤ 60) (hb : -60 ≤ b ∧ b ≤ 60) (hM : 0 < M ∧ M ≤ 10000000) (hB : rB2 E M) : ∀ (m s N : Nat), s + m = r → m < N → mX2_isWhole_L98 114 (M * M) (r : Int) (t + 2 + r) x N 1 (s : Int) σ = x (b2 (∀ s', s ≤ s' → s' < r → M * M ∣ vB a b (E r) (E s'))) σ := by
  obtain ⟨hL, g0, g1, g2, g3, g4, g5, g6, g7⟩ := h
  obtain ⟨k1, k2, k3, k4, k5, k6⟩ := lat_lay hL g5
  have z : ∀ (N s : Nat), 0 < N → mX2_isWhole_L98 114 (M * M) (r : Int) (t + 2 + r) x N 0 (s : Int) σ = x 0 σ := by
    intro N s hN
    obtain ⟨N, rfl⟩ : ∃ q, N = q + 1 := ⟨N - 1, by omega⟩
    rw [mX2_isWhole_L98.eq_2, if_pos (show wI (0 : Int) = 0 by decide)]
    split <;> rfl
  intro m
  induction m with
  | zero =>
    intro s N h1 h2
    obtain ⟨N, rfl⟩ : ∃ q, N = q + 1 := ⟨N - 1, by omega⟩
    rw [mX2_isWhole_L98.eq_2, if_pos (by rw [wI_id (x := (r : Int)) (by omega), wI_id (x := (s : Int)) (by omega)]; omega), b2_t (fun s' p1 p2 => by omega)]
  | succ m ih =>
    intro s N q1 q2
    obtain ⟨N, rfl⟩ : ∃ q, N = q + 1 := ⟨N - 1, by omega⟩
    have hs : s < 4 := by omega
    have pr := pr_rng (x := E r) (y := E s) ha hb (by omega) (hB r hr) (hB s hs)
    have vb : vB a b (E r) (E s) = 2 * ((E r).1 * (E s).1 - a * (E r).2.1 * (E s).2.1 - b * (E r).2.2.1 * (E s).2.2.1 + a * b * (E r).2.2.2 * (E s).2.2.2) := rfl
    have MM := mul_rng (x := M) (y := M) (A := 10000000) (B := 10000000) (by omega) (by omega) (by omega)
    have MM0 : 0 < M * M := Int.mul_pos hM.1 hM.1
    have e1 : rowV σ (t + 2 + r) = E r := hE r hr
    have e2 : rowV σ (t + 2 + s) = E s := hE s hs
    rw [mX2_isWhole_L98.eq_2, if_neg (by rw [wI_id (x := (r : Int)) (by omega), wI_id (x := (s : Int)) (by omega)]; omega), if_neg (by decide), gr' g0 g1, gc g2, gr' g0 g1, gc g2, gr' g3 (by omega), numbers_e hL g5 hs, mCall_some, Int.toNat_natCast, h0, h1, pairing_e (k6 r hr).1 (k6 s hs).1, mCall_some, e1, e2, div_e _ _ _ (by rw [vb]; omega) (by omega), mCall_some, bnd_eq, show (s : Int) + 1 = ((s + 1 : Nat) : Int) by omega]
    by_cases hd : M * M ∣ vB a b (E r) (E s)
    · rw [b2_t ⟨by omega, hd⟩, ih (s + 1) N (by omega) (by omega)]
      congr 1
      by_cases h2 : ∀ s', s ≤ s' → s' < r → M * M ∣ vB a b (E r) (E s')
      · rw [b2_t h2, b2_t (fun s' p1 p2 => h2 s' (by omega) p2)]
      · rw [b2_f h2, b2_f (fun z2 => h2 (fun s' p1 p2 => by
          by_cases hss : s' = s
          · rw [hss]; exact hd
          · exact z2 s' (by omega) p2))]
    · rw [b2_f (fun z => hd z.2), b2_f (fun z => hd (z s (by omega) (by omega))), z N (s + 1) (by omega)]
theorem wclL21 {σ : mSt} {O t n : Nat} {a b M : Int} {E : Nat → V4} {x : Int → mSt → Option (Int × mSt)} (h : enL σ O t n) (h0 : σ O 0 = a) (h1 : σ O 1 = b) (hE : ∀ r, r < 4 → rwC σ t r = E r) (ht : σ t 2 = M) (ha : -60 ≤ a ∧ a ≤ 60) (hb : -60 ≤ b ∧ b ≤ 60) (hM : 0 < M ∧ M ≤ 10000000) (hB : rB2 E M) : ∀ (m r N : Nat), r + m = 4 → m < N → mX2_isWhole_L21 114 (M * M) x N 1 (r : Int) σ = x (b2 (∀ r', r ≤ r' → r' < 4 → (M ∣ 2 * vg 0 (E r') ∧ M * M ∣ vN a b (E r')) ∧ ∀ s, s < r' → M * M ∣ vB a b (E r') (E s))) σ := by
  have h' := h
  obtain ⟨hL, g0, g1, g2, g3, g4, g5, g6, g7⟩ := h
  obtain ⟨k1, k2, k3, k4, k5, k6⟩ := lat_lay hL g5
  have z : ∀ (N s : Nat), 0 < N → mX2_isWhole_L21 114 (M * M) x N 0 (s : Int) σ = x 0 σ := by
    intro N s hN
    obtain ⟨N, rfl⟩ : ∃ q, N = q + 1 := ⟨N - 1, by omega⟩
    rw [mX2_isWhole_L21.eq_2, if_pos (show wI (0 : Int) = 0 by decide)]
    split <;> rfl
  intro m
  induction m with
  | zero =>
    intro r N h1 h2
    obtain ⟨N, rfl⟩ : ∃ q, N = q + 1 := ⟨N - 1, by omega⟩
    rw [mX2_isWhole_L21.eq_2, if_pos (by rw [wI_id (x := (r : Int)) (by omega)]; omega), b2_t (fun s' p1 p2 => by omega)]
  | succ m ih =>
    intro r N q1 q2
    obtain ⟨N, rfl⟩ : ∃ q, N = q + 1 := ⟨N - 1, by omega⟩
    have hr : r < 4 := by omega
    have pr := pr_rng (x := E r) (y := E r) ha hb (by omega) (hB r hr) (hB r hr)
    have x0 := hB r hr 0 (by omega)
    have MM := mul_rng (x := M) (y := M) (A := 10000000) (B := 10000000) (by omega) (by omega) (by omega)
    have MM0 : 0 < M * M := Int.mul_pos hM.1 hM.1
    have vn : vN a b (E r) = (E r).1 * (E r).1 - a * (E r).2.1 * (E r).2.1 - b * (E r).2.2.1 * (E r).2.2.1 + a * b * (E r).2.2.2 * (E r).2.2.2 := rfl
    have e1 : rowV σ (t + 2 + r) = E r := hE r hr
    have e0 : σ (t + 2 + r) 0 = vg 0 (E r) := by rw [rwC_at σ t (show 0 < 4 by omega), hE r hr]
    have tail : ∀ v : Int, mX2_isWhole_L21 114 (M * M) x N v ((r + 1 : Nat) : Int) σ = mX2_isWhole_B148 114 (M * M) (mX2_isWhole_L21 114 (M * M) x N) x v (r : Int) σ := fun v => by
      unfold mX2_isWhole_B148
      rw [bnd_eq, show (r : Int) + 1 = ((r + 1 : Nat) : Int) by omega]
    have B93 : mX2_isWhole_B93 114 (M * M) (mX2_isWhole_L21 114 (M * M) x N) x (r : Int) (t + 2 + r) σ = x 0 σ := by
      unfold mX2_isWhole_B93 mX2_isWhole_B94
      obtain ⟨f, hf⟩ := mF5
      rw [hf, mX2_isWhole_L98.eq_2, if_pos (show wI (0 : Int) = 0 by decide)]
      split <;> exact (tail 0).symm.trans (z N (r + 1) (by omega))
    rw [mX2_isWhole_L21.eq_2, if_neg (by rw [wI_id (x := (r : Int)) (by omega)]; omega), if_neg (by decide), gr' g3 (by omega), numbers_e hL g5 hr, mCall_some, gr' g3 (by omega), modulus_e hL g5, mCall_some, Int.toNat_natCast, gx (k6 r hr).1 _ (by omega), ht, e0, div_e _ _ _ (by omega) (by omega), mCall_some]
    by_cases d1 : M ∣ 2 * vg 0 (E r)
    · rw [b2_t ⟨by omega, d1⟩, if_neg (by decide), gr' g0 g1, gc g2, gr' g0 g1, gc g2, h0, h1, form_e (k6 r hr).1, mCall_some, e1, div_e _ _ _ (by rw [vn]; omega) (by omega), mCall_some]
      by_cases d2 : M * M ∣ vN a b (E r)
      · rw [b2_t ⟨by omega, d2⟩, if_neg (by decide)]
        have l98 := wclL98 (x := fun z3 zσ => mX2_isWhole_B148 114 (M * M) (mX2_isWhole_L21 114 (M * M) x N) x z3 (r : Int) zσ) h' h0 h1 hr hE ha hb hM hB r 0 mF (by omega) (by unfold mF; omega)
        unfold mX2_isWhole_B94
        refine l98.trans ?_
        rw [← tail]
        by_cases d3 : ∀ s', 0 ≤ s' → s' < r → M * M ∣ vB a b (E r) (E s')
        · rw [b2_t d3, ih (r + 1) N (by omega) (by omega)]
          congr 1
          by_cases d4 : ∀ r', r + 1 ≤ r' → r' < 4 → (M ∣ 2 * vg 0 (E r') ∧ M * M ∣ vN a b (E r')) ∧ ∀ s, s < r' → M * M ∣ vB a b (E r') (E s)
          · rw [b2_t d4, b2_t (fun r' p1 p2 => by
              by_cases hrr : r' = r
              · rw [hrr]; exact ⟨⟨d1, d2⟩, fun s hs => d3 s (by omega) hs⟩
              · exact d4 r' (by omega) p2)]
          · rw [b2_f d4, b2_f (fun z2 => d4 (fun r' p1 p2 => z2 r' (by omega) p2))]
        · rw [b2_f d3, z N (r + 1) (by omega), b2_f (fun z2 => d3 (fun s' _ p2 => (z2 r (by omega) hr).2 s' p2))]
      · rw [b2_f (fun z => d2 z.2), if_pos (by decide), B93, b2_f (fun z2 => d2 (z2 r (by omega) hr).1.2)]
    · rw [b2_f (fun z => d1 z.2), if_pos (by decide), B93, b2_f (fun z2 => d1 (z2 r (by omega) hr).1.1)]
theorem wholeC_e {σ : mSt} {O t n : Nat} {a b M : Int} {E : Nat → V4} (h : enL σ O t n) (h0 : σ O 0 = a) (h1 : σ O 1 = b) (hE : ∀ r, r < 4 → rwC σ t r = E r) (ht : σ t 2 = M) (ha : -60 ≤ a ∧ a ≤ 60) (hb : -60 ≤ b ∧ b ≤ 60) (hM : 0 < M ∧ M ≤ 10000000) (hB : rB2 E M) : mX2_isWhole 114 σ = some (b2 (rWho a b M E), σ) := by
  have h' := h
  obtain ⟨hL, g0, g1, g2, g3, g4, g5, g6, g7⟩ := h
  have l21 := wclL21 (x := fun z3 zσ => mX2_isWhole_B154 114 z3 zσ) h' h0 h1 hE ht ha hb hM hB 4 0 mF (by omega) (by unfold mF; omega)
  unfold mX2_isWhole
  rw [gc114, gr' g3 (by omega), modulus_e hL g5, mCall_some, gr' g3 (by omega), modulus_e hL g5, mCall_some, ht, bnd_eq]
  refine l21.trans ?_
  unfold mX2_isWhole_B154
  by_cases hw : rWho a b M E
  · rw [b2_t hw, b2_t (show ∀ r', 0 ≤ r' → r' < 4 → (M ∣ 2 * vg 0 (E r') ∧ M * M ∣ vN a b (E r')) ∧ ∀ s, s < r' → M * M ∣ vB a b (E r') (E s) from fun r' _ p2 => hw r' p2), mG_pos (by decide)]
  · rw [b2_f hw, b2_f (show ¬ ∀ r', 0 ≤ r' → r' < 4 → (M ∣ 2 * vg 0 (E r') ∧ M * M ∣ vN a b (E r')) ∧ ∀ s, s < r' → M * M ∣ vB a b (E r') (E s) from fun z => hw (fun r hr => z r (by omega) hr)), mG_pos (by decide)]

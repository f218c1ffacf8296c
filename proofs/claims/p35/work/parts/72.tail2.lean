/-! the tail, put together -/
def SI (σ : mSt) (B s : Nat) : Prop := CI σ B s ∧ (∀ k, k < 3 → σ 257 k = 0 ∧ σ 254 k = σ 258 k ∧ σ 255 k = σ 259 k ∧ (6 / gdF (lx σ k) s 0 6 = 1 → soZ (σ 258 k) (σ 259 k) 8 0 ≠ none)) ∧ σ 257 3 = 1 ∧ σ 257 5 = 2
theorem SI.same {σ σ' : mSt} {B s : Nat} (h : SI σ B s) (hL : Lay σ') (o : ∀ i, i ≠ 145 → σ' i = σ i) : SI σ' B s :=
  ⟨h.1.same hL o, fun k hk => by rw [o 257 (by omega), o 254 (by omega), o 255 (by omega), o 258 (by omega), o 259 (by omega), lx_congr (fun i hi => o i (by omega))]; exact h.2.1 k hk, by rw [o 257 (by omega)]; exact h.2.2.1, by rw [o 257 (by omega)]; exact h.2.2.2⟩
def ptF (t : Int × Int × Int) (w : Int) : Int := if w = 0 then t.1 else if w = 1 then t.2.1 else t.2.2
theorem scr_fix {i k : Nat} (h : scr i k) : fixR i k = false := h.1
theorem solution_1 {σ : mSt} {B s k : Nat} {t : Int × Int × Int} {w : Int} (h : SI σ B s) (hk : k < 3) (hi : 6 / gdF (lx σ k) s 0 6 = 1) (ht : soZ (σ 258 k) (σ 259 k) 8 0 = some t) (hw : 0 ≤ w ∧ w ≤ 2) : ∃ s', mX11_solution 0 (k : Int) w σ = some (ptF t w, s') ∧ Lay s' ∧ ∀ i, i ≠ 145 → s' i = σ i := by
  obtain ⟨hq, -, -, -⟩ := h.2.1 k hk
  rcases isSplit_c h.1.1 h.1.2.1 h.1.2.2 (k := k) (by omega) hq with ⟨u, e1, e2, e3⟩ | ⟨e1, s', e2, e3, e4⟩
  · have eu : u = t := Option.some.inj (e2.symm.trans ht)
    subst eu
    obtain ⟨p0, p1, p2, p3, p4⟩ := spS_at σ (σ 258 k) (σ 259 k) u.1 u.2.1 u.2.2
    have o : ∀ i, i ≠ 145 → spS σ (σ 258 k) (σ 259 k) u.1 u.2.1 u.2.2 i = σ i := fun i hi => funext fun j => spS_ne _ _ _ _ _ _ _ _ hi
    refine ⟨_, ?_, h.1.1.frm frm_spS (fun i j z => scr_fix z), o⟩
    unfold mX11_solution
    rw [gc0, quat_t h.1.1 h.1.2.1 (by omega) hq, mCall_some, if_neg (by decide), wI_id (by omega), if_neg (by omega), if_pos hw.2, e3, mCall_some, if_neg (by decide), gr' (r := 145) (by rw [spS_ne _ _ _ _ _ _ _ _ (by omega)]; exact (lay0 h.1.1).2.2.2.2.2.2.1) (by omega)]
    unfold mX9_part
    rw [gc145, wI_id (by omega), p2, p3, p4]
    unfold ptF
    by_cases c0 : w = 0
    · rw [if_pos c0, if_pos c0, mCall_some]
    · rw [if_neg c0, if_neg c0]
      by_cases c1 : w = 1
      · rw [if_pos c1, if_pos c1, mCall_some]
      · rw [if_neg c1, if_neg c1, mCall_some]
  · exact absurd ⟨hi, by rw [ht]; exact fun z => by cases z⟩ e1
theorem solution_2 {σ : mSt} {B s k : Nat} {w : Int} (h : SI σ B s) (hk : k < 3) (hi : 6 / gdF (lx σ k) s 0 6 ≠ 1) (hw : 0 ≤ w ∧ w ≤ 2) : ∃ s', mX11_solution 0 (k : Int) w σ = some (-2, s') ∧ Lay s' ∧ ∀ i, i ≠ 145 → s' i = σ i := by
  obtain ⟨hq, -, -, -⟩ := h.2.1 k hk
  rcases isSplit_c h.1.1 h.1.2.1 h.1.2.2 (k := k) (by omega) hq with ⟨u, e1, e2, e3⟩ | ⟨e1, s', e2, e3, e4⟩
  · exact absurd e1 hi
  · refine ⟨s', ?_, h.1.1.frm e3 (fun i j z => scr_fix z), e4⟩
    unfold mX11_solution
    rw [gc0, quat_t h.1.1 h.1.2.1 (by omega) hq, mCall_some, if_neg (by decide), wI_id (by omega), if_neg (by omega), if_pos hw.2, e2, mCall_some, if_pos (by decide)]
theorem notQ {σ : mSt} {B s k : Nat} (h : CI σ B s) (hk : k < 6) (hq : σ 257 k ≠ 0) : mX11_isQuaternion 0 (k : Int) σ = some (0, σ) := by
  rw [quat_c h.1 h.2.1 (by unfold i32; omega), b2_f (fun z => hq (by have := z.2.2; rwa [Int.toNat_natCast] at this))]
theorem solution_3 {σ : mSt} {B s : Nat} (h : SI σ B s) : mX11_solution 0 3 0 σ = some (-1, σ) := by
  unfold mX11_solution
  have := notQ (k := 3) h.1 (by decide) (by rw [h.2.2.1]; decide)
  rw [show ((3 : Nat) : Int) = 3 from rfl] at this
  rw [gc0, this, mCall_some, if_pos (by decide)]
theorem disc_5 {σ : mSt} {B s : Nat} (h : SI σ B s) : mX11_disc 0 5 σ = some (-1, σ) := by
  unfold mX11_disc
  have := notQ (k := 5) h.1 (by decide) (by rw [h.2.2.2]; decide)
  rw [show ((5 : Nat) : Int) = 5 from rfl] at this
  rw [gc0, this, mCall_some, if_pos (by decide)]
theorem isSolved_y {σ : mSt} {B s k : Nat} (h : SI σ B s) (hk : k < 3) : ∃ s', mL_isSolved 0 (k : Int) (σ 254 k) (σ 255 k) σ = some (1, s') ∧ Lay s' ∧ ∀ i, i ≠ 145 → s' i = σ i := by
  obtain ⟨hq, h4, h5, hs⟩ := h.2.1 k hk
  obtain ⟨-, ⟨-, ra1, ra2, -⟩, -, rb1, rb2, -⟩ := quatF h.1.2.1 (show k < 6 by omega) hq
  rw [h4, h5]
  unfold mL_isSolved
  have lxe : ∀ σ', (∀ i, i ≠ 145 → σ' i = σ i) → lx σ' k = lx σ k := fun σ' o => lx_congr (fun i hi => o i (by omega)) k
  by_cases hi : 6 / gdF (lx σ k) s 0 6 = 1
  · obtain ⟨t, ht⟩ : ∃ t, soZ (σ 258 k) (σ 259 k) 8 0 = some t := Option.ne_none_iff_exists'.mp (hs hi)
    have nx : ∀ σ' (w : Int), Lay σ' → (∀ i, i ≠ 145 → σ' i = σ i) → 0 ≤ w ∧ w ≤ 2 → ∃ s', mX11_solution 0 (k : Int) w σ' = some (ptF t w, s') ∧ Lay s' ∧ ∀ i, i ≠ 145 → s' i = σ i := fun σ' w hL o hw => by
      obtain ⟨s', g1, g2, g3⟩ := solution_1 (t := t) (w := w) (h.same hL o) hk (by rw [lxe _ o]; exact hi) (by rw [o 258 (by omega), o 259 (by omega)]; exact ht) hw
      exact ⟨s', g1, g2, fun i hi => (g3 i hi).trans (o i hi)⟩
    obtain ⟨s1, g1, L1, o1⟩ := nx σ 0 h.1.1 (fun _ _ => rfl) (by omega)
    obtain ⟨s2, g2, L2, o2⟩ := nx s1 1 L1 o1 (by omega)
    obtain ⟨s3, g3, L3, o3⟩ := nx s2 2 L2 o2 (by omega)
    obtain ⟨z1, z2, z3, z4⟩ := soZ_s 8 0 ht
    obtain ⟨y1, y2, y3, y4, y5, y6⟩ := soY_s 8 0 z3
    have hx := (soZ_rng ⟨ra1, ra2⟩ ⟨rb1, rb2⟩ 8 0 t (by omega) (by omega) ht).1
    obtain ⟨x, y, z⟩ := t
    have z1 : 0 ≤ z := z1
    have z2 : z < 8 := by have : z < 0 + ((8 : Nat) : Int) := z2; omega
    have y2 : 0 ≤ y := y2
    have y3 : y < 8 := by have : y < 0 + ((8 : Nat) : Int) := y3; omega
    have y4 : x = isq (σ 258 k * y * y + σ 259 k * z * z) := y4
    have y5 : ¬ noS (σ 258 k) (σ 259 k) y z := y5
    have y6 : ∀ w, 0 ≤ w → w < y → noS (σ 258 k) (σ 259 k) w z := y6
    have z4 : ∀ w, 0 ≤ w → w < z → soY (σ 258 k) (σ 259 k) w 8 0 = none := z4
    have hx : 0 ≤ x ∧ x ≤ 10000 := hx
    have hix := index_y (k := k) ((h.same L3 o3).1) (by omega)
    rw [lxe _ o3, hi] at hix
    have xx : x * x = σ 258 k * y * y + σ 259 k * z * z := by
      rw [y4]; exact isq_sq (by rw [← y4]; exact hx.1)
    have hv := sv_rng ⟨ra1, ra2⟩ ⟨rb1, rb2⟩ (y := y) (z := z) (by omega) (by omega)
    have hyz : ¬ (y = 0 ∧ z = 0) := fun q => y5 (Or.inr q)
    refine ⟨s3, ?_, L3, o3⟩
    rw [g1, mCall_some, g2, mCall_some, g3, mCall_some, hix, mCall_some, if_pos (by decide)]
    rw [show ptF (x, y, z) 0 = x from rfl, show ptF (x, y, z) 1 = y from rfl, show ptF (x, y, z) 2 = z from rfl]
    rw [wI_id (x := x) (by omega), wI_id (x := y) (by omega), wI_id (x := z) (by omega), wI_id (x := x + y + z) (by omega), if_neg (by omega), if_neg (by omega), if_neg (by omega), if_neg (by omega), if_neg (by omega), if_neg (by omega), if_pos (by rw [xx]), l128 ⟨ra1, ra2⟩ ⟨rb1, rb2⟩ (by omega) (by omega) ?_ (z + 1).toNat mF 0 (by omega) (by omega) (by unfold mF; omega)]
    · rfl
    · intro i hi0 hiz j hj0 hj
      by_cases c : i = z
      · rw [if_pos c] at hj
        rw [c]; exact y6 j hj0 hj
      · rw [if_neg c] at hj
        exact soY_n 8 0 (z4 i hi0 (by omega)) j hj0 (by omega)
  · have nx : ∀ σ' (w : Int), Lay σ' → (∀ i, i ≠ 145 → σ' i = σ i) → 0 ≤ w ∧ w ≤ 2 → ∃ s', mX11_solution 0 (k : Int) w σ' = some (-2, s') ∧ Lay s' ∧ ∀ i, i ≠ 145 → s' i = σ i := fun σ' w hL o hw => by
      obtain ⟨s', g1, g2, g3⟩ := solution_2 (w := w) (h.same hL o) hk (by rw [lxe _ o]; exact hi) hw
      exact ⟨s', g1, g2, fun i hi => (g3 i hi).trans (o i hi)⟩
    obtain ⟨s1, g1, L1, o1⟩ := nx σ 0 h.1.1 (fun _ _ => rfl) (by omega)
    obtain ⟨s2, g2, L2, o2⟩ := nx s1 1 L1 o1 (by omega)
    obtain ⟨s3, g3, L3, o3⟩ := nx s2 2 L2 o2 (by omega)
    have hix := index_y (k := k) ((h.same L3 o3).1) (by omega)
    rw [lxe _ o3] at hix
    have gi := gdF_in (lx σ k) (lx_in σ k) s 0 6 (by decide)
    have g6 : 0 ≤ 6 / gdF (lx σ k) s 0 6 ∧ 6 / gdF (lx σ k) s 0 6 ≤ 6 := by simp at gi; rcases gi with h | h | h | h <;> rw [h] <;> decide
    refine ⟨s3, ?_, L3, o3⟩
    rw [g1, mCall_some, g2, mCall_some, g3, mCall_some, hix, mCall_some, wI_id (by omega), if_neg hi, if_pos (by decide), if_pos (by decide), if_pos (by decide)]
theorem l740 {σ : mSt} {B s : Nat} (h : SI σ B s) {x : mSt → Option (Int × mSt)} : ∀ (m k N : Nat) (σ' : mSt), k + m = 3 → m < N → Lay σ' → (∀ i, i ≠ 145 → σ' i = σ i) → ∃ s', Lay s' ∧ (∀ i, i ≠ 145 → s' i = σ i) ∧ mL_law_L740 0 254 255 x N (k : Int) σ' = x s'
  | 0, k, N, σ', hk, hN, hL, o => by
    obtain ⟨f, rfl⟩ : ∃ f, N = f + 1 := ⟨N - 1, by omega⟩
    have e : k = 3 := by omega
    subst e
    exact ⟨σ', hL, o, by rw [mL_law_L740.eq_2, if_pos (by decide)]⟩
  | m + 1, k, N, σ', hk, hN, hL, o => by
    obtain ⟨f, rfl⟩ : ∃ f, N = f + 1 := ⟨N - 1, by omega⟩
    obtain ⟨s1, g1, g2, g3⟩ := isSolved_y (k := k) (h.same hL o) (by omega)
    obtain ⟨s2, r1, r2, r3⟩ := l740 h (x := x) m (k + 1) f s1 (by omega) (by omega) g2 (fun i hi => (g3 i hi).trans (o i hi))
    refine ⟨s2, r1, r2, ?_⟩
    rw [mL_law_L740.eq_2, if_neg (by rw [wI_id (by omega)]; omega), mG_pos (ixOK_of (n := 3) (by decide +kernel) (by omega) (by omega) (by decide)), mG_pos (ixOK_of (n := 3) (by decide +kernel) (by omega) (by omega) (by decide)), wI_nat (by omega), g1, mCall_some, if_neg (by decide), bnd_eq]
    exact r3
theorem l515 {σ : mSt} {B s : Nat} {x : mSt → Option (Int × mSt)} (h : CI σ B s) (h6 : ∀ k, k < 6 → sumN (lx σ k) s % 6 = 0) : ∀ (m k N : Nat), k + m = 6 → m < N → mL_law_L515 0 254 255 256 x N (k : Int) σ = x σ
  | 0, k, N, hk, hN => by
    obtain ⟨f, rfl⟩ : ∃ f, N = f + 1 := ⟨N - 1, by omega⟩
    have e : k = 6 := by omega
    subst e
    rw [mL_law_L515.eq_2, if_pos (by decide)]
  | m + 1, k, N, hk, hN => by
    obtain ⟨f, rfl⟩ : ∃ f, N = f + 1 := ⟨N - 1, by omega⟩
    rw [mL_law_L515.eq_2, if_neg (by rw [wI_id (by omega)]; omega), isWhole_y h (by omega) (h6 k (by omega)), mCall_some, if_neg (by decide), bnd_eq]
    exact l515 h h6 m (k + 1) f (by omega) (by omega)
theorem mTail_e {σ : mSt} {B s : Nat} (h : SI σ B s) (hT : TI σ) (h6 : ∀ k, k < 6 → sumN (lx σ k) s % 6 = 0) : ∃ out : Int × mSt, out.1 = 1 ∧ mTail 0 254 255 256 σ = some out := by
  have hF : 2000 < mF := by unfold mF; omega
  obtain ⟨s', hL, o, e⟩ := l740 h (x := fun zσ => mL_law_B773 0 zσ) 3 0 mF σ (by omega) (by omega) h.1.1 (fun _ _ => rfl)
  have hs := h.same hL o
  refine ⟨(1, s'), rfl, ?_⟩
  unfold mTail
  have e1 := l515 (x := fun zσ => mL_law_B539 0 254 255 256 zσ) h.1 h6 6 0 mF (by omega) (by omega)
  rw [show ((0 : Nat) : Int) = 0 from rfl] at e1
  rw [e1]
  unfold mL_law_B539
  rw [l542 h.1 hT 1000 mF 0 (by omega) (by omega) (by omega)]
  unfold mL_law_B629
  have e2 := l635 (x := fun z8 zσ => mL_law_B726 0 254 255 z8 zσ) h.1 6 0 mF (by omega) (by omega)
  rw [show ((0 : Nat) : Int) = 0 from rfl, show clsF σ 0 = 0 from rfl] at e2
  rw [e2]
  unfold mL_law_B726
  have hc := clsF_rng σ 6
  rw [classes_y h.1, mCall_some, if_pos rfl]
  rw [show ((0 : Nat) : Int) = 0 from rfl] at e
  rw [e]
  unfold mL_law_B773
  rw [solution_3 hs, mCall_some, if_pos (by decide), disc_5 hs, mCall_some, if_pos (by decide)]

/-! how often, and what is due: in range -/
theorem prm_cop {p q : Int} (hp : prm p) (hq : prm q) (h : p ≠ q) : Nat.Coprime p.natAbs q.natAbs := by
  have p2 := hp.1
  have q2 := hq.1
  obtain ⟨g, hg⟩ : ∃ g : Nat, g = Nat.gcd p.natAbs q.natAbs := ⟨_, rfl⟩
  have h1 : (g : Int) ∣ p := by rw [← Int.dvd_natAbs, hg]; exact Int.ofNat_dvd.mpr (Nat.gcd_dvd_left _ _)
  have h2 : (g : Int) ∣ q := by rw [← Int.dvd_natAbs, hg]; exact Int.ofNat_dvd.mpr (Nat.gcd_dvd_right _ _)
  have g0 : 0 < g := by rw [hg]; exact Nat.gcd_pos_of_pos_left _ (by omega)
  show Nat.gcd p.natAbs q.natAbs = 1
  rw [← hg]
  by_cases h3 : g = 1
  · exact h3
  · have e1 := prm_dvd hp h1 (by omega)
    have e2 := prm_dvd hq h2 (by omega)
    exact absurd (e1.symm.trans e2) h
theorem duF_rng {L X : Nat → Int} {s : Nat} {T : Int} (hi : ∀ i j, i < j → j < s → L i < L j) (hp : ∀ i, i < s → place (L i)) (hx : ∀ i, i < s → L i ≠ 0 → X i ≠ 0 → L i ∣ T) : ∀ (m i : Nat) (D : Int), i + m = s → 1 ≤ D → D ∣ T → (∀ j, i ≤ j → j < s → L j ≠ 0 → Nat.Coprime D.natAbs (L j).natAbs) → 1 ≤ duF L X m i D ∧ duF L X m i D ∣ T := by
  intro m
  induction m with
  | zero => intro i D _ h2 h3 _; exact ⟨h2, h3⟩
  | succ m ih =>
    intro i D h1 h2 h3 h4
    unfold duF
    by_cases h5 : L i = 0 ∨ X i = 0
    · rw [if_pos h5]
      exact ih (i + 1) D (by omega) h2 h3 (fun j z => h4 j (by omega))
    · rw [if_neg h5]
      have l0 : L i ≠ 0 := fun z => h5 (Or.inl z)
      have pi : prm (L i) := by
        rcases hp i (by omega) with z | z
        · exact absurd z l0
        · exact z.1
      have li := pi.1
      have c := h4 i (by omega) (by omega) l0
      refine ih (i + 1) (D * L i) (by omega) ?_ ?_ (fun j z1 z2 z3 => ?_)
      · have := Int.mul_pos (show 0 < D by omega) (show 0 < L i by omega)
        omega
      · rw [← Int.natAbs_dvd_natAbs, Int.natAbs_mul]
        exact Nat.Coprime.mul_dvd_of_dvd_of_dvd c (Int.natAbs_dvd_natAbs.mpr h3) (Int.natAbs_dvd_natAbs.mpr (hx i (by omega) l0 (fun z => h5 (Or.inr z))))
      · rw [Int.natAbs_mul]
        refine Nat.Coprime.mul_left (h4 j (by omega) z2 z3) (prm_cop pi ?_ ?_)
        · rcases hp j z2 with z | z
          · exact absurd z z3
          · exact z.1
        · have := hi i j (by omega) z2
          omega
theorem locQ_dvd {a b p : Int} (h0 : p ≠ 0) (h : locQ a b p ≠ 0) : p ∣ 2 * (a * b) := by
  by_cases h2 : p = 2
  · rw [h2]; exact Int.dvd_mul_right _ _
  · by_cases ha : p ∣ a
    · exact Int.dvd_trans ha (Int.dvd_trans (Int.dvd_mul_right a b) (Int.dvd_mul_left _ _))
    · by_cases hb : p ∣ b
      · exact Int.dvd_trans hb (Int.dvd_trans (⟨a, Int.mul_comm a b⟩ : b ∣ a * b) (Int.dvd_mul_left _ _))
      · refine absurd ?_ h
        unfold locQ
        rw [if_neg h0, if_neg h2, b2_f (fun z => ha z.1), b2_f (fun z => hb z.1), b2_f (fun z => ha z.1)]
        rfl
theorem due_rng {σ : mSt} {B n s k : Nat} (hB : iBook σ B n) (hP : iPlaces σ n s) (hk : k < n) (hq : σ 257 k = 0) : 1 ≤ duF (σ 102) (lx σ k) s 0 1 ∧ duF (σ 102) (lx σ k) s 0 1 ≤ 7200 := by
  obtain ⟨-, ⟨na, ra1, ra2, -⟩, nb, rb1, rb2, -⟩ := quatF hB hk hq
  obtain ⟨s64, p2, p3, p4, p5, p6⟩ := hP
  have e : ∀ i, lx σ k i = locQ (σ 258 k) (σ 259 k) (σ 102 i) := fun i => by
    unfold lx loc
    rw [show (9 : Nat) = 8 + 1 from rfl]
    unfold locF
    rw [if_pos hq]
  have r := duF_rng (T := 2 * (σ 258 k * σ 259 k)) p3 p4 (fun i hi h1 h2 => locQ_dvd h1 (by rw [← e]; exact h2)) s 0 1 (by omega) (by omega) ⟨_, (Int.one_mul _).symm⟩ (fun j _ _ _ => Nat.coprime_one_left _)
  refine ⟨r.1, ?_⟩
  have m := mul_rng (x := σ 258 k) (y := σ 259 k) (A := 60) (B := 60) (by omega) (by omega) (by omega)
  have nz : 2 * (σ 258 k * σ 259 k) ≠ 0 := Int.mul_ne_zero (by omega) (Int.mul_ne_zero na nb)
  have := Int.le_of_dvd (by omega) (abs_dvd.mpr r.2)
  omega
def vlF : Nat → Int → Int → Int
  | 0, _, _ => 0
  | m + 1, p, D => if D % p = 0 then vlF m p (D / p) + 1 else 0
theorem vl_e {p : Int} (hp : 2 ≤ p ∧ p ≤ 60) : ∀ (m : Nat) (D v : Int), m ≤ 20 → 1 ≤ D → D < 2 ^ m → 0 ≤ v → v + m ≤ 40 → (0 ≤ vlF m p D ∧ vlF m p D ≤ m) ∧ (∀ y N (x : Int → mSt → Option (Int × mSt)) σ, m < N → mX5_howOften_L18 p y x N v D σ = x (v + vlF m p D) σ) ∧ ∀ y N (x : Int → mSt → Option (Int × mSt)) σ, m < N → mX12_often_L4 y p x N v D σ = x (v + vlF m p D) σ := by
  intro m
  induction m with
  | zero => intro D v _ h1 h2; omega
  | succ m ih =>
    intro D v h0 h1 h2 h3 h4
    have D20 : D ≤ 1048576 := by
      have : (2 : Int) ^ (m + 1) ≤ 2 ^ 20 := by
        have := Nat.pow_le_pow_right (show 0 < 2 by omega) h0
        exact_mod_cast this
      omega
    have wp : wI p = p := wI_id (x := p) (by omega)
    have wpl : wL p = p := wL_id (x := p) (by omega)
    have wD : wI D = D := wI_id (x := D) (by omega)
    have wDl : wL D = D := wL_id (x := D) (by omega)
    have wv : wI v = v := wI_id (x := v) (by omega)
    have tm : D.tmod p = D % p := Int.tmod_eq_emod_of_nonneg (by omega)
    have td : D.tdiv p = D / p := Int.tdiv_eq_ediv_of_nonneg (by omega)
    have mr : 0 ≤ D % p ∧ D % p < p := ⟨Int.emod_nonneg _ (by omega), Int.emod_lt_of_pos _ (by omega)⟩
    by_cases hd : D % p = 0
    · have e : p * (D / p) = D := Int.mul_ediv_cancel' (Int.dvd_of_emod_eq_zero hd)
      have q0 : 1 ≤ D / p := by
        rcases Int.lt_or_le 0 (D / p) with z | z
        · omega
        · have := Int.mul_le_mul_of_nonneg_left z (show 0 ≤ p by omega); omega
      have q1 : 2 * (D / p) ≤ D := by
        have := Int.mul_le_mul_of_nonneg_right (show 2 ≤ p by omega) (show 0 ≤ D / p by omega)
        omega
      obtain ⟨i1, i2, i3⟩ := ih (D / p) (v + 1) (by omega) q0 (by rw [Int.pow_succ] at h2; omega) (by omega) (by omega)
      have ev : vlF (m + 1) p D = vlF m p (D / p) + 1 := by
        show (if D % p = 0 then vlF m p (D / p) + 1 else 0) = _
        rw [if_pos hd]
      refine ⟨by rw [ev]; omega, fun y N x σ hN => ?_, fun y N x σ hN => ?_⟩
      · obtain ⟨N, rfl⟩ : ∃ z, N = z + 1 := ⟨N - 1, by omega⟩
        rw [mX5_howOften_L18.eq_2, if_neg (by rw [wv]; omega), mG_pos (by rw [wp, wpl]; omega), wDl, wp, wpl, tm, hd, if_pos (by decide), bnd_eq, bnd_eq, td, i2 y N x σ (by omega), ev]
        congr 1
        omega
      · obtain ⟨N, rfl⟩ : ∃ z, N = z + 1 := ⟨N - 1, by omega⟩
        rw [mX12_often_L4.eq_2, mG_pos (by rw [wp]; omega), wD, wp, tm, hd, if_pos (by decide), bnd_eq, bnd_eq, td, i3 y N x σ (by omega), ev]
        congr 1
        omega
    · have ev : vlF (m + 1) p D = 0 := by
        show (if D % p = 0 then vlF m p (D / p) + 1 else 0) = _
        rw [if_neg hd]
      refine ⟨by rw [ev]; omega, fun y N x σ hN => ?_, fun y N x σ hN => ?_⟩
      · obtain ⟨N, rfl⟩ : ∃ z, N = z + 1 := ⟨N - 1, by omega⟩
        rw [mX5_howOften_L18.eq_2, if_neg (by rw [wv]; omega), mG_pos (by rw [wp, wpl]; omega), wDl, wp, wpl, tm, wL_id (x := D % p) (by omega), if_neg hd, ev, Int.add_zero]
      · obtain ⟨N, rfl⟩ : ∃ z, N = z + 1 := ⟨N - 1, by omega⟩
        rw [mX12_often_L4.eq_2, mG_pos (by rw [wp]; omega), wD, wp, tm, wI_id (x := D % p) (by omega), if_neg hd, ev, Int.add_zero]
theorem howOften_e {p D : Int} {σ : mSt} (hp : 2 ≤ p ∧ p ≤ 60) (hD : 1 ≤ D ∧ D ≤ 1000000) : mX5_howOften p D σ = some (vlF 20 p D, σ) := by
  obtain ⟨-, h, -⟩ := vl_e hp 20 D 0 (by omega) hD.1 (by omega) (by omega) (by omega)
  unfold mX5_howOften
  rw [if_neg (by rw [wI_id (x := p) (by omega)]; omega), if_neg (by rw [wL_id (x := D) (by omega)]; omega), h _ _ _ _ (by unfold mF; omega), Int.zero_add]
  rfl
theorem oftenV_e {p D : Int} {σ : mSt} (hp : 2 ≤ p ∧ p ≤ 60) (hD : 1 ≤ D ∧ D ≤ 1000000) : mX12_often D p σ = some (vlF 20 p D, σ) := by
  obtain ⟨-, -, h⟩ := vl_e hp 20 D 0 (by omega) hD.1 (by omega) (by omega) (by omega)
  unfold mX12_often
  rw [h _ _ _ _ (by unfold mF; omega), Int.zero_add]
  rfl
theorem vl_rng {p D : Int} (hp : 2 ≤ p ∧ p ≤ 60) (hD : 1 ≤ D ∧ D ≤ 1000000) : 0 ≤ vlF 20 p D ∧ vlF 20 p D ≤ 20 := (vl_e hp 20 D 0 (by omega) hD.1 (by omega) (by omega) (by omega)).1
/-- whether an order can grow at p -/
def canV (p A D : Int) : Int := if vlF 20 p A ≤ vlF 20 p D then 0 else 1
def plS (σ : mSt) (B n s k : Nat) (D : Int) : Prop := iBook σ B n ∧ iPlaces σ n s ∧ k < n ∧ σ 257 k = 0 ∧ duF (σ 102) (lx σ k) s 0 1 = D ∧ 1 ≤ D ∧ D ≤ 7200
theorem plS_fr {σ τ : mSt} {B n s k : Nat} {D : Int} (h : plS σ B n s k D) (h3 : τ 0 3 = σ 0 3) (h4 : τ 0 4 = σ 0 4) (o : ∀ i, (37 ≤ i ∧ i ≤ 111) ∨ (255 ≤ i ∧ i ≤ 261) → τ i = σ i) : plS τ B n s k D := by
  obtain ⟨g1, g2, g3, g4, g5, g6⟩ := h
  refine ⟨iBook_congr g1 h3 h4 (fun i hi => o i (by omega)), iPlaces_congr g2 g1.2.1 (fun i hi => o i (by omega)), g3, by rw [o 257 (by omega)]; exact g4, ?_, g6⟩
  rw [lx_congr (fun i hi => o i (by omega)), o 102 (by omega)]
  exact g5
theorem canGrow_e {σ : mSt} {B n s k : Nat} {a b M p D : Int} {E : Nat → V4} (h : cO σ k a b M E) (hP : plS σ B n s k D) (ha : a ≠ 0 ∧ -60 ≤ a ∧ a ≤ 60) (hb : b ≠ 0 ∧ -60 ≤ b ∧ b ≤ 60) (hp : 2 ≤ p ∧ p ≤ 60) : mX11_canGrow 0 (k : Int) p σ = some (canV p (((4 * a * b).natAbs : Int) / lot M E) D, σ) := by
  obtain ⟨h1, ⟨h2, h3, h4⟩, h5, -⟩ := h
  obtain ⟨g1, g2, g3, g4, g5, g6, g7⟩ := hP
  have hn := g1.2.1
  have k8 : k < 8 := by omega
  obtain ⟨k1, k2, k3, k4, k5, k6⟩ := ord_lay h1 k8
  have ok := (ord_ok h5).1
  have hd := lotd ok (ord_ok h5).2.2
  obtain ⟨A1, A2, -, -⟩ := ab_rng ha hb
  have lp := lot_pos ok.1.1 ok.1.2.1 (uni_of ok.1.2.2.2)
  have q := dq_pos A1 lp (abs_dvd.mpr hd)
  have M7 := (ord_facts ha hb h5).1
  have da := disc_at h1 k1 k3 h2 h3 ha hb h4 (by omega) ok.1
  rw [if_pos hd] at da
  have v1 := vl_rng hp (D := ((4 * a * b).natAbs : Int) / lot M E) (by omega)
  have v2 := vl_rng hp (D := D) (by omega)
  have pc := product_c h1 g2 hn g3
  rw [g5] at pc
  unfold mX11_canGrow mX6_discriminant
  rw [gc0, gr' (lay0 h1).2.2.2.2.1 (by omega), gx113 _ (by omega), wI_nat (k := k) (by omega), gr' k4 (by omega), gc k1, gr' k5 (by omega), da, mCall_some, mCall_some, howOften_e hp (by omega), mCall_some, gr' (lay0 h1).2.2.1 (by omega), pc, mCall_some, howOften_e hp (by omega), mCall_some, wI_id (x := vlF 20 p _) (by omega), wI_id (x := vlF 20 p D) (by omega)]
  unfold canV
  by_cases hc : vlF 20 p (((4 * a * b).natAbs : Int) / lot M E) ≤ vlF 20 p D
  · rw [if_pos hc, if_pos hc]
  · rw [if_neg hc, if_neg hc]
theorem discR_e {τ : mSt} {k : Nat} {a b M : Int} {E : Nat → V4} (h : rO τ k a b M E) (hk : k < 8) (ha : a ≠ 0 ∧ -60 ≤ a ∧ a ≤ 60) (hb : b ≠ 0 ∧ -60 ≤ b ∧ b ≤ 60) : mX12_discOf 253 (k : Int) (k : Int) τ = some (((4 * a * b).natAbs : Int) / lot M E, τ) := by
  obtain ⟨h1, h2, h3, h4, h5, h6, h7⟩ := h
  have l := lay253 h1
  obtain ⟨⟨m0, m1⟩, fE, fl, fd, -⟩ := ord_facts ha hb h7
  rw [discOf_r (a := a) (b := b) (M := M) l.2.2.2.2.2.2.2.2.2.2.2.2.2.2.2.1 l.2.2.2.2.2.2.2.2.2.2.2.2.2.2.2.2.1 l.2.2.2.2.1 l.2.2.2.2.2.1 (by omega) (by omega) h5 h6 ha hb h3 (by omega) (fun i hi => by rw [h2]; exact ⟨(fE i hi).1, (fE i hi).2.1⟩) (by rw [h2]; exact fd), h2]
  rfl
theorem hasMore_e {τ : mSt} {B n s k : Nat} {a b M p D : Int} {E : Nat → V4} (h : rO τ k a b M E) (hP : plS τ B n s k D) (ha : a ≠ 0 ∧ -60 ≤ a ∧ a ≤ 60) (hb : b ≠ 0 ∧ -60 ≤ b ∧ b ≤ 60) (hp : 2 ≤ p ∧ p ≤ 60) : mX12_hasMore 253 (k : Int) p τ = some (canV p (((4 * a * b).natAbs : Int) / lot M E) D, τ) := by
  have h' := h
  obtain ⟨h1, h2, h3, h4, h5, h6, h7⟩ := h
  obtain ⟨g1, g2, g3, g4, g5, g6, g7⟩ := hP
  have hn := g1.2.1
  have k8 : k < 8 := by omega
  have ok := (ord_ok h7).1
  have hd := lotd ok (ord_ok h7).2.2
  obtain ⟨A1, A2, -, -⟩ := ab_rng ha hb
  have lp := lot_pos ok.1.1 ok.1.2.1 (uni_of ok.1.2.2.2)
  have q := dq_pos A1 lp (abs_dvd.mpr hd)
  have v1 := vl_rng hp (D := ((4 * a * b).natAbs : Int) / lot M E) (by omega)
  have v2 := vl_rng hp (D := D) (by omega)
  have du := dueOf_r h1 g1 g2 g3
  rw [g5] at du
  unfold mX12_hasMore
  rw [gc253, discR_e h' k8 ha hb, mCall_some, oftenV_e hp (by omega), mCall_some, du, mCall_some, oftenV_e hp (by omega), mCall_some, wI_id (x := vlF 20 p _) (by omega), wI_id (x := vlF 20 p D) (by omega)]
  unfold canV
  by_cases hc : vlF 20 p (((4 * a * b).natAbs : Int) / lot M E) ≤ vlF 20 p D
  · rw [if_pos hc, if_pos hc]
  · rw [if_neg hc, if_neg hc]

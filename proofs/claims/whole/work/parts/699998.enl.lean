/-! enlargesAt -/
def rW (l i j : Nat) : Prop := cW i j ∨ (i = 269 ∧ 16 * l ≤ j ∧ j < 16 * l + 16) ∨ ((i = 270 ∨ i = 271) ∧ j = l)
theorem rW_fix {l i j : Nat} (h : rW l i j) : fixR i j = false := by
  rcases h with h | ⟨rfl, -⟩ | ⟨rfl | rfl, -⟩
  · exact cW_fix h
  · exact fixR_data (by decide) j
  · exact fixR_data (by decide) j
  · exact fixR_data (by decide) j
theorem less8 {τ : mSt} {N : Int} {F : Nat → V4} {u : V4} (h : atR τ 8 F N N u) (hF : gdL N F) (hN : N ≤ 1000000000) : mX12_lessens 253 8 τ = some (0, τ) := by
  have h' := h
  obtain ⟨h3, h4, h5, h6, h7⟩ := h
  have rb := rB2_of hF.1
  have N0 := hF.1.1
  obtain ⟨g, g1, g2⟩ := lessens_e (l := 8) h3 (by omega) h4 h5 h6 ⟨N0, hN⟩ ⟨N0, hN⟩ (fun r c hr hc => by have := rb r hr c hc; omega)
  have e : g = 1 := hF.2.2 g g1.1 g1.2.1 (fun i hi => ⟨g1.2.2.1 i 0 hi (by omega) (by omega), g1.2.2.1 i 1 hi (by omega) (by omega), g1.2.2.1 i 2 hi (by omega) (by omega), g1.2.2.1 i 3 hi (by omega) (by omega)⟩)
  have e2 : stP τ 8 (lwr 1 F) 16 = τ := by
    funext i j
    unfold stP
    by_cases h2 : i = 269 ∧ 16 * 8 ≤ j ∧ j < 16 * 8 + 16
    · rw [if_pos h2]
      have hr : (j - 16 * 8) / 4 < 4 := by omega
      have hc : (j - 16 * 8) % 4 < 4 := by omega
      unfold lwr
      rw [vg_vk _ hc, Int.ediv_one, ← h4 _ hr, ← rowL_at τ 8 hr hc, h2.1, show 16 * 8 + 4 * ((j - 16 * 8) / 4) + (j - 16 * 8) % 4 = j by omega]
    · rw [if_neg h2]
  rw [e, e2, Int.ediv_one, up_same h5, up_same h6] at g2
  exact g2
theorem copyl {τ : mSt} {l : Nat} {N : Int} {F : Nat → V4} {u : V4} (h : atR τ 8 F N N u) (hl : l < 8) : ∃ τ', mX12_copies 253 8 (l : Int) τ = some (0, τ') ∧ frm (rW l) τ τ' ∧ (∀ r, r < 4 → rowL τ' l r = F r) ∧ τ' 270 l = N ∧ τ' 271 l = N := by
  obtain ⟨h3, h4, h5, h6, h7⟩ := h
  have c := copies_e (a := 8) (b := l) h3 (by omega) (show l < 10 by omega) (by omega)
  refine ⟨_, c, ?_, fun r hr => ?_, ?_, ?_⟩
  · refine frm.put (frm.put (fun i j h => ?_) (Or.inr (Or.inr ⟨Or.inl rfl, rfl⟩))) (Or.inr (Or.inr ⟨Or.inr rfl, rfl⟩))
    unfold stP
    rw [if_neg (fun z => h (Or.inr (Or.inl z)))]
  · rw [rowL_congr (σ := stP τ l (rowL τ 8) 16) (funext fun j => by rw [upS_ne (by omega), upS_ne (by omega)]), rowL_stP τ l _ hr]
    exact h4 r hr
  · rw [upS_ne (by omega), upS_same]; exact h5
  · rw [upS_same]; exact h6
def dgt (n p : Int) (i : Nat) : Int := if i = 0 then n / (p * p * p) else if i = 1 then n / (p * p) % p else if i = 2 then n / p % p else n % p
theorem dgt_ok {n p : Int} (hp : 0 < p) (hn : 0 ≤ n ∧ n < p * p * p * p) : digs p (dgt n p) ∧ pv p (dgt n p) 4 = n := by
  have p2 := Int.mul_pos hp hp
  have p3 := Int.mul_pos p2 hp
  have e2 : n / (p * p) = n / p / p := (Int.ediv_ediv_of_nonneg (Int.le_of_lt hp)).symm
  have e3 : n / (p * p * p) = n / (p * p) / p := (Int.ediv_ediv_of_nonneg (Int.le_of_lt p2)).symm
  have m : ∀ x, 0 ≤ x % p ∧ x % p < p := fun x => ⟨Int.emod_nonneg _ (by omega), Int.emod_lt_of_pos _ hp⟩
  constructor
  · intro i hi
    unfold dgt
    by_cases h0 : i = 0
    · rw [if_pos h0]
      exact ⟨Int.ediv_nonneg hn.1 (by omega), Int.ediv_lt_of_lt_mul p3 (by rw [Int.mul_comm]; exact hn.2)⟩
    · rw [if_neg h0]
      by_cases h1 : i = 1
      · rw [if_pos h1]; exact m _
      · rw [if_neg h1]
        by_cases h2 : i = 2
        · rw [if_pos h2]; exact m _
        · rw [if_neg h2]; exact m _
  · show (((0 * p + dgt n p 0) * p + dgt n p 1) * p + dgt n p 2) * p + dgt n p 3 = n
    have d0 : dgt n p 0 = n / (p * p * p) := rfl
    have d1 : dgt n p 1 = n / (p * p) % p := rfl
    have d2 : dgt n p 2 = n / p % p := rfl
    have d3 : dgt n p 3 = n % p := rfl
    rw [d0, d1, d2, d3, Int.zero_mul, Int.zero_add, e3, Int.ediv_mul_add_emod, e2, Int.ediv_mul_add_emod, Int.ediv_mul_add_emod]
def enS (τ0 τ : mSt) (l : Nat) (a b M : Int) (E : Nat → V4) : Prop := Lay τ ∧ frm cW τ0 τ ∧ (∀ r, r < 4 → rowL τ l r = E r) ∧ τ 270 l = M ∧ τ 271 l = M ∧ τ 258 l = a ∧ τ 259 l = b
theorem enS_fr {τ0 τ τ' : mSt} {l : Nat} {a b M : Int} {E : Nat → V4} (hl : l < 8) (h : enS τ0 τ l a b M E) (hf : frm cW τ τ') : enS τ0 τ' l a b M E := by
  obtain ⟨h1, h2, h3, h4, h5, h6, h7⟩ := h
  refine ⟨h1.frm hf (fun i j z => cW_fix z), h2.tr hf (fun i j z => z), fun r hr => ?_, ?_, ?_, ?_, ?_⟩
  · rw [← h3 r hr]
    refine vg_ext fun c hc => ?_
    rw [← rowL_at _ l hr hc, ← rowL_at _ l hr hc, hf _ _ (by unfold cW; omega)]
  · rw [hf _ _ (by unfold cW; omega)]; exact h4
  · rw [hf _ _ (by unfold cW; omega)]; exact h5
  · rw [hf _ _ (by unfold cW; omega)]; exact h6
  · rw [hf _ _ (by unfold cW; omega)]; exact h7
def enR (τ0 τ' : mSt) (l : Nat) (a b M p : Int) (E : Nat → V4) (v : Int) : Prop := Lay τ' ∧ ((v = 1 ∧ frm (rW l) τ0 τ' ∧ ∃ k N F, digs p k ∧ gdP a b M p E k ∧ ng a b M p E 4 (pv p k 4) ∧ hull a b M E (pS E k 4) (M * p) N F ∧ (∀ r, r < 4 → rowL τ' l r = F r) ∧ τ' 270 l = N ∧ τ' 271 l = N) ∨ (v = 0 ∧ frm cW τ0 τ' ∧ noF a b M p E))
theorem enlL2 {τ0 : mSt} {l : Nat} {a b M p : Int} {E : Nat → V4} (hl : l < 8) (ha : a ≠ 0 ∧ -60 ≤ a ∧ a ≤ 60) (hb : b ≠ 0 ∧ -60 ≤ b ∧ b ≤ 60) (hE : gdL M E) (hM : M ≤ 7200) (hp : 2 ≤ p ∧ p ≤ 60) : ∀ (m n N : Nat) (τ : mSt), (n : Int) + m = p * p * p * p → m < N → enS τ0 τ l a b M E → ng a b M p E 4 n → ∃ v τ', mX12_enlargesAt_L2 253 (l : Int) p (fun zσ => mX12_enlargesAt_B68 253 (l : Int) p zσ) N (n : Int) τ = some (v, τ') ∧ enR τ0 τ' l a b M p E v := by
  have m2 := mul_rng (x := p) (y := p) (A := 60) (B := 60) (by omega) (by omega) (by omega)
  have m3 := mul_rng (x := p * p) (y := p) (A := 3600) (B := 60) (by omega) (by omega) (by omega)
  have m4 := mul_rng (x := p * p * p) (y := p) (A := 216000) (B := 60) (by omega) (by omega) (by omega)
  have p2 : 0 < p * p := Int.mul_pos (by omega) (by omega)
  have p3 : 0 < p * p * p := Int.mul_pos p2 (by omega)
  intro m
  induction m with
  | zero =>
    intro n N τ h1 h2 h3 h4
    obtain ⟨N, rfl⟩ : ∃ z, N = z + 1 := ⟨N - 1, by omega⟩
    refine ⟨0, τ, ?_, h3.1, Or.inr ⟨rfl, h3.2.1, fun k hk hg => h4 k hk ?_ hg⟩⟩
    · rw [mX12_enlargesAt_L2.eq_2, if_pos (by rw [wI_id (x := p * p * p * p) (by omega), wI_id (x := (n : Int)) (by omega)]; omega)]
      rfl
    · have d0 := hk 0 (by omega)
      have d1 := hk 1 (by omega)
      have d2 := hk 2 (by omega)
      have d3 := hk 3 (by omega)
      have s : ∀ x y P, x + 1 ≤ P → y < p → x * p + y < P * p := fun x y P g1 g2 => by
        have := Int.mul_le_mul_of_nonneg_right g1 (show 0 ≤ p by omega)
        rw [Int.add_mul] at this
        omega
      have e1 : pv p k 1 < p := by
        show 0 * p + k 0 < p
        omega
      have e2 := s (pv p k 1) (k 1) p (by omega) d1.2
      have e3 := s (pv p k 2) (k 2) (p * p) (by have : pv p k 2 = pv p k 1 * p + k 1 := rfl; omega) d2.2
      have e4 := s (pv p k 3) (k 3) (p * p * p) (by have : pv p k 3 = pv p k 2 * p + k 2 := rfl; omega) d3.2
      have : pv p k 4 = pv p k 3 * p + k 3 := rfl
      omega
  | succ m ih =>
    intro n N τ h1 h2 h3 h4
    obtain ⟨N, rfl⟩ : ∃ z, N = z + 1 := ⟨N - 1, by omega⟩
    obtain ⟨k1, k2⟩ := dgt_ok (n := (n : Int)) (p := p) (by omega) (by omega)
    have h3' := h3
    obtain ⟨x1, x2, x3, x4, x5, x6, x7⟩ := h3
    have wp : wI p = p := wI_id (x := p) (by omega)
    have wn : wI (n : Int) = n := wI_id (x := (n : Int)) (by omega)
    have wpp : wI (p * p) = p * p := wI_id (x := p * p) (by omega)
    have wppp : wI (p * p * p) = p * p * p := wI_id (x := p * p * p) (by omega)
    have rd : ∀ i, i < 4 → -2147483648 ≤ dgt (n : Int) p i ∧ dgt (n : Int) p i < 2147483648 := fun i hi => by have := k1 i hi; omega
    have dv : ∀ y : Int, 0 < y → -2147483648 ≤ (n : Int) / y ∧ (n : Int) / y < 2147483648 := fun y hy => by
      have a1 := Int.ediv_le_self y (show 0 ≤ (n : Int) by omega)
      have a2 := Int.ediv_nonneg (show 0 ≤ (n : Int) by omega) (show 0 ≤ y by omega)
      omega
    have g0 : (wI (n : Int)).tdiv (wI (p * p * p)) = dgt n p 0 := by
      rw [wn, wppp, Int.tdiv_eq_ediv_of_nonneg (by omega)]
      rfl
    have g1 : (wI ((wI (n : Int)).tdiv (wI (p * p)))).tmod (wI p) = dgt n p 1 := by
      rw [wn, wpp, wp, Int.tdiv_eq_ediv_of_nonneg (by omega), wI_id (x := (n : Int) / (p * p)) (dv _ p2), Int.tmod_eq_emod_of_nonneg (Int.ediv_nonneg (by omega) (by omega))]
      rfl
    have g2 : (wI ((wI (n : Int)).tdiv (wI p))).tmod (wI p) = dgt n p 2 := by
      rw [wn, wp, Int.tdiv_eq_ediv_of_nonneg (by omega), wI_id (x := (n : Int) / p) (dv _ (by omega)), Int.tmod_eq_emod_of_nonneg (Int.ediv_nonneg (by omega) (by omega))]
      rfl
    have g3 : (wI (n : Int)).tmod (wI p) = dgt n p 3 := by
      rw [wn, wp, Int.tmod_eq_emod_of_nonneg (by omega)]
      rfl
    obtain ⟨v, τ1, t1, t2, t3, t4⟩ := tries_e (d0 := dgt n p 0) (d1 := dgt n p 1) (d2 := dgt n p 2) (d3 := dgt n p 3) x1 hl x3 x4 x5 x6 x7 ha hb hE hM hp k1 (wI_id (x := dgt n p 0) (rd 0 (by omega))) (wI_id (x := dgt n p 1) (rd 1 (by omega))) (wI_id (x := dgt n p 2) (rd 2 (by omega))) (wI_id (x := dgt n p 3) (rd 3 (by omega)))
    have hd : ∀ (f : Int → mSt → Option (Int × mSt)), (mG (wI ((p * p) * p) ≠ 0) <| mG (wI (p * p) ≠ 0) <| mG (wI p ≠ 0) <| mCall (mX12_tries 253 (l : Int) p ((wI (n : Int)).tdiv (wI ((p * p) * p))) ((wI ((wI (n : Int)).tdiv (wI (p * p)))).tmod (wI p)) ((wI ((wI (n : Int)).tdiv (wI p))).tmod (wI p)) ((wI (n : Int)).tmod (wI p)) τ) f) = f v τ1 := fun f => by
      rw [mG_pos (by rw [wppp]; omega), mG_pos (by rw [wpp]; omega), mG_pos (by rw [wp]; omega), g0, g1, g2, g3, t1, mCall_some]
    rcases t4 with ⟨rfl, t5, K, F, u, t6, t7⟩ | ⟨rfl, t5⟩
    · have Kr := whole_rng ha hb t7.1 (c := 2) (by omega) (who_dvS t7.1.1 t7.2.2.1)
      have ls := less8 t6 t7.1 (by omega)
      obtain ⟨τ2, c1, c2, c3, c4, c5⟩ := copyl t6 hl
      refine ⟨1, τ2, ?_, t2.frm c2 (fun i j z => rW_fix z), Or.inl ⟨rfl, ((x2.tr t3 (fun i j z => z)).mono (fun i j z => Or.inl z)).tr c2 (fun i j z => z), dgt n p, K, F, k1, t5, by rw [k2]; exact h4, t7, c3, c4, c5⟩⟩
      rw [mX12_enlargesAt_L2.eq_2, if_neg (by rw [wI_id (x := p * p * p * p) (by omega), wn]; omega), hd, if_neg (by decide), ls, mCall_some, c1, mCall_some]
    · have nx : ng a b M p E 4 ((n + 1 : Nat) : Int) := by
        rw [show ((n + 1 : Nat) : Int) = (n : Int) + 1 by omega]
        refine ng_next (K := dgt n p) (by omega) (by omega) k1 h4 k2 (fun k' hk' he hg => t5 ?_)
        obtain ⟨y1, y2⟩ := hg
        rw [pS_congr (k' := dgt n p) 4 he] at y1 y2
        exact ⟨y1, y2⟩
      obtain ⟨v, τ', i1, i2⟩ := ih (n + 1) N τ1 (by omega) (by omega) (enS_fr hl h3' t3) nx
      refine ⟨v, τ', ?_, i2⟩
      rw [mX12_enlargesAt_L2.eq_2, if_neg (by rw [wI_id (x := p * p * p * p) (by omega), wn]; omega), hd, if_pos (by decide), bnd_eq, show (n : Int) + 1 = ((n + 1 : Nat) : Int) by omega]
      exact i1
theorem enlargesAt_e {τ : mSt} {l : Nat} {a b M p : Int} {E : Nat → V4} (hl : l < 8) (ha : a ≠ 0 ∧ -60 ≤ a ∧ a ≤ 60) (hb : b ≠ 0 ∧ -60 ≤ b ∧ b ≤ 60) (hE : gdL M E) (hM : M ≤ 7200) (hp : 2 ≤ p ∧ p ≤ 60) (hL : Lay τ) (hA : ∀ r, r < 4 → rowL τ l r = E r) (h270 : τ 270 l = M) (h271 : τ 271 l = M) (h0 : τ 258 l = a) (h1 : τ 259 l = b) : ∃ v τ', mX12_enlargesAt 253 (l : Int) p τ = some (v, τ') ∧ enR τ τ' l a b M p E v := by
  have m2 := mul_rng (x := p) (y := p) (A := 60) (B := 60) (by omega) (by omega) (by omega)
  have m3 := mul_rng (x := p * p) (y := p) (A := 3600) (B := 60) (by omega) (by omega) (by omega)
  have m4 := mul_rng (x := p * p * p) (y := p) (A := 216000) (B := 60) (by omega) (by omega) (by omega)
  have p4 : 0 < p * p * p * p := Int.mul_pos (Int.mul_pos (Int.mul_pos (by omega) (by omega)) (by omega)) (by omega)
  have n1 : ng a b M p E 4 ((1 : Nat) : Int) := fun k hk hv hg => hg.1 (by
    have z : pv p k 4 = pv p (fun _ => 0) 4 := by
      have d : ∀ c, c ≤ 4 → 0 ≤ pv p k c := by
        intro c
        induction c with
        | zero => intro _; exact Int.le_refl 0
        | succ c ih =>
          intro hc
          have := hk c (by omega)
          have := Int.mul_nonneg (ih (by omega)) (show 0 ≤ p by omega)
          show 0 ≤ pv p k c * p + k c
          omega
      have := d 4 (by omega)
      show pv p k 4 = (((0 * p + 0) * p + 0) * p + 0) * p + 0
      simp only [Int.zero_mul, Int.add_zero]
      omega
    have e := pv_inj (by omega) 4 (by omega) (fun i hi => ⟨hk i hi, by omega, by omega⟩) z
    rw [pS_congr 4 e, pS_vC]
    exact vC_0 E)
  obtain ⟨v, τ', i1, i2⟩ := enlL2 (τ0 := τ) hl ha hb hE hM hp (p * p * p * p - 1).toNat 1 mF τ (by omega) (by unfold mF; omega) ⟨hL, frm.rf τ, hA, h270, h271, h0, h1⟩ n1
  refine ⟨v, τ', ?_, i2⟩
  unfold mX12_enlargesAt
  rw [gc253]
  exact i1

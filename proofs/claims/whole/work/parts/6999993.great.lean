/-! greatest -/
def Gr (a b p A D : Int) : Nat → Int → (Nat → V4) → Int → (Nat → V4) → Prop
  | 0, M, E, N, F => (canV p (A / lot M E) D = 0 ∨ noF a b M p E) ∧ N = M ∧ F = E
  | c + 1, M, E, N, F => canV p (A / lot M E) D ≠ 0 ∧ ∃ K G, St a b M p E K G ∧ Gr a b p A D c K G N F
theorem Gr_uniq {a b p A D : Int} (hp : 0 < p) : ∀ (c d : Nat) (M : Int) (E : Nat → V4) (N K : Int) (F G : Nat → V4), Gr a b p A D c M E N F → Gr a b p A D d M E K G → c = d ∧ N = K ∧ F = G := by
  intro c
  induction c with
  | zero =>
    intro d M E N K F G h1 h2
    obtain ⟨h3, rfl, rfl⟩ := h1
    cases d with
    | zero =>
      obtain ⟨h4, rfl, rfl⟩ := h2
      exact ⟨rfl, rfl, rfl⟩
    | succ d =>
      obtain ⟨h4, K', G', h5, -⟩ := h2
      rcases h3 with h3 | h3
      · exact absurd h3 h4
      · exact absurd h3 (St_no h5)
  | succ c ih =>
    intro d M E N K F G h1 h2
    obtain ⟨h3, N1, F1, h4, h5⟩ := h1
    cases d with
    | zero =>
      obtain ⟨h6, -, -⟩ := h2
      rcases h6 with h6 | h6
      · exact absurd h6 h3
      · exact absurd h6 (St_no h4)
    | succ d =>
      obtain ⟨h6, N2, F2, h7, h8⟩ := h2
      obtain ⟨rfl, rfl⟩ := St_uniq hp h4 h7
      obtain ⟨e1, e2, e3⟩ := ih d _ _ _ _ _ _ h5 h8
      exact ⟨by omega, e2, e3⟩
def Ch (a b A D : Int) : Nat → Int → Int → (Nat → V4) → Int → Int → (Nat → V4) → Prop
  | 0, _, M, E, c, N, F => c = 0 ∧ N = M ∧ F = E
  | m + 1, p, M, E, c, N, F => (prm p ∧ ∃ (c1 : Nat) (K : Int) (G : Nat → V4) (c2 : Int), Gr a b p A D c1 M E K G ∧ c = c1 + c2 ∧ Ch a b A D m (p + 1) K G c2 N F) ∨ (¬ prm p ∧ Ch a b A D m (p + 1) M E c N F)
theorem Ch_uniq {a b A D : Int} : ∀ (m : Nat) (p M : Int) (E : Nat → V4) (c d N K : Int) (F G : Nat → V4), Ch a b A D m p M E c N F → Ch a b A D m p M E d K G → c = d ∧ N = K ∧ F = G := by
  intro m
  induction m with
  | zero =>
    intro p M E c d N K F G h1 h2
    obtain ⟨rfl, rfl, rfl⟩ := h1
    obtain ⟨rfl, rfl, rfl⟩ := h2
    exact ⟨rfl, rfl, rfl⟩
  | succ m ih =>
    intro p M E c d N K F G h1 h2
    rcases h1 with ⟨p1, c1, K1, G1, d1, g1, e1, i1⟩ | ⟨p1, i1⟩
    · rcases h2 with ⟨p2, c2, K2, G2, d2, g2, e2, i2⟩ | ⟨p2, i2⟩
      · obtain ⟨rfl, rfl, rfl⟩ := Gr_uniq (by have := p1.1; omega) _ _ _ _ _ _ _ _ g1 g2
        obtain ⟨w1, w2, w3⟩ := ih _ _ _ _ _ _ _ _ _ i1 i2
        exact ⟨by omega, w2, w3⟩
      · exact absurd p1 p2
    · rcases h2 with ⟨p2, -⟩ | ⟨p2, i2⟩
      · exact absurd p2 p1
      · exact ih _ _ _ _ _ _ _ _ _ i1 i2
theorem plS_c {σ σ' : mSt} {B n s k : Nat} {D : Int} (hk : k < 8) (h : plS σ B n s k D) (hf : frm (gU k) σ σ') : plS σ' B n s k D := plS_fr h (hf _ _ (gU_out hk (by omega))) (hf _ _ (gU_out hk (by omega))) (fun i hi => funext fun j => hf _ _ (gU_out hk (by omega)))
theorem plS_r {σ σ' : mSt} {B n s k : Nat} {D : Int} (h : plS σ B n s k D) (hf : frm (rW k) σ σ') : plS σ' B n s k D := plS_fr h (hf _ _ (rW_out (by omega))) (hf _ _ (rW_out (by omega))) (fun i hi => funext fun j => hf _ _ (rW_out (by omega)))
theorem lot_top {a b A M : Int} {E : Nat → V4} (hA : A = ((4 * a * b).natAbs : Int)) (A2 : 1 ≤ A ∧ A ≤ 14400) (h : Ord a b M E) : 1 ≤ lot M E ∧ lot M E ∣ A ∧ lot M E ≤ 14400 := by
  have ok := (ord_ok h).1
  have dv := abs_dvd.mpr (lotd ok (ord_ok h).2.2)
  rw [← hA] at dv
  have := Int.le_of_dvd (by omega) dv
  exact ⟨lot_pos ok.1.1 ok.1.2.1 (uni_of ok.1.2.2.2), dv, by omega⟩
theorem canV_01 {p A D : Int} (h : canV p A D ≠ 0) : canV p A D = 1 := by
  unfold canV at h ⊢
  by_cases z : vlF 20 p A ≤ vlF 20 p D
  · rw [if_pos z] at h; exact absurd rfl h
  · rw [if_neg z]
theorem grC {B n s k : Nat} {a b p A D : Int} {x : Int → mSt → Option (Int × mSt)} (hA : A = ((4 * a * b).natAbs : Int)) (A2 : 1 ≤ A ∧ A ≤ 14400) (ha : a ≠ 0 ∧ -60 ≤ a ∧ a ≤ 60) (hb : b ≠ 0 ∧ -60 ≤ b ∧ b ≤ 60) (hp : 2 ≤ p ∧ p ≤ 60) (hk : k < 8) : ∀ (m j i N : Nat) (v2 M : Int) (E : Nat → V4) (σ : mSt), j + m = 14 → i + m ≤ 20 → m + 2 < N → (2 : Int) ^ j ≤ lot M E → cO σ k a b M E → plS σ B n s k D → ∃ (c : Nat) (M' : Int) (E' : Nat → V4) (σ' : mSt), Gr a b p A D c M E M' E' ∧ mX11_greatest_L29 0 (k : Int) p x N v2 1 (i : Int) σ = x (v2 + c) σ' ∧ cO σ' k a b M' E' ∧ frm (gU k) σ σ' := by
  intro m
  induction m with
  | zero =>
    intro j i N v2 M E σ h1 h2 h3 h4 h5 h6
    obtain rfl : j = 14 := by omega
    have := lot_top hA A2 h5.2.2.1
    omega
  | succ m ih =>
    intro j i N v2 M E σ h1 h2 h3 h4 h5 h6
    obtain ⟨N, rfl⟩ : ∃ z, N = z + 1 := ⟨N - 1, by omega⟩
    have cg := canGrow_e h5 h6 ha hb hp
    rw [← hA] at cg
    have hL := h5.1
    have wi : wI (i : Int) = i := wI_id (x := (i : Int)) (by omega)
    by_cases hc : canV p (A / lot M E) D = 0
    · refine ⟨0, M, E, σ, ⟨Or.inl hc, rfl, rfl⟩, ?_, h5, frm.rf σ⟩
      rw [mX11_greatest_L29.eq_2, if_neg (by rw [wi]; omega), if_neg (by decide), cg, mCall_some, hc, if_pos (by decide)]
      simp
    · have hc1 := canV_01 hc
      obtain ⟨v, σ1, g1, g2, g3⟩ := step_c hk ha hb hp h5
      rw [← hA] at g3
      have st : mX11_greatest_L29 0 (k : Int) p x (N + 1) v2 1 (i : Int) σ = if wL v ≤ 0 then (mX11_greatest_B74 0 (k : Int) p (mX11_greatest_L29 0 (k : Int) p x N) x v2 (i : Int) 0 σ1) else mX11_greatest_B74 0 (k : Int) p (mX11_greatest_L29 0 (k : Int) p x N) x v2 (i : Int) 1 σ1 := by
        rw [mX11_greatest_L29.eq_2, if_neg (by rw [wi]; omega), if_neg (by decide), cg, mCall_some, hc1, if_neg (by decide), gr' (lay0 hL).2.2.2.2.2.1 (by omega), gr' (lay0 hL).2.2.2.2.1 (by omega), gx113 _ (by omega), wI_nat (k := k) (by omega), gr' (ord_lay hL hk).2.2.2.1 (by omega), g1, mCall_some]
      rw [st]
      rcases g3 with ⟨K, G, s1, s2, s3⟩ | ⟨s1, s2, s3⟩
      · have t1 := lot_top hA A2 h5.2.2.1
        have t2 := lot_top hA A2 s2.2.2.1
        have l2 := St_lot (by omega) h5.2.2.1 s1
        have rr := ratio_rng (A := A) A2 t1.1 t2.1 t1.2.1 t2.2.1 (by omega)
        obtain ⟨c, M', E', σ', i1, i2, i3, i4⟩ := ih (j + 1) (i + 1) N (v2 + 1) K G σ1 (by omega) (by omega) (by omega) (by rw [Int.pow_succ]; omega) s2 (plS_c hk h6 g2)
        refine ⟨c + 1, M', E', σ', ⟨hc, K, G, s1, i1⟩, ?_, i3, g2.tr i4 (fun i j z => z)⟩
        rw [if_neg (by rw [s3, wL_id (x := A / lot M E / (A / lot K G)) (by omega)]; omega)]
        unfold mX11_greatest_B74
        rw [if_neg (by decide), bnd_eq, bnd_eq, show (i : Int) + 1 = ((i + 1 : Nat) : Int) by omega, i2]
        congr 1
        omega
      · refine ⟨0, M, E, σ1, ⟨Or.inr s2, rfl, rfl⟩, ?_, s3, g2⟩
        obtain ⟨N, rfl⟩ : ∃ z, N = z + 1 := ⟨N - 1, by omega⟩
        rw [s1, if_pos (by decide)]
        unfold mX11_greatest_B74
        rw [if_pos (by decide), bnd_eq, bnd_eq, mX11_greatest_L29.eq_2, show (i : Int) + 1 = ((i + 1 : Nat) : Int) by omega, if_neg (by rw [wI_id (x := ((i + 1 : Nat) : Int)) (by omega)]; omega), if_pos (by decide)]
        rfl
theorem chC {B n s k : Nat} {a b A D : Int} (hA : A = ((4 * a * b).natAbs : Int)) (A2 : 1 ≤ A ∧ A ≤ 14400) (ha : a ≠ 0 ∧ -60 ≤ a ∧ a ≤ 60) (hb : b ≠ 0 ∧ -60 ≤ b ∧ b ≤ 60) (hk : k < 8) : ∀ (m p N : Nat) (v2 M : Int) (E : Nat → V4) (σ : mSt), p + m = 61 → 2 ≤ p → m < N → cO σ k a b M E → plS σ B n s k D → ∃ (c M' : Int) (E' : Nat → V4) (σ' : mSt), Ch a b A D m (p : Int) M E c M' E' ∧ mX11_greatest_L14 0 (k : Int) (fun z2 zσ => mX11_greatest_B101 0 (k : Int) z2 zσ) N v2 (p : Int) σ = some (v2 + c, σ') ∧ cO σ' k a b M' E' ∧ frm (gU k) σ σ' := by
  intro m
  induction m with
  | zero =>
    intro p N v2 M E σ h1 h2 h3 h4 h5
    obtain ⟨N, rfl⟩ : ∃ z, N = z + 1 := ⟨N - 1, by omega⟩
    refine ⟨0, M, E, σ, ⟨rfl, rfl, rfl⟩, ?_, h4, frm.rf σ⟩
    rw [mX11_greatest_L14.eq_2, if_pos (by rw [wI_id (x := (p : Int)) (by omega)]; omega), Int.add_zero]
    rfl
  | succ m ih =>
    intro p N v2 M E σ h1 h2 h3 h4 h5
    obtain ⟨N, rfl⟩ : ∃ z, N = z + 1 := ⟨N - 1, by omega⟩
    have pc := prime_e (p : Int) (by omega) σ
    have e1 : (p : Int) + 1 = ((p + 1 : Nat) : Int) := by omega
    by_cases hp : prm (p : Int)
    · rw [b2_t ⟨hp, by omega⟩] at pc
      obtain ⟨c, K, G, σ1, i1, i2, i3, i4⟩ := grC (x := fun z2 zσ => mX11_greatest_B95 0 (k : Int) (mX11_greatest_L14 0 (k : Int) (fun z2 zσ => mX11_greatest_B101 0 (k : Int) z2 zσ) N) (fun z2 zσ => mX11_greatest_B101 0 (k : Int) z2 zσ) z2 (p : Int) zσ) hA A2 ha hb (p := (p : Int)) (by omega) hk 14 0 0 mF v2 M E σ (by omega) (by omega) (by unfold mF; omega) (lot_top hA A2 h4.2.2.1).1 h4 h5
      obtain ⟨c2, M', E', σ', w1, w2, w3, w4⟩ := ih (p + 1) N (v2 + c) K G σ1 (by omega) (by omega) (by omega) i3 (plS_c hk h5 i4)
      refine ⟨c + c2, M', E', σ', Or.inl ⟨hp, c, K, G, c2, i1, rfl, by rw [e1]; exact w1⟩, ?_, w3, i4.tr w4 (fun i j z => z)⟩
      rw [mX11_greatest_L14.eq_2, if_neg (by rw [wI_id (x := (p : Int)) (by omega)]; omega), pc, mCall_some]
      refine i2.trans ?_
      show mX11_greatest_L14 0 (k : Int) (fun z2 zσ => mX11_greatest_B101 0 (k : Int) z2 zσ) N (v2 + c) ((p : Int) + 1) σ1 = _
      rw [e1, w2]
      congr 2
      omega
    · rw [b2_f (fun z => hp z.1)] at pc
      obtain ⟨c2, M', E', σ', w1, w2, w3, w4⟩ := ih (p + 1) N v2 M E σ (by omega) (by omega) (by omega) h4 h5
      refine ⟨c2, M', E', σ', Or.inr ⟨hp, by rw [e1]; exact w1⟩, ?_, w3, w4⟩
      obtain ⟨f, hf⟩ := mF5
      rw [mX11_greatest_L14.eq_2, if_neg (by rw [wI_id (x := (p : Int)) (by omega)]; omega), pc, mCall_some, hf, mX11_greatest_L29.eq_2, if_neg (by decide), if_pos (by decide)]
      show mX11_greatest_L14 0 (k : Int) (fun z2 zσ => mX11_greatest_B101 0 (k : Int) z2 zσ) N v2 ((p : Int) + 1) σ = _
      rw [e1, w2]
theorem grR {B n s k : Nat} {a b p A D : Int} {x : Int → mSt → Option (Int × mSt)} (hA : A = ((4 * a * b).natAbs : Int)) (A2 : 1 ≤ A ∧ A ≤ 14400) (ha : a ≠ 0 ∧ -60 ≤ a ∧ a ≤ 60) (hb : b ≠ 0 ∧ -60 ≤ b ∧ b ≤ 60) (hp : 2 ≤ p ∧ p ≤ 60) (hpp : prm p) (hk : k < 8) : ∀ (m j N : Nat) (v2 M : Int) (E : Nat → V4) (τ : mSt), j + m = 14 → m < N → (2 : Int) ^ j ≤ lot M E → rO τ k a b M E → plS τ B n s k D → ∃ (c N' : Nat) (M' : Int) (E' : Nat → V4) (τ' : mSt), Gr a b p A D c M E M' E' ∧ N ≤ N' + m ∧ mX12_greatest_L19 253 (k : Int) x N v2 p τ = mX12_greatest_L19 253 (k : Int) x N' (v2 + c) (p + 1) τ' ∧ rO τ' k a b M' E' ∧ frm (rW k) τ τ' := by
  intro m
  induction m with
  | zero =>
    intro j N v2 M E τ h1 h3 h4 h5 h6
    obtain rfl : j = 14 := by omega
    have := lot_top hA A2 h5.2.2.2.2.2.2
    omega
  | succ m ih =>
    intro j N v2 M E τ h1 h3 h4 h5 h6
    obtain ⟨N, rfl⟩ : ∃ z, N = z + 1 := ⟨N - 1, by omega⟩
    have hm := hasMore_e h5 h6 ha hb hp
    rw [← hA] at hm
    have wp : wI p = p := wI_id (x := p) (by omega)
    have pr : mX12_isPrime p τ = some (1, τ) := by rw [rprime_e p (by omega) (by omega), b2_t hpp]
    by_cases hc : canV p (A / lot M E) D = 0
    · refine ⟨0, N, M, E, τ, ⟨Or.inl hc, rfl, rfl⟩, by omega, ?_, h5, frm.rf τ⟩
      rw [mX12_greatest_L19.eq_2, if_neg (by rw [wp]; omega), pr, mCall_some, if_neg (by decide), hm, mCall_some, hc, if_pos (by decide), bnd_eq]
      simp
    · have hc1 := canV_01 hc
      obtain ⟨v, τ1, g1, g2, g3⟩ := step_r hk ha hb hp h5
      rcases g3 with ⟨K, G, s0, s1, s2⟩ | ⟨s1, s2, s3⟩
      · have l2 := St_lot (by omega) h5.2.2.2.2.2.2 s1
        obtain ⟨c, N', M', E', τ', i1, i0, i2, i3, i4⟩ := ih (j + 1) N (v2 + 1) K G τ1 (by omega) (by omega) (by rw [Int.pow_succ]; omega) s2 (plS_r h6 g2)
        refine ⟨c + 1, N', M', E', τ', ⟨hc, K, G, s1, i1⟩, by omega, ?_, i3, g2.tr i4 (fun i j z => z)⟩
        rw [mX12_greatest_L19.eq_2, if_neg (by rw [wp]; omega), pr, mCall_some, if_neg (by decide), hm, mCall_some, hc1, if_neg (by decide), g1, mCall_some, s0, if_neg (by decide), bnd_eq, i2]
        congr 1
        omega
      · refine ⟨0, N, M, E, τ1, ⟨Or.inr s2, rfl, rfl⟩, by omega, ?_, s3, g2⟩
        rw [mX12_greatest_L19.eq_2, if_neg (by rw [wp]; omega), pr, mCall_some, if_neg (by decide), hm, mCall_some, hc1, if_neg (by decide), g1, mCall_some, s1, if_pos (by decide), bnd_eq]
        simp
theorem chR {B n s k : Nat} {a b A D : Int} (hA : A = ((4 * a * b).natAbs : Int)) (A2 : 1 ≤ A ∧ A ≤ 14400) (ha : a ≠ 0 ∧ -60 ≤ a ∧ a ≤ 60) (hb : b ≠ 0 ∧ -60 ≤ b ∧ b ≤ 60) (hk : k < 8) : ∀ (m p N : Nat) (v2 M : Int) (E : Nat → V4) (τ : mSt), p + m = 61 → 2 ≤ p → 20 * m < N → rO τ k a b M E → plS τ B n s k D → ∃ (c M' : Int) (E' : Nat → V4) (τ' : mSt), Ch a b A D m (p : Int) M E c M' E' ∧ mX12_greatest_L19 253 (k : Int) (fun z2 zσ => mX12_greatest_B62 253 (k : Int) z2 zσ) N v2 (p : Int) τ = some (v2 + c, τ') ∧ rO τ' k a b M' E' ∧ frm (rW k) τ τ' := by
  intro m
  induction m with
  | zero =>
    intro p N v2 M E τ h1 h2 h3 h4 h5
    obtain ⟨N, rfl⟩ : ∃ z, N = z + 1 := ⟨N - 1, by omega⟩
    refine ⟨0, M, E, τ, ⟨rfl, rfl, rfl⟩, ?_, h4, frm.rf τ⟩
    rw [mX12_greatest_L19.eq_2, if_pos (by rw [wI_id (x := (p : Int)) (by omega)]; omega), Int.add_zero]
    rfl
  | succ m ih =>
    intro p N v2 M E τ h1 h2 h3 h4 h5
    have e1 : (p : Int) + 1 = ((p + 1 : Nat) : Int) := by omega
    by_cases hp : prm (p : Int)
    · obtain ⟨c, N', K, G, τ1, i1, i0, i2, i3, i4⟩ := grR (x := fun z2 zσ => mX12_greatest_B62 253 (k : Int) z2 zσ) hA A2 ha hb (p := (p : Int)) (by omega) hp hk 14 0 N v2 M E τ (by omega) (by omega) (lot_top hA A2 h4.2.2.2.2.2.2).1 h4 h5
      obtain ⟨c2, M', E', τ', w1, w2, w3, w4⟩ := ih (p + 1) N' (v2 + c) K G τ1 (by omega) (by omega) (by omega) i3 (plS_r h5 i4)
      refine ⟨c + c2, M', E', τ', Or.inl ⟨hp, c, K, G, c2, i1, rfl, by rw [e1]; exact w1⟩, ?_, w3, i4.tr w4 (fun i j z => z)⟩
      rw [i2, e1, w2]
      congr 2
      omega
    · obtain ⟨N, rfl⟩ : ∃ z, N = z + 1 := ⟨N - 1, by omega⟩
      obtain ⟨c2, M', E', τ', w1, w2, w3, w4⟩ := ih (p + 1) N v2 M E τ (by omega) (by omega) (by omega) h4 h5
      refine ⟨c2, M', E', τ', Or.inr ⟨hp, by rw [e1]; exact w1⟩, ?_, w3, w4⟩
      rw [mX12_greatest_L19.eq_2, if_neg (by rw [wI_id (x := (p : Int)) (by omega)]; omega), rprime_e (p : Int) (by omega) (by omega), mCall_some, if_pos (by rw [b2_f hp]; decide), bnd_eq, e1, w2]
theorem pr_greatest (σ : mSt) (h : Inv σ) (a1 : Int) (h1 : i32 a1) : ∃ b s b2 s2, mX11_greatest 0 a1 σ = some (b, s) ∧ mX12_greatest 253 a1 s = some (b2, s2) ∧ wI b = wI b2 ∧ Inv s2 := by
  have hI := h
  obtain ⟨hL, hb, t, B, n, s0, hT, hB, hP, hE, hO⟩ := h
  have hn := hB.2.1
  have ht := hI.scr (scr_t (σ := σ) (v := 0))
  by_cases hv : 0 ≤ a1 ∧ a1 < (n : Int) ∧ σ 257 a1.toNat = 0
  · obtain ⟨k, rfl, hk, hq⟩ := quat_nat hv
    have hk8 : k < 8 := by omega
    have qc := quat_t hL hB hk hq
    obtain ⟨-, ⟨na, ra1, ra2, -⟩, nb, rb1, rb2, -⟩ := quatF hB hk hq
    have io := hO.1 k hk hq
    have co := inv_cO hL hb.2 io hO.2
    have du := due_rng hB hP hk hq
    have pl : plS σ B n s0 k (duF (σ 102) (lx σ k) s0 0 1) := ⟨hB, hP, hk, hq, rfl, du⟩
    obtain ⟨D, hD⟩ : ∃ D, D = duF (σ 102) (lx σ k) s0 0 1 := ⟨_, rfl⟩
    rw [← hD] at pl
    obtain ⟨A, hA⟩ : ∃ A, A = ((4 * σ 258 k * σ 259 k).natAbs : Int) := ⟨_, rfl⟩
    have A12 := ab_rng (a := σ 258 k) (b := σ 259 k) ⟨na, ra1, ra2⟩ ⟨nb, rb1, rb2⟩
    rw [← hA] at A12
    obtain ⟨c, N, F, σ1, c1, c2, c3, g2⟩ := chC hA ⟨A12.1, A12.2.1⟩ ⟨na, ra1, ra2⟩ ⟨nb, rb1, rb2⟩ hk8 59 2 mF 0 _ _ σ (by omega) (by omega) (by unfold mF; omega) co pl
    obtain ⟨τ0, hτ0⟩ : ∃ τ0, τ0 = upS σ1 253 0 0 := ⟨_, rfl⟩
    have o1 : ∀ i, i ≤ 111 ∨ 253 ≤ i → σ1 i = σ i := fun i hi => funext fun j => g2 i j (gU_out hk8 hi)
    have L1 : Lay σ1 := hL.frm g2 (fun i j z => ordW_fix hk8 (gU_ord hk8 z))
    have L2 : Lay τ0 := by rw [hτ0]; exact L1.up (by decide +kernel)
    have o0 : ∀ i, i ≠ 253 → τ0 i = σ1 i := fun i hi => by rw [hτ0, upS_row (by omega)]
    have ro : rO τ0 k (σ 258 k) (σ 259 k) (σ 270 k) (rowL σ k) := inv_rO L2 io (fun i hi => by rw [o0 i (by omega), o1 i (by omega)])
    have pl2 : plS τ0 B n s0 k D := plS_fr pl (by rw [o0 0 (by omega), o1 0 (by omega)]) (by rw [o0 0 (by omega), o1 0 (by omega)]) (fun i hi => by rw [o0 i (by omega), o1 i (by omega)])
    obtain ⟨d, K, G, τ1, d1, d2, d3, e2⟩ := chR hA ⟨A12.1, A12.2.1⟩ ⟨na, ra1, ra2⟩ ⟨nb, rb1, rb2⟩ hk8 59 2 mF 0 _ _ τ0 (by omega) (by omega) (by unfold mF; omega) ro pl2
    obtain ⟨rfl, rfl, rfl⟩ := Ch_uniq _ _ _ _ _ _ _ _ _ _ c1 d1
    have f1 : frm (ordW k) σ σ1 := g2.mono (fun i j z => gU_ord hk8 z)
    have f2 : frm (ordW k) σ1 τ1 := by
      have z0 : frm (ordW k) σ1 τ0 := by
        rw [hτ0]
        exact frm.mono scr_t (fun i j z => Or.inl z)
      exact z0.tr e2 (fun i j z => rW_ord hk8 z)
    have o2 : ∀ i, (112 ≤ i ∧ i ≤ 252) ∨ (258 ≤ i ∧ i ≤ 259) → τ1 i = σ1 i := fun i hi => by
      rw [← o0 i (by omega)]
      exact funext fun j => e2 i j (rW_out (by omega))
    refine ⟨0 + c, σ1, 0 + c, τ1, ?_, ?_, rfl, inv_back hI hk8 f1 f2 c3 d3 (fun i hi => o1 i (by omega)) o2⟩
    · unfold mX11_greatest
      rw [gc0, qc, mCall_some, if_neg (by decide)]
      exact c2
    · unfold mX12_greatest
      rw [gc253, bnd_eq, ← hτ0, quatr_t L2 pl2.1 hk pl2.2.2.2.1, mCall_some, if_neg (by decide)]
      exact d2
  · refine ⟨-1, σ, -1, upS σ 253 0 0, ?_, ?_, rfl, ht⟩
    · unfold mX11_greatest
      exact mR_eq (mR_G (by decide) (mR_callE (quat_c hL hB h1) (mR_pos (by rw [wI_b2, b2_f hv]) (mR_ret ⟨rfl, rfl⟩))))
    · unfold mX12_greatest
      exact mR_eq (mR_G (by decide) (mR_bnd (mR_callE (quat_r ht.1 (book_up hB) h1) (mR_pos (by rw [wI_b2, b2_f (by rw [upS_row (by omega)]; exact hv)]) (mR_ret ⟨rfl, rfl⟩)))))

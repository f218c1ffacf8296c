/-! the class side of anew -/
theorem quat_n {σ : mSt} {D m k : Nat} (hL : Lay σ) (hD : D = 37 ∨ D = 69) (h3 : σ 0 3 = (D : Int)) (hm : m ≤ 8) (h0 : σ D 0 = (m : Int)) (hk : k < 8) (hr : k < m → 0 ≤ σ (D + 1) k ∧ σ (D + 1) k ≤ 2) : mX11_isQuaternion 0 (k : Int) σ = some (b2 (k < m ∧ σ (D + 1) k = 0), σ) := by
  have told : mX11_isTold 0 (k : Int) σ = some (b2 (k < m), σ) := by
    unfold mX11_isTold mX11_isTold_B19
    rw [gc0, if_neg (by rw [wI_id (x := (k : Int)) (by omega)]; omega), gr' h3 (by omega), size_c hD, mCall_some, h0, wI_id (x := (m : Int)) (by omega), wI_id (x := (k : Int)) (by omega)]
    by_cases c : k < m
    · rw [b2_t c, if_neg (by omega)]
    · rw [b2_f c, if_pos (by omega)]
  unfold mX11_isQuaternion mX11_isQuaternion_B23
  rw [gc0, told, mCall_some, wI_b2]
  by_cases c : k < m
  · have r := hr c
    rw [b2_t c, if_neg (by decide), gr' h3 (by omega), kind_c hL hD hk, mCall_some, wI_id (x := σ (D + 1) k) (by omega)]
    by_cases c2 : σ (D + 1) k = 0
    · rw [if_pos c2, b2_t ⟨c, c2⟩]
    · rw [if_neg c2, b2_f (fun z => c2 z.2)]
  · rw [b2_f c, if_pos rfl, b2_f (fun z => c z.1)]
def elD (i j : Nat) : Prop := 165 ≤ i ∧ i ≤ 180 ∧ i % 2 = 1 ∧ j = 2
theorem elD_fix {i j : Nat} (h : elD i j) : fixR i j = false := by
  obtain ⟨h1, h2, h3, rfl⟩ := h
  have : ∀ k, k < 8 → fixR (165 + 2 * k) 2 = false := by decide +kernel
  have e : i = 165 + 2 * ((i - 165) / 2) := by omega
  rw [e]
  exact this _ (by omega)
theorem dropL13 {x : mSt → Option (Int × mSt)} : ∀ (m i N : Nat) (σ : mSt), i + m = 8 → m < N → Lay σ → (∀ k, k < i → σ (165 + 2 * k) 2 = -1) → ∃ σ', mX11_beginAnew_L13 0 x N (i : Int) σ = x σ' ∧ frm elD σ σ' ∧ ∀ k, k < 8 → σ' (165 + 2 * k) 2 = -1 := by
  intro m
  induction m with
  | zero =>
    intro i N σ e1 e2 hL h
    obtain ⟨N, rfl⟩ : ∃ q, N = q + 1 := ⟨N - 1, by omega⟩
    refine ⟨σ, ?_, frm.rf σ, fun k hk => h k (by omega)⟩
    rw [mX11_beginAnew_L13.eq_2, if_pos (by rw [wI_id (x := (i : Int)) (by omega)]; omega)]
  | succ m ih =>
    intro i N σ e1 e2 hL h
    obtain ⟨N, rfl⟩ : ∃ q, N = q + 1 := ⟨N - 1, by omega⟩
    obtain ⟨l1, l2, l3, l4⟩ := el_lay hL i (by omega)
    obtain ⟨σ1, e⟩ : ∃ z, z = upS σ (165 + 2 * i) 2 (-1) := ⟨_, rfl⟩
    have f1 : frm elD σ σ1 := by rw [e]; exact frm.one ⟨by omega, by omega, by omega, rfl⟩
    obtain ⟨σ2, q1, q2, q3⟩ := ih (i + 1) N σ1 (by omega) (by omega) (hL.frm f1 (fun _ _ z => elD_fix z)) (fun k hk => by
      by_cases c : k = i
      · rw [c, e, upS_same]
      · rw [e, upS_ne (by omega)]; exact h k (by omega))
    refine ⟨σ2, ?_, f1.tr q2 (fun _ _ z => z), q3⟩
    have dr : mX1_drop (165 + 2 * i) σ = some (0, σ1) := by
      unfold mX1_drop
      rw [gc l3, bnd_eq, ← e]
    rw [mX11_beginAnew_L13.eq_2, if_neg (by rw [wI_id (x := (i : Int)) (by omega)]; omega), gr' (lay0 hL).2.2.2.1 (by omega), gx (show shp 112 = (23, 8) by decide) _ (by omega), wI_nat (k := i) (by omega), gr' l1 (by omega), dr, mCall_some, bnd_eq]
    exact q1
def orC (i j : Nat) : Prop := 181 ≤ i ∧ i ≤ 252 ∧ fixR i j = false
def orP (σ : mSt) (k : Nat) (a b : Int) : Prop := σ (181 + 9 * k) 0 = a ∧ σ (181 + 9 * k) 1 = b ∧ σ (182 + 9 * k) 2 = 1 ∧ ∀ r, r < 4 → rowV σ (184 + 9 * k + r) = idR 1 r
theorem orP_cg {σ σ' : mSt} {k : Nat} {a b : Int} (h : orP σ k a b) (ho : ∀ i, 181 + 9 * k ≤ i → i ≤ 187 + 9 * k → σ' i = σ i) : orP σ' k a b := by
  obtain ⟨h1, h2, h3, h4⟩ := h
  refine ⟨by rw [ho _ (by omega) (by omega), h1], by rw [ho _ (by omega) (by omega), h2], by rw [ho _ (by omega) (by omega), h3], fun r hr => ?_⟩
  rw [← h4 r hr]
  unfold rowV
  rw [ho _ (by omega) (by omega)]
theorem begin_o {σ : mSt} {k : Nat} {a b : Int} (hL : Lay σ) (hk : k < 8) : ∃ σ', mX6_begin (181 + 9 * k) a b σ = some (0, σ') ∧ frm orC σ σ' ∧ (∀ i, ¬ (181 + 9 * k ≤ i ∧ i ≤ 187 + 9 * k) → σ' i = σ i) ∧ orP σ' k a b := by
  obtain ⟨s, hs⟩ : ∃ z, z = stQ (upS (upS (upS σ (181 + 9 * k) 0 a) (181 + 9 * k) 1 b) (182 + 9 * k) 2 1) (182 + 9 * k) (idR 1) 16 := ⟨_, rfl⟩
  have os : ∀ i, ¬ (181 + 9 * k ≤ i ∧ i ≤ 187 + 9 * k) → s i = σ i := fun i hi => funext fun j => by
    rw [hs, stQ_ne _ _ _ _ _ _ (by omega), upS_ne (by omega), upS_ne (by omega), upS_ne (by omega)]
  have fs : frm (ordW k) σ s := by
    rw [hs]
    exact frm_stQ (frm.put (frm.put (frm.one (Or.inr (Or.inl ⟨rfl, by omega⟩))) (Or.inr (Or.inl ⟨rfl, by omega⟩))) (Or.inr (Or.inr (Or.inl ⟨rfl, rfl⟩)))) (fun i j h1 h2 => Or.inr (Or.inr (Or.inr (Or.inl ⟨by omega, by omega⟩))))
  refine ⟨s, by rw [ordBegin_e hL hk, ← hs], fun i j z => ?_, os, ?_, ?_, ?_, fun r hr => ?_⟩
  · by_cases c : 181 + 9 * k ≤ i ∧ i ≤ 187 + 9 * k
    · have nf : ¬ fixR i j = false := fun y => z ⟨by omega, by omega, y⟩
      exact fs i j (fun y => nf (ordW_fix hk y))
    · rw [os i c]
  · rw [hs, stQ_ne _ _ _ _ _ _ (by omega), upS_ne (by omega), upS_ne (by omega), upS_same]
  · rw [hs, stQ_ne _ _ _ _ _ _ (by omega), upS_ne (by omega), upS_same]
  · rw [hs, stQ_ne _ _ _ _ _ _ (by omega), upS_same]
  · rw [← rwC_stQ (upS (upS (upS σ (181 + 9 * k) 0 a) (181 + 9 * k) 1 b) (182 + 9 * k) 2 1) (182 + 9 * k) (idR 1) hr, ← hs]
    unfold rwC rowV
    rw [show 182 + 9 * k + 2 + r = 184 + 9 * k + r by omega]
theorem orL36 {D m : Nat} {K F S : Nat → Int} {x : mSt → Option (Int × mSt)} (hD : D = 37 ∨ D = 69) (hm : m ≤ 8) (hr : ∀ k, k < m → 0 ≤ K k ∧ K k ≤ 2) (hF : ∀ k, k < m → -1000 ≤ F k ∧ F k ≤ 1000 ∧ -1000 ≤ S k ∧ S k ≤ 1000) : ∀ (d i N : Nat) (σ : mSt), i + d = 8 → d < N → Lay σ → σ 0 3 = (D : Int) → σ D 0 = (m : Int) → σ (D + 1) = K → σ (D + 2) = F → σ (D + 3) = S → (∀ k, k < i → k < m → K k = 0 → orP σ k (F k) (S k)) → ∃ σ', mX11_beginAnew_L36 0 x N (i : Int) σ = x σ' ∧ frm orC σ σ' ∧ ∀ k, k < m → K k = 0 → orP σ' k (F k) (S k) := by
  intro d
  induction d with
  | zero =>
    intro i N σ e1 e2 hL h3 h0 hK hFF hS h
    obtain ⟨N, rfl⟩ : ∃ q, N = q + 1 := ⟨N - 1, by omega⟩
    refine ⟨σ, ?_, frm.rf σ, fun k hk z => h k (by omega) hk z⟩
    rw [mX11_beginAnew_L36.eq_2, if_pos (by rw [wI_id (x := (i : Int)) (by omega)]; omega)]
  | succ d ih =>
    intro i N σ e1 e2 hL h3 h0 hK hFF hS h
    obtain ⟨N, rfl⟩ : ∃ q, N = q + 1 := ⟨N - 1, by omega⟩
    have qn := quat_n (k := i) hL hD h3 hm h0 (by omega) (fun z => by rw [hK]; exact hr i z)
    rw [hK] at qn
    by_cases c : i < m ∧ K i = 0
    · obtain ⟨k1, k2, k3', k4, k5, k6⟩ := ord_lay hL (show i < 8 by omega)
      obtain ⟨σ1, p1, p2, p3, p4⟩ := begin_o (a := F i) (b := S i) hL (show i < 8 by omega)
      have o : ∀ a, a < 181 → σ1 a = σ a := fun a ha => p3 a (by omega)
      obtain ⟨σ2, q1, q2, q3⟩ := ih (i + 1) N σ1 (by omega) (by omega) (hL.frm p2 (fun _ _ z => z.2.2)) (by rw [o _ (by omega), h3]) (by rw [o _ (by omega), h0]) (by rw [o _ (by omega), hK]) (by rw [o _ (by omega), hFF]) (by rw [o _ (by omega), hS]) (fun k z1 z2 z3 => by
        by_cases z4 : k = i
        · rw [z4]; exact p4
        · exact orP_cg (h k (by omega) z2 z3) (fun a a1 a2 => p3 a (by omega)))
      refine ⟨σ2, ?_, p2.tr q2 (fun _ _ z => z), q3⟩
      have r := hF i c.1
      rw [mX11_beginAnew_L36.eq_2, if_neg (by rw [wI_id (x := (i : Int)) (by omega)]; omega), qn, mCall_some, if_neg (by rw [b2_t c]; decide), gr' (lay0 hL).2.2.2.2.1 (by omega), gx (show shp 113 = (24, 8) by decide) _ (by omega), wI_nat (k := i) (by omega), gr' k4 (by omega), gr' h3 (by omega), first_c hL hD (by omega), mCall_some, gr' h3 (by omega), second_c hL hD (by omega), mCall_some, hFF, hS, wI_id (x := F i) (by omega), wI_id (x := S i) (by omega), p1, mCall_some, bnd_eq]
      exact q1
    · obtain ⟨σ2, q1, q2, q3⟩ := ih (i + 1) N σ (by omega) (by omega) hL h3 h0 hK hFF hS (fun k z1 z2 z3 => by
        by_cases z4 : k = i
        · rw [z4] at z2 z3; exact absurd ⟨z2, z3⟩ c
        · exact h k (by omega) z2 z3)
      refine ⟨σ2, ?_, q2, q3⟩
      rw [mX11_beginAnew_L36.eq_2, if_neg (by rw [wI_id (x := (i : Int)) (by omega)]; omega), qn, mCall_some, if_pos (by rw [b2_f c]; decide), bnd_eq]
      exact q1
/-- what beginning anew changes -/
def anW (i j : Nat) : Prop := recW i j ∨ elD i j ∨ orC i j
theorem anW_fix {i j : Nat} (h : anW i j) : fixR i j = false := by
  rcases h with h | h | h
  · exact recW_fix h
  · exact elD_fix h
  · exact h.2.2
theorem anew_e {σ : mSt} {K F S G P : Nat → Int} {D n : Nat} (hL : Lay σ) (hD : D = 37 ∨ D = 69) (hn : n ≤ 8) (h3 : σ 0 3 = (D : Int)) (hsz : σ D 0 = (n : Int)) (hK : σ (D + 1) = K) (hF : σ (D + 2) = F) (hS : σ (D + 3) = S) (hw : ∀ k, k < n → wfK K F S G P k) (ht : ∀ k, k < n → K k = 2 → ∀ t : Nat, (t : Int) < F k → σ (D + 15 + k) t = P (4 * k + t) ∧ σ (D + 24 + k) t = G (4 * k + t)) : ∃ s σ', mX11_beginAnew 0 σ = some (0, σ') ∧ frm anW σ σ' ∧ plc σ' K F S G P n s ∧ (∀ k, k < 8 → σ' (165 + 2 * k) 2 = -1) ∧ ∀ k, k < n → K k = 0 → orP σ' k (F k) (S k) := by
  obtain ⟨s, σ1, p1, p2, p3⟩ := reckon_e hL hD hn hsz hK hF hS hw ht
  have hL1 := hL.frm p2 (fun _ _ z => recW_fix z)
  have o1 : ∀ i, i < 101 → σ1 i = σ i := fun i hi => funext fun j => p2 i j (by unfold recW noW; omega)
  obtain ⟨σ2, q1, q2, q3⟩ := dropL13 (x := fun zσ => mX11_beginAnew_B34 0 zσ) 8 0 mF σ1 (by omega) (by unfold mF; omega) hL1 (fun k hk => by omega)
  have hL2 := hL1.frm q2 (fun _ _ z => elD_fix z)
  have o2 : ∀ i, i < 165 → σ2 i = σ1 i := fun i hi => funext fun j => q2 i j (by unfold elD; omega)
  have rK : ∀ k, k < n → 0 ≤ K k ∧ K k ≤ 2 := fun k hk => by
    rcases hw k hk with ⟨z, -⟩ | ⟨z, -⟩ | ⟨z, -⟩ <;> omega
  have rF : ∀ k, k < n → -1000 ≤ F k ∧ F k ≤ 1000 ∧ -1000 ≤ S k ∧ S k ≤ 1000 := fun k hk => by
    rcases hw k hk with ⟨-, ⟨-, a1, a2, -⟩, -, b1, b2', -⟩ | ⟨-, w1, w2, w3, w4⟩ | ⟨-, w1, w2, w3, -⟩
    · omega
    · obtain ⟨⟨g1, g2⟩, -, -⟩ := gen_t _ w1
      omega
    · omega
  obtain ⟨σ3, r1, r2, r3⟩ := orL36 (x := fun zσ => mX11_beginAnew_B83 0 zσ) hD hn rK rF 8 0 mF σ2 (by omega) (by unfold mF; omega) hL2 (by rw [o2 _ (by omega), o1 _ (by omega), h3]) (by rw [o2 _ (by omega), o1 _ (by omega), hsz]) (by rw [o2 _ (by omega), o1 _ (by omega), hK]) (by rw [o2 _ (by omega), o1 _ (by omega), hF]) (by rw [o2 _ (by omega), o1 _ (by omega), hS]) (fun k hk => by omega)
  have o3 : ∀ i, i < 181 → σ3 i = σ2 i := fun i hi => funext fun j => r2 i j (by unfold orC; omega)
  refine ⟨s, σ3, ?_, ((p2.mono (fun _ _ z => Or.inl z)).tr q2 (fun _ _ z => Or.inr (Or.inl z))).tr r2 (fun _ _ z => Or.inr (Or.inr z)), ?_, fun k hk => by rw [o3 _ (by omega), q3 k hk], r3⟩
  · unfold mX11_beginAnew
    rw [gc0, gr' (lay0 hL).2.2.1 (by omega), gr' h3 (by omega), p1, mCall_some]
    refine Eq.trans (show _ = _ from q1) ?_
    unfold mX11_beginAnew_B34
    refine Eq.trans (show _ = _ from r1) ?_
    rfl
  · obtain ⟨y1, y2, y3, y4, y5, y6⟩ := p3
    have oo : ∀ i, i < 165 → σ3 i = σ1 i := fun i hi => by rw [o3 i (by omega), o2 i hi]
    exact ⟨y1, by rw [oo _ (by omega), y2], by rw [oo _ (by omega)]; exact y3, by rw [oo _ (by omega)]; exact y4, fun k i h1 h2 => by rw [oo _ (by omega), oo _ (by omega)]; exact y5 k i h1 h2, by rw [oo _ (by omega)]; exact y6⟩

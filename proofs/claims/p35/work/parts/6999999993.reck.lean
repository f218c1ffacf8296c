/-! the class side of reck -/
theorem size_c {σ : mSt} {D : Nat} (hD : D = 37 ∨ D = 69) : mX0_size D σ = some (σ D 0, σ) := by
  unfold mX0_size
  rw [mG_pos (by rcases hD with rfl | rfl <;> decide +kernel)]
theorem sgT {g : Nat → Int} {R : Nat → Nat → Int} {pt : Nat → Nat} {i : Nat} (hg : ∀ t, t < 4 → g t = 1 ∨ g t = -1) (hR : ∀ a j, 0 ≤ R a j ∧ R a j ≤ 5) : ∀ t : Nat, t ≤ 4 → -(5 * (t : Int)) ≤ sumN (fun t => g t * R (pt t) i) t ∧ sumN (fun t => g t * R (pt t) i) t ≤ 5 * (t : Int) := by
  intro t
  induction t with
  | zero => intro _; exact ⟨Int.le_refl _, Int.le_refl _⟩
  | succ t ih =>
    intro h
    have a := ih (by omega)
    have b := hR (pt t) i
    show -(5 * ((t + 1 : Nat) : Int)) ≤ sumN (fun t => g t * R (pt t) i) t + g t * R (pt t) i ∧ sumN (fun t => g t * R (pt t) i) t + g t * R (pt t) i ≤ 5 * ((t + 1 : Nat) : Int)
    rcases hg t (by omega) with z | z <;> rw [z] <;> omega
theorem onesT {D k s fc i : Nat} {g : Nat → Int} {pt : Nat → Nat} {R : Nat → Nat → Int} {σ : mSt} {x : Int → mSt → Option (Int × mSt)} (hD : D = 37 ∨ D = 69) (hk : k < 8) (hs : s ≤ 64) (hi : i < s) (hfc : fc ≤ 4) (hL : Lay σ) (hF : σ (D + 2) k = (fc : Int)) (hg : ∀ t, t < 4 → g t = 1 ∨ g t = -1) (hR : ∀ a j, 0 ≤ R a j ∧ R a j ≤ 5) (ht : ∀ t, t < fc → pt t < k ∧ σ (D + 15 + k) t = (pt t : Int) ∧ σ (D + 24 + k) t = g t ∧ σ (104 + pt t) i = R (pt t) i) : ∀ (m t N : Nat), t + m = fc → m < N → mX7_reckonSum_L16 101 D (k : Int) (i : Int) x N (sumN (fun t => g t * R (pt t) i) t) (t : Int) σ = x (sumN (fun t => g t * R (pt t) i) fc) σ := by
  obtain ⟨k1, k2, k3, k4, k5, k6⟩ := places_lay hL
  intro m
  induction m with
  | zero =>
    intro t N e1 e2
    obtain ⟨N, rfl⟩ : ∃ q, N = q + 1 := ⟨N - 1, by omega⟩
    have tf : t = fc := by omega
    rw [tf, mX7_reckonSum_L16.eq_2, first_c hL hD hk, mCall_some, hF, if_pos (Int.le_refl _)]
  | succ m ih =>
    intro t N e1 e2
    obtain ⟨N, rfl⟩ : ∃ q, N = q + 1 := ⟨N - 1, by omega⟩
    obtain ⟨t1, t2, t3, t4⟩ := ht t (by omega)
    have r := hR (pt t) i
    have e : sumN (fun t => g t * R (pt t) i) (t + 1) = sumN (fun t => g t * R (pt t) i) t + g t * R (pt t) i := rfl
    have gr : -5 ≤ g t * R (pt t) i ∧ g t * R (pt t) i ≤ 5 := by rcases hg t (by omega) with z | z <;> rw [z] <;> omega
    rw [mX7_reckonSum_L16.eq_2, first_c hL hD hk, mCall_some, hF, wI_id (x := (t : Int)) (by omega), wI_id (x := (fc : Int)) (by omega), if_neg (by omega), if_neg (by omega), sign_c hL hD hk (by omega), mCall_some, gr' k5 (by omega), term_c hL hD hk (by omega), mCall_some, t2, t3, gx k3 _ (by omega), wI_nat (k := pt t) (by omega), gr' (k6 (pt t) (by omega)).2 (by omega), gx (k6 (pt t) (by omega)).1 _ (by omega), wI_nat (k := i) (by omega), t4, wI_id (x := g t * R (pt t) i) (by omega), bnd_eq, bnd_eq, ← e]
    exact ih (t + 1) N (by omega) (by omega)
theorem onesS {D k s fc : Nat} {g : Nat → Int} {pt : Nat → Nat} {R : Nat → Nat → Int} {x : mSt → Option (Int × mSt)} (hD : D = 37 ∨ D = 69) (hk : k < 8) (hs : s ≤ 64) (hfc : fc ≤ 4) (hg : ∀ t, t < 4 → g t = 1 ∨ g t = -1) (hR : ∀ a j, 0 ≤ R a j ∧ R a j ≤ 5) : ∀ (m i N : Nat) (σ : mSt), i + m = s → m < N → Lay σ → σ 101 0 = (s : Int) → σ (D + 2) k = (fc : Int) → (∀ t, t < fc → pt t < k ∧ σ (D + 15 + k) t = (pt t : Int) ∧ σ (D + 24 + k) t = g t ∧ ∀ i, i < s → σ (104 + pt t) i = R (pt t) i) → (∀ j, j < i → σ (104 + k) j = sumN (fun t => g t * R (pt t) j) fc % 6) → ∃ σ', mX7_reckonSum_L2 101 D (k : Int) x N (i : Int) σ = x σ' ∧ frm (oneW k) σ σ' ∧ ∀ j, j < s → σ' (104 + k) j = sumN (fun t => g t * R (pt t) j) fc % 6 := by
  intro m
  induction m with
  | zero =>
    intro i N σ e1 e2 hL h0 hF ht hr
    obtain ⟨N, rfl⟩ : ∃ q, N = q + 1 := ⟨N - 1, by omega⟩
    refine ⟨σ, ?_, frm.rf σ, fun j hj => hr j (by omega)⟩
    rw [mX7_reckonSum_L2.eq_2, h0, if_pos (by rw [wI_id (x := (s : Int)) (by omega), wI_id (x := (i : Int)) (by omega)]; omega)]
  | succ m ih =>
    intro i N σ e1 e2 hL h0 hF ht hr
    obtain ⟨N, rfl⟩ : ∃ q, N = q + 1 := ⟨N - 1, by omega⟩
    obtain ⟨k1, k2, k3, k4, k5, k6⟩ := places_lay hL
    obtain ⟨k7, k8⟩ := k6 k hk
    have tr := sgT (i := i) (pt := pt) hg hR fc hfc
    obtain ⟨σ1, e⟩ : ∃ z, z = upS σ (104 + k) i (sumN (fun t => g t * R (pt t) i) fc % 6) := ⟨_, rfl⟩
    have f1 : frm (oneW k) σ σ1 := by rw [e]; exact frm.one rfl
    have o : ∀ a', a' ≠ 104 + k → σ1 a' = σ a' := fun a' ha' => by rw [e]; exact upS_row ha'
    obtain ⟨σ2, p1, p2, p3⟩ := ih (i + 1) N σ1 (by omega) (by omega) (hL.frm f1 (fun _ _ z => oneW_fix hk z)) (by rw [o _ (by omega), h0]) (by rw [o _ (by omega), hF]) (fun t z => by
      obtain ⟨z1, z2, z3, z4⟩ := ht t z
      exact ⟨z1, by rw [o _ (by omega), z2], by rw [o _ (by omega), z3], fun j hj => by rw [o _ (by omega), z4 j hj]⟩) (fun j hj => by
      by_cases c : j = i
      · rw [c, e, upS_same]
      · rw [e, upS_ne (by omega)]; exact hr j (by omega))
    refine ⟨σ2, ?_, f1.tr p2 (fun _ _ z => z), p3⟩
    have lp := onesT (s := s) (i := i) (x := fun z4 zσ => mX7_reckonSum_B66 101 D (k : Int) (mX7_reckonSum_L2 101 D (k : Int) x N) x (i : Int) z4 zσ) hD hk hs (by omega) hfc hL hF hg hR (fun t z => by
      obtain ⟨z1, z2, z3, z4⟩ := ht t z
      exact ⟨z1, z2, z3, z4 i (by omega)⟩) fc 0 mF (by omega) (by unfold mF; omega)
    rw [mX7_reckonSum_L2.eq_2, h0, if_neg (by rw [wI_id (x := (s : Int)) (by omega), wI_id (x := (i : Int)) (by omega)]; omega)]
    refine lp.trans ?_
    unfold mX7_reckonSum_B66
    rw [gr' k5 (by omega), gx k3 _ (by omega), wI_nat (k := k) (by omega), gr' k8 (by omega), rest_e _ _ _ (by omega) (by omega) (by omega), mCall_some, gx k7 _ (by omega), wI_nat (k := i) (by omega), bnd_eq, bnd_eq, ← e]
    exact p1
/-- what is known of a book while it is reckoned -/
def bkR (σ : mSt) (K F S G P : Nat → Int) (L : Nat → Int) (D n s : Nat) : Prop := Lay σ ∧ (D = 37 ∨ D = 69) ∧ n ≤ 8 ∧ s ≤ 64 ∧ σ 101 0 = (s : Int) ∧ σ 102 = L ∧ σ (D + 1) = K ∧ σ (D + 2) = F ∧ σ (D + 3) = S ∧ (∀ k, k < n → wfK K F S G P k) ∧ (∀ k, k < n → K k = 2 → ∀ t : Nat, (t : Int) < F k → σ (D + 15 + k) t = P (4 * k + t) ∧ σ (D + 24 + k) t = G (4 * k + t)) ∧ (∀ i, i < s → place (L i)) ∧ (∀ i j, i < j → j < s → L i < L j) ∧ ∀ k, k < n → ∀ y, ntX K F S k y → ∃ i, i < s ∧ L i = y
theorem one_e {σ : mSt} {K F S G P L : Nat → Int} {D n s k : Nat} (h : bkR σ K F S G P L D n s) (hk : k < n) (hr : ∀ k', k' < k → ∀ i, i < s → σ (104 + k') i = locF K F S G P 9 k' (L i)) : ∃ σ', mX7_reckonOne 101 D (k : Int) σ = some (0, σ') ∧ frm (oneW k) σ σ' ∧ ∀ j, j < s → σ' (104 + k) j = locF K F S G P 9 k (L j) := by
  obtain ⟨hL, hD, hn, hs, h0, h2, hK, hF, hS, hw, ht, hpl, hi, hc⟩ := h
  have head : ∀ o, (if wI (K k) = 0 then (mX7_reckonOne_L47 101 D (k : Int) (F k) (S k) (fun zσ => mX7_reckonOne_B93 101 D (k : Int) zσ) mF 0 σ) else if wI (K k) = 1 then (mCall (mX7_reckonCyclic 101 (k : Int) (F k) (S k) σ) fun b35 s36 => some ((0 : Int), s36)) else mCall (mX7_reckonSum 101 D (k : Int) σ) fun b38 s39 => some (0, s39)) = o → mX7_reckonOne 101 D (k : Int) σ = o := fun o z => by
    unfold mX7_reckonOne
    rw [gc101, first_c hL hD (by omega), mCall_some, second_c hL hD (by omega), mCall_some, kind_c hL hD (by omega), mCall_some, hK, hF, hS]
    exact z
  rcases hw k hk with ⟨w0, w1, w2⟩ | ⟨w0, w1, w2, w3, w4⟩ | ⟨w0, w1, w2, w3, w4⟩
  · obtain ⟨σ', p1, p2, p3⟩ := onesQ (D := D) (x := fun zσ => mX7_reckonOne_B93 101 D (k : Int) zσ) (show k < 8 by omega) hs hpl w1 w2 s 0 mF σ (by omega) (by unfold mF; omega) hL h0 h2 (fun j hj => by omega)
    refine ⟨σ', head _ ?_, p2, fun j hj => ?_⟩
    · rw [w0, if_pos (by decide)]
      exact p1
    · rw [p3 j hj, show (9 : Nat) = 8 + 1 from rfl, locF_at, if_pos w0]
  · obtain ⟨σ', p1, p2, p3⟩ := onesCy (show k < 8 by omega) hs hpl hi w1 ⟨w2, w3, w4⟩ (fun y y1 y2 y3 => hc k hk y (Or.inr ⟨w0, Or.inr ⟨y1, y3⟩⟩)) hL h0 h2
    refine ⟨σ', head _ ?_, p2, fun j hj => ?_⟩
    · rw [w0, if_neg (by decide), if_pos (by decide), p1, mCall_some]
    · rw [p3 j hj, show (9 : Nat) = 8 + 1 from rfl, locF_at, if_neg (by omega), if_pos w0]
  · obtain ⟨g, hg⟩ : ∃ g : Nat → Int, g = fun t : Nat => if (t : Int) < F k then G (4 * k + t) else 1 := ⟨_, rfl⟩
    have hgt : ∀ t : Nat, (t : Int) < F k → g t = G (4 * k + t) := fun t z => by rw [hg]; exact if_pos z
    obtain ⟨σ', p1, p2, p3⟩ := onesS (D := D) (s := s) (fc := (F k).toNat) (g := g) (pt := fun t => (P (4 * k + t)).toNat) (R := fun a j => locF K F S G P 9 a (L j)) (x := fun zσ => mX7_reckonSum_B89 101 D (k : Int) zσ) hD (show k < 8 by omega) hs (by omega) (fun t _ => by
      by_cases z : (t : Int) < F k
      · rw [hgt t z]; exact (w4 t z).1
      · left; rw [hg]; exact if_neg z) (fun a j => locF_rng _ _ _ _ _ _ _ _) s 0 mF σ (by omega) (by unfold mF; omega) hL h0 (by rw [hF]; omega) (fun t z => by
      obtain ⟨z1, z2, z3⟩ := w4 t (by omega)
      obtain ⟨z4, z5⟩ := ht k hk w0 t (by omega)
      refine ⟨by omega, by rw [z4]; omega, by rw [z5, hgt t (by omega)], fun i hi => hr _ (by omega) i hi⟩) (fun j hj => by omega)
    refine ⟨σ', head _ ?_, p2, fun j hj => ?_⟩
    · rw [w0, if_neg (by decide), if_neg (by decide)]
      unfold mX7_reckonSum
      rw [gc101, show mX7_reckonSum_L2 101 D (k : Int) (fun zσ => mX7_reckonSum_B89 101 D (k : Int) zσ) mF 0 σ = _ from p1]
      rfl
    · rw [p3 j hj, show (9 : Nat) = 8 + 1 from rfl, locF_at, if_neg (by omega), if_neg (by omega)]
      congr 1
      refine sumN_cg _ (fun t z => ?_)
      obtain ⟨z1, z2, z3⟩ := w4 t (by omega)
      show g t * locF K F S G P 9 (P (4 * k + t)).toNat (L j) = _
      rw [hgt t (by omega), locF_cg hw (fun k' hk' => ⟨rfl, rfl, rfl, fun _ i _ => ⟨rfl, rfl⟩⟩) 9 8 _ (L j) (by omega) (by omega) (by omega)]
def recW (i j : Nat) : Prop := noW i j ∨ (104 ≤ i ∧ i ≤ 111)
theorem recW_fix {i j : Nat} (h : recW i j) : fixR i j = false := by
  rcases h with h | ⟨h1, h2⟩
  · exact noW_fix h
  · exact oneW_fix (k := i - 104) (by omega) (show i = 104 + (i - 104) by omega)
theorem rcL47 {K F S G P L : Nat → Int} {D n s : Nat} {x : mSt → Option (Int × mSt)} : ∀ (m k N : Nat) (σ : mSt), k + m = n → m < N → bkR σ K F S G P L D n s → σ 101 1 = (n : Int) → (∀ k', k' < k → ∀ i, i < s → σ (104 + k') i = locF K F S G P 9 k' (L i)) → ∃ σ', mX7_reckon_L47 101 D x N (k : Int) σ = x σ' ∧ frm recW σ σ' ∧ σ' 101 = σ 101 ∧ σ' 102 = L ∧ ∀ k', k' < n → ∀ i, i < s → σ' (104 + k') i = locF K F S G P 9 k' (L i) := by
  intro m
  induction m with
  | zero =>
    intro k N σ e1 e2 h h1 hr
    obtain ⟨N, rfl⟩ : ∃ q, N = q + 1 := ⟨N - 1, by omega⟩
    have kn : k = n := by omega
    subst kn
    refine ⟨σ, ?_, frm.rf σ, rfl, h.2.2.2.2.2.1, hr⟩
    rw [mX7_reckon_L47.eq_2, h1, if_pos (Int.le_refl _)]
  | succ m ih =>
    intro k N σ e1 e2 h h1 hr
    obtain ⟨N, rfl⟩ : ∃ q, N = q + 1 := ⟨N - 1, by omega⟩
    obtain ⟨σ1, p1, p2, p3⟩ := one_e h (show k < n by omega) hr
    obtain ⟨hL, hD, hn, hs, h0, h2, hK, hF, hS, hw, ht, hpl, hi, hc⟩ := h
    have o : ∀ a, a ≠ 104 + k → σ1 a = σ a := fun a ha => funext fun j => p2 a j ha
    have hb1 : bkR σ1 K F S G P L D n s := ⟨hL.frm p2 (fun _ _ z => oneW_fix (by omega) z), hD, hn, hs, by rw [o _ (by omega), h0], by rw [o _ (by omega), h2], by rw [o _ (by omega), hK], by rw [o _ (by omega), hF], by rw [o _ (by omega), hS], hw, fun k' z1 z2 t z3 => by
      obtain ⟨z4, z5⟩ := ht k' z1 z2 t z3
      exact ⟨by rw [o _ (by omega), z4], by rw [o _ (by omega), z5]⟩, hpl, hi, hc⟩
    obtain ⟨σ2, q1, q2, q3, q4, q5⟩ := ih (k + 1) N σ1 (by omega) (by omega) hb1 (by rw [o _ (by omega), h1]) (fun k' hk' i hi' => by
      by_cases c : k' = k
      · rw [c]; exact p3 i hi'
      · rw [o _ (by omega)]; exact hr k' (by omega) i hi')
    refine ⟨σ2, ?_, (p2.mono (fun i j (z : i = 104 + k) => Or.inr (by omega))).tr q2 (fun _ _ z => z), by rw [q3, o _ (by omega)], q4, q5⟩
    rw [mX7_reckon_L47.eq_2, h1, if_neg (by rw [wI_id (x := (n : Int)) (by omega), wI_id (x := (k : Int)) (by omega)]; omega), p1, mCall_some, bnd_eq]
    exact q1
/-- all places of a book and its local indexes -/
def plc (σ : mSt) (K F S G P : Nat → Int) (n s : Nat) : Prop := s ≤ 64 ∧ σ 101 0 = (s : Int) ∧ (∀ i j, i < j → j < s → σ 102 i < σ 102 j) ∧ (∀ i, i < s → place (σ 102 i)) ∧ (∀ k i, k < n → i < s → σ (104 + k) i = locF K F S G P 9 k (σ 102 i)) ∧ ∀ k p, k < n → place p → (∀ i, i < s → σ 102 i ≠ p) → locF K F S G P 9 k p = 0
theorem reckon_e {σ : mSt} {K F S G P : Nat → Int} {D n : Nat} (hL : Lay σ) (hD : D = 37 ∨ D = 69) (hn : n ≤ 8) (hsz : σ D 0 = (n : Int)) (hK : σ (D + 1) = K) (hF : σ (D + 2) = F) (hS : σ (D + 3) = S) (hw : ∀ k, k < n → wfK K F S G P k) (ht : ∀ k, k < n → K k = 2 → ∀ t : Nat, (t : Int) < F k → σ (D + 15 + k) t = P (4 * k + t) ∧ σ (D + 24 + k) t = G (4 * k + t)) : ∃ s σ', mX7_reckon 101 D σ = some (0, σ') ∧ frm recW σ σ' ∧ plc σ' K F S G P n s := by
  obtain ⟨σ1, e⟩ : ∃ z, z = upS (upS σ 101 0 0) 101 1 (n : Int) := ⟨_, rfl⟩
  have f1 : frm noW σ σ1 := by rw [e]; exact (frm.one (Or.inl ⟨rfl, by omega⟩)).put (Or.inl ⟨rfl, by omega⟩)
  have hL1 := hL.frm f1 (fun _ _ z => noW_fix z)
  have l1 : lst σ1 0 (fun _ => False) := ⟨hL1, by rw [e, upS_ne (by omega), upS_same]; rfl, fun i j _ h => by omega, fun i h => by omega, fun x => ⟨fun z => z.elim, fun ⟨i, i1, _⟩ => by omega⟩⟩
  obtain ⟨s2, σ2, p1, p2, p3, p4, p5⟩ := note_e (v := 0) l1 (by omega) (by omega)
  obtain ⟨s3, σ3, q1, q2, q3, q4, q5⟩ := note_e (v := 2) p5 (by omega) (by omega)
  have f3 : frm noW σ σ3 := (f1.tr p2 (fun _ _ z => z)).tr q2 (fun _ _ z => z)
  have o : ∀ {σ' : mSt}, frm noW σ σ' → ∀ i, i ≠ 101 → i ≠ 102 → σ' i = σ i := fun f i h1 h2 => funext fun j => f i j (by unfold noW; omega)
  obtain ⟨s4, σ4, r1, r2, r3, r4, r5⟩ := naL25 (X := fun y => y = 0 ∨ y = 2) (x := fun zσ => mX7_reckon_B45 101 D zσ) hD hn hw n 0 s3 mF σ3 (by omega) (by unfold mF; omega) (by rw [o f3 _ (by omega) (by omega), hK]) (by rw [o f3 _ (by omega) (by omega), hF]) (by rw [o f3 _ (by omega) (by omega), hS]) (by rw [q3, p3, e, upS_same]) (by omega) (lst_cg q5 (fun y => by
    constructor
    · rintro ((z | z) | z)
      · exact z.elim
      · exact Or.inl (Or.inl z)
      · exact Or.inl (Or.inr z)
    · rintro ((z | z) | ⟨i, i1, _⟩)
      · exact Or.inl (Or.inr z)
      · exact Or.inr z
      · omega))
  have f4 : frm noW σ σ4 := f3.tr r2 (fun _ _ z => z)
  obtain ⟨y1, y2, y3, y4, y5⟩ := r5
  have hpl : ∀ i, i < s4 → place (σ4 102 i) := fun i hi => by
    obtain ⟨x, hx⟩ : ∃ x, x = σ4 102 i := ⟨_, rfl⟩
    rw [← hx]
    rcases (y5 x).mpr ⟨i, hi, hx.symm⟩ with (z | z) | ⟨k, z1, z2⟩
    · exact Or.inl z
    · right
      rw [z]
      exact ⟨⟨by omega, fun a a1 a2 => by
        have := Int.mul_le_mul_of_nonneg_right a1 (show 0 ≤ a by omega)
        omega⟩, by omega⟩
    · right
      have le : ∀ w : Int, x ∣ w → w ≠ 0 → -999 ≤ w ∧ w ≤ 999 → x < 1000 := fun w w1 w2 w3 => by
        have := Int.le_of_dvd (show (0 : Int) < (w.natAbs : Int) by omega) (Int.dvd_natAbs.mpr w1)
        omega
      rcases hw k z1 with ⟨w0, ⟨a0, a1, a2, -⟩, b0, b1, b2', -⟩ | ⟨w0, w1, w2, w3, w4⟩ | ⟨w0, -⟩
      · rcases z2 with ⟨_, z3, z4 | z4⟩ | ⟨z3, _⟩
        · exact ⟨z3, le _ z4 a0 (by omega)⟩
        · exact ⟨z3, le _ z4 b0 (by omega)⟩
        · omega
      · rcases z2 with ⟨z3, _⟩ | ⟨_, z3 | ⟨z3, z4⟩⟩
        · omega
        · rw [z3]; exact qs_prm w1
        · exact ⟨z3, le _ z4 w2 (by omega)⟩
      · rcases z2 with ⟨z3, _⟩ | ⟨z3, _⟩ <;> omega
  have hb : bkR σ4 K F S G P (σ4 102) D n s4 := ⟨y1, hD, hn, by omega, y2, rfl, by rw [o f4 _ (by omega) (by omega), hK], by rw [o f4 _ (by omega) (by omega), hF], by rw [o f4 _ (by omega) (by omega), hS], hw, fun k z1 z2 t z3 => by
    obtain ⟨z4, z5⟩ := ht k z1 z2 t z3
    exact ⟨by rw [o f4 _ (by omega) (by omega), z4], by rw [o f4 _ (by omega) (by omega), z5]⟩, hpl, y3, fun k z1 y z2 => (y5 y).mp (Or.inr ⟨k, z1, z2⟩)⟩
  obtain ⟨σ5, t1, t2, t3, t4, t5⟩ := rcL47 (x := fun zσ => mX7_reckon_B67 101 D zσ) n 0 mF σ4 (by omega) (by unfold mF; omega) hb r3 (fun k' h => by omega)
  refine ⟨s4, σ5, ?_, (f4.mono (fun _ _ z => Or.inl z)).tr t2 (fun _ _ z => z), by omega, by rw [t3, y2], by rw [t4]; exact y3, by rw [t4]; exact hpl, fun k i h1 h2 => by rw [t5 k h1 i h2, t4], fun k p h1 h2 h3 => ?_⟩
  · unfold mX7_reckon
    rw [gc101, bnd_eq, size_c hD, mCall_some, upS_ne (by rcases hD with rfl | rfl <;> omega), hsz, bnd_eq, ← e, p1, mCall_some, q1, mCall_some]
    refine Eq.trans (show _ = _ from r1) ?_
    unfold mX7_reckon_B45
    refine Eq.trans (show _ = _ from t1) ?_
    rfl
  · rw [t4] at h3
    refine loc_none hw h2 (fun z => ?_) (fun z => ?_) (fun i hi z => ?_) 9 k h1
    · obtain ⟨j, j1, j2⟩ := (y5 p).mp (Or.inl (Or.inl z))
      exact h3 j j1 j2
    · obtain ⟨j, j1, j2⟩ := (y5 p).mp (Or.inl (Or.inr z))
      exact h3 j j1 j2
    · obtain ⟨j, j1, j2⟩ := (y5 p).mp (Or.inr ⟨i, hi, z⟩)
      exact h3 j j1 j2

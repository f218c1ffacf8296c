/-! the class side of allp -/
def wfK (K F S G P : Nat → Int) (k : Nat) : Prop :=
  (K k = 0 ∧ (F k ≠ 0 ∧ -60 ≤ F k ∧ F k ≤ 60 ∧ sqf (F k)) ∧ (S k ≠ 0 ∧ -60 ≤ S k ∧ S k ≤ 60 ∧ sqf (S k))) ∨
  (K k = 1 ∧ F k ∈ qs ∧ S k ≠ 0 ∧ -999 ≤ S k ∧ S k ≤ 999) ∨
  (K k = 2 ∧ S k = 0 ∧ 1 ≤ F k ∧ F k ≤ 4 ∧ ∀ i : Nat, (i : Int) < F k → (G (4 * k + i) = 1 ∨ G (4 * k + i) = -1) ∧ 0 ≤ P (4 * k + i) ∧ P (4 * k + i) < (k : Int))
/-- the places of one algebra that are noted -/
def ntX (K F S : Nat → Int) (k : Nat) (x : Int) : Prop := (K k = 0 ∧ prm x ∧ (x ∣ F k ∨ x ∣ S k)) ∨ (K k = 1 ∧ (x = F k ∨ (prm x ∧ x ∣ S k)))
theorem noteAll_e {σ : mSt} {s D k : Nat} {X : Int → Prop} {G P : Nat → Int} (h : lst σ s X) (hs : s ≤ 52) (hD : D = 37 ∨ D = 69) (hk : k < 8) (hw : wfK (σ (D + 1)) (σ (D + 2)) (σ (D + 3)) G P k) : ∃ s' σ', mX7_noteAll 101 D (k : Int) σ = some (0, σ') ∧ frm noW σ σ' ∧ σ' 101 1 = σ 101 1 ∧ s' ≤ s + 6 ∧ lst σ' s' (fun x => X x ∨ ntX (σ (D + 1)) (σ (D + 2)) (σ (D + 3)) k x) := by
  have hL := h.1
  have kc := kind_c hL hD hk
  have bk : ∀ σ' s' Y, lst σ' s' Y → frm noW σ σ' → s' ≤ 58 → ∀ o, (∀ s2 σ2 c, mX7_noteDivisors 101 (σ (D + 3) k) σ' = some (0, σ2) → frm noW σ' σ2 → σ2 101 1 = σ' 101 1 → s2 ≤ s' + c → fcN c ≤ ((σ (D + 3) k).natAbs : Int) → lst σ2 s2 (fun y => Y y ∨ (prm y ∧ y ∣ σ (D + 3) k)) → o = some ((0 : Int), σ2)) → (σ (D + 3) k ≠ 0 ∧ -999 ≤ σ (D + 3) k ∧ σ (D + 3) k ≤ 999) → mX7_noteAll_B40 101 D (k : Int) σ' = o := fun σ' s' Y hl hf h58 o ho hv => by
    have e3 : σ' (D + 3) k = σ (D + 3) k := hf _ _ (by unfold noW; omega)
    obtain ⟨s2, σ2, c, t1, t2, t3, t4, t5, t6⟩ := dv_e hl h58 hv
    unfold mX7_noteAll_B40
    rw [second_c hl.1 hD hk, mCall_some, e3, t1, mCall_some]
    exact (ho s2 σ2 c t1 t2 t3 t4 t5 t6).symm
  unfold mX7_noteAll
  rw [gc101, kc, mCall_some]
  rcases hw with ⟨w0, ⟨w1, w2, w3, -⟩, w4, w5, w6, -⟩ | ⟨w0, w1, w2, w3, w4⟩ | ⟨w0, -⟩
  · obtain ⟨s1, σ1, c1, r1, r2, r3, r4, r5, r6⟩ := dv_e (v := σ (D + 2) k) h (by omega) (by omega)
    have c3 : c1 ≤ 3 := by
      rcases Nat.lt_or_ge c1 4 with z | z
      · omega
      · have := fcN_mid c1 z; omega
    obtain ⟨s2, σ2, c2, t1, t2, t3, t4, t5, t6⟩ := dv_e (v := σ (D + 3) k) r6 (by omega) (by omega)
    have c4 : c2 ≤ 3 := by
      rcases Nat.lt_or_ge c2 4 with z | z
      · omega
      · have := fcN_mid c2 z; omega
    refine ⟨s2, σ2, ?_, r2.tr t2 (fun _ _ z => z), by rw [t3, r3], by omega, lst_cg t6 (fun y => ?_)⟩
    · rw [w0, if_neg (by decide), kc, mCall_some, w0, if_neg (by decide), first_c hL hD hk, mCall_some, r1, mCall_some]
      unfold mX7_noteAll_B40
      rw [second_c r6.1 hD hk, mCall_some, r2 _ _ (by unfold noW; omega), t1, mCall_some]
    · unfold ntX
      constructor
      · rintro ((z | ⟨z1, z2⟩) | ⟨z1, z2⟩)
        · exact Or.inl z
        · exact Or.inr (Or.inl ⟨w0, z1, Or.inl z2⟩)
        · exact Or.inr (Or.inl ⟨w0, z1, Or.inr z2⟩)
      · rintro (z | ⟨_, z1, z2 | z2⟩ | ⟨z0, _⟩)
        · exact Or.inl (Or.inl z)
        · exact Or.inl (Or.inr ⟨z1, z2⟩)
        · exact Or.inr ⟨z1, z2⟩
        · omega
  · obtain ⟨⟨q1, q2⟩, -, -⟩ := gen_t _ w1
    obtain ⟨s1, σ1, r1, r2, r3, r4, r5⟩ := note_e (v := σ (D + 2) k) h (by omega) (by omega)
    obtain ⟨s2, σ2, c2, t1, t2, t3, t4, t5, t6⟩ := dv_e (v := σ (D + 3) k) r5 (by omega) (by omega)
    have c4 : c2 ≤ 5 := by
      rcases Nat.lt_or_ge c2 6 with z | z
      · omega
      · have := fcN_big c2 z; omega
    refine ⟨s2, σ2, ?_, r2.tr t2 (fun _ _ z => z), by rw [t3, r3], by omega, lst_cg t6 (fun y => ?_)⟩
    · rw [w0, if_neg (by decide), kc, mCall_some, w0, if_pos (by decide), first_c hL hD hk, mCall_some, r1, mCall_some]
      unfold mX7_noteAll_B40
      rw [second_c r5.1 hD hk, mCall_some, r2 _ _ (by unfold noW; omega), t1, mCall_some]
    · unfold ntX
      constructor
      · rintro ((z | z) | ⟨z1, z2⟩)
        · exact Or.inl z
        · exact Or.inr (Or.inr ⟨w0, Or.inl z⟩)
        · exact Or.inr (Or.inr ⟨w0, Or.inr ⟨z1, z2⟩⟩)
      · rintro (z | ⟨z0, _⟩ | ⟨_, z1 | ⟨z1, z2⟩⟩)
        · exact Or.inl (Or.inl z)
        · omega
        · exact Or.inl (Or.inr z1)
        · exact Or.inr ⟨z1, z2⟩
  · refine ⟨s, σ, ?_, frm.rf σ, rfl, by omega, lst_cg h (fun y => ?_)⟩
    · rw [w0, if_pos (by decide)]
    · unfold ntX
      constructor
      · exact Or.inl
      · rintro (z | ⟨z0, _⟩ | ⟨z0, _⟩)
        · exact z
        · omega
        · omega
theorem naL25 {D n : Nat} {X : Int → Prop} {K F S G P : Nat → Int} {x : mSt → Option (Int × mSt)} (hD : D = 37 ∨ D = 69) (hn : n ≤ 8) (hw : ∀ k, k < n → wfK K F S G P k) : ∀ (m k s N : Nat) (σ : mSt), k + m = n → m < N → σ (D + 1) = K → σ (D + 2) = F → σ (D + 3) = S → σ 101 1 = (n : Int) → s ≤ 2 + 6 * k → lst σ s (fun y => X y ∨ ∃ i, i < k ∧ ntX K F S i y) → ∃ s' σ', mX7_reckon_L25 101 D x N (k : Int) σ = x σ' ∧ frm noW σ σ' ∧ σ' 101 1 = (n : Int) ∧ s' ≤ 2 + 6 * n ∧ lst σ' s' (fun y => X y ∨ ∃ i, i < n ∧ ntX K F S i y) := by
  intro m
  induction m with
  | zero =>
    intro k s N σ e1 e2 e3 e4 e5 e6 e7 e8
    obtain ⟨N, rfl⟩ : ∃ q, N = q + 1 := ⟨N - 1, by omega⟩
    have kn : k = n := by omega
    subst kn
    refine ⟨s, σ, ?_, frm.rf σ, e6, e7, e8⟩
    rw [mX7_reckon_L25.eq_2, e6, if_pos (Int.le_refl _)]
  | succ m ih =>
    intro k s N σ e1 e2 e3 e4 e5 e6 e7 e8
    obtain ⟨N, rfl⟩ : ∃ q, N = q + 1 := ⟨N - 1, by omega⟩
    obtain ⟨s1, σ1, r1, r2, r3, r4, r5⟩ := noteAll_e (G := G) (P := P) (k := k) e8 (by omega) hD (by omega) (by rw [e3, e4, e5]; exact hw k (by omega))
    have o : ∀ i, i ≠ 101 → i ≠ 102 → σ1 i = σ i := fun i h1 h2 => funext fun j => r2 i j (by unfold noW; omega)
    obtain ⟨s2, σ2, q1, q2, q3, q4, q5⟩ := ih (k + 1) s1 N σ1 (by omega) (by omega) (by rw [o _ (by omega) (by omega), e3]) (by rw [o _ (by omega) (by omega), e4]) (by rw [o _ (by omega) (by omega), e5]) (by rw [r3, e6]) (by omega) (lst_cg r5 (fun y => by
      rw [e3, e4, e5]
      constructor
      · rintro ((z | ⟨i, i1, i2⟩) | z)
        · exact Or.inl z
        · exact Or.inr ⟨i, by omega, i2⟩
        · exact Or.inr ⟨k, by omega, z⟩
      · rintro (z | ⟨i, i1, i2⟩)
        · exact Or.inl (Or.inl z)
        · by_cases c : i = k
          · rw [c] at i2; exact Or.inr i2
          · exact Or.inl (Or.inr ⟨i, by omega, i2⟩)))
    refine ⟨s2, σ2, ?_, r2.tr q2 (fun _ _ z => z), q3, q4, q5⟩
    rw [mX7_reckon_L25.eq_2, e6, if_neg (by rw [wI_id (x := (n : Int)) (by omega), wI_id (x := (k : Int)) (by omega)]; omega), r1, mCall_some, bnd_eq]
    exact q1
theorem sumN_cg {f g : Nat → Int} : ∀ n : Nat, (∀ i, i < n → f i = g i) → sumN f n = sumN g n := by
  intro n
  induction n with
  | zero => intro _; rfl
  | succ n ih =>
    intro h
    show sumN f n + f n = sumN g n + g n
    rw [ih (fun i hi => h i (by omega)), h n (by omega)]
theorem sumN_0 {f : Nat → Int} : ∀ n : Nat, (∀ i, i < n → f i = 0) → sumN f n = 0 := by
  intro n
  induction n with
  | zero => intro _; rfl
  | succ n ih =>
    intro h
    show sumN f n + f n = 0
    rw [ih (fun i hi => h i (by omega)), h n (by omega)]
    rfl
theorem locF_at {K F S G P : Nat → Int} {d k : Nat} {p : Int} : locF K F S G P (d + 1) k p = if K k = 0 then locQ (F k) (S k) p else if K k = 1 then locC (F k) (S k) p else sumN (fun i => G (4 * k + i) * locF K F S G P d (P (4 * k + i)).toNat p) (F k).toNat % 6 := by
  rw [locF]
theorem locF_cg {n : Nat} {K F S G P K' F' S' G' P' : Nat → Int} (hw : ∀ k, k < n → wfK K F S G P k) (hc : ∀ k, k < n → K' k = K k ∧ F' k = F k ∧ S' k = S k ∧ (K k = 2 → ∀ i : Nat, (i : Int) < F k → G' (4 * k + i) = G (4 * k + i) ∧ P' (4 * k + i) = P (4 * k + i))) : ∀ (d e k : Nat) (p : Int), k < n → k < d → k < e → locF K' F' S' G' P' d k p = locF K F S G P e k p := by
  intro d
  induction d with
  | zero => intro e k p _ h; omega
  | succ d ih =>
    intro e k p h1 h2 h3
    obtain ⟨e, rfl⟩ : ∃ q, e = q + 1 := ⟨e - 1, by omega⟩
    obtain ⟨c1, c2, c3, c4⟩ := hc k h1
    rw [locF_at, locF_at, c1, c2, c3]
    rcases hw k h1 with ⟨w0, -⟩ | ⟨w0, -⟩ | ⟨w0, w1, w2, w3, w4⟩
    · rw [if_pos w0, if_pos w0]
    · rw [if_neg (by omega), if_pos w0, if_neg (by omega), if_pos w0]
    · rw [if_neg (by omega), if_neg (by omega), if_neg (by omega), if_neg (by omega)]
      congr 1
      refine sumN_cg _ (fun i hi => ?_)
      obtain ⟨g1, g2⟩ := c4 w0 i (by omega)
      obtain ⟨-, p1, p2⟩ := w4 i (by omega)
      rw [g1, g2, ih e _ p (by omega) (by omega) (by omega)]
theorem locC1_0 {q b p : Int} (h : ¬ p ∣ b) : locC1 q b p = 0 := by
  unfold locC1
  have : ordF 10 p b = 0 := by
    show (if b % p = 0 then ordF 9 p (b / p) + 1 else 0) = 0
    rw [if_neg (fun z => h (Int.dvd_of_emod_eq_zero z))]
  rw [this, Int.zero_mul]
  rfl
theorem qs_prm {q : Int} (h : q ∈ qs) : prm q ∧ q < 1000 := by
  unfold qs at h
  have hq : q = 7 ∨ q = 13 ∨ q = 19 ∨ q = 31 ∨ q = 37 ∨ q = 43 := by simpa using h
  refine ⟨⟨by omega, fun k k1 k2 => ?_⟩, by omega⟩
  have k7 : k < 7 := by
    rcases Int.lt_or_le k 7 with z | z
    · exact z
    · have := Int.mul_le_mul_of_nonneg_left z (show 0 ≤ k by omega); omega
  have : k = 2 ∨ k = 3 ∨ k = 4 ∨ k = 5 ∨ k = 6 := by omega
  rcases this with rfl | rfl | rfl | rfl | rfl <;> omega
/-- what is not noted is 0 -/
theorem loc_none {n : Nat} {K F S G P : Nat → Int} (hw : ∀ k, k < n → wfK K F S G P k) {p : Int} (hp : place p) (h0 : p ≠ 0) (h2 : p ≠ 2) (hx : ∀ i, i < n → ¬ ntX K F S i p) : ∀ (d k : Nat), k < n → locF K F S G P d k p = 0 := by
  intro d
  induction d with
  | zero => intro k _; rfl
  | succ d ih =>
    intro k hk
    have pp : prm p := by
      rcases hp with z | z
      · exact absurd z h0
      · exact z.1
    have nx := hx k hk
    unfold ntX at nx
    rw [locF_at]
    rcases hw k hk with ⟨w0, -⟩ | ⟨w0, -⟩ | ⟨w0, w1, w2, w3, w4⟩
    · have na : ¬ p ∣ F k := fun z => nx (Or.inl ⟨w0, pp, Or.inl z⟩)
      have nb : ¬ p ∣ S k := fun z => nx (Or.inl ⟨w0, pp, Or.inr z⟩)
      rw [if_pos w0]
      unfold locQ
      rw [if_neg h0, if_neg h2, b2_f (fun z => na z.1), b2_f (fun z => nb z.1), b2_f (fun z => na z.1)]
      rfl
    · have nq : p ≠ F k := fun z => nx (Or.inr ⟨w0, Or.inl z⟩)
      have nb : ¬ p ∣ S k := fun z => nx (Or.inr ⟨w0, Or.inr ⟨pp, z⟩⟩)
      rw [if_neg (by omega), if_pos w0]
      unfold locC
      rw [if_neg h0, if_neg nq, locC1_0 nb]
    · rw [if_neg (by omega), if_neg (by omega), sumN_0 _ (fun i hi => by
        obtain ⟨-, p1, p2⟩ := w4 i (by omega)
        rw [ih _ (by omega), Int.mul_zero])]
      rfl

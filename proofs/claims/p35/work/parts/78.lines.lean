/-! LINES that are in order: what the class writes -/
theorem al2_eq {σ σ' τ τ' : mSt} {D k : Nat} (h : al2 σ τ D k) (hk : k < 8) (hc : ∀ i, D + 1 ≤ i → i ≤ D + 31 → σ' i = σ i) (hr : ∀ i, 256 ≤ i → i ≤ 261 → τ' i = τ i) : al2 σ' τ' D k := by
  unfold al2 at h ⊢
  have se : ∀ q, spellF σ' (D + 6 + k) q = spellF σ (D + 6 + k) q := by
    intro q
    induction q with
    | zero => rfl
    | succ q ih =>
      show 32 * spellF σ' (D + 6 + k) q + (σ' (D + 6 + k) q - 96) = 32 * spellF σ (D + 6 + k) q + (σ (D + 6 + k) q - 96)
      rw [ih, hc _ (by omega) (by omega)]
  simp only [se, hc (D + 1) (by omega) (by omega), hc (D + 2) (by omega) (by omega), hc (D + 3) (by omega) (by omega), hc (D + 4) (by omega) (by omega), hc (D + 6 + k) (by omega) (by omega), hc (D + 15 + k) (by omega) (by omega), hc (D + 24 + k) (by omega) (by omega), hr 256 (by omega) (by omega), hr 257 (by omega) (by omega), hr 258 (by omega) (by omega), hr 259 (by omega) (by omega), hr 260 (by omega) (by omega), hr 261 (by omega) (by omega)]
  exact h
def lnC (σ τ : mSt) (w : Nat → Int) (n s D m : Nat) : Prop := cA σ w n s ∧ (D = 37 ∨ D = 69) ∧ m < 8 ∧ σ 2 1 = (D : Int) ∧ σ D 0 = (m : Int) ∧ σ 2 2 = 0 ∧ bn σ τ D m
theorem lnC.go {σ σ' τ : mSt} {w : Nat → Int} {n s s' D m : Nat} (h : lnC σ τ w n s D m) (hf : frm (cL D m) σ σ') (hA : cA σ' w n s') (h2 : σ' 2 2 = σ 2 2) : lnC σ' τ w n s' D m := by
  obtain ⟨g1, g2, g3, g4, g5, g6, g7⟩ := h
  refine ⟨hA, g2, g3, ?_, ?_, h2.trans g6, bn_fr g2 g3 g7 hf (frm.rf τ)⟩
  · rw [hf 2 1 (by unfold cL tkW; omega)]; exact g4
  · rw [hf D 0 (by unfold cL tkW; omega)]; exact g5
theorem cR_cL {D m i j : Nat} (h : cR i j) : cL D m i j := h.elim Or.inl (fun y => Or.inr (Or.inl y))
theorem tk_cL {D m i j : Nat} (h : tkW i j) : cL D m i j := Or.inl h
theorem lnC.step {σ τ : mSt} {w : Nat → Int} {n s D m : Nat} (h : lnC σ τ w n s D m) : ∃ σ', mX10_step 3 σ = some (0, σ') ∧ frm tkW σ σ' ∧ lnC σ' τ w n (nxt w n s) D m := by
  obtain ⟨σ', p1, p2, p3⟩ := stepC h.1
  exact ⟨σ', p1, p2, h.go (p2.mono (fun i j z => tk_cL z)) p3 (p2 _ _ (by unfold tkW; omega))⟩
/-- a line's name -/
theorem name_c {σ τ : mSt} {w : Nat → Int} {n s D m : Nat} {kd : Int} (h : lnC σ τ w n s D m) (hn : isN w n s) (hf : fdF (fun k => τ 256 (8 + k)) (nmW w n s) m 0 = -1) (hτ : τ 256 (8 + m) = nmW w n s) : ∃ σ', mX8_readNewName 2 kd σ = some (1, σ') ∧ frm (cL D m) σ σ' ∧ lnC σ' τ w n (nxt w n s) D m ∧ σ' (D + 1) m = kd ∧ σ' (D + 2) m = 0 ∧ σ' (D + 3) m = 0 ∧ ∃ l : Nat, 1 ≤ l ∧ l ≤ 10 ∧ σ' (D + 4) m = (l : Int) ∧ (∀ i, i < l → 97 ≤ σ' (D + 6 + m) i ∧ σ' (D + 6 + m) i ≤ 122) ∧ τ 256 (8 + m) = spellF σ' (D + 6 + m) l := by
  have h' := h
  obtain ⟨hA, g1, g2, b4, b5, h22, b8⟩ := h
  have b3 : σ 2 0 = ((3 : Nat) : Int) := l20 hA.1.1
  have t1 : tC w n s = 1 := (tCR w n s).1.mpr hn.1
  have fc := find_c hA g1 b5 (by omega) t1 b8
  rw [hf] at fc
  obtain ⟨σ1, q1, q2, q3, q4, q5, q6, q7⟩ := begin_c (kd := kd) hA g1 b5 g2 t1
  obtain ⟨u1, u2, u3, u4, u5, u6⟩ := tC_1 t1
  have fc1 : frm (cL D m) σ σ1 := q2.mono (fun i j z => z.elim (fun y => Or.inr (Or.inr (Or.inl y))) (fun y => Or.inr (Or.inr (Or.inr (Or.inl y)))))
  have hA1 : cA σ1 w n s := cA_L g1 g2 hA fc1 (fun j => q2 _ _ (by omega))
  have h1 : lnC σ1 τ w n s D m := h'.go fc1 hA1 (q2 _ _ (by omega))
  obtain ⟨σ2, p1, p3, h2⟩ := h1.step
  have e3 : σ1 2 0 = ((3 : Nat) : Int) := l20 hA1.1.1
  have o2 : ∀ i, 4 ≤ i → σ2 i = σ1 i := fun i hi => funext fun j => p3 i j (by unfold tkW; omega)
  refine ⟨σ2, ?_, fc1.tr (p3.mono (fun i j z => tk_cL z)) (fun _ _ z => z), h2, by rw [o2 _ (by omega)]; exact q3, by rw [o2 _ (by omega)]; exact q4, by rw [o2 _ (by omega)]; exact q5, tE w n s - s, by omega, by omega, by rw [o2 _ (by omega)]; exact q6, fun i hi => ?_, ?_⟩
  · unfold mX8_readNewName
    rw [gc2, gr' b3 (by omega), isN_e hA, mCall_some, if_neg (by rw [b2_t hn]; decide), gr' b4 (by omega), gr' b3 (by omega), fc, mCall_some, if_pos (by decide), gr' b4 (by omega), gr' b3 (by omega), q1, mCall_some, gr' e3 (by omega), p1, mCall_some]
  · rw [o2 _ (by omega), q7 i hi]
    exact u2 (s + i) (by omega) (by omega)
  · rw [hτ, spell_pk, o2 _ (by omega)]
    exact (pk_inj (f := w) (g := σ1 (D + 6 + m)) (s := s) (t := 0) (tE w n s - s) (tE w n s - s) (fun j hj => u2 (s + j) (by omega) (by omega)) (fun j hj => by rw [Nat.zero_add, q7 j hj]; exact u2 (s + j) (by omega) (by omega))).mpr ⟨rfl, fun j hj => by rw [Nat.zero_add, q7 j hj]⟩
theorem whole_c {σ τ : mSt} {w : Nat → Int} {n s D m : Nat} {lim sq : Int} (h : lnC σ τ w n s D m) (hl : (lim = 60 ∧ sq = 1) ∨ (lim = 999 ∧ sq = 0)) (ok : okT lim w n s ∧ (sq = 1 → sqf (wN w n s))) : ∃ σ', mX8_readWhole 2 lim sq σ = some (1, σ') ∧ frm cR σ σ' ∧ lnC σ' τ w n (nxt w n (wS w n s)) D m ∧ σ' 2 3 = wV w n s := by
  obtain ⟨σ', c1, c2⟩ := whole_rd h.1 hl
  rcases c2 with ⟨p0, p1, p2, p3, p4⟩ | ⟨p0, -⟩
  · exact ⟨σ', p1, c1, h.go (c1.mono (fun i j z => cR_cL z)) p2 p4, p3⟩
  · exact absurd ok p0
/-- the row of the book that a line writes -/
def rw9 (σ σ' : mSt) (D m : Nat) : Prop := σ' (D + 1) m = σ (D + 1) m ∧ σ' (D + 4) m = σ (D + 4) m ∧ σ' (D + 6 + m) = σ (D + 6 + m)
theorem rw9.of {σ σ' : mSt} {D m : Nat} (hD : D = 37 ∨ D = 69) (h : frm cR σ σ') : rw9 σ σ' D m ∧ σ' (D + 2) m = σ (D + 2) m ∧ σ' (D + 3) m = σ (D + 3) m :=
  ⟨⟨h _ _ (by unfold cR tkW; omega), h _ _ (by unfold cR tkW; omega), funext fun j => h _ _ (by unfold cR tkW; omega)⟩, h _ _ (by unfold cR tkW; omega), h _ _ (by unfold cR tkW; omega)⟩
theorem rw9.tr {σ σ1 σ2 : mSt} {D m : Nat} (h1 : rw9 σ σ1 D m) (h2 : rw9 σ1 σ2 D m) : rw9 σ σ2 D m := ⟨h2.1.trans h1.1, h2.2.1.trans h1.2.1, h2.2.2.trans h1.2.2⟩
theorem lnC.put {σ τ : mSt} {w : Nat → Int} {n s D m : Nat} (h : lnC σ τ w n s D m) {i : Nat} {v : Int} (hi : i = D + 2 ∨ i = D + 3) : frm (cL D m) σ (upS σ i m v) ∧ lnC (upS σ i m v) τ w n s D m ∧ rw9 σ (upS σ i m v) D m := by
  have hD := h.2.1
  have f : frm (cL D m) σ (upS σ i m v) := frm.one (Or.inr (Or.inr (Or.inl ⟨by omega, rfl⟩)))
  refine ⟨f, h.go f (cA_L h.2.1 h.2.2.1 h.1 f (fun j => upS_ne (by omega))) (upS_ne (by omega)), upS_ne (by omega), upS_ne (by omega), upS_row (by omega)⟩
theorem sides_c {σ τ : mSt} {w : Nat → Int} {n s D m : Nat} {A B : Int} {s2 s3 : Nat} (h : lnC σ τ w n s D m) (k1 : okT 60 w n s ∧ sqf (wN w n s)) (k2 : wV w n s = A) (k3 : nxt w n (wS w n s) = s2) (k4 : okT 60 w n s2 ∧ sqf (wN w n s2)) (k5 : wV w n s2 = B) (k6 : nxt w n (wS w n s2) = s3) : ∃ σ', mX8_readSides 2 σ = some (1, σ') ∧ frm (cL D m) σ σ' ∧ lnC σ' τ w n s3 D m ∧ rw9 σ σ' D m ∧ σ' (D + 2) m = A ∧ σ' (D + 3) m = B := by
  have hD := h.2.1
  obtain ⟨σ1, p1, p2, p3, p4⟩ := whole_c h (Or.inl ⟨rfl, rfl⟩) ⟨k1.1, fun _ => k1.2⟩
  rw [k3] at p3
  rw [k2] at p4
  obtain ⟨f1, h1, r1⟩ := p3.put (i := D + 2) (v := A) (Or.inl rfl)
  obtain ⟨σ2, q1, q2, q3, q4⟩ := whole_c h1 (Or.inl ⟨rfl, rfl⟩) ⟨k4.1, fun _ => k4.2⟩
  rw [k6] at q3
  rw [k5] at q4
  obtain ⟨f2, h2, r2⟩ := q3.put (i := D + 3) (v := B) (Or.inr rfl)
  obtain ⟨t1, t2, t3⟩ := rw9.of (D := D) (m := m) hD p2
  obtain ⟨v1, v2, v3⟩ := rw9.of (D := D) (m := m) hD q2
  refine ⟨upS σ2 (D + 3) m B, ?_, (((p2.mono (fun i j z => cR_cL z)).tr f1 (fun _ _ z => z)).tr (q2.mono (fun i j z => cR_cL z)) (fun _ _ z => z)).tr f2 (fun _ _ z => z), h2, ((t1.tr r1).tr v1).tr r2, ?_, upS_same _ _ _ _⟩
  · unfold mX8_readSides
    rw [gc2, p1, mCall_some, if_neg (by decide), gr' p3.2.2.2.1 (by omega), p4, setFirst_e p3.1.1.1 hD p3.2.2.2.2.1 h.2.2.1, mCall_some, q1, mCall_some, if_neg (by decide), gr' q3.2.2.2.1 (by omega), q4, setSecond_e q3.1.1.1 hD q3.2.2.2.2.1 h.2.2.1, mCall_some]
  · rw [upS_ne (by omega), v2, upS_same]
theorem field_c {σ τ : mSt} {w : Nat → Int} {n s D m : Nat} {A B : Int} {s2 s3 : Nat} (h : lnC σ τ w n s D m) (k1 : tC w n s = 2) (k2 : nvF w s (tE w n s - s) = A) (kA : fldP A) (k3 : nxt w n s = s2) (k4 : okT 999 w n s2) (k5 : wV w n s2 = B) (k6 : nxt w n (wS w n s2) = s3) : ∃ σ', mX8_readField 2 σ = some (1, σ') ∧ frm (cL D m) σ σ' ∧ lnC σ' τ w n s3 D m ∧ rw9 σ σ' D m ∧ σ' (D + 2) m = A ∧ σ' (D + 3) m = B := by
  have hD := h.2.1
  have hA : 7 ≤ A ∧ A ≤ 43 := by unfold fldP at kA; omega
  obtain ⟨c, c1, c2⟩ := value_e h.1 k1
  rw [k2] at c2
  have ec : c = A := by unfold nR at c2; omega
  subst ec
  obtain ⟨f1, h1, r1⟩ := h.put (i := D + 2) (v := c) (Or.inl rfl)
  obtain ⟨σ1, s1, t1, h2⟩ := h1.step
  rw [k3] at h2
  obtain ⟨σ2, q1, q2, q3, q4⟩ := whole_c h2 (Or.inr ⟨rfl, rfl⟩) ⟨k4, fun z => absurd z (by decide)⟩
  rw [k6] at q3
  rw [k5] at q4
  obtain ⟨f2, h3, r2⟩ := q3.put (i := D + 3) (v := B) (Or.inr rfl)
  obtain ⟨t4, t2, t3⟩ := rw9.of (D := D) (m := m) hD (t1.mono (fun i j z => Or.inl z))
  obtain ⟨v1, v2, v3⟩ := rw9.of (D := D) (m := m) hD q2
  have b3 := l20 h.1.1.1
  refine ⟨upS σ2 (D + 3) m B, ?_, ((f1.tr (t1.mono (fun i j z => tk_cL z)) (fun _ _ z => z)).tr (q2.mono (fun i j z => cR_cL z)) (fun _ _ z => z)).tr f2 (fun _ _ z => z), h3, ((r1.tr t4).tr v1).tr r2, ?_, upS_same _ _ _ _⟩
  · unfold mX8_readField
    rw [gc2, gr' b3 (by omega), is_tc h.1 (by omega), mCall_some, if_neg (by rw [b2_t k1]; decide), gr' b3 (by omega), c1, mCall_some, isField_e (by omega), mCall_some, if_neg (by rw [b2_t kA]; decide), gr' h.2.2.2.1 (by omega), setFirst_e h.1.1.1 hD h.2.2.2.2.1 h.2.2.1, mCall_some, gr' (l20 h1.1.1.1) (by omega), s1, mCall_some, q1, mCall_some, if_neg (by decide), gr' q3.2.2.2.1 (by omega), q4, setSecond_e q3.1.1.1 hD q3.2.2.2.2.1 h.2.2.1, mCall_some]
  · rw [upS_ne (by omega), v2, t2, upS_same]
def trC (σb σ : mSt) (g o : Nat → Int) (D m c : Nat) : Prop := σ (D + 2) m = (c : Int) ∧ σ (D + 3) m = 0 ∧ rw9 σb σ D m ∧ ∀ i, i < c → σ (D + 15 + m) i = o i ∧ σ (D + 24 + m) i = g i
theorem trC.tk {σb σ σ' : mSt} {g o : Nat → Int} {D m c : Nat} (hD : D = 37 ∨ D = 69) (h : trC σb σ g o D m c) (hf : frm tkW σ σ') : trC σb σ' g o D m c := by
  have e : ∀ i, 4 ≤ i → σ' i = σ i := fun i hi => funext fun j => hf i j (by unfold tkW; omega)
  obtain ⟨h1, h2, ⟨h3, h4, h5⟩, h6⟩ := h
  refine ⟨by rw [e _ (by omega)]; exact h1, by rw [e _ (by omega)]; exact h2, ⟨by rw [e _ (by omega)]; exact h3, by rw [e _ (by omega)]; exact h4, by rw [e _ (by omega)]; exact h5⟩, fun i hi => by rw [e _ (by omega), e _ (by omega)]; exact h6 i hi⟩
theorem terms_c {σb τ : mSt} {w : Nat → Int} {n D m nt : Nat} {p : Nat → Nat} {g o : Nat → Int} (hnt : nt ≤ 4) (hm : m < 8) (ho : ∀ i, i < nt → 0 ≤ o i ∧ o i < (m : Int)) (hs : ∀ i, i < nt → (tC w n (p i) = 3 ∧ g i = 1) ∨ (tC w n (p i) = 4 ∧ g i = -1)) (hn : ∀ i, i < nt → isN w n (nxt w n (p i))) (hfd : ∀ i, i < nt → fdF (fun k => τ 256 (8 + k)) (nmW w n (nxt w n (p i))) m 0 = o i) (hp : ∀ i, i < nt → nxt w n (nxt w n (p i)) = p (i + 1)) (he : tC w n (p nt) = 5) : ∀ (q c N : Nat) (σ : mSt), c + q = nt → q < N → lnC σ τ w n (p c) D m → trC σb σ g o D m c → ∃ σ', mX8_readTerms_L15 2 (fun zσ => mX8_readTerms_B128 2 zσ) N (c : Int) σ = some (1, σ') ∧ frm (cL D m) σ σ' ∧ lnC σ' τ w n (p nt) D m ∧ trC σb σ' g o D m nt
  | 0, c, N, σ, hc, hN, h, ht => by
    obtain ⟨f, rfl⟩ : ∃ f, N = f + 1 := ⟨N - 1, by omega⟩
    have e : c = nt := by omega
    subst e
    refine ⟨σ, ?_, frm.rf σ, h, ht⟩
    rw [mX8_readTerms_L15.eq_2, if_neg (by rw [wI_id (by omega)]; omega), sgC h.1.1.1 h.1, mCall_some, if_pos (by rw [b2_f (by rw [he]; decide)]; decide)]
    rfl
  | q + 1, c, N, σ, hc, hN, h, ht => by
    obtain ⟨f, rfl⟩ : ∃ f, N = f + 1 := ⟨N - 1, by omega⟩
    have hD := h.2.1
    have hsc := hs c (by omega)
    have hoc := ho c (by omega)
    obtain ⟨σ1, s1, t1, h1⟩ := h.step
    have ht1 := ht.tk hD t1
    have hnc := hn c (by omega)
    have tn : tC w n (nxt w n (p c)) = 1 := (tCR w n _).1.mpr hnc.1
    have fc := find_c h1.1 hD h1.2.2.2.2.1 (by omega) tn h1.2.2.2.2.2.2
    rw [hfd c (by omega)] at fc
    have at3 := addTerm_e (g := g c) (t := o c) h1.1.1.1 hD h1.2.2.2.2.1 hm ht1.1 (by omega)
    obtain ⟨σ3, hs3⟩ : ∃ σ3, σ3 = upS (upS (upS σ1 (D + 15 + m) c (o c)) (D + 24 + m) c (g c)) (D + 2) m ((c : Int) + 1) := ⟨_, rfl⟩
    rw [← hs3] at at3
    have fc3 : frm (cL D m) σ1 σ3 := by
      rw [hs3]
      exact ((frm.one (Or.inr (Or.inr (Or.inr (Or.inr (Or.inl rfl)))))).put (Or.inr (Or.inr (Or.inr (Or.inr (Or.inr rfl)))))).put (Or.inr (Or.inr (Or.inl ⟨by omega, rfl⟩)))
    have h3 : lnC σ3 τ w n (nxt w n (p c)) D m := h1.go fc3 (cA_L hD hm h1.1 fc3 (fun j => by rw [hs3, upS_ne (by omega), upS_ne (by omega), upS_ne (by omega)])) (by rw [hs3, upS_ne (by omega), upS_ne (by omega), upS_ne (by omega)])
    have t3 : trC σb σ3 g o D m (c + 1) := by
      obtain ⟨y1, y2, ⟨y3, y4, y5⟩, y8⟩ := ht1
      refine ⟨by rw [hs3, upS_same]; omega, by rw [hs3, upS_ne (by omega), upS_ne (by omega), upS_ne (by omega)]; exact y2, ⟨by rw [hs3, upS_ne (by omega), upS_ne (by omega), upS_ne (by omega)]; exact y3, by rw [hs3, upS_ne (by omega), upS_ne (by omega), upS_ne (by omega)]; exact y4, by rw [← y5, hs3, upS_row (by omega), upS_row (by omega), upS_row (by omega)]⟩, fun i hi => ?_⟩
      by_cases e : i = c
      · subst e
        rw [hs3, upS_ne (by omega), upS_ne (by omega), upS_same, upS_ne (by omega), upS_same]
        exact ⟨rfl, rfl⟩
      · rw [hs3, upS_ne (by omega), upS_ne (by omega), upS_ne (by omega), upS_ne (by omega), upS_ne (by omega), upS_ne (by omega)]
        exact y8 i (by omega)
    obtain ⟨σ4, s4, t4, h4⟩ := h3.step
    rw [hp c (by omega)] at h4
    obtain ⟨σ', r1, r2, r3, r4⟩ := terms_c hnt hm ho hs hn hfd hp he q (c + 1) f σ4 (by omega) (by omega) h4 (t3.tk hD t4)
    refine ⟨σ', ?_, (((t1.mono (fun i j z => tk_cL z)).tr fc3 (fun _ _ z => z)).tr (t4.mono (fun i j z => tk_cL z)) (fun _ _ z => z)).tr r2 (fun _ _ z => z), r3, r4⟩
    have b3 := l20 h.1.1.1
    have d3 := l20 h1.1.1.1
    have e3 := l20 h3.1.1.1
    have B59 : ∀ v : Int, v = g c → mX8_readTerms_B59 2 (mX8_readTerms_L15 2 (fun zσ => mX8_readTerms_B128 2 zσ) f) (fun zσ => mX8_readTerms_B128 2 zσ) (c : Int) v σ = some (1, σ') := by
      rintro v rfl
      unfold mX8_readTerms_B59
      rw [gr' b3 (by omega), s1, mCall_some, gr' d3 (by omega), isN_e h1.1, mCall_some, if_neg (by rw [b2_t hnc]; decide), gr' h1.2.2.2.1 (by omega), gr' d3 (by omega), fc, mCall_some, if_neg (by rw [wI_id (by omega)]; omega), gr' h1.2.2.2.1 (by omega), at3, mCall_some, gr' e3 (by omega), s4, mCall_some, bnd_eq, show (c : Int) + 1 = ((c + 1 : Nat) : Int) by omega]
      exact r1
    rw [mX8_readTerms_L15.eq_2, if_neg (by rw [wI_id (by omega)]; omega), sgC h.1.1.1 h.1, mCall_some, if_neg (by rw [b2_t (by omega)]; decide), gr' h.2.2.2.1 (by omega), hasAll_e h.1.1.1 hD h.2.2.2.2.1 hm ht.1 (by omega), mCall_some, if_pos (by rw [b2_f (by omega)]; decide), gr' b3 (by omega), is_tc h.1 (by omega), mCall_some]
    rcases hsc with ⟨z1, z2⟩ | ⟨z1, z2⟩
    · rw [if_pos (by rw [b2_f (by omega)]; decide)]
      exact B59 1 z2.symm
    · rw [if_neg (by rw [b2_t z1]; decide)]
      exact B59 (-1) z2.symm
theorem termsA_c {σ τ : mSt} {w : Nat → Int} {n D m nt : Nat} {p : Nat → Nat} {g o : Nat → Int} (hnt : 1 ≤ nt ∧ nt ≤ 4) (ho : ∀ i, i < nt → 0 ≤ o i ∧ o i < (m : Int)) (hs : ∀ i, i < nt → (tC w n (p i) = 3 ∧ g i = 1) ∨ (tC w n (p i) = 4 ∧ g i = -1)) (hn : ∀ i, i < nt → isN w n (nxt w n (p i))) (hfd : ∀ i, i < nt → fdF (fun k => τ 256 (8 + k)) (nmW w n (nxt w n (p i))) m 0 = o i) (hp : ∀ i, i < nt → nxt w n (nxt w n (p i)) = p (i + 1)) (he : tC w n (p nt) = 5) (h : lnC σ τ w n (p 0) D m) (h2 : σ (D + 2) m = 0) (h3 : σ (D + 3) m = 0) : ∃ σ', mX8_readTerms 2 σ = some (1, σ') ∧ frm (cL D m) σ σ' ∧ lnC σ' τ w n (p nt) D m ∧ trC σ σ' g o D m nt := by
  obtain ⟨σ', r1, r2, r3, r4⟩ := terms_c (σb := σ) hnt.2 h.2.2.1 ho hs hn hfd hp he nt 0 mF σ (by omega) (by unfold mF; omega) h ⟨h2, h3, ⟨rfl, rfl, rfl⟩, fun i hi => by omega⟩
  refine ⟨σ', ?_, r2, r3, r4⟩
  have := hs 0 (by omega)
  unfold mX8_readTerms
  rw [gc2, sgC h.1.1.1 h.1, mCall_some, if_neg (by rw [b2_t (by omega)]; decide)]
  exact r1
/-- a line's end -/
theorem end_c {σ τ : mSt} {w : Nat → Int} {n s D m : Nat} (h : lnC σ τ w n s D m) (hm : m < 7) (t5 : tC w n s = 5) (hal : al2 σ τ D m) : ∃ σ', mX8_readLine_B90 2 σ = some (1, σ') ∧ frm (cXl D) σ σ' ∧ lnC σ' τ w n (nxt w n s) D (m + 1) := by
  have hD := h.2.1
  obtain ⟨σ1, s1, s3, h1⟩ := h.step
  have b3 := l20 h.1.1.1
  have hA1 := h1.1
  obtain ⟨σ2, hs2⟩ : ∃ σ2, σ2 = upS σ1 D 0 ((m : Int) + 1) := ⟨_, rfl⟩
  have fc : frm (cXl D) σ1 σ2 := by rw [hs2]; exact frm.one (Or.inr (Or.inl ⟨rfl, rfl⟩))
  have oc : ∀ i, i ≠ D → σ2 i = σ1 i := fun i hi => by rw [hs2]; exact upS_row hi
  have ec : ∀ i, D + 1 ≤ i → i ≤ D + 31 → σ2 i = σ i := fun i z1 z2 => by
    rw [oc i (by omega)]
    exact funext fun j => s3 i j (by unfold tkW; omega)
  refine ⟨σ2, ?_, (s3.mono (fun i j z => Or.inl (Or.inl z))).tr fc (fun _ _ z => z), cA_fr hA1 (hA1.1.1.frm fc (fun i j z => cXl_fix hD z)) (oc 3 (by omega)) (oc 1 (by omega)), hD, by omega, by rw [oc 2 (by omega)]; exact h1.2.2.2.1, by rw [hs2, upS_same]; omega, by rw [oc 2 (by omega)]; exact h1.2.2.2.2.2.1, fun k hk => ?_⟩
  · unfold mX8_readLine_B90
    rw [gr' b3 (by omega), is_tc h.1 (by omega), mCall_some, if_neg (by rw [b2_t t5]; decide), gr' b3 (by omega), s1, mCall_some, gr' h1.2.2.2.1 (by omega), finish_e hA1.1.1 hD h1.2.2.2.2.1 h.2.2.1, mCall_some, ← hs2]
  · by_cases e : k = m
    · rw [e]
      exact al2_eq hal h.2.2.1 ec (fun _ _ _ => rfl)
    · exact al2_eq (h.2.2.2.2.2.2 k (by omega)) (by omega) ec (fun _ _ _ => rfl)
/-- a line, put together: its body is given -/
theorem line_c {σ τ : mSt} {w : Nat → Int} {n s s2 D m : Nat} {kd : Int} (h : lnC σ τ w n s D m) (hm : m < 7) (hk : lkF w n s = kd) (hkd : kd = 0 ∨ kd = 1 ∨ kd = 2) (hn : isN w n (nxt w n s)) (hf : fdF (fun k => τ 256 (8 + k)) (nmW w n (nxt w n s)) m 0 = -1) (hτ : τ 256 (8 + m) = nmW w n (nxt w n s))
    (body : ∀ σ1 : mSt, lnC σ1 τ w n (nxt w n (nxt w n s)) D m → σ1 (D + 2) m = 0 → σ1 (D + 3) m = 0 → ∃ σ2, (if kd = 0 then mX8_readSides 2 σ1 else if kd = 1 then mX8_readField 2 σ1 else mX8_readTerms 2 σ1) = some (1, σ2) ∧ frm (cL D m) σ1 σ2 ∧ lnC σ2 τ w n s2 D m ∧ rw9 σ1 σ2 D m ∧ (σ1 (D + 1) m = kd → (∃ l : Nat, 1 ≤ l ∧ l ≤ 10 ∧ σ2 (D + 4) m = (l : Int) ∧ (∀ i, i < l → 97 ≤ σ2 (D + 6 + m) i ∧ σ2 (D + 6 + m) i ≤ 122) ∧ τ 256 (8 + m) = spellF σ2 (D + 6 + m) l) → al2 σ2 τ D m)) (t5 : tC w n s2 = 5) :
    ∃ σ', mX8_readLine 2 σ = some (1, σ') ∧ frm (cXl D) σ σ' ∧ lnC σ' τ w n (nxt w n s2) D (m + 1) := by
  have hD := h.2.1
  have b3 := l20 h.1.1.1
  obtain ⟨σ1, s1, t1, h1⟩ := h.step
  obtain ⟨σ2, n1, n2, n3, n4, n5, n6, l, l1, l2, l3, l4, l5⟩ := name_c (kd := kd) h1 hn hf hτ
  obtain ⟨σ3, b1, b2', b4, ⟨r1, r2, r3⟩, b5⟩ := body σ2 n3 n5 n6
  have hal := b5 n4 ⟨l, l1, l2, by rw [r2]; exact l3, fun i hi => by rw [r3]; exact l4 i hi, by rw [spellF_congr r3]; exact l5⟩
  obtain ⟨σ4, e1, e2, e3⟩ := end_c b4 hm t5 hal
  have up : ∀ {a b : mSt}, frm (cL D m) a b → frm (cXl D) a b := fun z => z.mono (fun i j y => Or.inr (Or.inr ⟨m, by omega, y⟩))
  refine ⟨σ4, ?_, (((up (t1.mono (fun i j z => tk_cL z))).tr (up n2) (fun _ _ z => z)).tr (up b2') (fun _ _ z => z)).tr e2 (fun _ _ z => z), e3⟩
  unfold mX8_readLine
  rw [gc2, gr' b3 (by omega), lk_e h.1, mCall_some, hk, wI_id (x := kd) (by omega), if_neg (by omega), gr' h.2.2.2.1 (by omega), isFull_e h.1.1.1 hD h.2.2.2.2.1 (by omega), mCall_some, if_pos (by rw [b2_f (by omega)]; decide), gr' b3 (by omega), s1, mCall_some, n1, mCall_some, if_neg (by decide)]
  rcases hkd with rfl | rfl | rfl
  · rw [if_pos rfl] at b1 ⊢
    rw [b1, mCall_some, if_neg (by decide), e1]
  · rw [if_neg (by decide), if_pos rfl] at b1 ⊢
    rw [b1, mCall_some, if_neg (by decide), e1]
  · rw [if_neg (by decide), if_neg (by decide)] at b1 ⊢
    rw [b1, mCall_some, if_neg (by decide), e1]

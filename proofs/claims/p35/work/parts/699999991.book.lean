/-! the class side of book -/
def al2 (σ τ : mSt) (D k : Nat) : Prop :=
  σ (D + 1) k = τ 257 (8 + k) ∧ σ (D + 2) k = τ 258 (8 + k) ∧ σ (D + 3) k = τ 259 (8 + k) ∧
  (∃ n : Nat, 1 ≤ n ∧ n ≤ 10 ∧ σ (D + 4) k = (n : Int) ∧ (∀ i, i < n → 97 ≤ σ (D + 6 + k) i ∧ σ (D + 6 + k) i ≤ 122) ∧ τ 256 (8 + k) = spellF σ (D + 6 + k) n) ∧
  ((τ 257 (8 + k) = 0 ∧ (τ 258 (8 + k) ≠ 0 ∧ -60 ≤ τ 258 (8 + k) ∧ τ 258 (8 + k) ≤ 60 ∧ sqf (τ 258 (8 + k))) ∧ (τ 259 (8 + k) ≠ 0 ∧ -60 ≤ τ 259 (8 + k) ∧ τ 259 (8 + k) ≤ 60 ∧ sqf (τ 259 (8 + k)))) ∨
   (τ 257 (8 + k) = 1 ∧ (τ 258 (8 + k) = 7 ∨ τ 258 (8 + k) = 13 ∨ τ 258 (8 + k) = 19 ∨ τ 258 (8 + k) = 31 ∨ τ 258 (8 + k) = 37 ∨ τ 258 (8 + k) = 43) ∧ τ 259 (8 + k) ≠ 0 ∧ -999 ≤ τ 259 (8 + k) ∧ τ 259 (8 + k) ≤ 999) ∨
   (τ 257 (8 + k) = 2 ∧ τ 259 (8 + k) = 0 ∧ 1 ≤ τ 258 (8 + k) ∧ τ 258 (8 + k) ≤ 4 ∧ ∀ i : Nat, (i : Int) < τ 258 (8 + k) → σ (D + 15 + k) i = τ 261 (4 * (8 + k) + i) ∧ σ (D + 24 + k) i = τ 260 (4 * (8 + k) + i) ∧ (τ 260 (4 * (8 + k) + i) = 1 ∨ τ 260 (4 * (8 + k) + i) = -1) ∧ 0 ≤ τ 261 (4 * (8 + k) + i) ∧ τ 261 (4 * (8 + k) + i) < (k : Int)))
def bn (σ τ : mSt) (D m : Nat) : Prop := ∀ k, k < m → al2 σ τ D k
/-- what a line changes: class, reference -/
def cL (D m i j : Nat) : Prop := tkW i j ∨ (i = 2 ∧ (j = 2 ∨ j = 3)) ∨ ((D + 1 ≤ i ∧ i ≤ D + 4) ∧ j = m) ∨ i = D + 6 + m ∨ i = D + 15 + m ∨ i = D + 24 + m
def rL (m i j : Nat) : Prop := (i = 253 ∧ ((4 ≤ j ∧ j ≤ 10) ∨ j = 19 ∨ j = 20)) ∨ ((256 ≤ i ∧ i ≤ 259) ∧ j = 8 + m) ∨ ((i = 260 ∨ i = 261) ∧ 32 + 4 * m ≤ j ∧ j < 36 + 4 * m)
theorem al2_fr {σ σ' τ τ' : mSt} {D m k : Nat} (hD : D = 37 ∨ D = 69) (hm : m < 8) (hk : k < m) (h : al2 σ τ D k) (hc : frm (cL D m) σ σ') (hr : frm (rL m) τ τ') : al2 σ' τ' D k := by
  have c : ∀ i j, ¬ cL D m i j → σ' i j = σ i j := hc
  have r : ∀ i j, ¬ rL m i j → τ' i j = τ i j := hr
  have c6 : σ' (D + 6 + k) = σ (D + 6 + k) := funext fun j => c _ _ (by unfold cL tkW; omega)
  obtain ⟨h1, h2, h3, ⟨n, n1, n2, n3, n4, n5⟩, h5⟩ := h
  have e7 : τ' 257 (8 + k) = τ 257 (8 + k) := r _ _ (by unfold rL; omega)
  have e8 : τ' 258 (8 + k) = τ 258 (8 + k) := r _ _ (by unfold rL; omega)
  have e9 : τ' 259 (8 + k) = τ 259 (8 + k) := r _ _ (by unfold rL; omega)
  refine ⟨?_, ?_, ?_, ⟨n, n1, n2, ?_, fun i hi => by rw [c6]; exact n4 i hi, ?_⟩, ?_⟩
  · rw [c _ _ (by unfold cL tkW; omega), e7]; exact h1
  · rw [c _ _ (by unfold cL tkW; omega), e8]; exact h2
  · rw [c _ _ (by unfold cL tkW; omega), e9]; exact h3
  · rw [c _ _ (by unfold cL tkW; omega)]; exact n3
  · have se : ∀ q, spellF σ' (D + 6 + k) q = spellF σ (D + 6 + k) q := by
      intro q
      induction q with
      | zero => rfl
      | succ q ih =>
        show 32 * spellF σ' (D + 6 + k) q + (σ' (D + 6 + k) q - 96) = 32 * spellF σ (D + 6 + k) q + (σ (D + 6 + k) q - 96)
        rw [ih, c6]
    rw [r _ _ (by unfold rL; omega), se]; exact n5
  · rw [e7, e8, e9]
    rcases h5 with h5 | h5 | ⟨h5, h6, h7, h8, h9⟩
    · exact Or.inl h5
    · exact Or.inr (Or.inl h5)
    · refine Or.inr (Or.inr ⟨h5, h6, h7, h8, fun i hi => ?_⟩)
      have a : τ' 261 (4 * (8 + k) + i) = τ 261 (4 * (8 + k) + i) := r _ _ (by unfold rL; omega)
      have b : τ' 260 (4 * (8 + k) + i) = τ 260 (4 * (8 + k) + i) := r _ _ (by unfold rL; omega)
      rw [c _ _ (by unfold cL tkW; omega), c _ _ (by unfold cL tkW; omega), a, b]
      exact h9 i hi
theorem bn_fr {σ σ' τ τ' : mSt} {D m : Nat} (hD : D = 37 ∨ D = 69) (hm : m < 8) (h : bn σ τ D m) (hc : frm (cL D m) σ σ') (hr : frm (rL m) τ τ') : bn σ' τ' D m := fun k hk => al2_fr hD hm hk (h k hk) hc hr
theorem cL_fix {D m i j : Nat} (hD : D = 37 ∨ D = 69) (hm : m < 8) (h : cL D m i j) : fixR i j = false := by
  have k1 : ∀ D, D = 37 ∨ D = 69 → ∀ q, q < 4 → (shp (D + 1 + q)).1 = 20 := by
    rintro D (rfl | rfl) <;> decide +kernel
  have k2 : ∀ D, D = 37 ∨ D = 69 → ∀ q, q < 8 → (shp (D + 6 + q)).1 = 22 ∧ (shp (D + 15 + q)).1 = 20 ∧ (shp (D + 24 + q)).1 = 20 := by
    rintro D (rfl | rfl) <;> decide +kernel
  obtain ⟨a1, a2, a3⟩ := k2 D hD m hm
  rcases h with h | ⟨rfl, h⟩ | ⟨h, rfl⟩ | rfl | rfl | rfl
  · exact tkW_fix h
  · rcases h with rfl | rfl <;> decide +kernel
  · have := k1 D hD (i - (D + 1)) (by omega)
    rw [show D + 1 + (i - (D + 1)) = i by omega] at this
    exact fixR_data (by rw [this]; decide) j
  · exact fixR_data (by rw [a1]; decide) j
  · exact fixR_data (by rw [a2]; decide) j
  · exact fixR_data (by rw [a3]; decide) j
theorem cA_fr {σ σ' : mSt} {w : Nat → Int} {n s : Nat} (h : cA σ w n s) (hL : Lay σ') (h3 : σ' 3 = σ 3) (h1 : σ' 1 = σ 1) : cA σ' w n s := by
  obtain ⟨⟨q1, q2, q3, q4, q5⟩, q6, q7, q8, q9⟩ := h
  exact ⟨⟨hL, by rw [h3]; exact q2, by rw [h3]; exact q3, q4, fun i hi => by rw [h1]; exact q5 i hi⟩, q6, by rw [h3]; exact q7, by rw [h3]; exact q8, by rw [h3]; exact q9⟩
theorem cA_L {σ σ' : mSt} {w : Nat → Int} {n s D m : Nat} (hD : D = 37 ∨ D = 69) (hm : m < 8) (h : cA σ w n s) (hf : frm (cL D m) σ σ') (h3 : ∀ j, σ' 3 j = σ 3 j) : cA σ' w n s := cA_fr h (h.1.1.frm hf (fun i j z => cL_fix hD hm z)) (funext h3) (funext fun j => hf _ _ (by unfold cL tkW; omega))
/-- the class stands at a token of a line -/
def cS (σ : mSt) (w : Nat → Int) (n s D m : Nat) : Prop := cA σ w n s ∧ (D = 37 ∨ D = 69) ∧ σ 2 1 = (D : Int) ∧ σ D 0 = (m : Int) ∧ m ≤ 8
theorem cS_lay {σ : mSt} {w : Nat → Int} {n s D m : Nat} (h : cS σ w n s D m) : σ 2 0 = ((3 : Nat) : Int) := h.1.1.1.get 2 0 (by decide +kernel) (by decide +kernel)
theorem isFull_e {σ : mSt} {D m : Nat} (hL : Lay σ) (hD : D = 37 ∨ D = 69) (h0 : σ D 0 = (m : Int)) (hm : m ≤ 8) : mX0_isFull D σ = some (b2 (m = 8), σ) := by
  unfold mX0_isFull
  rw [gc (book_lay hL hD).1, h0, wI_id (x := (m : Int)) (by omega)]
  by_cases c : m = 8
  · rw [if_neg (by omega), b2_t c]
  · rw [if_pos (by omega), b2_f c]
theorem setFirst_e {σ : mSt} {D m : Nat} {v : Int} (hL : Lay σ) (hD : D = 37 ∨ D = 69) (h0 : σ D 0 = (m : Int)) (hm : m < 8) : mX0_setFirst D v σ = some (0, upS σ (D + 2) m v) := by
  obtain ⟨l0, l1, l2, l3, l4, l5, l6, l7, m1, m2, m3, m4, m5, m6, m7, -⟩ := book_lay hL hD
  unfold mX0_setFirst
  rw [gc l0, isFull_e hL hD h0 (by omega), mCall_some, if_pos (by rw [b2_f (by omega)]; decide), gr' l2 (by omega), h0, gx m2 _ (by omega), wI_nat (k := m) (by omega), bnd_eq]
theorem setSecond_e {σ : mSt} {D m : Nat} {v : Int} (hL : Lay σ) (hD : D = 37 ∨ D = 69) (h0 : σ D 0 = (m : Int)) (hm : m < 8) : mX0_setSecond D v σ = some (0, upS σ (D + 3) m v) := by
  obtain ⟨l0, l1, l2, l3, l4, l5, l6, l7, m1, m2, m3, m4, m5, m6, m7, -⟩ := book_lay hL hD
  unfold mX0_setSecond
  rw [gc l0, isFull_e hL hD h0 (by omega), mCall_some, if_pos (by rw [b2_f (by omega)]; decide), gr' l3 (by omega), h0, gx m3 _ (by omega), wI_nat (k := m) (by omega), bnd_eq]
theorem finish_e {σ : mSt} {D m : Nat} (hL : Lay σ) (hD : D = 37 ∨ D = 69) (h0 : σ D 0 = (m : Int)) (hm : m < 8) : mX0_finish D σ = some (0, upS σ D 0 ((m : Int) + 1)) := by
  obtain ⟨l0, -⟩ := book_lay hL hD
  unfold mX0_finish
  rw [gc l0, isFull_e hL hD h0 (by omega), mCall_some, if_pos (by rw [b2_f (by omega)]; decide), h0, bnd_eq]
theorem hasAll_e {σ : mSt} {D m c : Nat} (hL : Lay σ) (hD : D = 37 ∨ D = 69) (h0 : σ D 0 = (m : Int)) (hm : m < 8) (hc : σ (D + 2) m = (c : Int)) (hc4 : c ≤ 4) : mX0_hasAllTerms D σ = some (b2 (c = 4), σ) := by
  obtain ⟨l0, l1, l2, l3, l4, l5, l6, l7, m1, m2, m3, m4, m5, m6, m7, -⟩ := book_lay hL hD
  unfold mX0_hasAllTerms
  rw [gc l0, isFull_e hL hD h0 (by omega), mCall_some, if_pos (by rw [b2_f (by omega)]; decide), gr' l2 (by omega), h0, gx m2 _ (by omega), wI_nat (k := m) (by omega), hc, wI_id (x := (c : Int)) (by omega)]
  by_cases z : c = 4
  · rw [if_neg (by omega), b2_t z]
    rfl
  · rw [if_pos (by omega), b2_f z]
theorem addTerm_e {σ : mSt} {D m c : Nat} {g t : Int} (hL : Lay σ) (hD : D = 37 ∨ D = 69) (h0 : σ D 0 = (m : Int)) (hm : m < 8) (hc : σ (D + 2) m = (c : Int)) (hc4 : c < 4) : mX0_addTerm D g t σ = some (0, upS (upS (upS σ (D + 15 + m) c t) (D + 24 + m) c g) (D + 2) m ((c : Int) + 1)) := by
  obtain ⟨l0, l1, l2, l3, l4, l5, l6, l7, m1, m2, m3, m4, m5, m6, m7, mk⟩ := book_lay hL hD
  obtain ⟨k1, k2, k3, k4, k5, k6⟩ := mk m hm
  unfold mX0_addTerm
  rw [gc l0, hasAll_e hL hD h0 hm hc (by omega), mCall_some, if_pos (by rw [b2_f (by omega)]; decide), gr' l6 (by omega), h0, gx m6 _ (by omega), wI_nat (k := m) (by omega), gr' k2 (by omega), gr' l2 (by omega), gx m2 _ (by omega), hc, gx k5 _ (by omega), wI_nat (k := c) (by omega), bnd_eq, gr' (r := D + 23) (by rw [upS_ne (by omega)]; exact l7) (by omega), upS_ne (by omega), h0, gx m7 _ (by omega), gr' (r := D + 24 + m) (by rw [wI_nat (k := m) (by omega), upS_ne (by omega)]; exact k3) (by omega), gr' (r := D + 2) (by rw [upS_ne (by omega)]; exact l2) (by omega), gx m2 _ (by omega), wI_nat (k := m) (by omega), upS_ne (by omega), hc, gx k6 _ (by omega), wI_nat (k := c) (by omega), bnd_eq, gr' (r := D + 2) (by rw [upS_ne (by omega), upS_ne (by omega)]; exact l2) (by omega), upS_ne (by omega), upS_ne (by omega), h0, gx m2 _ (by omega), wI_nat (k := m) (by omega), upS_ne (by omega), upS_ne (by omega), hc, bnd_eq]
theorem bgL62 {σ0 : mSt} {w : Nat → Int} {n s D m l : Nat} {kd : Int} {x : mSt → Option (Int × mSt)} (hD : D = 37 ∨ D = 69) (hm : m < 8) (hl : l = tE w n s - s) (hl10 : l ≤ 10) (hT : tC w n s = 1) : ∀ (q j N : Nat) (σ : mSt), j + q = l → q < N → cA σ w n s → σ D 0 = (m : Int) → σ (D + 4) m = (l : Int) → frm (fun i _ => i = D + 6 + m) σ0 σ → (∀ i, i < j → σ (D + 6 + m) i = w (s + i)) → ∃ σ', mX0_begin_L62 D kd 3 x N (j : Int) σ = x σ' ∧ frm (fun i _ => i = D + 6 + m) σ0 σ' ∧ ∀ i, i < l → σ' (D + 6 + m) i = w (s + i) := by
  intro q
  induction q with
  | zero =>
    intro j N σ h1 h2 h3 h4 h5 h6 h7
    obtain ⟨N, rfl⟩ : ∃ z, N = z + 1 := ⟨N - 1, by omega⟩
    obtain ⟨l0, l1, l2, l3, l4, l5, l6, l7, m1, m2, m3, m4, m5, m6, m7, mk⟩ := book_lay h3.1.1 hD
    refine ⟨σ, ?_, h6, fun i hi => h7 i (by omega)⟩
    rw [mX0_begin_L62.eq_2, gr' l4 (by omega), h4, gx m4 _ (by omega), wI_nat (k := m) (by omega), h5, if_pos (by rw [wI_id (x := (l : Int)) (by omega), wI_id (x := (j : Int)) (by omega)]; omega)]
  | succ q ih =>
    intro j N σ h1 h2 h3 h4 h5 h6 h7
    obtain ⟨N, rfl⟩ : ∃ z, N = z + 1 := ⟨N - 1, by omega⟩
    obtain ⟨l0, l1, l2, l3, l4, l5, l6, l7, m1, m2, m3, m4, m5, m6, m7, mk⟩ := book_lay h3.1.1 hD
    obtain ⟨k1, k2, k3, k4, k5, k6⟩ := mk m hm
    obtain ⟨t1, t2, t3, t4, t5, t6⟩ := tC_1 hT
    have wr := t2 (s + j) (by omega) (by omega)
    obtain ⟨σ1, hs1⟩ : ∃ σ1, σ1 = upS σ (D + 6 + m) j (w (s + j)) := ⟨_, rfl⟩
    have f1 : frm (fun i _ => i = D + 6 + m) σ σ1 := by rw [hs1]; exact frm.one rfl
    have o1 : ∀ i, i ≠ D + 6 + m → σ1 i = σ i := fun i hi => funext fun j => f1 i j hi
    have L1 : Lay σ1 := h3.1.1.frm f1 (fun i j z => cL_fix (m := m) (j := j) hD hm (Or.inr (Or.inr (Or.inr (Or.inl z)))))
    obtain ⟨σ', i1, i2, i3⟩ := ih (j + 1) N σ1 (by omega) (by omega) (cA_fr h3 L1 (o1 3 (by omega)) (o1 1 (by omega))) (by rw [o1 D (by omega)]; exact h4) (by rw [o1 (D + 4) (by omega)]; exact h5) (h6.tr f1 (fun i j z => z)) (fun i hi => by
      rw [hs1]
      by_cases e : i = j
      · rw [e, upS_same]
      · rw [upS_ne (by omega)]; exact h7 i (by omega))
    refine ⟨σ', ?_, i2, i3⟩
    rw [mX0_begin_L62.eq_2, gr' l4 (by omega), h4, gx m4 _ (by omega), wI_nat (k := m) (by omega), h5, if_neg (by rw [wI_id (x := (l : Int)) (by omega), wI_id (x := (j : Int)) (by omega)]; omega), gr' l5 (by omega), gx m5 _ (by omega), gr' k1 (by omega), byteAt_e h3 (by omega), mCall_some, if_pos (show j < tE w n s - s by omega), gx k4 _ (by omega), mG_pos (by omega), wI_nat (k := j) (by omega), bnd_eq, ← hs1, bnd_eq, show (j : Int) + 1 = ((j + 1 : Nat) : Int) by omega]
    exact i1
theorem begin_c {σ : mSt} {w : Nat → Int} {n s D m : Nat} {kd : Int} (h : cA σ w n s) (hD : D = 37 ∨ D = 69) (h0 : σ D 0 = (m : Int)) (hm : m < 8) (hT : tC w n s = 1) : ∃ σ', mX0_begin D kd 3 σ = some (0, σ') ∧ frm (fun i j => ((D + 1 ≤ i ∧ i ≤ D + 4) ∧ j = m) ∨ i = D + 6 + m) σ σ' ∧ σ' (D + 1) m = kd ∧ σ' (D + 2) m = 0 ∧ σ' (D + 3) m = 0 ∧ σ' (D + 4) m = ((tE w n s - s : Nat) : Int) ∧ ∀ i, i < tE w n s - s → σ' (D + 6 + m) i = w (s + i) := by
  obtain ⟨t1, t2, t3, t4, t5, t6⟩ := tC_1 hT
  obtain ⟨l0, l1, l2, l3, l4, l5, l6, l7, m1, m2, m3, m4, m5, m6, m7, mk⟩ := book_lay h.1.1 hD
  obtain ⟨σ1, hs1⟩ : ∃ σ1, σ1 = upS (upS (upS (upS σ (D + 1) m kd) (D + 2) m 0) (D + 3) m 0) (D + 4) m ((tE w n s - s : Nat) : Int) := ⟨_, rfl⟩
  have f1 : frm (fun i j => (D + 1 ≤ i ∧ i ≤ D + 4) ∧ j = m) σ σ1 := by
    rw [hs1]
    exact (((frm.one ⟨by omega, rfl⟩).put ⟨by omega, rfl⟩).put ⟨by omega, rfl⟩).put ⟨by omega, rfl⟩
  have L1 : Lay σ1 := h.1.1.frm f1 (fun i j z => cL_fix (m := m) (j := j) hD hm (Or.inr (Or.inr (Or.inl z))))
  have o1 : ∀ i, i ≤ D ∨ D + 5 ≤ i → σ1 i = σ i := fun i hi => funext fun j => f1 i j (by omega)
  have A1 := cA_fr h L1 (o1 3 (by omega)) (o1 1 (by omega))
  obtain ⟨σ', i1, i2, i3⟩ := bgL62 (σ0 := σ1) (kd := kd) (x := fun zσ => mX0_begin_B97 D kd 3 zσ) hD hm rfl t3 hT (tE w n s - s) 0 mF σ1 (by omega) (by unfold mF; omega) A1 (by rw [o1 D (by omega)]; exact h0) (by rw [hs1, upS_same]) (frm.rf σ1) (fun i hi => by omega)
  have e : ∀ i, D + 1 ≤ i → i ≤ D + 4 → σ' i m = σ1 i m := fun i g1 g2 => i2 i m (by omega)
  refine ⟨σ', ?_, (f1.mono (fun i j z => Or.inl z)).tr i2 (fun i j z => Or.inr z), ?_, ?_, ?_, ?_, i3⟩
  · have lz : ∀ ρ : mSt, (∀ j, ρ 3 j = σ 3 j) → mX10_length 3 ρ = some (((tE w n s - s : Nat) : Int), ρ) := fun ρ hρ => by
      unfold mX10_length
      rw [gc3, hρ, hρ, h.2.2.2.1, h.2.2.1, show ((tE w n s : Int) - (s : Int)) = ((tE w n s - s : Nat) : Int) by omega]
    unfold mX0_begin
    rw [gc l0, isFull_e h.1.1 hD h0 (by omega), mCall_some, if_pos (by rw [b2_f (by omega)]; decide), len_e h, mCall_some, if_pos (by rw [wI_id (x := ((tE w n s - s : Nat) : Int)) (by omega)]; omega), gr' l1 (by omega), h0, gx m1 _ (by omega), wI_nat (k := m) (by omega), bnd_eq, gr' (r := D + 2) (by rw [upS_ne (by omega)]; exact l2) (by omega), upS_ne (by omega), h0, gx m2 _ (by omega), wI_nat (k := m) (by omega), bnd_eq, gr' (r := D + 3) (by rw [upS_ne (by omega), upS_ne (by omega)]; exact l3) (by omega), upS_ne (by omega), upS_ne (by omega), h0, gx m3 _ (by omega), wI_nat (k := m) (by omega), bnd_eq, gr' (r := D + 4) (by rw [upS_ne (by omega), upS_ne (by omega), upS_ne (by omega)]; exact l4) (by omega), lz _ (fun j => by rw [upS_ne (by omega), upS_ne (by omega), upS_ne (by omega)]), mCall_some, upS_ne (by omega), upS_ne (by omega), upS_ne (by omega), h0, gx m4 _ (by omega), wI_nat (k := m) (by omega), bnd_eq, ← hs1]
    exact i1
  · rw [e _ (by omega) (by omega), hs1, upS_ne (by omega), upS_ne (by omega), upS_ne (by omega), upS_same]
  · rw [e _ (by omega) (by omega), hs1, upS_ne (by omega), upS_ne (by omega), upS_same]
  · rw [e _ (by omega) (by omega), hs1, upS_ne (by omega), upS_same]
  · rw [e _ (by omega) (by omega), hs1, upS_same]
def fdF (f : Nat → Int) (x : Int) : Nat → Nat → Int
  | 0, _ => -1
  | m + 1, k => if f k = x then (k : Int) else fdF f x m (k + 1)
theorem spell_pk {σ : mSt} {r : Nat} : ∀ q, spellF σ r q = pkF (σ r) 0 q := by
  intro q
  induction q with
  | zero => rfl
  | succ q ih =>
    show 32 * spellF σ r q + (σ r q - 96) = 32 * pkF (σ r) 0 q + (σ r (0 + q) - 96)
    rw [ih, Nat.zero_add]
theorem hnL22 {σ : mSt} {w : Nat → Int} {n s D k l : Nat} {x : Int → mSt → Option (Int × mSt)} (h : cA σ w n s) (hD : D = 37 ∨ D = 69) (hk : k < 8) (hl : σ (D + 4) k = (l : Int)) (hl10 : l ≤ 10) (hls : l = tE w n s - s) (hb : ∀ i, i < l → 97 ≤ σ (D + 6 + k) i ∧ σ (D + 6 + k) i ≤ 122) : ∀ (q j N : Nat), j + q = l → q + 1 < N → mX0_hasName_L22 D (k : Int) 3 x N 1 (j : Int) σ = x (b2 (∀ i, j ≤ i → i < l → σ (D + 6 + k) i = w (s + i))) σ := by
  obtain ⟨l0, l1, l2, l3, l4, l5, l6, l7, m1, m2, m3, m4, m5, m6, m7, mk⟩ := book_lay h.1.1 hD
  obtain ⟨k1, k2, k3, k4, k5, k6⟩ := mk k hk
  intro q
  induction q with
  | zero =>
    intro j N h1 h2
    obtain ⟨N, rfl⟩ : ∃ z, N = z + 1 := ⟨N - 1, by omega⟩
    rw [mX0_hasName_L22.eq_2, gr' l4 (by omega), gx m4 _ (by omega), wI_nat (k := k) (by omega), hl, if_pos (by rw [wI_id (x := (l : Int)) (by omega), wI_id (x := (j : Int)) (by omega)]; omega), b2_t (fun i g1 g2 => by omega)]
  | succ q ih =>
    intro j N h1 h2
    obtain ⟨N, rfl⟩ : ∃ z, N = z + 1 := ⟨N - 1, by omega⟩
    have bj := hb j (by omega)
    have r := tE_rng (w := w) h.2.1
    have wr := (h.1.2.2.2.2 (s + j) (by omega)).2
    rw [mX0_hasName_L22.eq_2, gr' l4 (by omega), gx m4 _ (by omega), wI_nat (k := k) (by omega), hl, if_neg (by rw [wI_id (x := (l : Int)) (by omega), wI_id (x := (j : Int)) (by omega)]; omega), if_neg (by decide), gr' l5 (by omega), gx m5 _ (by omega), gr' k1 (by omega), gx k4 _ (by omega), byteAt_e h (by omega), mCall_some, if_pos (show j < tE w n s - s by omega), wI_nat (k := j) (by omega), wI_id (x := σ (D + 6 + k) j) (by omega), wI_id (x := w (s + j)) (by omega), bnd_eq, bnd_eq, show (j : Int) + 1 = ((j + 1 : Nat) : Int) by omega]
    by_cases c : σ (D + 6 + k) j = w (s + j)
    · rw [if_pos c, ih (j + 1) N (by omega) (by omega)]
      congr 1
      refine b2_iff ⟨fun z i g1 g2 => ?_, fun z i g1 g2 => z i (by omega) g2⟩
      by_cases e : i = j
      · rw [e]; exact c
      · exact z i (by omega) g2
    · rw [if_neg c, b2_f (fun z => c (z j (by omega) (by omega)))]
      obtain ⟨N, rfl⟩ : ∃ z, N = z + 1 := ⟨N - 1, by omega⟩
      rw [mX0_hasName_L22.eq_2, gr' l4 (by omega), gx m4 _ (by omega), wI_nat (k := k) (by omega)]
      by_cases e : wI (σ (D + 4) k) ≤ wI ((j + 1 : Nat) : Int)
      · rw [if_pos e]
      · rw [if_neg e, if_pos (by decide)]
theorem hasName_e {σ τ : mSt} {w : Nat → Int} {n s D k : Nat} (h : cA σ w n s) (hD : D = 37 ∨ D = 69) (hk : k < 8) (hT : tC w n s = 1) (ha : al2 σ τ D k) : mX0_hasName D (k : Int) 3 σ = some (b2 (τ 256 (8 + k) = nmW w n s), σ) := by
  obtain ⟨-, -, -, ⟨l, n1, n2, n3, n4, n5⟩, -⟩ := ha
  obtain ⟨t1, t2, t3, t4, t5, t6⟩ := tC_1 hT
  obtain ⟨l0, l1, l2, l3, l4, l5, l6, l7, m1, m2, m3, m4, m5, m6, m7, mk⟩ := book_lay h.1.1 hD
  have inj := pk_inj (f := σ (D + 6 + k)) (g := w) (s := 0) (t := s) l (tE w n s - s) (fun j hj => by rw [Nat.zero_add]; exact n4 j hj) (fun j hj => t2 (s + j) (by omega) (by omega))
  rw [spell_pk] at n5
  unfold mX0_hasName
  rw [gc l0, gr' l4 (by omega), gx m4 _ (by omega), len_e h, mCall_some, wI_nat (k := k) (by omega), n3, wI_id (x := (l : Int)) (by omega), wI_id (x := ((tE w n s - s : Nat) : Int)) (by omega)]
  unfold mX0_hasName_B18
  by_cases c : l = tE w n s - s
  · rw [if_pos (by omega), show (0 : Int) = ((0 : Nat) : Int) from rfl, hnL22 h hD hk n3 n2 c n4 l 0 mF (by omega) (by unfold mF; omega)]
    unfold mX0_hasName_B67
    rw [mG_pos (b2_01 _), b2_iff (q := τ 256 (8 + k) = nmW w n s)]
    rw [n5]
    constructor
    · intro z
      exact inj.mpr ⟨c, fun j hj => by rw [Nat.zero_add]; exact z j (by omega) hj⟩
    · intro z j _ g2
      have := (inj.mp z).2 j g2
      rw [Nat.zero_add] at this
      exact this
  · rw [if_neg (by omega), b2_f (fun z => c (inj.mp (by rw [← n5]; exact z)).1)]
    obtain ⟨f, hf⟩ := mF5
    rw [hf, mX0_hasName_L22.eq_2, gr' l4 (by omega), gx m4 _ (by omega), wI_nat (k := k) (by omega), n3, if_neg (by rw [wI_id (x := (l : Int)) (by omega), show wI 0 = 0 by decide]; omega), if_pos (by decide)]
    unfold mX0_hasName_B67
    rw [mG_pos (by decide)]
theorem find_c {σ τ : mSt} {w : Nat → Int} {n s D m : Nat} (h : cA σ w n s) (hD : D = 37 ∨ D = 69) (h0 : σ D 0 = (m : Int)) (hm : m ≤ 8) (hT : tC w n s = 1) (hb : bn σ τ D m) : mX0_find D 3 σ = some (fdF (fun k => τ 256 (8 + k)) (nmW w n s) m 0, σ) := by
  have L2 : ∀ (q k N : Nat), k + q = m → q < N → mX0_find_L2 D 3 (fun zσ => mX0_find_B27 D 3 zσ) N (k : Int) σ = some (fdF (fun k => τ 256 (8 + k)) (nmW w n s) q k, σ) := by
    intro q
    induction q with
    | zero =>
      intro k N h1 h2
      obtain ⟨N, rfl⟩ : ∃ z, N = z + 1 := ⟨N - 1, by omega⟩
      rw [mX0_find_L2.eq_2, h0, if_pos (by rw [wI_id (x := (m : Int)) (by omega), wI_id (x := (k : Int)) (by omega)]; omega)]
      rfl
    | succ q ih =>
      intro k N h1 h2
      obtain ⟨N, rfl⟩ : ∃ z, N = z + 1 := ⟨N - 1, by omega⟩
      have fe : fdF (fun k => τ 256 (8 + k)) (nmW w n s) (q + 1) k = if τ 256 (8 + k) = nmW w n s then (k : Int) else fdF (fun k => τ 256 (8 + k)) (nmW w n s) q (k + 1) := rfl
      rw [mX0_find_L2.eq_2, h0, if_neg (by rw [wI_id (x := (m : Int)) (by omega), wI_id (x := (k : Int)) (by omega)]; omega), hasName_e h hD (by omega) hT (hb k (by omega)), mCall_some, fe]
      by_cases c : τ 256 (8 + k) = nmW w n s
      · rw [b2_t c, if_neg (by decide), if_pos c]
      · rw [b2_f c, if_pos (by decide), if_neg c, bnd_eq, show (k : Int) + 1 = ((k + 1 : Nat) : Int) by omega]
        exact ih (k + 1) N (by omega) (by omega)
  unfold mX0_find
  rw [gc (book_lay h.1.1 hD).1]
  exact L2 m 0 mF (by omega) (by unfold mF; omega)

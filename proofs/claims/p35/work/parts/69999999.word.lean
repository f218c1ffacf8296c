/-! the class side of word -/
theorem pk_inj {f g : Nat → Int} {s t : Nat} : ∀ m k, (∀ j, j < m → 97 ≤ f (s + j) ∧ f (s + j) ≤ 122) → (∀ j, j < k → 97 ≤ g (t + j) ∧ g (t + j) ≤ 122) → (pkF f s m = pkF g t k ↔ (m = k ∧ ∀ j, j < m → f (s + j) = g (t + j))) := by
  intro m
  induction m with
  | zero =>
    intro k h1 h2
    cases k with
    | zero => exact ⟨fun _ => ⟨rfl, fun j hj => by omega⟩, fun _ => rfl⟩
    | succ k =>
      have r := pkF_rng k (fun j hj => h2 j (by omega))
      have := h2 k (by omega)
      refine ⟨fun e => ?_, fun e => by omega⟩
      have e' : (0 : Int) = 32 * pkF g t k + (g (t + k) - 96) := e
      omega
  | succ m ih =>
    intro k h1 h2
    have rm := pkF_rng m (fun j hj => h1 j (by omega))
    have hm := h1 m (by omega)
    cases k with
    | zero =>
      refine ⟨fun e => ?_, fun e => by omega⟩
      have e' : 32 * pkF f s m + (f (s + m) - 96) = (0 : Int) := e
      omega
    | succ k =>
      have rk := pkF_rng k (fun j hj => h2 j (by omega))
      have hk := h2 k (by omega)
      have i := ih k (fun j hj => h1 j (by omega)) (fun j hj => h2 j (by omega))
      constructor
      · intro e
        have e' : 32 * pkF f s m + (f (s + m) - 96) = 32 * pkF g t k + (g (t + k) - 96) := e
        obtain ⟨i1, i2⟩ := i.mp (by omega)
        refine ⟨by omega, fun j hj => ?_⟩
        by_cases c : j = m
        · rw [c]
          have : g (t + m) = g (t + k) := by rw [i1]
          omega
        · exact i2 j (by omega)
      · rintro ⟨e1, e2⟩
        have e3 : m = k := by omega
        have := i.mpr ⟨e3, fun j hj => e2 j (by omega)⟩
        have e4 := e2 m (by omega)
        show 32 * pkF f s m + (f (s + m) - 96) = 32 * pkF g t k + (g (t + k) - 96)
        rw [this, e4, e3]
noncomputable def nmW (w : Nat → Int) (n s : Nat) : Int := pkF w s (tE w n s - s)
theorem tC_1 {w : Nat → Int} {n s : Nat} (h : tC w n s = 1) : s < n ∧ (∀ j, s ≤ j → j < tE w n s → 97 ≤ w j ∧ w j ≤ 122) ∧ tE w n s - s ≤ 10 ∧ tR w n s = 1 ∧ s < tE w n s ∧ tE w n s ≤ n := by
  unfold tC at h
  by_cases c0 : n ≤ s
  · rw [if_pos c0] at h; omega
  · rw [if_neg c0] at h
    by_cases c1 : 97 ≤ w s ∧ w s ≤ 122
    · rw [if_pos c1] at h
      by_cases c2 : tE w n s - s ≤ 10
      · have te : tE w n s = rnn w n 97 122 s := by unfold tE; rw [if_neg c0, if_pos c1]
        have rg := rnn_rng (w := w) (n := n) (lo := 97) (hi := 122) (n - s) s (by omega)
        have r2 := tE_rng (w := w) (n := n) (s := s) (by omega)
        rw [← te] at rg
        refine ⟨by omega, rg.2.2, c2, ?_, r2.2.2 (by omega), r2.2.1⟩
        unfold tR
        rw [if_neg c0, if_pos c1, if_pos c2]
      · rw [if_neg c2] at h; omega
    · rw [if_neg c1] at h
      by_cases c2 : 48 ≤ w s ∧ w s ≤ 57
      · rw [if_pos c2] at h; omega
      · rw [if_neg c2] at h
        by_cases k1 : w s = 43
        · rw [if_pos k1] at h; omega
        · rw [if_neg k1] at h
          by_cases k2 : w s = 45
          · rw [if_pos k2] at h; omega
          · rw [if_neg k2] at h
            by_cases k3 : w s = 59
            · rw [if_pos k3] at h; omega
            · rw [if_neg k3] at h; omega
/-- the kinds of both -/
theorem tKey (w : Nat → Int) (n s : Nat) : (n ≤ s ∧ tC w n s = 0 ∧ tR w n s = 0) ∨ (s < n ∧ tC w n s = 1 ∧ tR w n s = 1) ∨ (s < n ∧ tC w n s = 6 ∧ tR w n s = 4) ∨ (s < n ∧ tC w n s = 2 ∧ tR w n s = 2) ∨ (s < n ∧ w s = 43 ∧ tC w n s = 3 ∧ tR w n s = 3) ∨ (s < n ∧ w s = 45 ∧ tC w n s = 4 ∧ tR w n s = 3) ∨ (s < n ∧ w s = 59 ∧ tC w n s = 5 ∧ tR w n s = 3) := by
  by_cases c0 : n ≤ s
  · exact Or.inl ⟨c0, by unfold tC; rw [if_pos c0], by unfold tR; rw [if_pos c0]⟩
  · have sn : s < n := by omega
    by_cases c1 : 97 ≤ w s ∧ w s ≤ 122
    · by_cases c2 : tE w n s - s ≤ 10
      · exact Or.inr (Or.inl ⟨sn, by unfold tC; rw [if_neg c0, if_pos c1, if_pos c2], by unfold tR; rw [if_neg c0, if_pos c1, if_pos c2]⟩)
      · exact Or.inr (Or.inr (Or.inl ⟨sn, by unfold tC; rw [if_neg c0, if_pos c1, if_neg c2], by unfold tR; rw [if_neg c0, if_pos c1, if_neg c2]⟩))
    · by_cases c2 : 48 ≤ w s ∧ w s ≤ 57
      · exact Or.inr (Or.inr (Or.inr (Or.inl ⟨sn, by unfold tC; rw [if_neg c0, if_neg c1, if_pos c2], by unfold tR; rw [if_neg c0, if_neg c1, if_pos c2]⟩)))
      · by_cases k1 : w s = 43
        · exact Or.inr (Or.inr (Or.inr (Or.inr (Or.inl ⟨sn, k1, by unfold tC; rw [if_neg c0, if_neg c1, if_neg c2, if_pos k1], by unfold tR; rw [if_neg c0, if_neg c1, if_neg c2, if_pos k1]⟩))))
        · by_cases k2 : w s = 45
          · exact Or.inr (Or.inr (Or.inr (Or.inr (Or.inr (Or.inl ⟨sn, k2, by unfold tC; rw [if_neg c0, if_neg c1, if_neg c2, if_neg k1, if_pos k2], by unfold tR; rw [if_neg c0, if_neg c1, if_neg c2, if_neg k1, if_pos k2]⟩)))))
          · by_cases k3 : w s = 59
            · exact Or.inr (Or.inr (Or.inr (Or.inr (Or.inr (Or.inr ⟨sn, k3, by unfold tC; rw [if_neg c0, if_neg c1, if_neg c2, if_neg k1, if_neg k2, if_pos k3], by unfold tR; rw [if_neg c0, if_neg c1, if_neg c2, if_neg k1, if_neg k2, if_pos k3]⟩)))))
            · exact Or.inr (Or.inr (Or.inl ⟨sn, by unfold tC; rw [if_neg c0, if_neg c1, if_neg c2, if_neg k1, if_neg k2, if_neg k3], by unfold tR; rw [if_neg c0, if_neg c1, if_neg c2, if_neg k1, if_neg k2, if_neg k3]⟩))
theorem tCR (w : Nat → Int) (n s : Nat) : (tC w n s = 1 ↔ tR w n s = 1) ∧ (tC w n s = 2 ↔ tR w n s = 2) ∧ (tC w n s = 3 ↔ (tR w n s = 3 ∧ w s = 43)) ∧ (tC w n s = 4 ↔ (tR w n s = 3 ∧ w s = 45)) ∧ (tC w n s = 5 ↔ (tR w n s = 3 ∧ w s = 59)) ∧ (tC w n s = 0 ↔ tR w n s = 0) ∧ (tR w n s = 3 → s < n) ∧ (tC w n s = 0 → n ≤ s) ∧ (n ≤ s → tC w n s = 0) ∧ (0 ≤ tC w n s ∧ tC w n s ≤ 6) ∧ 0 ≤ tR w n s ∧ tR w n s ≤ 4 := by
  have k := tKey w n s
  generalize tC w n s = c at k ⊢
  generalize tR w n s = r at k ⊢
  generalize w s = v at k ⊢
  refine ⟨?_, ?_, ?_, ?_, ?_, ?_, ?_, ?_, ?_, ?_, ?_, ?_⟩ <;> omega
def wdB (i j : Nat) : Int := ((mXByt.getD i []).getD j 0).toInt
def wdK (i : Nat) : Int := pkF (wdB i) 0 (mXLen.getD i 0)
theorem wd_ok : ∀ i, i < 3 → (1 ≤ mXLen.getD i 0 ∧ mXLen.getD i 0 ≤ 10) ∧ ∀ j, j < mXLen.getD i 0 → 97 ≤ wdB i j ∧ wdB i j ≤ 122 := by
  intro i hi
  rcases (show i = 0 ∨ i = 1 ∨ i = 2 by omega) with rfl | rfl | rfl <;> decide
theorem len_e {σ : mSt} {w : Nat → Int} {n s : Nat} (h : cA σ w n s) : mX10_length 3 σ = some (((tE w n s - s : Nat) : Int), σ) := by
  obtain ⟨h1, h2, h3, h4, h5⟩ := h
  have := (tE_rng (w := w) h2).1
  unfold mX10_length
  rw [gc3, h3, h4, show ((tE w n s : Int) - (s : Int)) = ((tE w n s - s : Nat) : Int) by omega]
theorem byteAt_e {σ : mSt} {w : Nat → Int} {n s i : Nat} (h : cA σ w n s) (hi : i ≤ 600) : mX10_byteAt 3 (i : Int) σ = some (if i < tE w n s - s then w (s + i) else 0, σ) := by
  obtain ⟨h1, h2, h3, h4, h5⟩ := h
  have r := tE_rng (w := w) h2
  have n6 := h1.2.2.2.1
  unfold mX10_byteAt
  rw [gc3, if_neg (by rw [wI_id (x := (i : Int)) (by omega)]; omega), h3, h4, show ((s : Int) + (i : Int)) = ((s + i : Nat) : Int) by omega, wI_id (x := (tE w n s : Int)) (by omega)]
  by_cases c : i < tE w n s - s
  · obtain ⟨e, r1, r2⟩ := h1.2.2.2.2 (s + i) (by omega)
    rw [if_neg (by rw [wI_id (x := ((s + i : Nat) : Int)) (by omega)]; omega), gr' h1.2.1 (by omega), gx1 _ (by omega), mG_pos (by rw [wI_nat (k := s + i) (by omega), e]; exact ⟨r1, r2⟩), wI_nat (k := s + i) (by omega), e, if_pos c]
  · rw [if_pos (by rw [wI_id (x := ((s + i : Nat) : Int)) (by omega)]; omega), if_neg c]
    rfl
theorem is_tc {σ : mSt} {w : Nat → Int} {n s : Nat} {v : Int} (h : cA σ w n s) (hv : 0 ≤ v ∧ v ≤ 10) : mX10_is 3 v σ = some (b2 (tC w n s = v), σ) := by
  have k := tCR w n s
  unfold mX10_is
  rw [gc3, h.2.2.2.2, wI_id (x := tC w n s) (by omega), wI_id (x := v) (by omega)]
  by_cases c : tC w n s = v
  · rw [if_pos c, b2_t c]
  · rw [if_neg c, b2_f c]
theorem iwL27 {σ : mSt} {w : Nat → Int} {n s i : Nat} {x : Int → mSt → Option (Int × mSt)} (h : cA σ w n s) (hi : i < 3) (hl : mXLen.getD i 0 = tE w n s - s) : ∀ (m j N : Nat), j + m = mXLen.getD i 0 → m + 1 < N → mX10_isWord_L27 3 i x N 1 (j : Int) σ = x (b2 (∀ k, j ≤ k → k < mXLen.getD i 0 → wdB i k = w (s + k))) σ := by
  have wk := wd_ok i hi
  intro m
  induction m with
  | zero =>
    intro j N h1 h2
    obtain ⟨N, rfl⟩ : ∃ z, N = z + 1 := ⟨N - 1, by omega⟩
    rw [mX10_isWord_L27.eq_2, mG_pos hi, if_pos (by rw [wI_id (x := ((mXLen.getD i 0 : Nat) : Int)) (by omega), wI_id (x := (j : Int)) (by omega)]; omega), b2_t (fun k g1 g2 => by omega)]
  | succ m ih =>
    intro j N h1 h2
    obtain ⟨N, rfl⟩ : ∃ z, N = z + 1 := ⟨N - 1, by omega⟩
    have wj : wI (j : Int) = j := wI_id (x := (j : Int)) (by omega)
    have wl : wI ((mXLen.getD i 0 : Nat) : Int) = ((mXLen.getD i 0 : Nat) : Int) := wI_id (x := ((mXLen.getD i 0 : Nat) : Int)) (by omega)
    have bj := wk.2 j (by omega)
    have r := tE_rng (w := w) h.2.1
    have wr := (h.1.2.2.2.2 (s + j) (by omega)).2
    rw [mX10_isWord_L27.eq_2, mG_pos hi, if_neg (by rw [wl, wj]; omega), if_neg (by decide), mG_pos (by rw [wj]; exact ⟨hi, by omega, by omega⟩), byteAt_e h (by omega), mCall_some, if_pos (show j < tE w n s - s by omega), wI_nat (k := j) (by omega), show ((mXByt.getD i []).getD j 0).toInt = wdB i j from rfl, wI_id (x := wdB i j) (by omega), wI_id (x := w (s + j)) (by omega), bnd_eq, bnd_eq, show (j : Int) + 1 = ((j + 1 : Nat) : Int) by omega]
    by_cases c : wdB i j = w (s + j)
    · rw [if_pos c, ih (j + 1) N (by omega) (by omega)]
      congr 1
      refine b2_iff ⟨fun z k g1 g2 => ?_, fun z k g1 g2 => z k (by omega) g2⟩
      by_cases e : k = j
      · rw [e]; exact c
      · exact z k (by omega) g2
    · rw [if_neg c, b2_f (fun z => c (z j (by omega) (by omega)))]
      obtain ⟨N, rfl⟩ : ∃ z, N = z + 1 := ⟨N - 1, by omega⟩
      rw [mX10_isWord_L27.eq_2, mG_pos hi]
      by_cases e : wI ((mXLen.getD i 0 : Nat) : Int) ≤ wI ((j + 1 : Nat) : Int)
      · rw [if_pos e]
      · rw [if_neg e, if_pos (by decide)]
theorem isWord_e {σ : mSt} {w : Nat → Int} {n s i : Nat} (h : cA σ w n s) (hi : i < 3) : mX10_isWord 3 i σ = some (b2 (tC w n s = 1 ∧ nmW w n s = wdK i), σ) := by
  have wk := wd_ok i hi
  have r := tE_rng (w := w) h.2.1
  have n6 := h.1.2.2.2.1
  have k := tCR w n s
  have B24 : ∀ v, mX10_isWord_B24 3 i v σ = mX10_isWord_L27 3 i (fun z2 zσ => mX10_isWord_B64 3 i z2 zσ) mF v 0 σ := fun v => rfl
  have b0 : mX10_isWord_B23 3 i σ = some (0, σ) := by
    unfold mX10_isWord_B23
    rw [B24]
    obtain ⟨f, hf⟩ := mF5
    rw [hf, mX10_isWord_L27.eq_2, mG_pos hi, if_neg (by rw [wI_id (x := ((mXLen.getD i 0 : Nat) : Int)) (by omega), show wI 0 = 0 by decide]; omega), if_pos (by decide)]
    unfold mX10_isWord_B64
    rw [mG_pos (by decide)]
  unfold mX10_isWord
  rw [gc3, h.2.2.2.2, wI_id (x := tC w n s) (by omega)]
  by_cases c : tC w n s = 1
  · obtain ⟨t1, t2, t3, t4, t5, t6⟩ := tC_1 c
    rw [if_pos c, mG_pos hi, len_e h, mCall_some, wI_id (x := ((mXLen.getD i 0 : Nat) : Int)) (by omega), wI_id (x := ((tE w n s - s : Nat) : Int)) (by omega)]
    have inj := pk_inj (f := w) (g := wdB i) (s := s) (t := 0) (tE w n s - s) (mXLen.getD i 0) (fun j hj => t2 (s + j) (by omega) (by omega)) (fun j hj => by rw [Nat.zero_add]; exact wk.2 j hj)
    by_cases e : mXLen.getD i 0 = tE w n s - s
    · rw [if_pos (by omega), B24, show (0 : Int) = ((0 : Nat) : Int) from rfl, iwL27 h hi e (mXLen.getD i 0) 0 mF (by omega) (by unfold mF; omega)]
      unfold mX10_isWord_B64
      rw [mG_pos (b2_01 _), b2_iff (q := tC w n s = 1 ∧ nmW w n s = wdK i)]
      constructor
      · intro z
        exact ⟨c, inj.mpr ⟨e.symm, fun j hj => by rw [Nat.zero_add]; exact (z j (by omega) (by omega)).symm⟩⟩
      · intro z j _ g2
        have := (inj.mp z.2).2 j (by omega)
        rw [Nat.zero_add] at this
        exact this.symm
    · rw [if_neg (by omega), b0, b2_f (fun z => e (inj.mp z.2).1.symm)]
  · rw [if_neg c, b0, b2_f (fun z => c z.1)]
noncomputable def lkF (w : Nat → Int) (n s : Nat) : Int := @ite Int (tR w n s = 1 ∧ nmW w n s = wdK 0) (Classical.propDecidable _) 0 (@ite Int (tR w n s = 1 ∧ nmW w n s = wdK 1) (Classical.propDecidable _) 1 (@ite Int (tR w n s = 1 ∧ nmW w n s = wdK 2) (Classical.propDecidable _) 2 (-1)))
theorem lk_e {σ : mSt} {w : Nat → Int} {n s : Nat} (h : cA σ w n s) : mX10_lineKind 3 σ = some (lkF w n s, σ) := by
  have k := (tCR w n s).1
  have e : ∀ i, (tC w n s = 1 ∧ nmW w n s = wdK i) ↔ (tR w n s = 1 ∧ nmW w n s = wdK i) := fun i => by rw [k]
  unfold mX10_lineKind lkF
  rw [gc3, isWord_e h (by omega), mCall_some, b2_iff (e 0)]
  by_cases c0 : tR w n s = 1 ∧ nmW w n s = wdK 0
  · rw [b2_t c0, if_neg (by decide), if_pos c0]
  · rw [b2_f c0, if_pos (by decide), if_neg c0, isWord_e h (by omega), mCall_some, b2_iff (e 1)]
    by_cases c1 : tR w n s = 1 ∧ nmW w n s = wdK 1
    · rw [b2_t c1, if_neg (by decide), if_pos c1]
    · rw [b2_f c1, if_pos (by decide), if_neg c1, isWord_e h (by omega), mCall_some, b2_iff (e 2)]
      by_cases c2 : tR w n s = 1 ∧ nmW w n s = wdK 2
      · rw [b2_t c2, if_neg (by decide), if_pos c2]
      · rw [b2_f c2, if_pos (by decide), if_neg c2]
def isN (w : Nat → Int) (n s : Nat) : Prop := tR w n s = 1 ∧ lkF w n s = -1
theorem isN_e {σ : mSt} {w : Nat → Int} {n s : Nat} (h : cA σ w n s) : mX10_isName 3 σ = some (b2 (isN w n s), σ) := by
  have k := tCR w n s
  unfold mX10_isName isN
  rw [gc3, h.2.2.2.2, wI_id (x := tC w n s) (by omega)]
  have lr : -1 ≤ lkF w n s ∧ lkF w n s ≤ 2 := by
    unfold lkF
    by_cases c0 : tR w n s = 1 ∧ nmW w n s = wdK 0
    · rw [if_pos c0]; omega
    · rw [if_neg c0]
      by_cases c1 : tR w n s = 1 ∧ nmW w n s = wdK 1
      · rw [if_pos c1]; omega
      · rw [if_neg c1]
        by_cases c2 : tR w n s = 1 ∧ nmW w n s = wdK 2
        · rw [if_pos c2]; omega
        · rw [if_neg c2]; omega
  by_cases c : tC w n s = 1
  · rw [if_pos c, lk_e h, mCall_some, wI_id (x := lkF w n s) (by omega)]
    by_cases d : lkF w n s = -1
    · rw [if_pos d, b2_t ⟨k.1.mp c, d⟩]
    · rw [if_neg d, b2_f (fun z => d z.2)]
      rfl
  · rw [if_neg c, b2_f (fun z => c (k.1.mpr z.1))]
    rfl
def nR (c r : Int) : Prop := (c = r ∧ 0 ≤ r ∧ r ≤ 999999) ∨ (100000 ≤ c ∧ c ≤ 1000000 ∧ 100000 ≤ r ∧ r ≤ 999999)
theorem valL7 {σ : mSt} {w : Nat → Int} {n s : Nat} {x : Int → mSt → Option (Int × mSt)} (h : cA σ w n s) (ht : tC w n s = 2) (hd : ∀ j, s ≤ j → j < tE w n s → 48 ≤ w j ∧ w j ≤ 57) : ∀ (m j N : Nat) (c : Int), j + m = tE w n s → s ≤ j → m < N → nR c (nvF w s (j - s)) → ∃ c', mX10_value_L7 3 x N c (j : Int) σ = x c' σ ∧ nR c' (nvF w s (tE w n s - s)) := by
  have r := tE_rng (w := w) h.2.1
  have n6 := h.1.2.2.2.1
  intro m
  induction m with
  | zero =>
    intro j N c h1 h2 h3 h4
    obtain ⟨N, rfl⟩ : ∃ z, N = z + 1 := ⟨N - 1, by omega⟩
    refine ⟨c, ?_, by rw [show tE w n s = j by omega]; exact h4⟩
    rw [mX10_value_L7.eq_2, h.2.2.2.1, if_pos (by rw [wI_id (x := (tE w n s : Int)) (by omega), wI_id (x := (j : Int)) (by omega)]; omega)]
  | succ m ih =>
    intro j N c h1 h2 h3 h4
    obtain ⟨N, rfl⟩ : ∃ z, N = z + 1 := ⟨N - 1, by omega⟩
    have dj := hd j h2 (by omega)
    obtain ⟨ej, -⟩ := h.1.2.2.2.2 j (by omega)
    have ns : nvF w s (j + 1 - s) = if 100000 ≤ nvF w s (j - s) then nvF w s (j - s) else 10 * nvF w s (j - s) + w j - 48 := by
      rw [show j + 1 - s = (j - s) + 1 by omega]
      show (if 100000 ≤ nvF w s (j - s) then nvF w s (j - s) else 10 * nvF w s (j - s) + w (s + (j - s)) - 48) = _
      rw [show s + (j - s) = j by omega]
    have cr : 0 ≤ c ∧ c ≤ 1000000 := by unfold nR at h4; omega
    obtain ⟨c2, hc2⟩ : ∃ c2, c2 = (if 1000000 < c * 10 + (w j - 48) then (1000000 : Int) else c * 10 + (w j - 48)) := ⟨_, rfl⟩
    have nr : nR c2 (nvF w s (j + 1 - s)) := by
      rw [ns, hc2]
      unfold nR at h4 ⊢
      by_cases c1 : 100000 ≤ nvF w s (j - s)
      · rw [if_pos c1]
        by_cases c3 : 1000000 < c * 10 + (w j - 48)
        · rw [if_pos c3]; omega
        · rw [if_neg c3]; omega
      · rw [if_neg c1]
        rw [if_neg (by omega)]
        omega
    obtain ⟨c', i1, i2⟩ := ih (j + 1) N c2 (by omega) (by omega) (by omega) nr
    refine ⟨c', ?_, i2⟩
    rw [mX10_value_L7.eq_2, h.2.2.2.1, if_neg (by rw [wI_id (x := (tE w n s : Int)) (by omega), wI_id (x := (j : Int)) (by omega)]; omega), h.2.2.2.2, ht, if_pos (by decide), gr' h.1.2.1 (by omega), gx1 _ (by omega), wI_nat (k := j) (by omega), ej, wI_id (x := w j - 48) (by omega)]
    have mn : mJ9_min_f86c9 (c * 10 + (w j - 48)) 1000000 σ = some (c2, σ) := by
      unfold mJ9_min_f86c9
      rw [wL_id (x := 1000000) (by omega), wL_id (x := c * 10 + (w j - 48)) (by omega), hc2]
      by_cases c3 : 1000000 < c * 10 + (w j - 48)
      · rw [if_pos c3, if_pos c3]
      · rw [if_neg c3, if_neg c3]
    rw [mn, mCall_some, bnd_eq, show (j : Int) + 1 = ((j + 1 : Nat) : Int) by omega]
    exact i1
theorem tC_2 {w : Nat → Int} {n s : Nat} (h : tC w n s = 2) : s < n ∧ ∀ j, s ≤ j → j < tE w n s → 48 ≤ w j ∧ w j ≤ 57 := by
  unfold tC at h
  by_cases c0 : n ≤ s
  · rw [if_pos c0] at h; omega
  · rw [if_neg c0] at h
    by_cases c1 : 97 ≤ w s ∧ w s ≤ 122
    · rw [if_pos c1] at h
      by_cases c2 : tE w n s - s ≤ 10
      · rw [if_pos c2] at h; omega
      · rw [if_neg c2] at h; omega
    · rw [if_neg c1] at h
      by_cases c2 : 48 ≤ w s ∧ w s ≤ 57
      · have te : tE w n s = rnn w n 48 57 s := by unfold tE; rw [if_neg c0, if_neg c1, if_pos c2]
        have rg := rnn_rng (w := w) (n := n) (lo := 48) (hi := 57) (n - s) s (by omega)
        rw [← te] at rg
        exact ⟨by omega, rg.2.2⟩
      · rw [if_neg c2] at h
        by_cases k1 : w s = 43
        · rw [if_pos k1] at h; omega
        · rw [if_neg k1] at h
          by_cases k2 : w s = 45
          · rw [if_pos k2] at h; omega
          · rw [if_neg k2] at h
            by_cases k3 : w s = 59
            · rw [if_pos k3] at h; omega
            · rw [if_neg k3] at h; omega
theorem value_e {σ : mSt} {w : Nat → Int} {n s : Nat} (h : cA σ w n s) (ht : tC w n s = 2) : ∃ c, mX10_value 3 σ = some (c, σ) ∧ nR c (nvF w s (tE w n s - s)) := by
  obtain ⟨t1, t2⟩ := tC_2 ht
  have r := tE_rng (w := w) h.2.1
  have n6 := h.1.2.2.2.1
  obtain ⟨c, i1, i2⟩ := valL7 (x := fun z1 zσ => mX10_value_B52 3 z1 zσ) h ht t2 (tE w n s - s) s mF 0 (by omega) (by omega) (by unfold mF; omega) (by rw [Nat.sub_self]; exact Or.inl ⟨rfl, by show (0 : Int) ≤ 0; omega, by show (0 : Int) ≤ 999999; omega⟩)
  refine ⟨c, ?_, i2⟩
  unfold mX10_value
  rw [gc3, h.2.2.1, bnd_eq]
  exact i1
theorem refuse_c {σ : mSt} {w : Nat → Int} {n s : Nat} {v : Int} (h : cA σ w n s) (hL : Lay σ) : mX8_refuse 2 v σ = some (0, upS σ 2 2 (8 * (s : Int) + v)) := by
  unfold mX8_refuse mX10_start
  rw [gc2, gr' (r := 3) (hL.get 2 0 (by decide +kernel) (by decide +kernel)) (by omega), gc3, mCall_some, h.2.2.1, bnd_eq]

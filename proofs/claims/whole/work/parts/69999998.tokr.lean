/-! the reference's tokens -/
def rT (τ : mSt) (w : Nat → Int) (n : Nat) : Prop := Lay τ ∧ τ 253 3 = (n : Int) ∧ n ≤ 600 ∧ ∀ i, i < n → τ 254 i = w i ∧ -128 ≤ w i ∧ w i < 128
def rkW (i j : Nat) : Prop := i = 253 ∧ 4 ≤ j ∧ j ≤ 8
theorem rkW_fix {i j : Nat} (h : rkW i j) : fixR i j = false := by
  obtain ⟨rfl, h1, h2⟩ := h
  have : ∀ j, 4 ≤ j → j ≤ 8 → fixR 253 j = false := by
    intro j h1 h2
    rcases (show j = 4 ∨ j = 5 ∨ j = 6 ∨ j = 7 ∨ j = 8 by omega) with rfl | rfl | rfl | rfl | rfl <;> decide +kernel
  exact this j h1 h2
theorem rT_fr {τ τ' : mSt} {w : Nat → Int} {n : Nat} (h : rT τ w n) (hf : frm rkW τ τ') : rT τ' w n := by
  obtain ⟨h1, h2, h3, h4⟩ := h
  refine ⟨h1.frm hf (fun i j z => rkW_fix z), by rw [hf _ _ (by unfold rkW; omega)]; exact h2, h3, fun i hi => ?_⟩
  rw [hf _ _ (by unfold rkW; omega)]
  exact h4 i hi
def bs (w : Nat → Int) (n i : Nat) : Int := if i < n then w i % 256 else -1
theorem bs_rng (w : Nat → Int) (n i : Nat) : -1 ≤ bs w n i ∧ bs w n i ≤ 255 := by
  unfold bs
  by_cases h : i < n
  · rw [if_pos h]; omega
  · rw [if_neg h]; omega
theorem see_e {τ : mSt} {w : Nat → Int} {n i : Nat} (h : rT τ w n) (hi : i ≤ n) : mX12_see 253 (i : Int) τ = some (bs w n i, τ) := by
  obtain ⟨h1, h2, h3, h4⟩ := h
  unfold mX12_see bs
  have wi : wI (i : Int) = i := wI_id (x := (i : Int)) (by omega)
  rw [gc253, h2, wI_id (x := (n : Int)) (by omega)]
  by_cases c : i < n
  · obtain ⟨e, r1, r2⟩ := h4 i c
    rw [if_neg (by rw [wi]; omega), gr' (lay253 h1).1 (by omega), gx254 _ (by omega), wI_nat (k := i) (by omega), e, and255' ⟨r1, r2⟩, if_pos c]
  · rw [if_pos (by rw [wi]; omega), if_neg c]
theorem bs_in {w : Nat → Int} {n i : Nat} {lo hi : Int} (hlo : 0 ≤ lo) (hhi : hi ≤ 127) (hw : i < n → -128 ≤ w i ∧ w i < 128) : (lo ≤ bs w n i ∧ bs w n i ≤ hi) ↔ (i < n ∧ lo ≤ w i ∧ w i ≤ hi) := by
  unfold bs
  by_cases c : i < n
  · have := hw c
    rw [if_pos c]
    omega
  · rw [if_neg c]
    omega
theorem bs_eq {w : Nat → Int} {n i : Nat} {v : Int} (hv : 0 ≤ v ∧ v ≤ 127) (hw : i < n → -128 ≤ w i ∧ w i < 128) : bs w n i = v ↔ (i < n ∧ w i = v) := by
  unfold bs
  by_cases c : i < n
  · have := hw c
    rw [if_pos c]
    omega
  · rw [if_neg c]
    omega
theorem stepL8r {w : Nat → Int} {n : Nat} {x : mSt → Option (Int × mSt)} : ∀ (m i N : Nat) (τ : mSt), i + m = n → m < N → rT τ w n → τ 253 4 = (i : Int) → mX12_steps_L8 253 x N τ = x (upS τ 253 4 (skp w n i)) := by
  intro m
  induction m with
  | zero =>
    intro i N τ h1 h2 h3 h4
    obtain ⟨N, rfl⟩ : ∃ z, N = z + 1 := ⟨N - 1, by omega⟩
    have b := bs_rng w n i
    have b1 : bs w n i = -1 := by unfold bs; rw [if_neg (by omega)]
    rw [mX12_steps_L8.eq_2, h4, see_e h3 (by omega), mCall_some, b1, if_neg (by decide), h4, see_e h3 (by omega), mCall_some, b1, if_neg (by decide), skp_z (by omega), up_same h4]
  | succ m ih =>
    intro i N τ h1 h2 h3 h4
    obtain ⟨N, rfl⟩ : ∃ z, N = z + 1 := ⟨N - 1, by omega⟩
    have hin : i < n := by omega
    have n6 := h3.2.2.1
    have b := bs_rng w n i
    have hw := fun (_ : i < n) => (h3.2.2.2 i hin).2
    have e32 := bs_eq (v := 32) (by omega) hw
    have e10 := bs_eq (v := 10) (by omega) hw
    have go : (w i = 32 ∨ w i = 10) → mX12_steps_L8 253 x N (upS τ 253 4 ((i : Int) + 1)) = x (upS τ 253 4 (skp w n i)) := fun q => by
      have f : frm rkW τ (upS τ 253 4 ((i : Int) + 1)) := frm.one ⟨rfl, by omega⟩
      have := ih (i + 1) N (upS τ 253 4 ((i : Int) + 1)) (by omega) (by omega) (rT_fr h3 f) (by rw [upS_same]; omega)
      rw [this, up2, ← skp_s hin q]
    rw [mX12_steps_L8.eq_2, h4, see_e h3 (by omega), mCall_some, wI_id (x := bs w n i) (by omega)]
    by_cases q1 : w i = 32
    · rw [if_pos (e32.mpr ⟨hin, q1⟩), h4, bnd_eq]
      exact go (Or.inl q1)
    · rw [if_neg (fun z => q1 (e32.mp z).2), h4, see_e h3 (by omega), mCall_some, wI_id (x := bs w n i) (by omega)]
      by_cases q2 : w i = 10
      · rw [if_pos (e10.mpr ⟨hin, q2⟩), h4, bnd_eq]
        exact go (Or.inr q2)
      · rw [if_neg (fun z => q2 (e10.mp z).2), skp_z (fun z => z.2.elim q1 q2), up_same h4]
theorem pkF_lim {w : Nat → Int} {s : Nat} {m : Nat} (hm : m ≤ 10) (h : ∀ j, j < m → 97 ≤ w (s + j) ∧ w (s + j) ≤ 122) : 0 ≤ pkF w s m ∧ pkF w s m < 1125899906842624 := by
  have r := pkF_rng m h
  have : (32 : Int) ^ m ≤ 32 ^ 10 := by
    have := Nat.pow_le_pow_right (show 0 < 32 by omega) hm
    exact_mod_cast this
  omega
theorem stepL150 {w : Nat → Int} {n s : Nat} {x : mSt → Option (Int × mSt)} : ∀ (m j N : Nat) (τ : mSt), j + m = n → m < N → s ≤ j → rT τ w n → τ 253 4 = (s : Int) → τ 253 5 = (j : Int) → τ 253 8 = pkF w s (min 10 (j - s)) → (∀ i, s ≤ i → i < j → 97 ≤ w i ∧ w i ≤ 122) → ∃ τ', mX12_steps_L150 253 x N τ = x τ' ∧ frm rkW τ τ' ∧ τ' 253 4 = (s : Int) ∧ τ' 253 5 = (rnn w n 97 122 j : Int) ∧ τ' 253 8 = pkF w s (min 10 (rnn w n 97 122 j - s)) := by
  intro m
  induction m with
  | zero =>
    intro j N τ h1 h2 h3 h4 h5 h6 h7 h8
    obtain ⟨N, rfl⟩ : ∃ z, N = z + 1 := ⟨N - 1, by omega⟩
    have b := bs_rng w n j
    have b1 : bs w n j = -1 := by unfold bs; rw [if_neg (by omega)]
    refine ⟨τ, ?_, frm.rf τ, h5, by rw [rnn_z (by omega)]; exact h6, by rw [rnn_z (by omega)]; exact h7⟩
    rw [mX12_steps_L150.eq_2, h6, see_e h4 (by omega), mCall_some, b1, within_e _ _ _ _ (by decide) (by decide) (by decide), mCall_some, if_pos (by rw [b2_f (by decide)]; decide)]
  | succ m ih =>
    intro j N τ h1 h2 h3 h4 h5 h6 h7 h8
    obtain ⟨N, rfl⟩ : ∃ z, N = z + 1 := ⟨N - 1, by omega⟩
    have hjn : j < n := by omega
    have n6 := h4.2.2.1
    have b := bs_rng w n j
    have hw := fun (_ : j < n) => (h4.2.2.2 j hjn).2
    have bin := bs_in (lo := 97) (hi := 122) (by omega) (by omega) hw
    have wb : wI (bs w n j) = bs w n j := wI_id (x := bs w n j) (by omega)
    by_cases q : 97 ≤ w j ∧ w j ≤ 122
    · have eb : bs w n j = w j := by unfold bs; rw [if_pos hjn]; omega
      have rs := rnn_s (w := w) (lo := 97) (hi := 122) hjn q
      have nx : ∀ v, v = pkF w s (min 10 (j + 1 - s)) → ∃ τ', mX12_steps_L150 253 x N (upS (upS τ 253 8 v) 253 5 ((j : Int) + 1)) = x τ' ∧ frm rkW τ τ' ∧ τ' 253 4 = (s : Int) ∧ τ' 253 5 = (rnn w n 97 122 j : Int) ∧ τ' 253 8 = pkF w s (min 10 (rnn w n 97 122 j - s)) := fun v hv => by
        have f : frm rkW τ (upS (upS τ 253 8 v) 253 5 ((j : Int) + 1)) := (frm.one ⟨rfl, by omega⟩).put ⟨rfl, by omega⟩
        obtain ⟨τ', i1, i2, i3⟩ := ih (j + 1) N _ (by omega) (by omega) (by omega) (rT_fr h4 f) (by rw [upS_ne (by omega), upS_ne (by omega)]; exact h5) (by rw [upS_same]; omega) (by rw [upS_ne (by omega), upS_same]; exact hv) (fun i g1 g2 => by
          by_cases e : i = j
          · rw [e]; exact q
          · exact h8 i g1 (by omega))
        rw [← rs] at i3
        exact ⟨τ', i1, f.tr i2 (fun i j z => z), i3⟩
      have wd : wI ((j : Int) - (s : Int)) = (j : Int) - s := wI_id (x := (j : Int) - (s : Int)) (by omega)
      by_cases c : 10 ≤ j - s
      · obtain ⟨τ', i1, i2⟩ := nx (τ 253 8) (by rw [h7]; congr 1; omega)
        refine ⟨τ', ?_, i2⟩
        rw [mX12_steps_L150.eq_2, h6, see_e h4 (by omega), mCall_some, wb, within_e _ _ _ _ (by omega) (by omega) (by omega), mCall_some, if_neg (by rw [b2_t (bin.mpr ⟨hjn, q⟩)]; decide), h5, h6, wd, if_pos (by omega), bnd_eq, upS_ne (by omega), h6, bnd_eq]
        exact i1
      · have lim := pkF_lim (w := w) (s := s) (m := j - s) (by omega) (fun i hi => h8 (s + i) (by omega) (by omega))
        have pk : pkF w s (j - s + 1) = 32 * pkF w s (j - s) + (w j - 96) := by
          show 32 * pkF w s (j - s) + (w (s + (j - s)) - 96) = _
          rw [show s + (j - s) = j by omega]
        rw [show min 10 (j - s) = j - s by omega] at h7
        obtain ⟨τ', i1, i2⟩ := nx (32 * pkF w s (j - s) + (w j - 96)) (by rw [show min 10 (j + 1 - s) = j - s + 1 by omega, pk])
        refine ⟨τ', ?_, i2⟩
        rw [mX12_steps_L150.eq_2, h6, see_e h4 (by omega), mCall_some, wb, within_e _ _ _ _ (by omega) (by omega) (by omega), mCall_some, if_neg (by rw [b2_t (bin.mpr ⟨hjn, q⟩)]; decide), h5, h6, wd, if_neg (by omega), see_e h4 (by omega), mCall_some, wb, eb, h7, or32 _ _ (by omega) (by omega), bnd_eq, upS_ne (by omega), h6, bnd_eq]
        exact i1
    · refine ⟨τ, ?_, frm.rf τ, h5, by rw [rnn_z (fun z => q z.2)]; exact h6, by rw [rnn_z (fun z => q z.2)]; exact h7⟩
      rw [mX12_steps_L150.eq_2, h6, see_e h4 (by omega), mCall_some, wb, within_e _ _ _ _ (by omega) (by omega) (by omega), mCall_some, if_pos (by rw [b2_f (fun z => q (bin.mp z).2)]; decide)]
theorem nvF_rng {f : Nat → Int} {s : Nat} : ∀ m, (∀ j, j < m → 48 ≤ f (s + j) ∧ f (s + j) ≤ 57) → 0 ≤ nvF f s m ∧ nvF f s m ≤ 999999 := by
  intro m
  induction m with
  | zero => intro _; exact ⟨Int.le_refl _, by show (0 : Int) ≤ 999999; decide⟩
  | succ m ih =>
    intro h
    obtain ⟨h1, h2⟩ := ih (fun j hj => h j (by omega))
    have := h m (by omega)
    show 0 ≤ (if 100000 ≤ nvF f s m then nvF f s m else 10 * nvF f s m + f (s + m) - 48) ∧ (if 100000 ≤ nvF f s m then nvF f s m else 10 * nvF f s m + f (s + m) - 48) ≤ 999999
    by_cases c : 100000 ≤ nvF f s m
    · rw [if_pos c]; omega
    · rw [if_neg c]; omega
theorem stepL277 {w : Nat → Int} {n s : Nat} {x : mSt → Option (Int × mSt)} : ∀ (m j N : Nat) (τ : mSt), j + m = n → m < N → s ≤ j → rT τ w n → τ 253 4 = (s : Int) → τ 253 5 = (j : Int) → τ 253 7 = nvF w s (j - s) → (∀ i, s ≤ i → i < j → 48 ≤ w i ∧ w i ≤ 57) → ∃ τ', mX12_steps_L277 253 x N τ = x τ' ∧ frm rkW τ τ' ∧ τ' 253 4 = (s : Int) ∧ τ' 253 5 = (rnn w n 48 57 j : Int) ∧ τ' 253 7 = nvF w s (rnn w n 48 57 j - s) := by
  intro m
  induction m with
  | zero =>
    intro j N τ h1 h2 h3 h4 h5 h6 h7 h8
    obtain ⟨N, rfl⟩ : ∃ z, N = z + 1 := ⟨N - 1, by omega⟩
    have b := bs_rng w n j
    have b1 : bs w n j = -1 := by unfold bs; rw [if_neg (by omega)]
    refine ⟨τ, ?_, frm.rf τ, h5, by rw [rnn_z (by omega)]; exact h6, by rw [rnn_z (by omega)]; exact h7⟩
    rw [mX12_steps_L277.eq_2, h6, see_e h4 (by omega), mCall_some, b1, within_e _ _ _ _ (by decide) (by decide) (by decide), mCall_some, if_pos (by rw [b2_f (by decide)]; decide)]
  | succ m ih =>
    intro j N τ h1 h2 h3 h4 h5 h6 h7 h8
    obtain ⟨N, rfl⟩ : ∃ z, N = z + 1 := ⟨N - 1, by omega⟩
    have hjn : j < n := by omega
    have n6 := h4.2.2.1
    have b := bs_rng w n j
    have hw := fun (_ : j < n) => (h4.2.2.2 j hjn).2
    have bin := bs_in (lo := 48) (hi := 57) (by omega) (by omega) hw
    have wb : wI (bs w n j) = bs w n j := wI_id (x := bs w n j) (by omega)
    by_cases q : 48 ≤ w j ∧ w j ≤ 57
    · have eb : bs w n j = w j := by unfold bs; rw [if_pos hjn]; omega
      have rs := rnn_s (w := w) (lo := 48) (hi := 57) hjn q
      have nr := nvF_rng (f := w) (s := s) (j - s) (fun i hi => h8 (s + i) (by omega) (by omega))
      have ns : nvF w s (j + 1 - s) = if 100000 ≤ nvF w s (j - s) then nvF w s (j - s) else 10 * nvF w s (j - s) + w j - 48 := by
        rw [show j + 1 - s = (j - s) + 1 by omega]
        show (if 100000 ≤ nvF w s (j - s) then nvF w s (j - s) else 10 * nvF w s (j - s) + w (s + (j - s)) - 48) = _
        rw [show s + (j - s) = j by omega]
      have nx : ∀ v, v = nvF w s (j + 1 - s) → ∃ τ', mX12_steps_L277 253 x N (upS (upS τ 253 7 v) 253 5 ((j : Int) + 1)) = x τ' ∧ frm rkW τ τ' ∧ τ' 253 4 = (s : Int) ∧ τ' 253 5 = (rnn w n 48 57 j : Int) ∧ τ' 253 7 = nvF w s (rnn w n 48 57 j - s) := fun v hv => by
        have f : frm rkW τ (upS (upS τ 253 7 v) 253 5 ((j : Int) + 1)) := (frm.one ⟨rfl, by omega⟩).put ⟨rfl, by omega⟩
        obtain ⟨τ', i1, i2, i3⟩ := ih (j + 1) N _ (by omega) (by omega) (by omega) (rT_fr h4 f) (by rw [upS_ne (by omega), upS_ne (by omega)]; exact h5) (by rw [upS_same]; omega) (by rw [upS_ne (by omega), upS_same]; exact hv) (fun i g1 g2 => by
          by_cases e : i = j
          · rw [e]; exact q
          · exact h8 i g1 (by omega))
        rw [← rs] at i3
        exact ⟨τ', i1, f.tr i2 (fun i j z => z), i3⟩
      by_cases c : 100000 ≤ nvF w s (j - s)
      · obtain ⟨τ', i1, i2⟩ := nx (τ 253 7) (by rw [h7, ns, if_pos c])
        refine ⟨τ', ?_, i2⟩
        rw [mX12_steps_L277.eq_2, h6, see_e h4 (by omega), mCall_some, wb, within_e _ _ _ _ (by omega) (by omega) (by omega), mCall_some, if_neg (by rw [b2_t (bin.mpr ⟨hjn, q⟩)]; decide), if_pos (by rw [h7, wI_id (x := nvF w s (j - s)) (by omega)]; exact c), bnd_eq, upS_ne (by omega), h6, bnd_eq]
        exact i1
      · obtain ⟨τ', i1, i2⟩ := nx (10 * τ 253 7 + w j - 48) (by rw [h7, ns, if_neg c])
        refine ⟨τ', ?_, i2⟩
        rw [mX12_steps_L277.eq_2, h6, see_e h4 (by omega), mCall_some, wb, within_e _ _ _ _ (by omega) (by omega) (by omega), mCall_some, if_neg (by rw [b2_t (bin.mpr ⟨hjn, q⟩)]; decide), if_neg (by rw [h7, wI_id (x := nvF w s (j - s)) (by omega)]; exact c), h6, see_e h4 (by omega), mCall_some, eb, bnd_eq, upS_ne (by omega), h6, bnd_eq]
        exact i1
    · refine ⟨τ, ?_, frm.rf τ, h5, by rw [rnn_z (fun z => q z.2)]; exact h6, by rw [rnn_z (fun z => q z.2)]; exact h7⟩
      rw [mX12_steps_L277.eq_2, h6, see_e h4 (by omega), mCall_some, wb, within_e _ _ _ _ (by omega) (by omega) (by omega), mCall_some, if_pos (by rw [b2_f (fun z => q (bin.mp z).2)]; decide)]
def rA (τ : mSt) (w : Nat → Int) (n s : Nat) : Prop := rT τ w n ∧ s ≤ n ∧ τ 253 4 = (s : Int) ∧ τ 253 5 = (tE w n s : Int) ∧ τ 253 6 = tR w n s ∧ (tR w n s = 1 → τ 253 8 = pkF w s (tE w n s - s)) ∧ (tR w n s = 2 → τ 253 7 = nvF w s (tE w n s - s))
theorem step_tr {τ : mSt} {w : Nat → Int} {n e : Nat} (h : rT τ w n) (he : e ≤ n) (h5 : τ 253 5 = (e : Int)) : ∃ τ', mX12_steps 253 τ = some (0, τ') ∧ frm rkW τ τ' ∧ rA τ' w n (skp w n e) := by
  obtain ⟨τ1, h1⟩ : ∃ τ1, τ1 = upS τ 253 4 (e : Int) := ⟨_, rfl⟩
  have f1 : frm rkW τ τ1 := by rw [h1]; exact frm.one ⟨rfl, by omega⟩
  have n6 := h.2.2.1
  have l8 := stepL8r (w := w) (n := n) (x := fun zσ => mX12_steps_B47 253 zσ) (n - e) e mF τ1 (by omega) (by unfold mF; omega) (rT_fr h f1) (by rw [h1, upS_same])
  obtain ⟨s, hs⟩ : ∃ s, s = skp w n e := ⟨_, rfl⟩
  have sr := skp_rng (w := w) (n := n) (n - e) e (by omega)
  rw [← hs] at l8 sr ⊢
  obtain ⟨τ2, h22⟩ : ∃ τ2, τ2 = upS τ1 253 4 (s : Int) := ⟨_, rfl⟩
  rw [← h22] at l8
  have f2 : frm rkW τ τ2 := by rw [h22]; exact f1.put ⟨rfl, by omega⟩
  have T2 := rT_fr h f2
  have q2 : τ2 253 4 = (s : Int) := by rw [h22, upS_same]
  obtain ⟨τ3, h33⟩ : ∃ τ3, τ3 = upS (upS (upS (upS τ2 253 5 ((s : Int) + 1)) 253 6 4) 253 7 0) 253 8 0 := ⟨_, rfl⟩
  have f3 : frm rkW τ τ3 := by rw [h33]; exact (((f2.put ⟨rfl, by omega⟩).put ⟨rfl, by omega⟩).put ⟨rfl, by omega⟩).put ⟨rfl, by omega⟩
  have T3 := rT_fr h f3
  have q3 : τ3 253 4 = (s : Int) := by rw [h33, upS_ne (by omega), upS_ne (by omega), upS_ne (by omega), upS_ne (by omega)]; exact q2
  have q5 : τ3 253 5 = (s : Int) + 1 := by rw [h33, upS_ne (by omega), upS_ne (by omega), upS_ne (by omega), upS_same]
  have q6 : τ3 253 6 = 4 := by rw [h33, upS_ne (by omega), upS_ne (by omega), upS_same]
  have q7 : τ3 253 7 = 0 := by rw [h33, upS_ne (by omega), upS_same]
  have q8 : τ3 253 8 = 0 := by rw [h33, upS_same]
  have b := bs_rng w n s
  have wb : wI (bs w n s) = bs w n s := wI_id (x := bs w n s) (by omega)
  have head : ∀ o, (if bs w n s = (-1) then (bnd (upS τ3 253 5 (τ3 253 4)) fun s78 => bnd (upS s78 253 6 0) fun s80 => some ((0 : Int), s80)) else if bs w n s = 59 then (bnd (upS τ3 253 6 3) fun s58 => some (0, s58)) else if bs w n s = 43 then (bnd (upS τ3 253 6 3) fun s61 => some (0, s61)) else if bs w n s = 45 then (bnd (upS τ3 253 6 3) fun s76 => some (0, s76)) else mCall (mX12_within (bs w n s) 97 122 τ3) fun b64 s65 => if wI b64 = 0 then (mCall (mX12_within (bs w n s) 48 57 s65) fun b68 s69 => if wI b68 = 0 then (some (0, s69)) else bnd (upS s69 253 5 (s69 253 4)) fun s72 => mX12_steps_L277 253 (fun zσ => mX12_steps_B350 253 zσ) mF s72) else bnd (upS s65 253 5 (s65 253 4)) fun s74 => mX12_steps_L150 253 (fun zσ => mX12_steps_B229 253 zσ) mF s74) = o → mX12_steps 253 τ = o := fun o z => by
    unfold mX12_steps
    rw [gc253, h5, bnd_eq, ← h1, l8]
    unfold mX12_steps_B47
    rw [q2, see_e T2 sr.2.1, mCall_some, q2, bnd_eq, bnd_eq, bnd_eq, bnd_eq, ← h33, wb]
    exact z
  by_cases c0 : n ≤ s
  · have te : tE w n s = s := by unfold tE; rw [if_pos c0]
    have tc : tR w n s = 0 := by unfold tR; rw [if_pos c0]
    have b1 : bs w n s = -1 := by unfold bs; rw [if_neg (by omega)]
    have f4 : frm rkW τ (upS (upS τ3 253 5 (s : Int)) 253 6 0) := (f3.put ⟨rfl, by omega⟩).put ⟨rfl, by omega⟩
    refine ⟨_, head _ ?_, f4, rT_fr h f4, sr.2.1, by rw [upS_ne (by omega), upS_ne (by omega)]; exact q3, by rw [upS_ne (by omega), upS_same, te], by rw [upS_same, tc], fun z => by rw [tc] at z; omega, fun z => by rw [tc] at z; omega⟩
    rw [if_pos b1, q3, bnd_eq, bnd_eq]
  · have sn : s < n := by omega
    have hw := fun (_ : s < n) => (h.2.2.2 s sn).2
    have bn1 : ¬ bs w n s = -1 := by unfold bs; rw [if_pos sn]; omega
    have e59 := bs_eq (v := 59) (by omega) hw
    have e43 := bs_eq (v := 43) (by omega) hw
    have e45 := bs_eq (v := 45) (by omega) hw
    have eL := bs_in (lo := 97) (hi := 122) (by omega) (by omega) hw
    have eD := bs_in (lo := 48) (hi := 57) (by omega) (by omega) hw
    have sgn : (w s = 59 ∨ w s = 43 ∨ w s = 45) → (tE w n s = s + 1 ∧ tR w n s = 3) := fun q => by
      have l1 : ¬ (97 ≤ w s ∧ w s ≤ 122) := by omega
      have l2 : ¬ (48 ≤ w s ∧ w s ≤ 57) := by omega
      refine ⟨by unfold tE; rw [if_neg c0, if_neg l1, if_neg l2], ?_⟩
      unfold tR
      rw [if_neg c0, if_neg l1, if_neg l2]
      rcases q with q | q | q <;> rw [q] <;> decide
    have sfin : (w s = 59 ∨ w s = 43 ∨ w s = 45) → frm rkW τ (upS τ3 253 6 3) ∧ rA (upS τ3 253 6 3) w n s := fun q => by
      obtain ⟨te, tc⟩ := sgn q
      have f4 : frm rkW τ (upS τ3 253 6 3) := f3.put ⟨rfl, by omega⟩
      exact ⟨f4, rT_fr h f4, sr.2.1, by rw [upS_ne (by omega)]; exact q3, by rw [upS_ne (by omega), q5, te]; omega, by rw [upS_same, tc], fun z => by rw [tc] at z; omega, fun z => by rw [tc] at z; omega⟩
    by_cases k1 : w s = 59
    · refine ⟨_, head _ ?_, (sfin (Or.inl k1)).1, (sfin (Or.inl k1)).2⟩
      rw [if_neg bn1, if_pos (e59.mpr ⟨sn, k1⟩), bnd_eq]
    · by_cases k2 : w s = 43
      · refine ⟨_, head _ ?_, (sfin (Or.inr (Or.inl k2))).1, (sfin (Or.inr (Or.inl k2))).2⟩
        rw [if_neg bn1, if_neg (fun z => k1 (e59.mp z).2), if_pos (e43.mpr ⟨sn, k2⟩), bnd_eq]
      · by_cases k3 : w s = 45
        · refine ⟨_, head _ ?_, (sfin (Or.inr (Or.inr k3))).1, (sfin (Or.inr (Or.inr k3))).2⟩
          rw [if_neg bn1, if_neg (fun z => k1 (e59.mp z).2), if_neg (fun z => k2 (e43.mp z).2), if_pos (e45.mpr ⟨sn, k3⟩), bnd_eq]
        · have hd2 : ∀ o, (mCall (mX12_within (bs w n s) 97 122 τ3) fun b64 s65 => if wI b64 = 0 then (mCall (mX12_within (bs w n s) 48 57 s65) fun b68 s69 => if wI b68 = 0 then (some ((0 : Int), s69)) else bnd (upS s69 253 5 (s69 253 4)) fun s72 => mX12_steps_L277 253 (fun zσ => mX12_steps_B350 253 zσ) mF s72) else bnd (upS s65 253 5 (s65 253 4)) fun s74 => mX12_steps_L150 253 (fun zσ => mX12_steps_B229 253 zσ) mF s74) = o → mX12_steps 253 τ = o := fun o z => by
            refine head o ?_
            rw [if_neg bn1, if_neg (fun z => k1 (e59.mp z).2), if_neg (fun z => k2 (e43.mp z).2), if_neg (fun z => k3 (e45.mp z).2)]
            exact z
          obtain ⟨τ4, h44⟩ : ∃ τ4, τ4 = upS τ3 253 5 (s : Int) := ⟨_, rfl⟩
          have f4 : frm rkW τ τ4 := by rw [h44]; exact f3.put ⟨rfl, by omega⟩
          have T4 := rT_fr h f4
          by_cases c1 : 97 ≤ w s ∧ w s ≤ 122
          · obtain ⟨τ5, t1, t2, t3, t4, t5⟩ := stepL150 (w := w) (n := n) (s := s) (x := fun zσ => mX12_steps_B229 253 zσ) (n - s) s mF τ4 (by omega) (by unfold mF; omega) (by omega) T4 (by rw [h44, upS_ne (by omega)]; exact q3) (by rw [h44, upS_same]) (by rw [h44, upS_ne (by omega), q8, Nat.sub_self]; rfl) (fun i g1 g2 => by omega)
            have te : tE w n s = rnn w n 97 122 s := by unfold tE; rw [if_neg c0, if_pos c1]
            have tc : tR w n s = if tE w n s - s ≤ 10 then 1 else 4 := by unfold tR; rw [if_neg c0, if_pos c1]
            have rg := rnn_rng (w := w) (n := n) (lo := 97) (hi := 122) (n - s) s (by omega)
            rw [← te] at t4 t5 rg
            have f5 := f4.tr t2 (fun i j z => z)
            have f6 : ∀ v, frm rkW τ (upS τ5 253 6 v) := fun v => f5.put ⟨rfl, by omega⟩
            have wd : wI ((tE w n s : Int) - (s : Int)) = (tE w n s : Int) - s := wI_id (x := (tE w n s : Int) - (s : Int)) (by omega)
            have hd3 : ∀ o, mX12_steps_B229 253 τ5 = o → mX12_steps 253 τ = o := fun o z => by
              refine hd2 o ?_
              rw [within_e _ _ _ _ (by omega) (by omega) (by omega), mCall_some, if_neg (by rw [b2_t (eL.mpr ⟨sn, c1⟩)]; decide), q3, bnd_eq, ← h44, t1]
              exact z
            by_cases q : tE w n s - s ≤ 10
            · rw [if_pos q] at tc
              refine ⟨upS τ5 253 6 1, hd3 _ ?_, f6 1, rT_fr h (f6 1), sr.2.1, by rw [upS_ne (by omega)]; exact t3, by rw [upS_ne (by omega)]; exact t4, by rw [upS_same, tc], fun _ => by rw [upS_ne (by omega), t5, show min 10 (tE w n s - s) = tE w n s - s by omega], fun z => by rw [tc] at z; omega⟩
              unfold mX12_steps_B229 mX12_steps_B249
              rw [t3, t4, wd, if_neg (by omega), gc253, bnd_eq]
            · rw [if_neg q] at tc
              refine ⟨upS τ5 253 6 4, hd3 _ ?_, f6 4, rT_fr h (f6 4), sr.2.1, by rw [upS_ne (by omega)]; exact t3, by rw [upS_ne (by omega)]; exact t4, by rw [upS_same, tc], fun z => by rw [tc] at z; omega, fun z => by rw [tc] at z; omega⟩
              unfold mX12_steps_B229 mX12_steps_B249
              rw [t3, t4, wd, if_pos (by omega), gc253, bnd_eq]
          · by_cases c2 : 48 ≤ w s ∧ w s ≤ 57
            · obtain ⟨τ5, t1, t2, t3, t4, t5⟩ := stepL277 (w := w) (n := n) (s := s) (x := fun zσ => mX12_steps_B350 253 zσ) (n - s) s mF τ4 (by omega) (by unfold mF; omega) (by omega) T4 (by rw [h44, upS_ne (by omega)]; exact q3) (by rw [h44, upS_same]) (by rw [h44, upS_ne (by omega), q7, Nat.sub_self]; rfl) (fun i g1 g2 => by omega)
              have te : tE w n s = rnn w n 48 57 s := by unfold tE; rw [if_neg c0, if_neg c1, if_pos c2]
              have tc : tR w n s = 2 := by unfold tR; rw [if_neg c0, if_neg c1, if_pos c2]
              rw [← te] at t4 t5
              have f5 := f4.tr t2 (fun i j z => z)
              have f6 : frm rkW τ (upS τ5 253 6 2) := f5.put ⟨rfl, by omega⟩
              refine ⟨upS τ5 253 6 2, hd2 _ ?_, f6, rT_fr h f6, sr.2.1, by rw [upS_ne (by omega)]; exact t3, by rw [upS_ne (by omega)]; exact t4, by rw [upS_same, tc], fun z => by rw [tc] at z; omega, fun _ => by rw [upS_ne (by omega)]; exact t5⟩
              rw [within_e _ _ _ _ (by omega) (by omega) (by omega), mCall_some, if_pos (by rw [b2_f (fun z => c1 (eL.mp z).2)]; decide), within_e _ _ _ _ (by omega) (by omega) (by omega), mCall_some, if_neg (by rw [b2_t (eD.mpr ⟨sn, c2⟩)]; decide), q3, bnd_eq, ← h44, t1]
              unfold mX12_steps_B350
              rw [bnd_eq]
            · have te : tE w n s = s + 1 := by unfold tE; rw [if_neg c0, if_neg c1, if_neg c2]
              have tc : tR w n s = 4 := by unfold tR; rw [if_neg c0, if_neg c1, if_neg c2, if_neg k2, if_neg k3, if_neg k1]
              refine ⟨τ3, hd2 _ ?_, f3, T3, sr.2.1, q3, by rw [q5, te]; omega, by rw [q6, tc], fun z => by rw [tc] at z; omega, fun z => by rw [tc] at z; omega⟩
              rw [within_e _ _ _ _ (by omega) (by omega) (by omega), mCall_some, if_pos (by rw [b2_f (fun z => c1 (eL.mp z).2)]; decide), within_e _ _ _ _ (by omega) (by omega) (by omega), mCall_some, if_pos (by rw [b2_f (fun z => c2 (eD.mp z).2)]; decide)]

/-! the class side of tok -/
theorem up2 (σ : mSt) (i k : Nat) (a b : Int) : upS (upS σ i k a) i k b = upS σ i k b := by
  funext x y
  unfold upS
  by_cases h : x = i ∧ y = k
  · rw [if_pos h, if_pos h]
  · rw [if_neg h, if_neg h, if_neg h]
def skE (w : Nat → Int) (n : Nat) : Nat → Nat → Nat
  | 0, i => i
  | m + 1, i => if i < n ∧ (w i = 32 ∨ w i = 10) then skE w n m (i + 1) else i
def rnE (w : Nat → Int) (n : Nat) (lo hi : Int) : Nat → Nat → Nat
  | 0, i => i
  | m + 1, i => if i < n ∧ lo ≤ w i ∧ w i ≤ hi then rnE w n lo hi m (i + 1) else i
def skp (w : Nat → Int) (n i : Nat) : Nat := skE w n (n - i) i
def rnn (w : Nat → Int) (n : Nat) (lo hi : Int) (i : Nat) : Nat := rnE w n lo hi (n - i) i
theorem skp_s {w : Nat → Int} {n i : Nat} (h : i < n) (h2 : w i = 32 ∨ w i = 10) : skp w n i = skp w n (i + 1) := by
  unfold skp
  rw [show n - i = (n - (i + 1)) + 1 by omega]
  show (if i < n ∧ (w i = 32 ∨ w i = 10) then skE w n (n - (i + 1)) (i + 1) else i) = _
  rw [if_pos ⟨h, h2⟩]
theorem skp_z {w : Nat → Int} {n i : Nat} (h : ¬ (i < n ∧ (w i = 32 ∨ w i = 10))) : skp w n i = i := by
  unfold skp
  cases n - i with
  | zero => rfl
  | succ m =>
    show (if i < n ∧ (w i = 32 ∨ w i = 10) then skE w n m (i + 1) else i) = _
    rw [if_neg h]
theorem rnn_s {w : Nat → Int} {n i : Nat} {lo hi : Int} (h : i < n) (h2 : lo ≤ w i ∧ w i ≤ hi) : rnn w n lo hi i = rnn w n lo hi (i + 1) := by
  unfold rnn
  rw [show n - i = (n - (i + 1)) + 1 by omega]
  show (if i < n ∧ lo ≤ w i ∧ w i ≤ hi then rnE w n lo hi (n - (i + 1)) (i + 1) else i) = _
  rw [if_pos ⟨h, h2⟩]
theorem rnn_z {w : Nat → Int} {n i : Nat} {lo hi : Int} (h : ¬ (i < n ∧ lo ≤ w i ∧ w i ≤ hi)) : rnn w n lo hi i = i := by
  unfold rnn
  cases n - i with
  | zero => rfl
  | succ m =>
    show (if i < n ∧ lo ≤ w i ∧ w i ≤ hi then rnE w n lo hi m (i + 1) else i) = _
    rw [if_neg h]
theorem rnn_rng {w : Nat → Int} {n : Nat} {lo hi : Int} : ∀ (m i : Nat), i + m = n → i ≤ rnn w n lo hi i ∧ rnn w n lo hi i ≤ n ∧ ∀ j, i ≤ j → j < rnn w n lo hi i → lo ≤ w j ∧ w j ≤ hi := by
  intro m
  induction m with
  | zero =>
    intro i h
    rw [rnn_z (by omega)]
    exact ⟨by omega, by omega, fun j h1 h2 => by omega⟩
  | succ m ih =>
    intro i h
    by_cases h2 : lo ≤ w i ∧ w i ≤ hi
    · rw [rnn_s (by omega) h2]
      obtain ⟨i1, i2, i3⟩ := ih (i + 1) (by omega)
      refine ⟨by omega, i2, fun j h1 h3 => ?_⟩
      by_cases e : j = i
      · rw [e]; exact h2
      · exact i3 j (by omega) h3
    · rw [rnn_z (fun z => h2 z.2)]
      exact ⟨by omega, by omega, fun j h1 h3 => by omega⟩
theorem skp_rng {w : Nat → Int} {n : Nat} : ∀ (m i : Nat), i + m = n → i ≤ skp w n i ∧ skp w n i ≤ n ∧ ¬ (skp w n i < n ∧ (w (skp w n i) = 32 ∨ w (skp w n i) = 10)) := by
  intro m
  induction m with
  | zero =>
    intro i h
    rw [skp_z (by omega)]
    exact ⟨by omega, by omega, by omega⟩
  | succ m ih =>
    intro i h
    by_cases h2 : w i = 32 ∨ w i = 10
    · rw [skp_s (by omega) h2]
      obtain ⟨i1, i2, i3⟩ := ih (i + 1) (by omega)
      exact ⟨by omega, i2, i3⟩
    · rw [skp_z (fun z => h2 z.2)]
      exact ⟨by omega, by omega, fun z => h2 z.2⟩
noncomputable def tE (w : Nat → Int) (n s : Nat) : Nat := if n ≤ s then s else if 97 ≤ w s ∧ w s ≤ 122 then rnn w n 97 122 s else if 48 ≤ w s ∧ w s ≤ 57 then rnn w n 48 57 s else s + 1
noncomputable def tC (w : Nat → Int) (n s : Nat) : Int := if n ≤ s then 0 else if 97 ≤ w s ∧ w s ≤ 122 then (if tE w n s - s ≤ 10 then 1 else 6) else if 48 ≤ w s ∧ w s ≤ 57 then 2 else if w s = 43 then 3 else if w s = 45 then 4 else if w s = 59 then 5 else 6
noncomputable def tR (w : Nat → Int) (n s : Nat) : Int := if n ≤ s then 0 else if 97 ≤ w s ∧ w s ≤ 122 then (if tE w n s - s ≤ 10 then 1 else 4) else if 48 ≤ w s ∧ w s ≤ 57 then 2 else if w s = 43 then 3 else if w s = 45 then 3 else if w s = 59 then 3 else 4
def pkF (f : Nat → Int) (s : Nat) : Nat → Int
  | 0 => 0
  | m + 1 => 32 * pkF f s m + (f (s + m) - 96)
def nvF (f : Nat → Int) (s : Nat) : Nat → Int
  | 0 => 0
  | m + 1 => if 100000 ≤ nvF f s m then nvF f s m else 10 * nvF f s m + f (s + m) - 48
theorem pkF_rng {f : Nat → Int} {s : Nat} : ∀ m, (∀ j, j < m → 97 ≤ f (s + j) ∧ f (s + j) ≤ 122) → 0 ≤ pkF f s m ∧ pkF f s m < 32 ^ m := by
  intro m
  induction m with
  | zero => intro _; exact ⟨Int.le_refl _, by show (0 : Int) < 32 ^ 0; decide⟩
  | succ m ih =>
    intro h
    obtain ⟨h1, h2⟩ := ih (fun j hj => h j (by omega))
    have := h m (by omega)
    show 0 ≤ 32 * pkF f s m + (f (s + m) - 96) ∧ 32 * pkF f s m + (f (s + m) - 96) < 32 ^ (m + 1)
    rw [Int.pow_succ]
    omega
theorem tE_rng {w : Nat → Int} {n s : Nat} (h : s ≤ n) : s ≤ tE w n s ∧ tE w n s ≤ n ∧ (s < n → s < tE w n s) := by
  unfold tE
  by_cases h0 : n ≤ s
  · rw [if_pos h0]; omega
  · rw [if_neg h0]
    by_cases h1 : 97 ≤ w s ∧ w s ≤ 122
    · rw [if_pos h1, rnn_s (by omega) h1]
      have := rnn_rng (w := w) (n := n) (lo := 97) (hi := 122) (n - (s + 1)) (s + 1) (by omega)
      omega
    · rw [if_neg h1]
      by_cases h2 : 48 ≤ w s ∧ w s ≤ 57
      · rw [if_pos h2, rnn_s (by omega) h2]
        have := rnn_rng (w := w) (n := n) (lo := 48) (hi := 57) (n - (s + 1)) (s + 1) (by omega)
        omega
      · rw [if_neg h2]; omega
def cT (σ : mSt) (w : Nat → Int) (n : Nat) : Prop := Lay σ ∧ σ 3 0 = ((1 : Nat) : Int) ∧ σ 3 1 = (n : Int) ∧ n ≤ 600 ∧ ∀ i, i < n → σ 1 i = w i ∧ -128 ≤ w i ∧ w i < 128
def cA (σ : mSt) (w : Nat → Int) (n s : Nat) : Prop := cT σ w n ∧ s ≤ n ∧ σ 3 2 = (s : Int) ∧ σ 3 3 = (tE w n s : Int) ∧ σ 3 4 = tC w n s
def tkW (i j : Nat) : Prop := i = 3 ∧ (j = 2 ∨ j = 3 ∨ j = 4)
theorem tkW_fix {i j : Nat} (h : tkW i j) : fixR i j = false := by
  obtain ⟨rfl, rfl | rfl | rfl⟩ := h <;> decide +kernel
theorem cT_fr {σ σ' : mSt} {w : Nat → Int} {n : Nat} (h : cT σ w n) (hf : frm tkW σ σ') : cT σ' w n := by
  obtain ⟨h1, h2, h3, h4, h5⟩ := h
  refine ⟨h1.frm hf (fun i j z => tkW_fix z), by rw [hf _ _ (by unfold tkW; omega)]; exact h2, by rw [hf _ _ (by unfold tkW; omega)]; exact h3, h4, fun i hi => ?_⟩
  rw [hf _ _ (by unfold tkW; omega)]
  exact h5 i hi
theorem letter_e {σ : mSt} {w : Nat → Int} {n i : Nat} (h : cT σ w n) (hi : i < n) : mX10_isLetter 3 (i : Int) σ = some (b2 (97 ≤ w i ∧ w i ≤ 122), σ) := by
  obtain ⟨h1, h2, h3, h4, h5⟩ := h
  obtain ⟨e, r1, r2⟩ := h5 i hi
  unfold mX10_isLetter
  rw [gc3, gr' h2 (by omega), gx1 _ (by omega), wI_nat (k := i) (by omega), e, wI_id (x := w i) (by omega)]
  by_cases c : w i < 97
  · rw [if_pos c, b2_f (by omega)]
    rfl
  · rw [if_neg c, gr' h2 (by omega), gx1 _ (by omega), e, wI_id (x := w i) (by omega)]
    by_cases d : 122 < w i
    · rw [if_pos d, b2_f (by omega)]
      rfl
    · rw [if_neg d, b2_t (by omega)]
theorem digit_e {σ : mSt} {w : Nat → Int} {n i : Nat} (h : cT σ w n) (hi : i < n) : mX10_isDigit 3 (i : Int) σ = some (b2 (48 ≤ w i ∧ w i ≤ 57), σ) := by
  obtain ⟨h1, h2, h3, h4, h5⟩ := h
  obtain ⟨e, r1, r2⟩ := h5 i hi
  unfold mX10_isDigit
  rw [gc3, gr' h2 (by omega), gx1 _ (by omega), wI_nat (k := i) (by omega), e, wI_id (x := w i) (by omega)]
  by_cases c : w i < 48
  · rw [if_pos c, b2_f (by omega)]
    rfl
  · rw [if_neg c, gr' h2 (by omega), gx1 _ (by omega), e, wI_id (x := w i) (by omega)]
    by_cases d : 57 < w i
    · rw [if_pos d, b2_f (by omega)]
      rfl
    · rw [if_neg d, b2_t (by omega)]
theorem trL10 {w : Nat → Int} {n : Nat} {v1 lo hi : Int} {x : mSt → Option (Int × mSt)} (hv : (v1 = 1 ∧ lo = 97 ∧ hi = 122) ∨ (v1 = 2 ∧ lo = 48 ∧ hi = 57)) : ∀ (m i N : Nat) (σ : mSt), i + m = n → m < N → cT σ w n → σ 3 3 = (i : Int) → mX10_takeRun_L10 3 v1 x N σ = x (upS σ 3 3 (rnn w n lo hi i)) := by
  intro m
  induction m with
  | zero =>
    intro i N σ h1 h2 h3 h4
    obtain ⟨N, rfl⟩ : ∃ z, N = z + 1 := ⟨N - 1, by omega⟩
    have n6 := h3.2.2.2.1
    rw [mX10_takeRun_L10.eq_2, h3.2.2.1, h4, if_pos (by rw [wI_id (x := (n : Int)) (by omega), wI_id (x := (i : Int)) (by omega)]; omega), rnn_z (by omega), up_same h4]
  | succ m ih =>
    intro i N σ h1 h2 h3 h4
    obtain ⟨N, rfl⟩ : ∃ z, N = z + 1 := ⟨N - 1, by omega⟩
    have n6 := h3.2.2.2.1
    have hin : i < n := by omega
    have go : (lo ≤ w i ∧ w i ≤ hi) → mX10_takeRun_L10 3 v1 x N (upS σ 3 3 ((i : Int) + 1)) = x (upS σ 3 3 (rnn w n lo hi i)) := fun q => by
      have f : frm tkW σ (upS σ 3 3 ((i : Int) + 1)) := frm.one ⟨rfl, by omega⟩
      have := ih (i + 1) N (upS σ 3 3 ((i : Int) + 1)) (by omega) (by omega) (cT_fr h3 f) (by rw [upS_same]; omega)
      rw [this, up2, ← rnn_s hin q]
    have st : mX10_takeRun_L10 3 v1 x (N + 1) σ = if lo ≤ w i ∧ w i ≤ hi then mX10_takeRun_L10 3 v1 x N (upS σ 3 3 ((i : Int) + 1)) else x σ := by
      rw [mX10_takeRun_L10.eq_2, h3.2.2.1, h4, if_neg (by rw [wI_id (x := (n : Int)) (by omega), wI_id (x := (i : Int)) (by omega)]; omega)]
      rcases hv with ⟨rfl, rfl, rfl⟩ | ⟨rfl, rfl, rfl⟩
      · rw [if_pos (by decide), letter_e h3 hin, mCall_some, h4]
        by_cases q : 97 ≤ w i ∧ w i ≤ 122
        · rw [b2_t q, if_neg (by decide), if_pos q, bnd_eq]
        · rw [b2_f q, if_pos (by decide), if_neg q]
      · rw [if_neg (by decide), digit_e h3 hin, mCall_some, h4]
        by_cases q : 48 ≤ w i ∧ w i ≤ 57
        · rw [b2_t q, if_neg (by decide), if_pos q, bnd_eq]
        · rw [b2_f q, if_pos (by decide), if_neg q]
    rw [st]
    by_cases q : lo ≤ w i ∧ w i ≤ hi
    · rw [if_pos q]
      exact go q
    · rw [if_neg q, rnn_z (fun z => q z.2), up_same h4]
theorem takeRun_e {σ : mSt} {w : Nat → Int} {n s : Nat} {v1 lo hi : Int} (hv : (v1 = 1 ∧ lo = 97 ∧ hi = 122) ∨ (v1 = 2 ∧ lo = 48 ∧ hi = 57)) (h : cT σ w n) (hs : s < n) (h2 : σ 3 2 = (s : Int)) (hw : lo ≤ w s ∧ w s ≤ hi) : ∃ σ', mX10_takeRun 3 v1 σ = some (0, σ') ∧ frm tkW σ σ' ∧ σ' 3 2 = (s : Int) ∧ σ' 3 3 = (rnn w n lo hi s : Int) ∧ σ' 3 4 = (if v1 = 1 ∧ ¬ rnn w n lo hi s - s ≤ 10 then 6 else v1) := by
  obtain ⟨σ1, h1⟩ : ∃ σ1, σ1 = upS σ 3 3 ((s : Int) + 1) := ⟨_, rfl⟩
  have f1 : frm tkW σ σ1 := by rw [h1]; exact frm.one ⟨rfl, by omega⟩
  have l10 := trL10 (w := w) (n := n) (x := fun zσ => mX10_takeRun_B64 3 v1 zσ) hv (n - (s + 1)) (s + 1) mF σ1 (by omega) (by have := h.2.2.2.1; unfold mF; omega) (cT_fr h f1) (by rw [h1, upS_same]; omega)
  rw [← rnn_s hs hw] at l10
  have rg := rnn_rng (w := w) (n := n) (lo := lo) (hi := hi) (n - s) s (by omega)
  obtain ⟨e, he⟩ : ∃ e, e = rnn w n lo hi s := ⟨_, rfl⟩
  rw [← he] at l10 rg ⊢
  have n6 := h.2.2.2.1
  obtain ⟨σ2, h22⟩ : ∃ σ2, σ2 = upS σ1 3 3 (e : Int) := ⟨_, rfl⟩
  rw [← h22] at l10
  have f2 : frm tkW σ σ2 := by rw [h22]; exact f1.put ⟨rfl, by omega⟩
  have q2 : σ2 3 2 = (s : Int) := by rw [h22, upS_ne (by omega), h1, upS_ne (by omega)]; exact h2
  have q3 : σ2 3 3 = (e : Int) := by rw [h22, upS_same]
  have head : ∀ o, mX10_takeRun_B64 3 v1 σ2 = o → mX10_takeRun 3 v1 σ = o := fun o z => by
    unfold mX10_takeRun
    rw [gc3, h2, bnd_eq, ← h1, l10]
    exact z
  have b89 : mX10_takeRun_B89 3 v1 3 σ2 = some (0, upS σ2 3 4 v1) := by
    unfold mX10_takeRun_B89
    rw [gc3, bnd_eq]
  have wd : wI ((e : Int) - (s : Int)) = (e : Int) - s := wI_id (x := (e : Int) - (s : Int)) (by omega)
  rcases hv with ⟨rfl, rfl, rfl⟩ | ⟨rfl, rfl, rfl⟩
  · by_cases c : e - s ≤ 10
    · refine ⟨upS σ2 3 4 1, head _ ?_, f2.put ⟨rfl, by omega⟩, by rw [upS_ne (by omega)]; exact q2, by rw [upS_ne (by omega)]; exact q3, by rw [upS_same, if_neg (fun z => z.2 c)]⟩
      unfold mX10_takeRun_B64
      rw [if_pos (by decide), q2, q3, wd, if_pos (by omega), b89]
    · refine ⟨upS σ2 3 4 6, head _ ?_, f2.put ⟨rfl, by omega⟩, by rw [upS_ne (by omega)]; exact q2, by rw [upS_ne (by omega)]; exact q3, by rw [upS_same, if_pos ⟨rfl, c⟩]⟩
      unfold mX10_takeRun_B64
      rw [if_pos (by decide), q2, q3, wd, if_neg (by omega), bnd_eq]
  · refine ⟨upS σ2 3 4 2, head _ ?_, f2.put ⟨rfl, by omega⟩, by rw [upS_ne (by omega)]; exact q2, by rw [upS_ne (by omega)]; exact q3, by rw [upS_same, if_neg (fun z => by omega)]⟩
    unfold mX10_takeRun_B64
    rw [if_neg (by decide), b89]
theorem stepL8c {w : Nat → Int} {n : Nat} {x : mSt → Option (Int × mSt)} : ∀ (m i N : Nat) (σ : mSt), i + m = n → m < N → cT σ w n → σ 3 2 = (i : Int) → mX10_step_L8 3 x N σ = x (upS σ 3 2 (skp w n i)) := by
  intro m
  induction m with
  | zero =>
    intro i N σ h1 h2 h3 h4
    obtain ⟨N, rfl⟩ : ∃ z, N = z + 1 := ⟨N - 1, by omega⟩
    have n6 := h3.2.2.2.1
    rw [mX10_step_L8.eq_2, h3.2.2.1, h4, if_pos (by rw [wI_id (x := (n : Int)) (by omega), wI_id (x := (i : Int)) (by omega)]; omega), skp_z (by omega), up_same h4]
  | succ m ih =>
    intro i N σ h1 h2 h3 h4
    obtain ⟨N, rfl⟩ : ∃ z, N = z + 1 := ⟨N - 1, by omega⟩
    have n6 := h3.2.2.2.1
    have hin : i < n := by omega
    obtain ⟨e, r1, r2⟩ := h3.2.2.2.2 i hin
    have go : (w i = 32 ∨ w i = 10) → mX10_step_L8 3 x N (upS σ 3 2 ((i : Int) + 1)) = x (upS σ 3 2 (skp w n i)) := fun q => by
      have f : frm tkW σ (upS σ 3 2 ((i : Int) + 1)) := frm.one ⟨rfl, by omega⟩
      have := ih (i + 1) N (upS σ 3 2 ((i : Int) + 1)) (by omega) (by omega) (cT_fr h3 f) (by rw [upS_same]; omega)
      rw [this, up2, ← skp_s hin q]
    rw [mX10_step_L8.eq_2, h3.2.2.1, h4, if_neg (by rw [wI_id (x := (n : Int)) (by omega), wI_id (x := (i : Int)) (by omega)]; omega), gr' h3.2.1 (by omega), gx1 _ (by omega), wI_nat (k := i) (by omega), e, wI_id (x := w i) (by omega)]
    by_cases q1 : w i = 32
    · rw [if_pos q1, bnd_eq]
      exact go (Or.inl q1)
    · rw [if_neg q1, gr' h3.2.1 (by omega), gx1 _ (by omega), e, wI_id (x := w i) (by omega)]
      by_cases q2 : w i = 10
      · rw [if_pos q2, bnd_eq]
        exact go (Or.inr q2)
      · rw [if_neg q2, skp_z (fun z => z.2.elim q1 q2), up_same h4]
theorem step_tc {σ : mSt} {w : Nat → Int} {n e : Nat} (h : cT σ w n) (he : e ≤ n) (h3 : σ 3 3 = (e : Int)) : ∃ σ', mX10_step 3 σ = some (0, σ') ∧ frm tkW σ σ' ∧ cA σ' w n (skp w n e) := by
  obtain ⟨σ1, h1⟩ : ∃ σ1, σ1 = upS σ 3 2 (e : Int) := ⟨_, rfl⟩
  have f1 : frm tkW σ σ1 := by rw [h1]; exact frm.one ⟨rfl, by omega⟩
  have n6 := h.2.2.2.1
  have l8 := stepL8c (w := w) (n := n) (x := fun zσ => mX10_step_B60 3 zσ) (n - e) e mF σ1 (by omega) (by unfold mF; omega) (cT_fr h f1) (by rw [h1, upS_same])
  obtain ⟨s, hs⟩ : ∃ s, s = skp w n e := ⟨_, rfl⟩
  have sr := skp_rng (w := w) (n := n) (n - e) e (by omega)
  rw [← hs] at l8 sr ⊢
  obtain ⟨σ2, h22⟩ : ∃ σ2, σ2 = upS σ1 3 2 (s : Int) := ⟨_, rfl⟩
  rw [← h22] at l8
  have f2 : frm tkW σ σ2 := by rw [h22]; exact f1.put ⟨rfl, by omega⟩
  have T2 := cT_fr h f2
  have q2 : σ2 3 2 = (s : Int) := by rw [h22, upS_same]
  have head : ∀ o, mX10_step_B60 3 σ2 = o → mX10_step 3 σ = o := fun o z => by
    unfold mX10_step
    rw [gc3, h3, bnd_eq, ← h1, l8]
    exact z
  by_cases c0 : n ≤ s
  · have te : tE w n s = s := by unfold tE; rw [if_pos c0]
    have tc : tC w n s = 0 := by unfold tC; rw [if_pos c0]
    have f3 : frm tkW σ (upS (upS σ2 3 4 0) 3 3 (s : Int)) := (f2.put ⟨rfl, by omega⟩).put ⟨rfl, by omega⟩
    refine ⟨_, head _ ?_, f3, cT_fr h f3, sr.2.1, by rw [upS_ne (by omega), upS_ne (by omega)]; exact q2, by rw [upS_same, te], by rw [upS_ne (by omega), upS_same, tc]⟩
    unfold mX10_step_B60
    rw [q2, T2.2.2.1, if_neg (by rw [wI_id (x := (n : Int)) (by omega), wI_id (x := (s : Int)) (by omega)]; omega), bnd_eq, bnd_eq, upS_ne (by omega), q2]
  · have sn : s < n := by omega
    obtain ⟨eb, r1, r2⟩ := T2.2.2.2.2 s sn
    have hd2 : ∀ o, (mCall (mX10_isLetter 3 (s : Int) σ2) fun b2 s3 => if wI b2 = 0 then (mCall (mX10_isDigit 3 (s3 3 2) s3) fun b6 s7 => if wI b6 = 0 then (mRef (s7 3 0) fun r10 => mG (ixOK r10 22 (s7 3 2)) <| mCall (mX10_signKind 3 (s7 r10 (wI (s7 3 2)).toNat) s7) fun b13 s14 => bnd (upS s14 3 4 b13) fun s16 => bnd (upS s16 3 3 ((s16 3 2) + 1)) fun s18 => some ((0 : Int), s18)) else mCall (mX10_takeRun 3 2 s7) fun b20 s21 => some (0, s21)) else mCall (mX10_takeRun 3 1 s3) fun b23 s24 => some (0, s24)) = o → mX10_step_B60 3 σ2 = o := fun o z => by
      unfold mX10_step_B60
      rw [q2, T2.2.2.1, if_pos (by rw [wI_id (x := (n : Int)) (by omega), wI_id (x := (s : Int)) (by omega)]; omega)]
      exact z
    by_cases c1 : 97 ≤ w s ∧ w s ≤ 122
    · obtain ⟨σ3, t1, t2, t3, t4, t5⟩ := takeRun_e (Or.inl ⟨rfl, rfl, rfl⟩) T2 sn q2 c1
      have te : tE w n s = rnn w n 97 122 s := by unfold tE; rw [if_neg c0, if_pos c1]
      have tc : tC w n s = if tE w n s - s ≤ 10 then 1 else 6 := by unfold tC; rw [if_neg c0, if_pos c1]
      have f3 := f2.tr t2 (fun i j z => z)
      refine ⟨σ3, head _ (hd2 _ ?_), f3, cT_fr h f3, sr.2.1, t3, by rw [t4, te], ?_⟩
      · rw [letter_e T2 sn, mCall_some, b2_t c1, if_neg (by decide), t1, mCall_some]
      · rw [t5, tc, te]
        by_cases q : rnn w n 97 122 s - s ≤ 10
        · rw [if_pos q, if_neg (fun z => z.2 q)]
        · rw [if_neg q, if_pos ⟨rfl, q⟩]
    · by_cases c2 : 48 ≤ w s ∧ w s ≤ 57
      · obtain ⟨σ3, t1, t2, t3, t4, t5⟩ := takeRun_e (Or.inr ⟨rfl, rfl, rfl⟩) T2 sn q2 c2
        have te : tE w n s = rnn w n 48 57 s := by unfold tE; rw [if_neg c0, if_neg c1, if_pos c2]
        have tc : tC w n s = 2 := by unfold tC; rw [if_neg c0, if_neg c1, if_pos c2]
        have f3 := f2.tr t2 (fun i j z => z)
        refine ⟨σ3, head _ (hd2 _ ?_), f3, cT_fr h f3, sr.2.1, t3, by rw [t4, te], by rw [t5, tc, if_neg (fun z => by omega)]⟩
        rw [letter_e T2 sn, mCall_some, b2_f c1, if_pos (by decide), q2, digit_e T2 sn, mCall_some, b2_t c2, if_neg (by decide), t1, mCall_some]
      · have te : tE w n s = s + 1 := by unfold tE; rw [if_neg c0, if_neg c1, if_neg c2]
        have sk : mX10_signKind 3 (w s) σ2 = some (tC w n s, σ2) := by
          unfold mX10_signKind tC
          rw [gc3, if_neg c0, if_neg c1, if_neg c2, wI_id (x := w s) (by omega)]
          by_cases k1 : w s = 43
          · rw [if_pos k1, if_pos k1]
          · rw [if_neg k1, if_neg k1]
            by_cases k2 : w s = 45
            · rw [if_pos k2, if_pos k2]
            · rw [if_neg k2, if_neg k2]
              by_cases k3 : w s = 59
              · rw [if_pos k3, if_pos k3]
              · rw [if_neg k3, if_neg k3]
        have f3 : frm tkW σ (upS (upS σ2 3 4 (tC w n s)) 3 3 ((s : Int) + 1)) := (f2.put ⟨rfl, by omega⟩).put ⟨rfl, by omega⟩
        refine ⟨_, head _ (hd2 _ ?_), f3, cT_fr h f3, sr.2.1, by rw [upS_ne (by omega), upS_ne (by omega)]; exact q2, by rw [upS_same, te]; omega, by rw [upS_ne (by omega), upS_same]⟩
        rw [letter_e T2 sn, mCall_some, b2_f c1, if_pos (by decide), q2, digit_e T2 sn, mCall_some, b2_f c2, if_pos (by decide), gr' T2.2.1 (by omega), q2, gx1 _ (by omega), wI_nat (k := s) (by omega), eb, sk, mCall_some, bnd_eq, upS_ne (by omega), q2, bnd_eq]

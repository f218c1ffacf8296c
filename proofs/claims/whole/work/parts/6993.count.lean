/-! how many of a NORM: sums over whole numbers between two -/
noncomputable def sR (f : Int → Int) (lo hi : Int) : Int := sumN (fun i => f (lo + i)) (hi + 1 - lo).toNat
theorem sumN_front (f : Nat → Int) : ∀ n, sumN f (n + 1) = f 0 + sumN (fun i => f (i + 1)) n := by
  intro n
  induction n with
  | zero => show sumN f 0 + f 0 = f 0 + 0; show 0 + f 0 = f 0 + 0; omega
  | succ n ih =>
    show sumN f (n + 1) + f (n + 1) = f 0 + (sumN (fun i => f (i + 1)) n + f (n + 1))
    rw [ih]
    omega
theorem sR_empty (f : Int → Int) {lo hi : Int} (h : hi < lo) : sR f lo hi = 0 := by
  unfold sR
  rw [show (hi + 1 - lo).toNat = 0 by omega]
  rfl
theorem sR_lo (f : Int → Int) {lo hi : Int} (h : lo ≤ hi) : sR f lo hi = f lo + sR f (lo + 1) hi := by
  unfold sR
  obtain ⟨n, hn⟩ : ∃ n : Nat, (hi + 1 - lo).toNat = n + 1 := ⟨(hi - lo).toNat, by omega⟩
  rw [hn, sumN_front, show (hi + 1 - (lo + 1)).toNat = n by omega]
  have e : (fun i : Nat => f (lo + ((i + 1 : Nat) : Int))) = fun i : Nat => f (lo + 1 + (i : Int)) := by
    funext i
    rw [show lo + ((i + 1 : Nat) : Int) = lo + 1 + (i : Int) by omega]
  rw [e, show lo + ((0 : Nat) : Int) = lo by omega]
theorem sR_hi (f : Int → Int) {lo hi : Int} (h : lo ≤ hi) : sR f lo hi = sR f lo (hi - 1) + f hi := by
  unfold sR
  obtain ⟨n, hn⟩ : ∃ n : Nat, (hi + 1 - lo).toNat = n + 1 := ⟨(hi - lo).toNat, by omega⟩
  rw [hn, show (hi - 1 + 1 - lo).toNat = n by omega]
  show sumN (fun i => f (lo + i)) n + f (lo + (n : Int)) = _
  rw [show lo + (n : Int) = hi by omega]
theorem sR_congr {f g : Int → Int} {lo hi : Int} (h : ∀ k, lo ≤ k → k ≤ hi → f k = g k) : sR f lo hi = sR g lo hi := by
  have key : ∀ (n : Nat) (lo : Int), (hi + 1 - lo).toNat = n → (∀ k, lo ≤ k → k ≤ hi → f k = g k) → sR f lo hi = sR g lo hi := by
    intro n
    induction n with
    | zero =>
      intro lo hn _
      rw [sR_empty f (by omega), sR_empty g (by omega)]
    | succ n ih =>
      intro lo hn h
      rw [sR_lo f (by omega), sR_lo g (by omega), h lo (by omega) (by omega), ih (lo + 1) (by omega) (fun k h1 h2 => h k (by omega) h2)]
  exact key _ lo rfl h
theorem sR_add (f g : Int → Int) (lo hi : Int) : sR (fun k => f k + g k) lo hi = sR f lo hi + sR g lo hi := by
  have key : ∀ (n : Nat) (lo : Int), (hi + 1 - lo).toNat = n → sR (fun k => f k + g k) lo hi = sR f lo hi + sR g lo hi := by
    intro n
    induction n with
    | zero =>
      intro lo hn
      rw [sR_empty _ (by omega), sR_empty _ (by omega), sR_empty _ (by omega)]
      rfl
    | succ n ih =>
      intro lo hn
      rw [sR_lo _ (by omega), sR_lo f (by omega), sR_lo g (by omega), ih (lo + 1) (by omega)]
      omega
  exact key _ lo rfl
theorem sR_zero {f : Int → Int} {lo hi : Int} (h : ∀ k, lo ≤ k → k ≤ hi → f k = 0) : sR f lo hi = 0 := by
  have key : ∀ (n : Nat) (lo : Int), (hi + 1 - lo).toNat = n → (∀ k, lo ≤ k → k ≤ hi → f k = 0) → sR f lo hi = 0 := by
    intro n
    induction n with
    | zero =>
      intro lo hn _
      exact sR_empty f (by omega)
    | succ n ih =>
      intro lo hn h
      rw [sR_lo f (by omega), h lo (by omega) (by omega), ih (lo + 1) (by omega) (fun k h1 h2 => h k (by omega) h2)]
      rfl
  exact key _ lo rfl h
theorem sR_one {q : Int} {lo hi : Int} : sR (fun k => if k = q then 1 else 0) lo hi = if lo ≤ q ∧ q ≤ hi then 1 else 0 := by
  have key : ∀ (n : Nat) (lo : Int), (hi + 1 - lo).toNat = n → sR (fun k => if k = q then 1 else 0) lo hi = if lo ≤ q ∧ q ≤ hi then 1 else 0 := by
    intro n
    induction n with
    | zero =>
      intro lo hn
      rw [sR_empty _ (by omega), if_neg (by omega)]
    | succ n ih =>
      intro lo hn
      rw [sR_lo _ (by omega), ih (lo + 1) (by omega)]
      by_cases h : lo = q
      · rw [if_pos h, if_neg (by omega), if_pos (by omega)]
        rfl
      · rw [if_neg h]
        by_cases h2 : lo + 1 ≤ q ∧ q ≤ hi
        · rw [if_pos h2, if_pos (by omega)]
          rfl
        · rw [if_neg h2, if_neg (by omega)]
          rfl
  exact key _ lo rfl
/-- the root, brought down -/
noncomputable def fsq (n : Int) : Int := @dite Int (∃ r : Int, 0 ≤ r ∧ r * r ≤ n ∧ n < (r + 1) * (r + 1)) (Classical.propDecidable _) (fun h => Classical.choose h) (fun _ => 0)
theorem fsq_t {n r : Int} (hr : 0 ≤ r) (h1 : r * r ≤ n) (h2 : n < (r + 1) * (r + 1)) : fsq n = r := by
  have hx : ∃ r : Int, 0 ≤ r ∧ r * r ≤ n ∧ n < (r + 1) * (r + 1) := ⟨r, hr, h1, h2⟩
  have hc := Classical.choose_spec hx
  unfold fsq
  rw [dif_pos hx]
  obtain ⟨a, b, c⟩ := hc
  generalize Classical.choose hx = s at a b c ⊢
  rcases Int.lt_trichotomy s r with h | h | h
  · have := sq_mono (show 0 ≤ s + 1 by omega) (show s + 1 ≤ r by omega)
    omega
  · exact h
  · have := sq_mono (show 0 ≤ r + 1 by omega) (show r + 1 ≤ s by omega)
    omega
theorem root_f {n : Int} {σ : mSt} (hn : 0 ≤ n ∧ n < 1152921504606846976) : mX5_root n σ = some (fsq n, σ) ∧ 0 ≤ fsq n ∧ fsq n * fsq n ≤ n ∧ n < (fsq n + 1) * (fsq n + 1) := by
  obtain ⟨r, e, r0, r1, r2⟩ := root_e (σ := σ) (n := n) (by omega)
  obtain ⟨a, b⟩ := r1 hn.1
  have ef := fsq_t r0 a b
  rw [ef]
  exact ⟨e, r0, a, b⟩
theorem fsq_p {n : Int} (hn : 0 ≤ n ∧ n < 1152921504606846976) : 0 ≤ fsq n ∧ fsq n * fsq n ≤ n ∧ n < (fsq n + 1) * (fsq n + 1) := (root_f (σ := mS0) hn).2
theorem fsq_le {n m : Int} (hn : 0 ≤ n ∧ n < 1152921504606846976) (hm : 0 ≤ m) (h : n ≤ m * m) : fsq n ≤ m := by
  obtain ⟨a, b, c⟩ := fsq_p hn
  rcases Int.lt_or_le m (fsq n) with h1 | h1
  · have := sq_lt hm h1
    omega
  · exact h1
def loK (m t d : Int) : Int := -((m + t) / d)
def hiK (m t d : Int) : Int := (m - t) / d
theorem hiK_iff {m t d k : Int} (hd : 0 < d) : k ≤ hiK m t d ↔ t + k * d ≤ m := by
  unfold hiK
  rw [Int.le_ediv_iff_mul_le hd]
  omega
theorem loK_iff {m t d k : Int} (hd : 0 < d) : loK m t d ≤ k ↔ -m ≤ t + k * d := by
  unfold loK
  have : -k ≤ (m + t) / d ↔ -k * d ≤ m + t := Int.le_ediv_iff_mul_le hd
  rw [Int.neg_mul] at this
  constructor
  · intro h
    have := this.mp (by omega)
    omega
  · intro h
    have := this.mpr (by omega)
    omega
noncomputable def cF3 (C d3 left t3 : Int) : Int := sR (fun k => if left - C * ((t3 + k * d3) * (t3 + k * d3)) = 0 then 1 else 0) (loK (fsq (left / C)) t3 d3) (hiK (fsq (left / C)) t3 d3)
noncomputable def cF2 (E : Nat → V4) (B C left t2 t3 : Int) : Int := sR (fun k => cF3 C (vg 3 (E 3)) (left - B * ((t2 + k * vg 2 (E 2)) * (t2 + k * vg 2 (E 2)))) (t3 + k * vg 3 (E 2))) (loK (fsq (left / B)) t2 (vg 2 (E 2))) (hiK (fsq (left / B)) t2 (vg 2 (E 2)))
noncomputable def cF1 (E : Nat → V4) (A B C left t1 t2 t3 : Int) : Int := sR (fun k => cF2 E B C (left - A * ((t1 + k * vg 1 (E 1)) * (t1 + k * vg 1 (E 1)))) (t2 + k * vg 2 (E 1)) (t3 + k * vg 3 (E 1))) (loK (fsq (left / A)) t1 (vg 1 (E 1))) (hiK (fsq (left / A)) t1 (vg 1 (E 1)))
noncomputable def cF0 (E : Nat → V4) (A B C left : Int) : Int := sR (fun k => cF1 E A B C (left - (k * vg 0 (E 0)) * (k * vg 0 (E 0))) (k * vg 1 (E 0)) (k * vg 2 (E 0)) (k * vg 3 (E 0))) (loK (fsq left) 0 (vg 0 (E 0))) (hiK (fsq left) 0 (vg 0 (E 0)))
/-- a number between: what is left is 0 or more -/
theorem left_ok {by1 left v m : Int} (hb : 0 < by1) (hl : 0 ≤ left ∧ left < 1152921504606846976) (hm : m = fsq (left / by1)) (h1 : -m ≤ v) (h2 : v ≤ m) : 0 ≤ left - by1 * (v * v) ∧ left - by1 * (v * v) ≤ left := by
  have q0 : 0 ≤ left / by1 := Int.ediv_nonneg hl.1 (by omega)
  have q1 : left / by1 ≤ left := Int.ediv_le_self _ hl.1
  obtain ⟨a, b, c⟩ := fsq_p (n := left / by1) ⟨q0, by omega⟩
  rw [← hm] at a b c
  have hv : v * v ≤ m * m := by
    have := mul_rng (x := v) (y := v) (A := m) (B := m) ⟨h1, h2⟩ ⟨h1, h2⟩ a
    omega
  have hv0 : 0 ≤ v * v := by
    by_cases h : 0 ≤ v
    · exact Int.mul_nonneg h h
    · have := Int.mul_nonneg (show 0 ≤ -v by omega) (show 0 ≤ -v by omega)
      rw [Int.neg_mul, Int.mul_neg, Int.neg_neg] at this
      exact this
  have h3 := Int.mul_le_mul_of_nonneg_left (show v * v ≤ left / by1 by omega) (show 0 ≤ by1 by omega)
  have h4 := Int.mul_ediv_add_emod left by1
  have h5 := Int.emod_nonneg left (show by1 ≠ 0 by omega)
  have h6 := Int.mul_nonneg (show 0 ≤ by1 by omega) hv0
  omega
theorem one_sum {v t d m : Int} (hd : 0 < d) (h1 : -m ≤ v) (h2 : v ≤ m) : sR (fun k => if t + k * d = v then 1 else 0) (loK m t d) (hiK m t d) = if d ∣ v - t then 1 else 0 := by
  by_cases h : d ∣ v - t
  · obtain ⟨q, hq⟩ := h
    have e : sR (fun k => if t + k * d = v then 1 else 0) (loK m t d) (hiK m t d) = sR (fun k => if k = q then 1 else 0) (loK m t d) (hiK m t d) := sR_congr (fun k _ _ => by
      have : t + k * d = v ↔ k = q := by
        constructor
        · intro hk
          refine Int.eq_of_mul_eq_mul_right (show d ≠ 0 by omega) ?_
          rw [Int.mul_comm q d, ← hq]
          omega
        · intro hk
          rw [hk, Int.mul_comm]
          omega
      by_cases hk : k = q
      · rw [if_pos (this.mpr hk), if_pos hk]
      · rw [if_neg (fun z => hk (this.mp z)), if_neg hk])
    have hqd : t + q * d = v := by rw [Int.mul_comm]; omega
    rw [e, sR_one, if_pos ⟨(loK_iff hd).mpr (by omega), (hiK_iff hd).mpr (by omega)⟩, if_pos ⟨q, hq⟩]
  · rw [if_neg h]
    refine sR_zero (fun k _ _ => if_neg (fun z => h ⟨k, ?_⟩))
    rw [Int.mul_comm]
    omega
/-- the class's way for the last number -/
theorem cF3_c {C d left t : Int} (hC : 0 < C) (hd : 0 < d) (hl : 0 ≤ left ∧ left < 1152921504606846976) : cF3 C d left t = if C ∣ left ∧ fsq (left / C) * fsq (left / C) = left / C then (if d ∣ fsq (left / C) - t then 1 else 0) + (if fsq (left / C) ≠ 0 ∧ d ∣ -(fsq (left / C)) - t then 1 else 0) else 0 := by
  have q0 : 0 ≤ left / C := Int.ediv_nonneg hl.1 (by omega)
  have q1 : left / C ≤ left := Int.ediv_le_self _ hl.1
  obtain ⟨a, b, c⟩ := fsq_p (n := left / C) ⟨q0, by omega⟩
  obtain ⟨m, hm⟩ : ∃ m, m = fsq (left / C) := ⟨_, rfl⟩
  unfold cF3
  rw [← hm] at a b c ⊢
  by_cases h : C ∣ left ∧ m * m = left / C
  · obtain ⟨hdv, hmm⟩ := h
    rw [if_pos ⟨hdv, hmm⟩]
    have eC : C * (m * m) = left := by rw [hmm, Int.mul_ediv_cancel' hdv]
    have iff1 : ∀ v, left - C * (v * v) = 0 ↔ (v = m ∨ v = -m) := by
      intro v
      constructor
      · intro hv
        have e : v * v = m * m := Int.eq_of_mul_eq_mul_left (show C ≠ 0 by omega) (by omega)
        by_cases h0 : 0 ≤ v
        · exact Or.inl (sq_inj h0 a e)
        · refine Or.inr ?_
          have := sq_inj (r := -v) (t := m) (by omega) a (by rw [Int.neg_mul, Int.mul_neg, Int.neg_neg]; exact e)
          omega
      · rintro (h | h)
        · rw [h]; omega
        · rw [h, show -m * -m = m * m by rw [Int.neg_mul, Int.mul_neg, Int.neg_neg]]; omega
    by_cases m0 : m = 0
    · have e : sR (fun k => if left - C * ((t + k * d) * (t + k * d)) = 0 then (1 : Int) else 0) (loK m t d) (hiK m t d) = sR (fun k => if t + k * d = m then 1 else 0) (loK m t d) (hiK m t d) := sR_congr (fun k _ _ => by
        by_cases hk : t + k * d = m
        · rw [if_pos ((iff1 _).mpr (Or.inl hk)), if_pos hk]
        · rw [if_neg (fun z => by rcases (iff1 _).mp z with q | q <;> omega), if_neg hk])
      rw [e, one_sum hd (by omega) (by omega), if_neg (show ¬ (m ≠ 0 ∧ d ∣ -m - t) from fun z => z.1 m0), Int.add_zero]
    · have e : sR (fun k => if left - C * ((t + k * d) * (t + k * d)) = 0 then (1 : Int) else 0) (loK m t d) (hiK m t d) = sR (fun k => (if t + k * d = m then (1 : Int) else 0) + (if t + k * d = -m then 1 else 0)) (loK m t d) (hiK m t d) := sR_congr (fun k _ _ => by
        by_cases hk : t + k * d = m
        · rw [if_pos ((iff1 _).mpr (Or.inl hk)), if_pos hk, if_neg (by omega)]
          rfl
        · by_cases hk2 : t + k * d = -m
          · rw [if_pos ((iff1 _).mpr (Or.inr hk2)), if_neg hk, if_pos hk2]
            rfl
          · rw [if_neg (fun z => ((iff1 _).mp z).elim hk hk2), if_neg hk, if_neg hk2]
            rfl)
      rw [e, sR_add, one_sum hd (by omega) (by omega), one_sum hd (by omega) (by omega)]
      by_cases h3 : d ∣ -m - t
      · rw [if_pos h3, if_pos (show m ≠ 0 ∧ d ∣ -m - t from ⟨m0, h3⟩)]
      · rw [if_neg h3, if_neg (show ¬ (m ≠ 0 ∧ d ∣ -m - t) from fun z => h3 z.2)]
  · rw [if_neg h]
    refine sR_zero (fun k h1 h2 => if_neg (fun z => h ?_))
    have eq : left = C * ((t + k * d) * (t + k * d)) := by omega
    have hv := (loK_iff hd).mp h1
    have hv2 := (hiK_iff hd).mp h2
    have dv : C ∣ left := ⟨_, eq⟩
    have e2 : left / C = (t + k * d) * (t + k * d) := by rw [eq, Int.mul_ediv_cancel_left _ (by omega)]
    refine ⟨dv, ?_⟩
    have h3 : (t + k * d) * (t + k * d) ≤ m * m := by
      have := mul_rng (x := t + k * d) (y := t + k * d) (A := m) (B := m) ⟨hv, hv2⟩ ⟨hv, hv2⟩ a
      omega
    omega

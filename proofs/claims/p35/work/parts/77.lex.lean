/-! TOKENS of a text that is given -/
def LX (T : List Nat) (w : Nat → Int) : Prop := ∀ i, i < T.length → w i = ((T.getD i 0 : Nat) : Int)
def At (T : List Nat) (s : Nat) (u : List Nat) : Prop := T.drop s = u ∧ s + u.length = T.length
theorem At.tail {T : List Nat} {s c : Nat} {u : List Nat} (h : At T s (c :: u)) : At T (s + 1) u := by
  obtain ⟨h1, h2⟩ := h
  refine ⟨?_, by rw [List.length_cons] at h2; omega⟩
  rw [← List.drop_drop, h1]
  rfl
theorem At.app {T : List Nat} : ∀ (ls : List Nat) {s : Nat} {u : List Nat}, At T s (ls ++ u) → At T (s + ls.length) u
  | [], s, u, h => h
  | c :: ls, s, u, h => by
    have := At.app ls (h : At T s (c :: (ls ++ u))).tail
    rw [show s + 1 + ls.length = s + (c :: ls).length by rw [List.length_cons]; omega] at this
    exact this
theorem At.lt {T : List Nat} {s c : Nat} {u : List Nat} (h : At T s (c :: u)) : s < T.length := by
  have := h.2
  rw [List.length_cons] at this
  omega
theorem At.hd {T : List Nat} {w : Nat → Int} (hw : LX T w) {s c : Nat} {u : List Nat} (h : At T s (c :: u)) : w s = (c : Int) := by
  rw [hw s h.lt]
  have : T.getD s 0 = c := by
    rw [List.getD_eq_getElem?_getD, ← Nat.add_zero s, ← List.getElem?_drop, h.1]
    rfl
  rw [this]
theorem At.get {T : List Nat} {w : Nat → Int} (hw : LX T w) : ∀ (ls : List Nat) {s : Nat} {u : List Nat}, At T s (ls ++ u) → ∀ j, j < ls.length → w (s + j) = ((ls.getD j 0 : Nat) : Int)
  | [], s, u, h, j, hj => absurd hj (Nat.not_lt_zero _)
  | c :: ls, s, u, h, 0, _ => (h : At T s (c :: (ls ++ u))).hd hw
  | c :: ls, s, u, h, j + 1, hj => by
    have := At.get hw ls (h : At T s (c :: (ls ++ u))).tail j (by rw [List.length_cons] at hj; omega)
    rw [show s + (j + 1) = s + 1 + j by omega, this]
    rfl
def nsp (u : List Nat) : Prop := ∀ c ∈ u.head?, c ≠ 32 ∧ c ≠ 10
theorem skp_at {T : List Nat} {w : Nat → Int} (hw : LX T w) {s : Nat} {u : List Nat} (h : At T s u) (hn : nsp u) : skp w T.length s = s := by
  refine skp_z (fun z => ?_)
  cases u with
  | nil => have := h.2; rw [List.length_nil] at this; omega
  | cons c u =>
    have e := h.hd hw
    have := hn c rfl
    omega
theorem skp_sp {T : List Nat} {w : Nat → Int} (hw : LX T w) {s : Nat} {u : List Nat} (h : At T s (32 :: u)) (hn : nsp u) : skp w T.length s = s + 1 := by
  rw [skp_s h.lt (Or.inl (h.hd hw))]
  exact skp_at hw h.tail hn
def stp (lo hi : Nat) (u : List Nat) : Prop := ∀ c ∈ u.head?, ¬ (lo ≤ c ∧ c ≤ hi)
theorem rnn_at {T : List Nat} {w : Nat → Int} (hw : LX T w) {lo hi : Nat} {u : List Nat} (hu : stp lo hi u) : ∀ (ls : List Nat) {s : Nat}, At T s (ls ++ u) → (∀ c ∈ ls, lo ≤ c ∧ c ≤ hi) → rnn w T.length lo hi s = s + ls.length
  | [], s, h, _ => by
    refine rnn_z (fun z => ?_)
    cases u with
    | nil => have := h.2; rw [List.nil_append, List.length_nil] at this; omega
    | cons c u =>
      have e := (h : At T s (c :: u)).hd hw
      have := hu c rfl
      omega
  | c :: ls, s, h, hl => by
    have h' : At T s (c :: (ls ++ u)) := h
    have e := h'.hd hw
    have hc := hl c (List.mem_cons_self)
    rw [rnn_s h'.lt (by omega), rnn_at hw hu ls h'.tail (fun c hc => hl c (List.mem_cons_of_mem _ hc)), List.length_cons]
    omega
def lv (ls : List Nat) (j : Nat) : Int := ((ls.getD j 0 : Nat) : Int)
theorem pkF_cg {f g : Nat → Int} {s t : Nat} : ∀ m : Nat, (∀ j, j < m → f (s + j) = g (t + j)) → pkF f s m = pkF g t m
  | 0, _ => rfl
  | m + 1, h => by
    show 32 * pkF f s m + (f (s + m) - 96) = 32 * pkF g t m + (g (t + m) - 96)
    rw [pkF_cg m (fun j hj => h j (by omega)), h m (by omega)]
theorem nvF_cg {f g : Nat → Int} {s t : Nat} : ∀ m : Nat, (∀ j, j < m → f (s + j) = g (t + j)) → nvF f s m = nvF g t m
  | 0, _ => rfl
  | m + 1, h => by
    show (if 100000 ≤ nvF f s m then nvF f s m else 10 * nvF f s m + f (s + m) - 48) = (if 100000 ≤ nvF g t m then nvF g t m else 10 * nvF g t m + g (t + m) - 48)
    rw [nvF_cg m (fun j hj => h j (by omega)), h m (by omega)]
/-- a word -/
theorem word_t {T : List Nat} {w : Nat → Int} (hw : LX T w) {s : Nat} {ls u : List Nat} (h : At T s (ls ++ u)) (h0 : ls ≠ []) (h10 : ls.length ≤ 10) (hl : ∀ c ∈ ls, 97 ≤ c ∧ c ≤ 122) (hu : stp 97 122 u) :
    tE w T.length s = s + ls.length ∧ tC w T.length s = 1 ∧ tR w T.length s = 1 ∧ nmW w T.length s = pkF (lv ls) 0 ls.length := by
  obtain ⟨c, l, rfl⟩ : ∃ c l, ls = c :: l := by cases ls with | nil => exact absurd rfl h0 | cons c l => exact ⟨c, l, rfl⟩
  have h' : At T s (c :: (l ++ u)) := h
  have e := h'.hd hw
  have hc := hl c (List.mem_cons_self)
  have hr := rnn_at hw (lo := 97) (hi := 122) hu (c :: l) h hl
  have hlt := h'.lt
  have e1 : tE w T.length s = s + (c :: l).length := by
    unfold tE
    rw [if_neg (by omega), if_pos (by omega)]
    exact hr
  refine ⟨e1, ?_, ?_, ?_⟩
  · unfold tC
    rw [if_neg (by omega), if_pos (by omega), if_pos (by rw [e1]; omega)]
  · unfold tR
    rw [if_neg (by omega), if_pos (by omega), if_pos (by rw [e1]; omega)]
  · unfold nmW
    rw [e1, show s + (c :: l).length - s = (c :: l).length by omega]
    exact pkF_cg _ (fun j hj => by rw [Nat.zero_add]; exact At.get hw (c :: l) h j hj)
/-- digits -/
theorem dig_t {T : List Nat} {w : Nat → Int} (hw : LX T w) {s : Nat} {ls u : List Nat} (h : At T s (ls ++ u)) (h0 : ls ≠ []) (hl : ∀ c ∈ ls, 48 ≤ c ∧ c ≤ 57) (hu : stp 48 57 u) :
    tE w T.length s = s + ls.length ∧ tC w T.length s = 2 ∧ nvF w s (tE w T.length s - s) = nvF (lv ls) 0 ls.length := by
  obtain ⟨c, l, rfl⟩ : ∃ c l, ls = c :: l := by cases ls with | nil => exact absurd rfl h0 | cons c l => exact ⟨c, l, rfl⟩
  have h' : At T s (c :: (l ++ u)) := h
  have e := h'.hd hw
  have hc := hl c (List.mem_cons_self)
  have hr := rnn_at hw (lo := 48) (hi := 57) hu (c :: l) h hl
  have hlt := h'.lt
  have e1 : tE w T.length s = s + (c :: l).length := by
    unfold tE
    rw [if_neg (by omega), if_neg (by omega), if_pos (by omega)]
    exact hr
  refine ⟨e1, ?_, ?_⟩
  · unfold tC
    rw [if_neg (by omega), if_neg (by omega), if_pos (by omega)]
  · rw [e1, show s + (c :: l).length - s = (c :: l).length by omega]
    exact nvF_cg _ (fun j hj => by rw [Nat.zero_add]; exact At.get hw (c :: l) h j hj)
/-- signs -/
theorem sig_t {T : List Nat} {w : Nat → Int} (hw : LX T w) {s c : Nat} {u : List Nat} (h : At T s (c :: u)) (hc : c = 43 ∨ c = 45 ∨ c = 59) : tE w T.length s = s + 1 ∧ tC w T.length s = (if c = 43 then 3 else if c = 45 then 4 else 5) := by
  have e := h.hd hw
  have hlt := h.lt
  constructor
  · unfold tE
    rw [if_neg (by omega), if_neg (by omega), if_neg (by omega)]
  · unfold tC
    rw [if_neg (by omega), if_neg (by omega), if_neg (by omega), e]
    rcases hc with rfl | rfl | rfl <;> rfl
theorem end_t {T : List Nat} {w : Nat → Int} {s : Nat} (h : At T s []) : tC w T.length s = 0 := by
  have := h.2
  rw [List.length_nil] at this
  unfold tC
  rw [if_pos (by omega)]
theorem lk_of {w : Nat → Int} {n s : Nat} {x : Int} (ht : tR w n s = 1) (hx : nmW w n s = x) : lkF w n s = if x = wdK 0 then 0 else if x = wdK 1 then 1 else if x = wdK 2 then 2 else -1 := by
  unfold lkF
  rw [hx]
  by_cases c0 : x = wdK 0
  · rw [if_pos c0, if_pos ⟨ht, c0⟩]
  · rw [if_neg c0, if_neg (fun z => c0 z.2)]
    by_cases c1 : x = wdK 1
    · rw [if_pos c1, if_pos ⟨ht, c1⟩]
    · rw [if_neg c1, if_neg (fun z => c1 z.2)]
      by_cases c2 : x = wdK 2
      · rw [if_pos c2, if_pos ⟨ht, c2⟩]
      · rw [if_neg c2, if_neg (fun z => c2 z.2)]
/-! numbers -/
theorem decN_t : ∀ v : Fin 1000, decN v.val ≠ [] ∧ (decN v.val).length ≤ 3 ∧ (∀ c ∈ decN v.val, 48 ≤ c ∧ c ≤ 57) ∧ nvF (lv (decN v.val)) 0 (decN v.val).length = (v.val : Int) := by decide +kernel
/-- a number, with its sign -/
theorem num_t {T : List Nat} {w : Nat → Int} (hw : LX T w) {s : Nat} {x : Int} {u : List Nat} {lim : Int} (h : At T s (decI x ++ u)) (hx : x ≠ 0 ∧ -999 ≤ x ∧ x ≤ 999) (hu : stp 48 57 u) (hl : -lim ≤ x ∧ x ≤ lim) :
    okT lim w T.length s ∧ wV w T.length s = x ∧ wN w T.length s = (x.natAbs : Int) ∧ At T (s + (decI x).length) u ∧ tE w T.length (wS w T.length s) = s + (decI x).length := by
  have hu2 : At T (s + (decI x).length) u := At.app (decI x) h
  by_cases c : x < 0
  · have ed : decI x = 45 :: decN (-x).toNat := by unfold decI; rw [if_pos c]
    rw [ed] at h hu2 ⊢
    have h1 : At T s (45 :: (decN (-x).toNat ++ u)) := h
    obtain ⟨d1, d2, d3, d4⟩ := decN_t ⟨(-x).toNat, by omega⟩
    have d1 : decN (-x).toNat ≠ [] := d1
    have d3 : ∀ c ∈ decN (-x).toNat, 48 ≤ c ∧ c ≤ 57 := d3
    have d4 : nvF (lv (decN (-x).toNat)) 0 (decN (-x).toNat).length = ((-x).toNat : Int) := d4
    obtain ⟨g1, g2⟩ := sig_t hw h1 (by decide)
    rw [if_neg (by decide), if_pos rfl] at g2
    have hns : nsp (decN (-x).toNat ++ u) := by
      obtain ⟨a, l, e⟩ : ∃ a l, decN (-x).toNat = a :: l := by cases hq : decN (-x).toNat with | nil => exact absurd hq d1 | cons a l => exact ⟨a, l, rfl⟩
      rw [e]
      intro q hq
      have := d3 a (by rw [e]; exact List.mem_cons_self)
      have : q = a := (Option.some.inj hq).symm
      omega
    have g3 : nxt w T.length s = s + 1 := by unfold nxt; rw [g1]; exact skp_at hw h1.tail hns
    obtain ⟨k1, k2, k3⟩ := dig_t hw h1.tail d1 d3 hu
    have eS : wS w T.length s = s + 1 := by unfold wS; rw [if_pos g2, g3]
    have eN : wN w T.length s = (x.natAbs : Int) := by unfold wN; rw [eS, k3, d4]; omega
    refine ⟨⟨by rw [eS]; exact k2, by rw [eN]; omega, by rw [eN]; omega⟩, ?_, eN, hu2, ?_⟩
    · unfold wV
      rw [if_pos g2, eN]; omega
    · rw [eS, k1, List.length_cons]; omega
  · have ed : decI x = decN x.toNat := by unfold decI; rw [if_neg c]
    rw [ed] at h hu2 ⊢
    obtain ⟨d1, d2, d3, d4⟩ := decN_t ⟨x.toNat, by omega⟩
    have d1 : decN x.toNat ≠ [] := d1
    have d3 : ∀ c ∈ decN x.toNat, 48 ≤ c ∧ c ≤ 57 := d3
    have d4 : nvF (lv (decN x.toNat)) 0 (decN x.toNat).length = (x.toNat : Int) := d4
    obtain ⟨k1, k2, k3⟩ := dig_t hw h d1 d3 hu
    have n4 : tC w T.length s ≠ 4 := by rw [k2]; decide
    have eS : wS w T.length s = s := by unfold wS; rw [if_neg n4]
    have eN : wN w T.length s = (x.natAbs : Int) := by unfold wN; rw [eS, k3, d4]; omega
    refine ⟨⟨by rw [eS]; exact k2, by rw [eN]; omega, by rw [eN]; omega⟩, ?_, eN, hu2, ?_⟩
    · unfold wV
      rw [if_neg n4, eN]; omega
    · rw [eS, k1]
theorem decI_hd {x : Int} (hx : x ≠ 0 ∧ -999 ≤ x ∧ x ≤ 999) (u : List Nat) : nsp (decI x ++ u) := by
  unfold decI
  by_cases c : x < 0
  · rw [if_pos c]
    intro q hq
    have : q = 45 := (Option.some.inj hq).symm
    omega
  · rw [if_neg c]
    obtain ⟨d1, d2, d3, d4⟩ := decN_t ⟨x.toNat, by omega⟩
    have d1 : decN x.toNat ≠ [] := d1
    have d3 : ∀ c ∈ decN x.toNat, 48 ≤ c ∧ c ≤ 57 := d3
    obtain ⟨a, l, e⟩ : ∃ a l, decN x.toNat = a :: l := by cases hq : decN x.toNat with | nil => exact absurd hq d1 | cons a l => exact ⟨a, l, rfl⟩
    rw [e]
    intro q hq
    have := d3 a (by rw [e]; exact List.mem_cons_self)
    have : q = a := (Option.some.inj hq).symm
    omega

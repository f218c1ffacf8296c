/-! FEEDING a text -/
theorem ofInt32_nat {x : Int} (h : 0 ≤ x ∧ x < 2147483648) : (Int32.ofInt x).toBitVec.toNat = x.toNat := by
  rw [Int32.toBitVec_ofInt, BitVec.toNat_ofInt, Int.emod_eq_of_lt (by omega) (by omega)]
theorem or8 (x y : Int) (hx : 0 ≤ x ∧ x < 8388608) (hy : 0 ≤ y ∧ y < 256) : oOr (oShl x 8) y = 256 * x + y := by
  have s : (Int32.ofInt 8 &&& 31) = 8 := by decide
  have e1 : oShl x 8 = 256 * x := by
    unfold oShl
    rw [s]
    have e : (Int32.ofInt x <<< (8 : Int32)).toBitVec.toNat = (256 * x).toNat := by
      rw [Int32.toBitVec_shiftLeft]
      have h5 : ((8 : Int32).toBitVec.smod 32) = 8#32 := by decide
      rw [h5, BitVec.shiftLeft_eq', BitVec.toNat_shiftLeft, ofInt32_nat (by omega), Nat.shiftLeft_eq]
      have : (8#32).toNat = 8 := by decide
      rw [this, Nat.mod_eq_of_lt (by omega)]
      omega
    rw [← Int32.toInt_toBitVec, BitVec.toInt_eq_toNat_of_lt (by rw [e]; omega), e]
    omega
  rw [e1]
  unfold oOr
  have e : (Int32.ofInt (256 * x) ||| Int32.ofInt y).toBitVec.toNat = (256 * x + y).toNat := by
    rw [Int32.toBitVec_or, BitVec.toNat_or, ofInt32_nat (by omega), ofInt32_nat (by omega)]
    have h := Nat.shiftLeft_add_eq_or_of_lt (i := 8) (b := y.toNat) (by omega) x.toNat
    rw [Nat.shiftLeft_eq] at h
    have e2 : (256 * x).toNat = x.toNat * 2 ^ 8 := by omega
    rw [e2, ← h]
    omega
  rw [← Int32.toInt_toBitVec, BitVec.toInt_eq_toNat_of_lt (by rw [e]; omega), e]
  omega
theorem shrX (k : Nat) (hk : k = 0 ∨ k = 8 ∨ k = 16 ∨ k = 24) {x : Int} (h : 0 ≤ x ∧ x < 2147483648) : oShr x (k : Int) = x / 2 ^ k := by
  unfold oShr
  rcases hk with rfl | rfl | rfl | rfl
  all_goals
    rw [← Int32.toInt_toBitVec, Int32.toBitVec_shiftRight, BitVec.sshiftRight_eq', BitVec.toInt_sshiftRight, show (Int32.ofInt x).toBitVec.toInt = x from wI_id (by omega), Int.shiftRight_eq_div_pow]
    rfl
theorem wB_of {v q c : Int} (h : v = 256 * q + c) (hc : 0 ≤ c ∧ c < 128) : wB v = c := by
  unfold wB
  rw [Int8.toInt_ofInt, h, Int.bmod_def, show ((Int8.size : Nat) : Int) = 256 from rfl]
  split <;> omega
theorem pk4 {a b c d : Int} (ha : 0 ≤ a ∧ a < 128) (hb : 0 ≤ b ∧ b < 128) (hc : 0 ≤ c ∧ c < 128) (hd : 0 ≤ d ∧ d < 128) :
    oOr (oShl (oOr (oShl (oOr (oShl (oOr (oShl 0 8) a) 8) b) 8) c) 8) d = 16777216 * a + 65536 * b + 256 * c + d := by
  rw [or8 0 a (by omega) (by omega), or8 _ b (by omega) (by omega), or8 _ c (by omega) (by omega), or8 _ d (by omega) (by omega)]
  omega
theorem un4 {a b c d X : Int} (hX : X = 16777216 * a + 65536 * b + 256 * c + d) (ha : 0 ≤ a ∧ a < 128) (hb : 0 ≤ b ∧ b < 128) (hc : 0 ≤ c ∧ c < 128) (hd : 0 ≤ d ∧ d < 128) :
    wB (oShr X 24) = a ∧ wB (oShr X 16) = b ∧ wB (oShr X 8) = c ∧ wB (oShr X 0) = d := by
  have h24 := shrX 24 (by decide) (x := X) (by omega)
  have h16 := shrX 16 (by decide) (x := X) (by omega)
  have h8 := shrX 8 (by decide) (x := X) (by omega)
  have h0 := shrX 0 (by decide) (x := X) (by omega)
  rw [show ((24 : Nat) : Int) = 24 from rfl] at h24
  rw [show ((16 : Nat) : Int) = 16 from rfl] at h16
  rw [show ((8 : Nat) : Int) = 8 from rfl] at h8
  rw [show ((0 : Nat) : Int) = 0 from rfl] at h0
  rw [h24, h16, h8, h0]
  refine ⟨wB_of (q := 0) (c := a) ?_ ha, wB_of (q := a) (c := b) ?_ hb, wB_of (q := 256 * a + b) (c := c) ?_ hc, wB_of (q := 65536 * a + 256 * b + c) (c := d) ?_ hd⟩
  · rw [show (2 : Int) ^ 24 = 16777216 by decide]; omega
  · rw [show (2 : Int) ^ 16 = 65536 by decide]; omega
  · rw [show (2 : Int) ^ 8 = 256 by decide]; omega
  · rw [show (2 : Int) ^ 0 = 1 by decide]; omega
theorem feed_c {σ : mSt} {t : Nat} {a1 a2 a3 a4 a5 : Int} (l0 : σ 0 0 = 1) (t2 : σ 0 1 = (t : Int)) (hc : t + 20 ≤ 600) : mX11_feed 0 a1 a2 a3 a4 a5 σ = some (((t + 20 : Nat) : Int), put5 σ 1 0 1 t a1 a2 a3 a4 a5) := by
  unfold mX11_feed
  refine mR_eq (mR_G (by decide) (mR_pos (by rw [t2, wI_id (by omega)]; omega) ?_))
  refine mR_callE (put_c l0 t2 (by omega)) ?_
  refine mR_callE (put_c (t := t + 4) (by rw [put4_old (by omega) (by omega)]; exact l0) (put4_size (by omega)) (by omega)) ?_
  refine mR_callE (put_c (t := t + 8) (by rw [put4_old (by omega) (by omega), put4_old (by omega) (by omega)]; exact l0) (put4_size (by omega)) (by omega)) ?_
  refine mR_callE (put_c (t := t + 12) (by rw [put4_old (by omega) (by omega), put4_old (by omega) (by omega), put4_old (by omega) (by omega)]; exact l0) (put4_size (by omega)) (by omega)) ?_
  refine mR_callE (put_c (t := t + 16) (by rw [put4_old (by omega) (by omega), put4_old (by omega) (by omega), put4_old (by omega) (by omega), put4_old (by omega) (by omega)]; exact l0) (put4_size (by omega)) (by omega)) ?_
  exact mR_ret ⟨put4_size (by omega), rfl⟩
def fdW (a b : Nat) : Prop := a = 1 ∨ (a = 0 ∧ b = 1)
def Fed (T : List Nat) (σ0 σ : mSt) (i : Nat) : Prop := frm fdW σ0 σ ∧ σ 0 1 = (i : Int) ∧ ∀ k, k < i → σ 1 k = fdB T k
theorem fdB_rng {T : List Nat} (hT : ∀ c ∈ T, c < 128) (k : Nat) : 0 ≤ fdB T k ∧ fdB T k < 128 := by
  unfold fdB
  by_cases c : k < T.length
  · rw [if_pos c]
    have h := hT _ (List.getElem_mem c)
    rw [List.getD_eq_getElem?_getD, List.getElem?_eq_getElem c, Option.getD_some]
    omega
  · rw [if_neg c]; decide
theorem fdV_e (T : List Nat) (i : Nat) (hT : ∀ c ∈ T, c < 128) :
    fdV T i 20 0 = 16777216 * fdB T (i + 0) + 65536 * fdB T (i + 1) + 256 * fdB T (i + 2) + fdB T (i + 3) ∧ fdV T i 20 1 = 16777216 * fdB T (i + 4) + 65536 * fdB T (i + 5) + 256 * fdB T (i + 6) + fdB T (i + 7) ∧ fdV T i 20 2 = 16777216 * fdB T (i + 8) + 65536 * fdB T (i + 9) + 256 * fdB T (i + 10) + fdB T (i + 11) ∧ fdV T i 20 3 = 16777216 * fdB T (i + 12) + 65536 * fdB T (i + 13) + 256 * fdB T (i + 14) + fdB T (i + 15) ∧ fdV T i 20 4 = 16777216 * fdB T (i + 16) + 65536 * fdB T (i + 17) + 256 * fdB T (i + 18) + fdB T (i + 19) := by
  have r := fun k => fdB_rng hT (i + k)
  exact ⟨pk4 (r 0) (r 1) (r 2) (r 3), pk4 (r 4) (r 5) (r 6) (r 7), pk4 (r 8) (r 9) (r 10) (r 11), pk4 (r 12) (r 13) (r 14) (r 15), pk4 (r 16) (r 17) (r 18) (r 19)⟩
theorem gB_e (T : List Nat) (t : Nat) (hT : ∀ c ∈ T, c < 128) : ∀ j, j < 20 → gB t (fdV T t 20 0) (fdV T t 20 1) (fdV T t 20 2) (fdV T t 20 3) (fdV T t 20 4) (t + j) = fdB T (t + j) := by
  have r := fun k => fdB_rng hT (t + k)
  obtain ⟨h0, h1, h2, h3, h4⟩ := fdV_e T t hT
  obtain ⟨a0, a1, a2, a3⟩ := un4 h0 (r 0) (r 1) (r 2) (r 3)
  obtain ⟨a4, a5, a6, a7⟩ := un4 h1 (r 4) (r 5) (r 6) (r 7)
  obtain ⟨a8, a9, a10, a11⟩ := un4 h2 (r 8) (r 9) (r 10) (r 11)
  obtain ⟨a12, a13, a14, a15⟩ := un4 h3 (r 12) (r 13) (r 14) (r 15)
  obtain ⟨a16, a17, a18, a19⟩ := un4 h4 (r 16) (r 17) (r 18) (r 19)
  intro j hj
  unfold gB
  rcases (show j = 0 ∨ j = 1 ∨ j = 2 ∨ j = 3 ∨ j = 4 ∨ j = 5 ∨ j = 6 ∨ j = 7 ∨ j = 8 ∨ j = 9 ∨ j = 10 ∨ j = 11 ∨ j = 12 ∨ j = 13 ∨ j = 14 ∨ j = 15 ∨ j = 16 ∨ j = 17 ∨ j = 18 ∨ j = 19 by omega) with rfl | rfl | rfl | rfl | rfl | rfl | rfl | rfl | rfl | rfl | rfl | rfl | rfl | rfl | rfl | rfl | rfl | rfl | rfl | rfl
  · rw [if_pos (by omega), show (24 : Int) - 8 * (((t + 0 : Nat) : Int) - (t : Int)) = 24 by omega]; exact a0
  · rw [if_pos (by omega), show (24 : Int) - 8 * (((t + 1 : Nat) : Int) - (t : Int)) = 16 by omega]; exact a1
  · rw [if_pos (by omega), show (24 : Int) - 8 * (((t + 2 : Nat) : Int) - (t : Int)) = 8 by omega]; exact a2
  · rw [if_pos (by omega), show (24 : Int) - 8 * (((t + 3 : Nat) : Int) - (t : Int)) = 0 by omega]; exact a3
  · rw [if_neg (by omega), if_pos (by omega), show (24 : Int) - 8 * (((t + 4 : Nat) : Int) - ((t + 4 : Nat) : Int)) = 24 by omega]; exact a4
  · rw [if_neg (by omega), if_pos (by omega), show (24 : Int) - 8 * (((t + 5 : Nat) : Int) - ((t + 4 : Nat) : Int)) = 16 by omega]; exact a5
  · rw [if_neg (by omega), if_pos (by omega), show (24 : Int) - 8 * (((t + 6 : Nat) : Int) - ((t + 4 : Nat) : Int)) = 8 by omega]; exact a6
  · rw [if_neg (by omega), if_pos (by omega), show (24 : Int) - 8 * (((t + 7 : Nat) : Int) - ((t + 4 : Nat) : Int)) = 0 by omega]; exact a7
  · rw [if_neg (by omega), if_neg (by omega), if_pos (by omega), show (24 : Int) - 8 * (((t + 8 : Nat) : Int) - ((t + 8 : Nat) : Int)) = 24 by omega]; exact a8
  · rw [if_neg (by omega), if_neg (by omega), if_pos (by omega), show (24 : Int) - 8 * (((t + 9 : Nat) : Int) - ((t + 8 : Nat) : Int)) = 16 by omega]; exact a9
  · rw [if_neg (by omega), if_neg (by omega), if_pos (by omega), show (24 : Int) - 8 * (((t + 10 : Nat) : Int) - ((t + 8 : Nat) : Int)) = 8 by omega]; exact a10
  · rw [if_neg (by omega), if_neg (by omega), if_pos (by omega), show (24 : Int) - 8 * (((t + 11 : Nat) : Int) - ((t + 8 : Nat) : Int)) = 0 by omega]; exact a11
  · rw [if_neg (by omega), if_neg (by omega), if_neg (by omega), if_pos (by omega), show (24 : Int) - 8 * (((t + 12 : Nat) : Int) - ((t + 12 : Nat) : Int)) = 24 by omega]; exact a12
  · rw [if_neg (by omega), if_neg (by omega), if_neg (by omega), if_pos (by omega), show (24 : Int) - 8 * (((t + 13 : Nat) : Int) - ((t + 12 : Nat) : Int)) = 16 by omega]; exact a13
  · rw [if_neg (by omega), if_neg (by omega), if_neg (by omega), if_pos (by omega), show (24 : Int) - 8 * (((t + 14 : Nat) : Int) - ((t + 12 : Nat) : Int)) = 8 by omega]; exact a14
  · rw [if_neg (by omega), if_neg (by omega), if_neg (by omega), if_pos (by omega), show (24 : Int) - 8 * (((t + 15 : Nat) : Int) - ((t + 12 : Nat) : Int)) = 0 by omega]; exact a15
  · rw [if_neg (by omega), if_neg (by omega), if_neg (by omega), if_neg (by omega), show (24 : Int) - 8 * (((t + 16 : Nat) : Int) - ((t + 16 : Nat) : Int)) = 24 by omega]; exact a16
  · rw [if_neg (by omega), if_neg (by omega), if_neg (by omega), if_neg (by omega), show (24 : Int) - 8 * (((t + 17 : Nat) : Int) - ((t + 16 : Nat) : Int)) = 16 by omega]; exact a17
  · rw [if_neg (by omega), if_neg (by omega), if_neg (by omega), if_neg (by omega), show (24 : Int) - 8 * (((t + 18 : Nat) : Int) - ((t + 16 : Nat) : Int)) = 8 by omega]; exact a18
  · rw [if_neg (by omega), if_neg (by omega), if_neg (by omega), if_neg (by omega), show (24 : Int) - 8 * (((t + 19 : Nat) : Int) - ((t + 16 : Nat) : Int)) = 0 by omega]; exact a19
theorem feed_all {T : List Nat} (hT : ∀ c ∈ T, c < 128) {σ0 : mSt} (l0 : σ0 0 0 = 1) : ∀ (r f i : Nat) (σ : mSt), T.length ≤ i + 20 * r → r < f → i + 20 * r ≤ 600 → Fed T σ0 σ i → ∃ (σ' : mSt) (j : Nat), T.length ≤ j ∧ j ≤ 600 ∧ Fed T σ0 σ' j ∧ fdM T f i σ = mX11_text 0 (T.length : Int) σ'
  | 0, f, i, σ, h1, h2, h3, hF => by
    obtain ⟨g, rfl⟩ : ∃ g, f = g + 1 := ⟨f - 1, by omega⟩
    exact ⟨σ, i, by omega, by omega, hF, by show (if T.length ≤ i then _ else _) = _; rw [if_pos (by omega)]⟩
  | r + 1, f, i, σ, h1, h2, h3, hF => by
    obtain ⟨g, rfl⟩ : ∃ g, f = g + 1 := ⟨f - 1, by omega⟩
    by_cases c : T.length ≤ i
    · exact ⟨σ, i, by omega, by omega, hF, by show (if T.length ≤ i then _ else _) = _; rw [if_pos c]⟩
    · obtain ⟨f1, f2, f3⟩ := hF
      have e0 : σ 0 0 = 1 := (f1 0 0 (by unfold fdW; omega)).trans l0
      have hs := feed_c (a1 := fdV T i 20 0) (a2 := fdV T i 20 1) (a3 := fdV T i 20 2) (a4 := fdV T i 20 3) (a5 := fdV T i 20 4) e0 f2 (by omega)
      obtain ⟨σ', j, k1, k2, k3, k4⟩ := feed_all hT l0 r g (i + 20) (put5 σ 1 0 1 i (fdV T i 20 0) (fdV T i 20 1) (fdV T i 20 2) (fdV T i 20 3) (fdV T i 20 4)) (by omega) (by omega) (by omega) ⟨fun a b z => by
        unfold fdW at z
        rw [put5_old (by omega) (by omega)]
        exact f1 a b z, put5_size (by omega), fun k hk => by
        rw [put5_arr (by omega)]
        by_cases c2 : i ≤ k
        · rw [if_pos ⟨c2, hk⟩]
          have := gB_e T i hT (k - i) (by omega)
          rw [show i + (k - i) = k by omega] at this
          exact this
        · rw [if_neg (fun z => c2 z.1)]
          exact f3 k (by omega)⟩
      refine ⟨σ', j, k1, k2, k3, ?_⟩
      show (if T.length ≤ i then _ else mCall (mX11_feed 0 (fdV T i 20 0) (fdV T i 20 1) (fdV T i 20 2) (fdV T i 20 3) (fdV T i 20 4) σ) fun _ s2 => fdM T g (i + 20) s2) = _
      rw [if_neg c, hs, mCall_some]
      exact k4

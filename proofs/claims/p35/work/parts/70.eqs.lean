/-! THE LAW'S TAIL: what the class' methods answer once a text is read -/
def CI (σ : mSt) (B s : Nat) : Prop := Lay σ ∧ iBook σ B 6 ∧ iPlaces σ 6 s
theorem CI.same {σ σ' : mSt} {B s : Nat} (h : CI σ B s) (hL : Lay σ') (o : ∀ i, i ≠ 145 → σ' i = σ i) : CI σ' B s :=
  ⟨hL, iBook_congr h.2.1 (by rw [o 0 (by omega)]) (by rw [o 0 (by omega)]) (fun i hi => o i (by omega)), iPlaces_congr h.2.2 (by omega) (fun i hi => o i (by omega))⟩
theorem toldY {σ : mSt} {B s k : Nat} (h : CI σ B s) (hk : k < 6) : mX11_isTold 0 (k : Int) σ = some (1, σ) := told_t h.2.1 hk
theorem local_y {σ : mSt} {B s k : Nat} (h : CI σ B s) (hk : k < 6) {a : Int} (hp : place a) : mX11_local 0 (k : Int) a σ = some (loc σ k a, σ) := by
  have hr := place_rng hp
  have six := sixthsAt_e (p := a) h.1 h.2.2 (by omega) hk (Or.inl hp)
  rw [if_pos hr.2] at six
  have e29 : mX11_local_B29 0 (k : Int) a σ = some (loc σ k a, σ) := by
    unfold mX11_local_B29
    rw [gr' (lay0 h.1).2.2.1 (by omega), six, mCall_some]
  unfold mX11_local
  rw [gc0, toldY h hk, mCall_some, if_neg (by decide), wI_id (by omega), if_pos (by omega)]
  by_cases h0 : a = 0
  · rw [if_pos h0]; exact e29
  · rw [if_neg h0, prime_e _ (by omega), mCall_some, b2_t ⟨(hp.resolve_left h0).1, by omega⟩, if_neg (by decide)]
    exact e29
theorem local_n {σ : mSt} {B s k : Nat} (h : CI σ B s) (hk : k < 6) {a : Int} (ha : 0 ≤ a ∧ a < 1000) (hp : ¬ place a) : mX11_local 0 (k : Int) a σ = some (-1, σ) := by
  have h0 : a ≠ 0 := fun z => hp (Or.inl z)
  unfold mX11_local
  rw [gc0, toldY h hk, mCall_some, if_neg (by decide), wI_id (by omega), if_pos (by omega), if_neg h0, prime_e _ (by omega), mCall_some, b2_f (fun z => hp (Or.inr ⟨z.1, ha.2⟩)), if_pos (by decide)]
theorem local_o {σ : mSt} {B s : Nat} (h : CI σ B s) (a : Int) : mX11_local 0 6 a σ = some (-1, σ) := by
  unfold mX11_local
  rw [gc0, told_c h.2.1 (by unfold i32; decide), mCall_some, b2_f (by omega), if_pos (by decide)]
theorem place_all {σ : mSt} {B s k : Nat} (h : CI σ B s) (hk : k < 6) : mX11_place 0 (k : Int) (-1) σ = some (cnF (lx σ k) s 0, σ) := by
  have := hmL4 (xx := fun z2 zσ => mX7_howMany_B37 101 (k : Int) z2 zσ) h.1 h.2.2 (by omega) hk s 0 mF 0 (by omega) (by have := h.2.2.1; unfold mF; omega)
  rw [show ((0 : Nat) : Int) = 0 from rfl] at this
  unfold mX11_place
  rw [gc0, toldY h hk, mCall_some, if_neg (by decide), if_pos (by decide), if_pos (by decide), gr' (lay0 h.1).2.2.1 (by omega)]
  unfold mX7_howMany
  rw [gc101, this, Int.zero_add]
  rfl
theorem place_at {σ : mSt} {B s k : Nat} (h : CI σ B s) (hk : k < 6) {a : Int} (ha : 0 ≤ a ∧ a < 2147483648) : mX11_place 0 (k : Int) a σ = some (clF (σ 102) (lx σ k) s 0 a, σ) := by
  have := (poL5 (v2 := a) h.1 h.2.2 (by omega) hk s 0 mF a (by omega) (by have := h.2.2.1; unfold mF; omega) (by omega) (by omega)).resolve_right (by omega)
  rw [show ((0 : Nat) : Int) = 0 from rfl] at this
  unfold mX11_place
  rw [gc0, toldY h hk, mCall_some, if_neg (by decide), wI_id (by omega), if_pos (by omega), if_neg (by omega), gr' (lay0 h.1).2.2.1 (by omega)]
  unfold mX7_placeOf
  rw [gc101, this, mCall_some]
theorem index_y {σ : mSt} {B s k : Nat} (h : CI σ B s) (hk : k < 6) : mX11_index 0 (k : Int) σ = some (6 / gdF (lx σ k) s 0 6, σ) := by
  unfold mX11_index
  rw [gc0, toldY h hk, mCall_some, if_neg (by decide), gr' (lay0 h.1).2.2.1 (by omega), indexOf_c h.1 h.2.2 (by omega) hk, mCall_some]
theorem alike_y {σ : mSt} {B s k o : Nat} (h : CI σ B s) (hk : k < 6) (ho : o < 6) : mX11_alike 0 (k : Int) (o : Int) σ = some (b2 (alk σ k o), σ) := by
  unfold mX11_alike
  rw [gc0, toldY h hk, mCall_some, if_neg (by decide), toldY h ho, mCall_some, if_neg (by decide), gr' (lay0 h.1).2.2.1 (by omega), areAlike_c h.1 h.2.2 (by omega) hk ho, mCall_some, wI_b2]
  by_cases hq : alk σ k o
  · rw [b2_t hq, if_neg (by decide)]
  · rw [b2_f hq, if_pos rfl]
theorem classes_y {σ : mSt} {B s : Nat} (h : CI σ B s) : mX11_classes 0 σ = some (clsF σ 6, σ) := by
  unfold mX11_classes
  rw [gc0]
  exact clL4 h.1 h.2.1 h.2.2 6 0 mF (by omega) (by unfold mF; omega)
/-! one by one -/
def ctF (X : Nat → Int) : Nat → Int
  | 0 => 0
  | n + 1 => ctF X n + (if X n = 0 then 0 else 1)
def odF (X : Nat → Int) : Nat → Int
  | 0 => 0
  | n + 1 => if X n % 2 = 1 then 1 else odF X n
def thF (X : Nat → Int) : Nat → Int
  | 0 => 0
  | n + 1 => if X n % 3 = 0 then thF X n else 1
theorem ctF_rng (X : Nat → Int) : ∀ n : Nat, 0 ≤ ctF X n ∧ ctF X n ≤ (n : Int)
  | 0 => ⟨Int.le_refl _, Int.le_refl _⟩
  | n + 1 => by
    have := ctF_rng X n
    show 0 ≤ ctF X n + _ ∧ ctF X n + _ ≤ _
    split <;> omega
theorem odF_01 (X : Nat → Int) : ∀ n : Nat, odF X n = 0 ∨ odF X n = 1
  | 0 => Or.inl rfl
  | n + 1 => by
    have := odF_01 X n
    show (if _ then _ else _) = _ ∨ (if _ then _ else _) = _
    split
    · exact Or.inr rfl
    · exact this
theorem thF_01 (X : Nat → Int) : ∀ n : Nat, thF X n = 0 ∨ thF X n = 1
  | 0 => Or.inl rfl
  | n + 1 => by
    have := thF_01 X n
    show (if _ then _ else _) = _ ∨ (if _ then _ else _) = _
    split
    · exact this
    · exact Or.inr rfl
theorem cnF_ct (X : Nat → Int) : ∀ m i : Nat, ctF X i + cnF X m i = ctF X (i + m)
  | 0, i => by show ctF X i + 0 = _; rw [Int.add_zero]; rfl
  | m + 1, i => by
    have := cnF_ct X m (i + 1)
    show ctF X i + ((if X i = 0 then 0 else 1) + cnF X m (i + 1)) = _
    rw [show i + (m + 1) = i + 1 + m by omega, ← this]
    show _ = ctF X i + (if X i = 0 then 0 else 1) + _
    omega
theorem cnF_rng0 (X : Nat → Int) : ∀ m i : Nat, 0 ≤ cnF X m i
  | 0, _ => Int.le_refl _
  | m + 1, i => by
    have := cnF_rng0 X m (i + 1)
    show 0 ≤ (if X i = 0 then (0 : Int) else 1) + _
    split <;> omega
theorem clF_end (L X : Nat → Int) : ∀ m i : Nat, clF L X m i (ctF X (i + m) - ctF X i) = -2
  | 0, i => rfl
  | m + 1, i => by
    have ih := clF_end L X m (i + 1)
    have hc := cnF_ct X m (i + 1)
    have hr := cnF_rng0 X m (i + 1)
    have e : ctF X (i + 1) = ctF X i + (if X i = 0 then 0 else 1) := rfl
    rw [show i + (m + 1) = i + 1 + m by omega]
    show (if X i = 0 then clF L X m (i + 1) (ctF X (i + 1 + m) - ctF X i) else if ctF X (i + 1 + m) - ctF X i = 0 then L i else clF L X m (i + 1) (ctF X (i + 1 + m) - ctF X i - 1)) = _
    by_cases h : X i = 0
    · rw [if_pos h]
      rw [if_pos h] at e
      rw [show ctF X (i + 1 + m) - ctF X i = ctF X (i + 1 + m) - ctF X (i + 1) by omega]
      exact ih
    · rw [if_neg h]
      rw [if_neg h] at e
      rw [if_neg (by omega), show ctF X (i + 1 + m) - ctF X i - 1 = ctF X (i + 1 + m) - ctF X (i + 1) by omega]
      exact ih
theorem clF_at (L X : Nat → Int) {j : Nat} (hX : X j ≠ 0) : ∀ m i : Nat, i ≤ j → j < i + m → clF L X m i (ctF X j - ctF X i) = L j
  | 0, i, h1, h2 => by omega
  | m + 1, i, h1, h2 => by
    have e : ctF X (i + 1) = ctF X i + (if X i = 0 then 0 else 1) := rfl
    show (if X i = 0 then clF L X m (i + 1) (ctF X j - ctF X i) else if ctF X j - ctF X i = 0 then L i else clF L X m (i + 1) (ctF X j - ctF X i - 1)) = _
    by_cases hij : i = j
    · subst hij
      rw [if_neg hX, if_pos (by omega)]
    · have ih := clF_at L X hX m (i + 1) (by omega) (by omega)
      by_cases h : X i = 0
      · rw [if_pos h]
        rw [if_pos h] at e
        rw [show ctF X j - ctF X i = ctF X j - ctF X (i + 1) by omega]
        exact ih
      · rw [if_neg h]
        rw [if_neg h] at e
        have hc := cnF_ct X (j - (i + 1)) (i + 1)
        have hr := cnF_rng0 X (j - (i + 1)) (i + 1)
        rw [show i + 1 + (j - (i + 1)) = j by omega] at hc
        rw [if_neg (by omega), show ctF X j - ctF X i - 1 = ctF X j - ctF X (i + 1) by omega]
        exact ih
def gOT (o t : Int) : Int := (if o = 1 then 1 else 2) * (if t = 1 then 1 else 3)
theorem gOT_t : ∀ o ∈ [(0 : Int), 1], ∀ t ∈ [(0 : Int), 1], ∀ v ∈ [(0 : Int), 1, 2, 3, 4, 5], (Int.gcd (gOT o t) v : Int) = gOT (if v % 2 = 1 then 1 else o) (if v % 3 = 0 then t else 1) ∧ 6 / gOT o t = (1 + o) * (1 + 2 * t) := by decide
theorem gdF_ot (X : Nat → Int) (hX : ∀ i, X i ∈ [(0 : Int), 1, 2, 3, 4, 5]) : ∀ m i : Nat, gdF X m i (gOT (odF X i) (thF X i)) = gOT (odF X (i + m)) (thF X (i + m))
  | 0, i => rfl
  | m + 1, i => by
    have ih := gdF_ot X hX m (i + 1)
    have ho : odF X i ∈ [(0 : Int), 1] := by have := odF_01 X i; simp; exact this
    have ht : thF X i ∈ [(0 : Int), 1] := by have := thF_01 X i; simp; exact this
    show gdF X m (i + 1) (Int.gcd (gOT (odF X i) (thF X i)) (X i)) = _
    rw [(gOT_t _ ho _ ht _ (hX i)).1, show i + (m + 1) = i + 1 + m by omega, ← ih]
    rfl
theorem or1 : ∀ o ∈ [(0 : Int), 1], ∀ v ∈ [(0 : Int), 1, 2, 3, 4, 5], oOr o ((wI v).tmod (wI 2)) = (if v % 2 = 1 then 1 else o) ∧ (if wI ((wI v).tmod (wI 3)) ≤ 0 then (0 : Int) else 1) = (if v % 3 = 0 then 0 else 1) ∧ oOr o (if v % 3 = 0 then 0 else 1) = (if v % 3 = 0 then o else 1) := by decide +kernel
theorem sumN_rng {X : Nat → Int} (hX : ∀ i, 0 ≤ X i ∧ X i ≤ 5) : ∀ n : Nat, 0 ≤ sumN X n ∧ sumN X n ≤ 5 * (n : Int)
  | 0 => ⟨Int.le_refl _, Int.le_refl _⟩
  | n + 1 => by
    have := sumN_rng hX n
    have := hX n
    show 0 ≤ sumN X n + X n ∧ sumN X n + X n ≤ _
    omega
theorem lx_none {σ : mSt} {s k i : Nat} {p : Int} (hP : iPlaces σ 6 s) (hk : k < 6) (h1 : ∀ j, j < i → σ 102 j < p) (h2 : ∀ j, i ≤ j → j < s → p < σ 102 j) (hp : place p) : loc σ k p = 0 :=
  hP.2.2.2.2.2 k p hk hp (fun j hj z => by
    by_cases h : j < i
    · have := h1 j h; omega
    · have := h2 j (by omega) hj; omega)
theorem isWholeL {σ : mSt} {B s k : Nat} {x92 : Int → Int → Int → Int → mSt → Option (Int × mSt)} (h : CI σ B s) (hk : k < 6) : ∀ (q i N : Nat) (p : Int), p + q = 1000 → 0 ≤ p → i ≤ s → q < N → (∀ j, j < i → σ 102 j < p) → (∀ j, i ≤ j → j < s → p ≤ σ 102 j) → mL_isWhole_L13 0 (k : Int) x92 N (sumN (lx σ k) i) (ctF (lx σ k) i) (odF (lx σ k) i) (thF (lx σ k) i) p σ = x92 (sumN (lx σ k) s) (ctF (lx σ k) s) (odF (lx σ k) s) (thF (lx σ k) s) σ := by
  have s64 := h.2.2.1
  have hpl := h.2.2.2.2.2.1
  have hsort := h.2.2.2.2.1
  intro q
  induction q with
  | zero =>
    intro i N p hpq h0 his hN h1 h2
    obtain ⟨f, rfl⟩ : ∃ f, N = f + 1 := ⟨N - 1, by omega⟩
    have e : i = s := by
      by_cases c : i = s
      · exact c
      · have := h2 i (Nat.le_refl _) (by omega)
        have := (place_rng (hpl i (by omega))).2
        omega
    subst e
    rw [mL_isWhole_L13.eq_2, if_pos (by rw [wI_id (by omega)]; omega)]
  | succ q ih =>
    intro i N p hpq h0 his hN h1 h2
    obtain ⟨f, rfl⟩ : ∃ f, N = f + 1 := ⟨N - 1, by omega⟩
    rw [mL_isWhole_L13.eq_2, if_neg (by rw [wI_id (by omega)]; omega)]
    by_cases c : i < s ∧ σ 102 i = p
    · obtain ⟨c1, c2⟩ := c
      have hp : place p := by rw [← c2]; exact hpl i c1
      have hv : loc σ k p = lx σ k i := by show _ = loc σ k (σ 102 i); rw [c2]
      have hr := lx_rng σ k i
      have hn : ∀ j, j < i + 1 → σ 102 j < p + 1 := fun j hj => by
        by_cases z : j < i
        · have := h1 j z; omega
        · rw [show j = i by omega, c2]; omega
      have hm : ∀ j, i + 1 ≤ j → j < s → p + 1 ≤ σ 102 j := fun j hj hj2 => by
        have := hsort i j (by omega) hj2; omega
      have ih1 := ih (i + 1) f (p + 1) (by omega) (by omega) (by omega) (by omega) hn hm
      rw [local_y h hk hp, mCall_some, hv, wI_id (x := lx σ k i) (by omega)]
      have es : sumN (lx σ k) (i + 1) = sumN (lx σ k) i + lx σ k i := rfl
      have ec : ctF (lx σ k) (i + 1) = ctF (lx σ k) i + (if lx σ k i = 0 then 0 else 1) := rfl
      have eo : odF (lx σ k) (i + 1) = if lx σ k i % 2 = 1 then 1 else odF (lx σ k) i := rfl
      have et : thF (lx σ k) (i + 1) = if lx σ k i % 3 = 0 then thF (lx σ k) i else 1 := rfl
      by_cases z : 1 ≤ lx σ k i
      · rw [if_pos z]
        have hc := ctF_rng (lx σ k) i
        have hcl := clF_at (σ 102) (lx σ k) (j := i) (by omega) s 0 (by omega) (by omega)
        rw [show ctF (lx σ k) 0 = 0 from rfl, Int.sub_zero] at hcl
        rw [place_at h hk (by omega), mCall_some, hcl, c2, if_pos rfl, bnd_eq, bnd_eq, mG_pos (by decide), bnd_eq, mG_pos (by decide)]
        have ho : odF (lx σ k) i ∈ [(0 : Int), 1] := by have := odF_01 (lx σ k) i; simp; exact this
        have ht : thF (lx σ k) i ∈ [(0 : Int), 1] := by have := thF_01 (lx σ k) i; simp; exact this
        obtain ⟨o1, o2, -⟩ := or1 _ ho _ (lx_in σ k i)
        obtain ⟨-, -, o3⟩ := or1 _ ht _ (lx_in σ k i)
        rw [wI_id (x := lx σ k i) (by omega)] at o1 o2
        rw [if_neg (by omega)] at ec
        rw [es, ec, eo, et] at ih1
        by_cases z3 : wI ((lx σ k i).tmod (wI 3)) ≤ 0
        · rw [if_pos z3] at o2
          have d3 : lx σ k i % 3 = 0 := by
            by_cases d3 : lx σ k i % 3 = 0
            · exact d3
            · rw [if_neg d3] at o2; omega
          rw [if_pos z3]
          unfold mL_isWhole_B83
          rw [if_pos d3] at o3
          rw [bnd_eq, bnd_eq, o1, o3]
          exact ih1
        · rw [if_neg z3] at o2
          have d3 : ¬ lx σ k i % 3 = 0 := fun d3 => by rw [if_pos d3] at o2; omega
          rw [if_neg z3]
          unfold mL_isWhole_B83
          rw [if_neg d3] at o3
          rw [bnd_eq, bnd_eq, o1, o3]
          exact ih1
      · have z0 : lx σ k i = 0 := by omega
        rw [if_neg z, bnd_eq]
        rw [z0] at es ec eo et
        rw [Int.add_zero] at es
        rw [if_pos rfl, Int.add_zero] at ec
        rw [if_neg (by decide)] at eo
        rw [if_pos (by decide)] at et
        rw [es, ec, eo, et] at ih1
        exact ih1
    · have h2' : ∀ j, i ≤ j → j < s → p + 1 ≤ σ 102 j := fun j hj hj2 => by
        have := h2 j hj hj2
        by_cases z : σ 102 j = p
        · by_cases y : j = i
          · subst y; exact absurd ⟨hj2, z⟩ c
          · have := hsort i j (by omega) hj2
            have := h2 i (Nat.le_refl _) (by omega)
            omega
        · omega
      have ih1 := ih i f (p + 1) (by omega) (by omega) his (by omega) (fun j hj => by have := h1 j hj; omega) h2'
      by_cases hp : place p
      · have hv := lx_none h.2.2 hk h1 (fun j hj hj2 => by have := h2' j hj hj2; omega) hp
        rw [local_y h hk hp, mCall_some, hv, if_neg (by decide), bnd_eq]
        exact ih1
      · rw [local_n h hk (by omega) hp, mCall_some, if_neg (by decide), bnd_eq]
        exact ih1
theorem isWhole_y {σ : mSt} {B s k : Nat} (h : CI σ B s) (hk : k < 6) (ht : sumN (lx σ k) s % 6 = 0) : mL_isWhole 0 (k : Int) σ = some (1, σ) := by
  have s64 := h.2.2.1
  have hL := isWholeL (x92 := fun z2 z3 z4 z5 zσ => mL_isWhole_B92 0 (k : Int) z2 z3 z4 z5 zσ) h hk 1000 0 mF 0 (by omega) (by omega) (by omega) (by unfold mF; omega) (fun j hj => by omega) (fun j _ hj => (place_rng (h.2.2.2.2.2.1 j hj)).1)
  unfold mL_isWhole
  rw [show mL_isWhole_L13 0 (k : Int) (fun z2 z3 z4 z5 zσ => mL_isWhole_B92 0 (k : Int) z2 z3 z4 z5 zσ) mF 0 0 0 0 0 σ = _ from hL]
  have hs := sumN_rng (lx_rng σ k) s
  have hc := ctF_rng (lx σ k) s
  have hcn := cnF_ct (lx σ k) s 0
  rw [show ctF (lx σ k) 0 = 0 from rfl, Int.zero_add, Nat.zero_add] at hcn
  have hce := clF_end (σ 102) (lx σ k) s 0
  rw [show ctF (lx σ k) 0 = 0 from rfl, Int.sub_zero, Nat.zero_add] at hce
  have hg := gdF_ot (lx σ k) (lx_in σ k) s 0
  rw [show gOT (odF (lx σ k) 0) (thF (lx σ k) 0) = 6 from (show gOT 0 0 = 6 by decide), Nat.zero_add] at hg
  have ho : odF (lx σ k) s ∈ [(0 : Int), 1] := by have := odF_01 (lx σ k) s; simp; exact this
  have hth : thF (lx σ k) s ∈ [(0 : Int), 1] := by have := thF_01 (lx σ k) s; simp; exact this
  have h6 := (gOT_t _ ho _ hth 0 (by decide)).2
  have ha : alk σ k k := fun p _ => rfl
  show mL_isWhole_B92 0 (k : Int) _ _ _ _ σ = _
  unfold mL_isWhole_B92
  rw [mG_pos (by decide), wI_id (x := sumN (lx σ k) s) (by omega), show wI 6 = 6 by decide, Int.tmod_eq_emod_of_nonneg hs.1, ht, if_pos (by decide), place_all h hk, mCall_some, hcn, if_pos rfl, place_at h hk (by omega), mCall_some, hce, if_pos (by decide), index_y h hk, mCall_some, hg, h6, if_pos rfl, alike_y h hk hk, mCall_some, b2_t ha, if_pos (by decide)]

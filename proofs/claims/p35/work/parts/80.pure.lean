/-! THE STORE before the text is fed -/
def ag (N : Nat) (a b : mSt) : Prop := ∀ i, i < N → a i = b i
theorem ag.S {M i k : Nat} {v : Int} {a b : mSt} (h : ag M a b) : ag M (upS a i k v) (upS b i k v) := fun j hj => by
  funext q
  unfold upS
  rw [h j hj]
theorem ag.R {M N : Nat} {a b : mSt} (hM : M ≤ N + 1) (h : ag N a b) : ag M (upR a N) (upR b N) := fun j hj => by
  funext q
  unfold upR
  by_cases c : j = N
  · rw [if_pos c, if_pos c]
  · rw [if_neg c, if_neg c, h j (by omega)]
theorem ag.M {M N n : Nat} {a b : mSt} (hM : M ≤ N + n + 1) (h : ag N a b) : ag M (upM a N n) (upM b N n) := fun j hj => by
  funext q
  unfold upM
  by_cases c : j = N
  · rw [if_pos c, if_pos c]
  · rw [if_neg c, if_neg c]
    by_cases d : N < j ∧ j ≤ N + n
    · rw [if_pos d, if_pos d]
    · rw [if_neg d, if_neg d, h j (by omega)]
def un (a b : mSt) : Prop := ∀ i, 253 ≤ i → b i = a i
theorem un.rf (a : mSt) : un a a := fun _ _ => rfl
theorem un.S {i k : Nat} {v : Int} {a b : mSt} (hi : i < 253) (h : un a b) : un a (upS b i k v) := fun j hj => by rw [upS_row (by omega)]; exact h j hj
theorem un.R {N : Nat} {a b : mSt} (hN : N < 253) (h : un a b) : un a (upR b N) := fun j hj => by rw [upR_old (by omega)]; exact h j hj
theorem un.M {N n : Nat} {a b : mSt} (hN : N + n < 253) (h : un a b) : un a (upM b N n) := fun j hj => by
  rw [← h j hj]
  funext q
  unfold upM
  rw [if_neg (by omega), if_neg (by omega)]
theorem ag.X10 {M r N : Nat} {a b : mSt} (hM : M ≤ N + 1) (h : ag N a b) : ag M (sX10_init r N a) (sX10_init r N b) := by
  unfold sX10_init
  simp only [bnd]
  repeat (first | exact h | refine ag.S ?_ | refine ag.R (by omega) ?_ | refine ag.M (by omega) ?_)
theorem un.X10 {r N : Nat} {a b : mSt} (hr : r < 253) (hN : N + 1 ≤ 253) (h : un a b) : un a (sX10_init r N b) := by
  unfold sX10_init
  simp only [bnd]
  repeat (first | exact h | refine un.S (by omega) ?_ | refine un.R (by omega) ?_ | refine un.M (by omega) ?_)
theorem ag.X0 {M r N : Nat} {a b : mSt} (hM : M ≤ N + 31) (h : ag N a b) : ag M (sX0_init r N a) (sX0_init r N b) := by
  unfold sX0_init
  simp only [bnd]
  repeat (first | exact h | refine ag.S ?_ | refine ag.R (by omega) ?_ | refine ag.M (by omega) ?_)
theorem un.X0 {r N : Nat} {a b : mSt} (hr : r < 253) (hN : N + 31 ≤ 253) (h : un a b) : un a (sX0_init r N b) := by
  unfold sX0_init
  simp only [bnd]
  repeat (first | exact h | refine un.S (by omega) ?_ | refine un.R (by omega) ?_ | refine un.M (by omega) ?_)
theorem ag.X8 {M r N : Nat} {a b : mSt} (hM : M ≤ N + 34) (h : ag N a b) : ag M (sX8_init r N a) (sX8_init r N b) := by
  unfold sX8_init
  simp only [bnd]
  repeat (first | exact h | refine ag.X10 (by omega) ?_ | refine ag.X0 (by omega) ?_ | refine ag.S ?_ | refine ag.R (by omega) ?_ | refine ag.M (by omega) ?_)
theorem un.X8 {r N : Nat} {a b : mSt} (hr : r < 253) (hN : N + 34 ≤ 253) (h : un a b) : un a (sX8_init r N b) := by
  unfold sX8_init
  simp only [bnd]
  repeat (first | exact h | refine un.X10 (by omega) (by omega) ?_ | refine un.X0 (by omega) (by omega) ?_ | refine un.S (by omega) ?_ | refine un.R (by omega) ?_ | refine un.M (by omega) ?_)
theorem ag.X7 {M r N : Nat} {a b : mSt} (hM : M ≤ N + 10) (h : ag N a b) : ag M (sX7_init r N a) (sX7_init r N b) := by
  unfold sX7_init
  simp only [bnd]
  repeat (first | exact h | refine ag.S ?_ | refine ag.R (by omega) ?_ | refine ag.M (by omega) ?_)
theorem un.X7 {r N : Nat} {a b : mSt} (hr : r < 253) (hN : N + 10 ≤ 253) (h : un a b) : un a (sX7_init r N b) := by
  unfold sX7_init
  simp only [bnd]
  repeat (first | exact h | refine un.S (by omega) ?_ | refine un.R (by omega) ?_ | refine un.M (by omega) ?_)
theorem ag.X3 {M r N : Nat} {a b : mSt} (hM : M ≤ N + 6) (h : ag N a b) : ag M (sX3_init r N a) (sX3_init r N b) := by
  unfold sX3_init
  simp only [bnd]
  repeat (first | exact h | refine ag.S ?_ | refine ag.R (by omega) ?_ | refine ag.M (by omega) ?_)
theorem un.X3 {r N : Nat} {a b : mSt} (hr : r < 253) (hN : N + 6 ≤ 253) (h : un a b) : un a (sX3_init r N b) := by
  unfold sX3_init
  simp only [bnd]
  repeat (first | exact h | refine un.S (by omega) ?_ | refine un.R (by omega) ?_ | refine un.M (by omega) ?_)
theorem ag.X6 {M r N : Nat} {a b : mSt} (hM : M ≤ N + 8) (h : ag N a b) : ag M (sX6_init r N a) (sX6_init r N b) := by
  unfold sX6_init
  simp only [bnd]
  repeat (first | exact h | refine ag.X3 (by omega) ?_ | refine ag.S ?_ | refine ag.R (by omega) ?_ | refine ag.M (by omega) ?_)
theorem un.X6 {r N : Nat} {a b : mSt} (hr : r < 253) (hN : N + 8 ≤ 253) (h : un a b) : un a (sX6_init r N b) := by
  unfold sX6_init
  simp only [bnd]
  repeat (first | exact h | refine un.X3 (by omega) (by omega) ?_ | refine un.S (by omega) ?_ | refine un.R (by omega) ?_ | refine un.M (by omega) ?_)
theorem ag.X2 {M r N : Nat} {a b : mSt} (hM : M ≤ N + 30) (h : ag N a b) : ag M (sX2_init r N a) (sX2_init r N b) := by
  unfold sX2_init
  simp only [bnd]
  repeat (first | exact h | refine ag.X6 (by omega) ?_ | refine ag.X3 (by omega) ?_ | refine ag.S ?_ | refine ag.R (by omega) ?_ | refine ag.M (by omega) ?_)
theorem un.X2 {r N : Nat} {a b : mSt} (hr : r < 253) (hN : N + 30 ≤ 253) (h : un a b) : un a (sX2_init r N b) := by
  unfold sX2_init
  simp only [bnd]
  repeat (first | exact h | refine un.X6 (by omega) (by omega) ?_ | refine un.X3 (by omega) (by omega) ?_ | refine un.S (by omega) ?_ | refine un.R (by omega) ?_ | refine un.M (by omega) ?_)
theorem ag.X9 {M r N : Nat} {a b : mSt} (hM : M ≤ N + 0) (h : ag N a b) : ag M (sX9_init r N a) (sX9_init r N b) := by
  unfold sX9_init
  simp only [bnd]
  repeat (first | exact fun i hi => h i (by omega) | refine ag.S ?_ | refine ag.R (by omega) ?_ | refine ag.M (by omega) ?_)
theorem un.X9 {r N : Nat} {a b : mSt} (hr : r < 253) (hN : N + 0 ≤ 253) (h : un a b) : un a (sX9_init r N b) := by
  unfold sX9_init
  simp only [bnd]
  repeat (first | exact h | refine un.S (by omega) ?_ | refine un.R (by omega) ?_ | refine un.M (by omega) ?_)
theorem ag.X4 {M r N : Nat} {a b : mSt} (hM : M ≤ N + 17) (h : ag N a b) : ag M (sX4_init r N a) (sX4_init r N b) := by
  unfold sX4_init
  simp only [bnd]
  repeat (first | exact h | refine ag.X6 (by omega) ?_ | refine ag.X3 (by omega) ?_ | refine ag.S ?_ | refine ag.R (by omega) ?_ | refine ag.M (by omega) ?_)
theorem un.X4 {r N : Nat} {a b : mSt} (hr : r < 253) (hN : N + 17 ≤ 253) (h : un a b) : un a (sX4_init r N b) := by
  unfold sX4_init
  simp only [bnd]
  repeat (first | exact h | refine un.X6 (by omega) (by omega) ?_ | refine un.X3 (by omega) (by omega) ?_ | refine un.S (by omega) ?_ | refine un.R (by omega) ?_ | refine un.M (by omega) ?_)
theorem ag.X1 {M r N : Nat} {a b : mSt} (hM : M ≤ N + 1) (h : ag N a b) : ag M (sX1_init r N a) (sX1_init r N b) := by
  unfold sX1_init
  simp only [bnd]
  repeat (first | exact h | refine ag.S ?_ | refine ag.R (by omega) ?_ | refine ag.M (by omega) ?_)
theorem un.X1 {r N : Nat} {a b : mSt} (hr : r < 253) (hN : N + 1 ≤ 253) (h : un a b) : un a (sX1_init r N b) := by
  unfold sX1_init
  simp only [bnd]
  repeat (first | exact h | refine un.S (by omega) ?_ | refine un.R (by omega) ?_ | refine un.M (by omega) ?_)
theorem ag.X11 {a b : mSt} (h : ag 1 a b) : ag 253 (sX11_init a) (sX11_init b) := by
  unfold sX11_init
  simp only [bnd]
  repeat (first | exact h | refine ag.X10 (by decide) ?_ | refine ag.X0 (by decide) ?_ | refine ag.X8 (by decide) ?_ | refine ag.X7 (by decide) ?_ | refine ag.X3 (by decide) ?_ | refine ag.X6 (by decide) ?_ | refine ag.X2 (by decide) ?_ | refine ag.X9 (by decide) ?_ | refine ag.X4 (by decide) ?_ | refine ag.X1 (by decide) ?_ | refine ag.S ?_ | refine ag.R (by decide) ?_ | refine ag.M (by decide) ?_)
theorem un.X11 (a : mSt) : un a (sX11_init a) := by
  unfold sX11_init
  simp only [bnd]
  repeat (first | exact un.rf a | refine un.X10 (by decide) (by decide) ?_ | refine un.X0 (by decide) (by decide) ?_ | refine un.X8 (by decide) (by decide) ?_ | refine un.X7 (by decide) (by decide) ?_ | refine un.X3 (by decide) (by decide) ?_ | refine un.X6 (by decide) (by decide) ?_ | refine un.X2 (by decide) (by decide) ?_ | refine un.X9 (by decide) (by decide) ?_ | refine un.X4 (by decide) (by decide) ?_ | refine un.X1 (by decide) (by decide) ?_ | refine un.S (by decide) ?_ | refine un.R (by decide) ?_ | refine un.M (by decide) ?_)
theorem mSL_low (gh : mSt) {i : Nat} (hi : i < 253) : mSL gh i = mS0 i := by
  unfold mSL mSq
  rw [upR_old (by omega), upR_old (by omega), upS_row (by omega), upS_row (by omega), upS_row (by omega), upS_row (by omega), upS_row (by omega), upS_row (by omega), upR_old (by omega)]
  exact ag.X11 (ag.R (N := 0) (by decide) (fun j hj => absurd hj (Nat.not_lt_zero _))) i hi
theorem mSL_high (gh : mSt) {i : Nat} (hi : 257 ≤ i) : mSL gh i = gh i := by
  unfold mSL mSq
  rw [upR_old (by omega), upR_old (by omega), upS_row (by omega), upS_row (by omega), upS_row (by omega), upS_row (by omega), upS_row (by omega), upS_row (by omega), upR_old (by omega), un.X11 _ i (by omega), upR_old (by omega)]
  funext k
  unfold gz
  rw [if_neg (by omega)]
theorem lawA_o (gh : mSt) (xs : Nat → Int32) (L : Nat) {i : Nat} (hi : i ≠ 254 ∧ i ≠ 255) : ∀ n, lawA gh xs L n i = mSL gh i
  | 0 => rfl
  | n + 1 => by
    show upS (upS (lawA gh xs L n) 254 n _) 255 n _ i = _
    rw [upS_row hi.2, upS_row hi.1]
    exact lawA_o gh xs L hi n
theorem lawB_o (gh : mSt) (xs : Nat → Int32) (L : Nat) {i : Nat} (hi : i ≠ 256) : ∀ n, lawB gh xs L n i = lawA gh xs L 3 i
  | 0 => upR_old hi
  | n + 1 => by
    show upS (lawB gh xs L n) 256 _ _ i = _
    rw [upS_row hi]
    exact lawB_o gh xs L hi n
theorem lawS_low (gh : mSt) (xs : Nat → Int32) (L : Nat) {i : Nat} (hi : i < 253) : lawS gh xs L i = mS0 i := by
  unfold lawS
  rw [lawB_o gh xs L (by omega), lawA_o gh xs L (by omega), mSL_low gh hi]
theorem lawS_high (gh : mSt) (xs : Nat → Int32) (L : Nat) {i : Nat} (hi : 257 ≤ i) : lawS gh xs L i = gh i := by
  unfold lawS
  rw [lawB_o gh xs L (by omega), lawA_o gh xs L (by omega), mSL_high gh hi]
theorem lawA_ab (gh : mSt) (xs : Nat → Int32) (L : Nat) : ∀ n k, k < n → lawA gh xs L n 254 k = freeV xs L (4 * k) ∧ lawA gh xs L n 255 k = freeV xs L (4 * k + 2)
  | 0, k, h => absurd h (Nat.not_lt_zero _)
  | n + 1, k, h => by
    show upS (upS (lawA gh xs L n) 254 n _) 255 n _ 254 k = _ ∧ upS (upS (lawA gh xs L n) 254 n _) 255 n _ 255 k = _
    by_cases c : k = n
    · subst c
      rw [upS_ne (by omega), upS_same, upS_same]
      exact ⟨rfl, rfl⟩
    · rw [upS_ne (by omega), upS_ne (by omega), upS_ne (by omega), upS_ne (by omega)]
      exact lawA_ab gh xs L n k (by omega)
theorem shp_99 {i : Nat} (h : 257 ≤ i) : (shp i).1 = 99 := by
  unfold shp
  rw [List.getD_eq_getElem?_getD, List.getElem?_eq_none (by rw [shpL_len]; exact h)]
  rfl
theorem fix_low {i k : Nat} (h : 253 ≤ i) : fixR i k = false := by
  by_cases c : i < 257
  · rcases (show i = 253 ∨ i = 254 ∨ i = 255 ∨ i = 256 by omega) with rfl | rfl | rfl | rfl <;> exact fixR_data (by decide +kernel) k
  · exact fixR_data (Or.inr (Or.inr (Or.inr (shp_99 (by omega))))) k
theorem lawS_lay (gh : mSt) (xs : Nat → Int32) (L : Nat) : Lay (lawS gh xs L) := fun i k h => by
  by_cases c : i < 253
  · rw [lawS_low gh xs L c]
  · rw [fix_low (by omega)] at h
    cases h
theorem GH_of {σ : mSt} {xs : Nat → Int32} {L : Nat} (h : ∀ i, 253 ≤ i → σ i = lawS (ghost xs L) xs L i) : GH σ xs L := by
  refine ⟨⟨?_, ?_, ?_, ?_, ?_⟩, fun k hk => ?_, fun gh => ?_⟩
  · rw [h 257 (by omega), lawS_high _ xs L (by omega)]; rfl
  · rw [h 258 (by omega), lawS_high _ xs L (by omega)]; rfl
  · rw [h 259 (by omega), lawS_high _ xs L (by omega)]; rfl
  · rw [h 260 (by omega), lawS_high _ xs L (by omega)]; rfl
  · rw [h 261 (by omega), lawS_high _ xs L (by omega)]; rfl
  · obtain ⟨e1, e2⟩ := lawA_ab (ghost xs L) xs L 3 k hk
    rw [h 254 (by omega), h 255 (by omega)]
    unfold lawS
    rw [lawB_o _ xs L (by omega), lawB_o _ xs L (by omega), e1, e2]
    unfold ghF ghS
    rw [if_pos hk, if_pos hk]
    exact ⟨rfl, rfl⟩
  · rw [h 256 (by omega)]
    exact lawB_256 _ _ xs L _
theorem lawT_len (xs : Nat → Int32) (L : Nat) : (lawT xs L).length ≤ 160 ∧ ∀ c ∈ lawT xs L, c < 128 := by
  have hN := lawN_rng xs L
  obtain ⟨h1, h2⟩ := tx3_ok xs L (lawN xs L)
  constructor
  · unfold lawT
    rw [List.length_append, List.length_cons, List.length_nil]
    omega
  · intro c hc
    rcases List.mem_append.mp hc with h | h
    · exact h2 c h
    · rw [List.mem_singleton.mp h]; decide
/-- WHAT IS OWED TO THE WALK -/
theorem pure_law (xs : Nat → Int32) (L : Nat) : LawPure (ghost xs L) xs L := by
  obtain ⟨σ, hσ⟩ : ∃ σ, σ = lawS (ghost xs L) xs L := ⟨_, rfl⟩
  have low : ∀ i, i < 253 → σ i = mS0 i := fun i hi => by rw [hσ]; exact lawS_low _ xs L hi
  have hL : Lay σ := by rw [hσ]; exact lawS_lay _ xs L
  have v00 : σ 0 0 = 1 := by rw [low 0 (by decide)]; decide +kernel
  have v01 : σ 0 1 = ((0 : Nat) : Int) := by rw [low 0 (by decide)]; decide +kernel
  have v03 : σ 0 3 = ((37 : Nat) : Int) := by rw [low 0 (by decide)]; decide +kernel
  have v04 : σ 0 4 = ((69 : Nat) : Int) := by rw [low 0 (by decide)]; decide +kernel
  have v37 : σ 37 0 = ((0 : Nat) : Int) := by rw [low 37 (by decide)]; decide +kernel
  have v101 : σ 101 0 = ((0 : Nat) : Int) := by rw [low 101 (by decide)]; decide +kernel
  have hB : iBook σ 37 0 := ⟨Or.inl rfl, by decide, v03, by rw [v04]; decide, v37, trivial, fun k hk => absurd hk (Nat.not_lt_zero _)⟩
  have hP : iPlaces σ 0 0 := ⟨by decide, v101, fun i j _ hj => absurd hj (Nat.not_lt_zero _), fun i hi => absurd hi (Nat.not_lt_zero _), fun k i hk _ => absurd hk (Nat.not_lt_zero _), fun k p hk _ _ => absurd hk (Nat.not_lt_zero _)⟩
  obtain ⟨hlen, hasc⟩ := lawT_len xs L
  have c0 : mX11_classes 0 σ = some (0, σ) := by
    unfold mX11_classes
    rw [gc0]
    exact clL4 hL hB hP 0 0 mF (by omega) (by unfold mF; omega)
  have i0 : mX11_index 0 0 σ = some (-1, σ) := by
    unfold mX11_index
    rw [gc0, told_c hB (by unfold i32; decide), mCall_some, b2_f (by decide), if_pos (by decide)]
  obtain ⟨σ1, j, j1, j2, ⟨f1, f2, f3⟩, f4⟩ := feed_all hasc v00 10 20 0 σ (by omega) (by decide) (by decide) ⟨frm.rf σ, v01, fun k hk => absurd hk (Nat.not_lt_zero _)⟩
  have hfix : ∀ i k, fdW i k → fixR i k = false := fun i k z => by
    rcases z with rfl | ⟨rfl, rfl⟩
    · exact fixR_data (by decide +kernel) k
    · decide +kernel
  have hL1 : Lay σ1 := hL.frm f1 hfix
  have hT1 : iTape σ1 j := ⟨j2, f2, trivial, fun k hk => ⟨trivial, by rw [f3 k hk]; have := fdB_rng hasc k; omega, by rw [f3 k hk]; exact (fdB_rng hasc k).2⟩⟩
  have hw : LX (lawT xs L) (σ1 1) := fun i hi => by
    rw [f3 i (by omega)]
    unfold fdB
    rw [if_pos hi]
  have far : ∀ i, 2 ≤ i → σ1 i = σ i := fun i hi => funext fun k => f1 i k (by unfold fdW; omega)
  have hGH : GH σ xs L := GH_of (fun i _ => by rw [hσ])
  have hG1 : GR σ1 xs L := by
    obtain ⟨g1, g2, g3, g4, g5⟩ := hGH.1
    exact ⟨by rw [far _ (by omega)]; exact g1, by rw [far _ (by omega)]; exact g2, by rw [far _ (by omega)]; exact g3, by rw [far _ (by omega)]; exact g4, by rw [far _ (by omega)]; exact g5⟩
  obtain ⟨σ2, s, t1, t2, t3⟩ := text_ok hL1 hT1 (by rw [f1 _ _ (by unfold fdW; omega)]; exact v03) (by rw [f1 _ _ (by unfold fdW; omega)]; exact v04) j1 hw hG1
  have hG2 : GH σ2 xs L := GH_of (fun i hi => by rw [t3 i hi, far i (by omega), hσ])
  obtain ⟨out, o1, o2⟩ := tail_ok hG2 t2
  have n4 : ¬ place 4 := fun z => by
    rcases z with z | z
    · cases z
    · exact z.1.2 2 (by decide) (by decide) (by decide)
  have l1 := local_n (k := 0) t2 (by decide) (a := 4) (by decide) n4
  unfold LawPure
  rw [← hσ]
  exact ⟨c0, i0, σ2, f4.trans t1, l1, local_o t2 2, out, o1, o2⟩
theorem pure_all (xs : Nat → Int32) (L : Nat) (hL : L ≤ 260) : ∃ gh, LawPure gh xs L := ⟨ghost xs L, pure_law xs L⟩

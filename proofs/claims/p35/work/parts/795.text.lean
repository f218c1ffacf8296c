/-! THE TEXT is read: six algebras are told of -/
theorem al2_wf {σ τ : mSt} {D k : Nat} (h : al2 σ τ D k) : wfK (σ (D + 1)) (σ (D + 2)) (σ (D + 3)) (bG σ D) (bP σ D) k := by
  obtain ⟨e1, e2, e3, -, h5⟩ := h
  unfold wfK
  rw [e1, e2, e3]
  rcases h5 with h | ⟨h0, h1, h2⟩ | ⟨h0, h1, h2, h3, h4⟩
  · exact Or.inl h
  · exact Or.inr (Or.inl ⟨h0, by unfold qs; simp; omega, h2⟩)
  · refine Or.inr (Or.inr ⟨h0, h1, h2, h3, fun i hi => ?_⟩)
    obtain ⟨a1, a2, a3, a4, a5⟩ := h4 i hi
    rw [bG_at _ _ _ _ (by omega), bP_at _ _ _ _ (by omega), a1, a2]
    exact ⟨a3, a4, a5⟩
theorem At_of {T u : List Nat} (e : T = u) : At T 0 u := by subst e; exact ⟨rfl, Nat.zero_add _⟩
theorem rd_go {σ σ' : mSt} {w : Nat → Int} {n s' m f v1 v3 : Nat} {a1 : Int} {x : mSt → Option (Int × mSt)} (hm : m ≤ 8) (e1 : mX8_readLine 2 σ = some (1, σ')) (hA : cA σ' w n s') (t : tC w n s' ≠ 0) : mX8_readText_L32 2 v1 a1 v3 x (f + 1) 1 (m : Int) σ = mX8_readText_L32 2 v1 a1 v3 x f 1 ((m + 1 : Nat) : Int) σ' := by
  rw [mX8_readText_L32.eq_2, if_neg (by rw [wI_id (x := (m : Int)) (by omega)]; omega), if_neg (by decide), e1, mCall_some, if_neg (by decide), gr' (l20 hA.1.1) (by omega), is_tc hA (by omega), mCall_some, if_pos (by rw [b2_f t]; decide), bnd_eq]
  rfl
theorem rd_end {σ σ' : mSt} {w : Nat → Int} {n s' m f v1 v3 : Nat} {a1 : Int} {x : mSt → Option (Int × mSt)} (hm : m ≤ 8) (e1 : mX8_readLine 2 σ = some (1, σ')) (hA : cA σ' w n s') (t : tC w n s' = 0) : mX8_readText_L32 2 v1 a1 v3 x (f + 1 + 1) 1 (m : Int) σ = x σ' := by
  rw [mX8_readText_L32.eq_2, if_neg (by rw [wI_id (x := (m : Int)) (by omega)]; omega), if_neg (by decide), e1, mCall_some, if_neg (by decide), gr' (l20 hA.1.1) (by omega), is_tc hA (by omega), mCall_some, if_neg (by rw [b2_t t]; decide)]
  unfold mX8_readText_B66
  rw [bnd_eq, L32_0]
theorem tC_nz {T : List Nat} {w : Nat → Int} {s c : Nat} {u : List Nat} (h : At T s (c :: u)) : tC w T.length s ≠ 0 := by
  have h1 := h.lt
  have := tKey w T.length s
  omega
theorem lawT_e (xs : Nat → Int32) (L : Nat) : lawT xs L = tQ 0 (ghF xs L 0) (ghS xs L 0) ++ (tQ 1 (ghF xs L 1) (ghS xs L 1) ++ (tQ 2 (ghF xs L 2) (ghS xs L 2) ++ (tCy 0 (qv (someV xs L (20 + 0) 6).toNat) (someV xs L (22 + 0) 2) (1 + someV xs L (24 + 0) 999) ++ (tCy 1 (qv (someV xs L (20 + 1) 6).toNat) (someV xs L (22 + 1) 2) (1 + someV xs L (24 + 1) 999) ++ ([115, 117, 109, 32, 115, 97] ++ (tmL xs L (lawN xs L) 0 ++ [59])))))) := by
  unfold lawT
  rw [tx3_e]
  show ((((([] ++ tQ 0 (freeV xs L (4 * 0)) (freeV xs L (4 * 0 + 2))) ++ tQ 1 (freeV xs L (4 * 1)) (freeV xs L (4 * 1 + 2))) ++ tQ 2 (freeV xs L (4 * 2)) (freeV xs L (4 * 2 + 2))) ++ tCy 0 _ _ _) ++ tCy 1 _ _ _) ++ ([115, 117, 109, 32, 115, 97] ++ tmL xs L (lawN xs L) 0) ++ [59] = _
  rw [List.nil_append]
  simp only [List.append_assoc]
  rfl
theorem read_all {xs : Nat → Int32} {L : Nat} {w : Nat → Int} {σ : mSt} {v1 v3 : Nat} {a1 : Int} {x : mSt → Option (Int × mSt)} (hw : LX (lawT xs L) w) (h : lnC σ (gT xs L) w (lawT xs L).length 0 69 0) : ∃ (σ' : mSt) (s' : Nat), mX8_readText_L32 2 v1 a1 v3 x mF 1 0 σ = x σ' ∧ frm (cXl 69) σ σ' ∧ lnC σ' (gT xs L) w (lawT xs L).length s' 69 6 := by
  have e := lawT_e xs L
  obtain ⟨T, hT⟩ : ∃ T, T = lawT xs L := ⟨_, rfl⟩
  rw [← hT] at hw h e ⊢
  have hat := At_of e
  have hq : ∀ (k : Nat) (A B : Int) (u : List Nat), ∃ l, tQ k A B ++ u = 113 :: l := fun k A B u => ⟨_, rfl⟩
  have hc : ∀ (k : Nat) (A g B : Int) (u : List Nat), ∃ l, tCy k A g B ++ u = 99 :: l := fun k A g B u => ⟨_, rfl⟩
  obtain ⟨σ1, a1', a2, a3, a4⟩ := lineQ hw (k := 0) (by decide) h hat (by obtain ⟨l, z⟩ := hq 1 (ghF xs L 1) (ghS xs L 1) (tQ 2 (ghF xs L 2) (ghS xs L 2) ++ (tCy 0 (qv (someV xs L (20 + 0) 6).toNat) (someV xs L (22 + 0) 2) (1 + someV xs L (24 + 0) 999) ++ (tCy 1 (qv (someV xs L (20 + 1) 6).toNat) (someV xs L (22 + 1) 2) (1 + someV xs L (24 + 1) 999) ++ ([115, 117, 109, 32, 115, 97] ++ (tmL xs L (lawN xs L) 0 ++ [59]))))); rw [z]; exact nsp_c (by decide))
  obtain ⟨σ2, b1, b2', b3, b4⟩ := lineQ hw (k := 1) (by decide) a3 a4 (by obtain ⟨l, z⟩ := hq 2 (ghF xs L 2) (ghS xs L 2) (tCy 0 (qv (someV xs L (20 + 0) 6).toNat) (someV xs L (22 + 0) 2) (1 + someV xs L (24 + 0) 999) ++ (tCy 1 (qv (someV xs L (20 + 1) 6).toNat) (someV xs L (22 + 1) 2) (1 + someV xs L (24 + 1) 999) ++ ([115, 117, 109, 32, 115, 97] ++ (tmL xs L (lawN xs L) 0 ++ [59])))); rw [z]; exact nsp_c (by decide))
  obtain ⟨σ3, c1, c2, c3, c4⟩ := lineQ hw (k := 2) (by decide) b3 b4 (by obtain ⟨l, z⟩ := hc 0 (qv (someV xs L (20 + 0) 6).toNat) (someV xs L (22 + 0) 2) (1 + someV xs L (24 + 0) 999) (tCy 1 (qv (someV xs L (20 + 1) 6).toNat) (someV xs L (22 + 1) 2) (1 + someV xs L (24 + 1) 999) ++ ([115, 117, 109, 32, 115, 97] ++ (tmL xs L (lawN xs L) 0 ++ [59]))); rw [z]; exact nsp_c (by decide))
  obtain ⟨σ4, d1, d2, d3, d4⟩ := lineC hw (k := 0) (by decide) c3 c4 (by obtain ⟨l, z⟩ := hc 1 (qv (someV xs L (20 + 1) 6).toNat) (someV xs L (22 + 1) 2) (1 + someV xs L (24 + 1) 999) ([115, 117, 109, 32, 115, 97] ++ (tmL xs L (lawN xs L) 0 ++ [59])); rw [z]; exact nsp_c (by decide))
  obtain ⟨σ5, e1, e2, e3, e4⟩ := lineC hw (k := 1) (by decide) d3 d4 (nsp_c (by decide))
  obtain ⟨σ6, s6, f1, f2, f3, f4⟩ := lineS hw e3 e4
  obtain ⟨f, hf⟩ : ∃ f, mF = f + 7 := ⟨mF - 7, by unfold mF; omega⟩
  have q1 := rd_go (f := f + 6) (m := 0) (v1 := v1) (v3 := v3) (a1 := a1) (x := x) (by decide) a1' a3.1 (by obtain ⟨l, z⟩ := hq 1 (ghF xs L 1) (ghS xs L 1) (tQ 2 (ghF xs L 2) (ghS xs L 2) ++ (tCy 0 (qv (someV xs L (20 + 0) 6).toNat) (someV xs L (22 + 0) 2) (1 + someV xs L (24 + 0) 999) ++ (tCy 1 (qv (someV xs L (20 + 1) 6).toNat) (someV xs L (22 + 1) 2) (1 + someV xs L (24 + 1) 999) ++ ([115, 117, 109, 32, 115, 97] ++ (tmL xs L (lawN xs L) 0 ++ [59]))))); rw [z] at a4; exact tC_nz a4)
  have q2 := rd_go (f := f + 5) (m := 1) (v1 := v1) (v3 := v3) (a1 := a1) (x := x) (by decide) b1 b3.1 (by obtain ⟨l, z⟩ := hq 2 (ghF xs L 2) (ghS xs L 2) (tCy 0 (qv (someV xs L (20 + 0) 6).toNat) (someV xs L (22 + 0) 2) (1 + someV xs L (24 + 0) 999) ++ (tCy 1 (qv (someV xs L (20 + 1) 6).toNat) (someV xs L (22 + 1) 2) (1 + someV xs L (24 + 1) 999) ++ ([115, 117, 109, 32, 115, 97] ++ (tmL xs L (lawN xs L) 0 ++ [59])))); rw [z] at b4; exact tC_nz b4)
  have q3 := rd_go (f := f + 4) (m := 2) (v1 := v1) (v3 := v3) (a1 := a1) (x := x) (by decide) c1 c3.1 (by obtain ⟨l, z⟩ := hc 0 (qv (someV xs L (20 + 0) 6).toNat) (someV xs L (22 + 0) 2) (1 + someV xs L (24 + 0) 999) (tCy 1 (qv (someV xs L (20 + 1) 6).toNat) (someV xs L (22 + 1) 2) (1 + someV xs L (24 + 1) 999) ++ ([115, 117, 109, 32, 115, 97] ++ (tmL xs L (lawN xs L) 0 ++ [59]))); rw [z] at c4; exact tC_nz c4)
  have q4 := rd_go (f := f + 3) (m := 3) (v1 := v1) (v3 := v3) (a1 := a1) (x := x) (by decide) d1 d3.1 (by obtain ⟨l, z⟩ := hc 1 (qv (someV xs L (20 + 1) 6).toNat) (someV xs L (22 + 1) 2) (1 + someV xs L (24 + 1) 999) ([115, 117, 109, 32, 115, 97] ++ (tmL xs L (lawN xs L) 0 ++ [59])); rw [z] at d4; exact tC_nz d4)
  have q5 := rd_go (f := f + 2) (m := 4) (v1 := v1) (v3 := v3) (a1 := a1) (x := x) (by decide) e1 e3.1 (tC_nz e4)
  have q6 := rd_end (f := f) (m := 5) (v1 := v1) (v3 := v3) (a1 := a1) (x := x) (by decide) f1 f3.1 f4
  refine ⟨σ6, s6, ?_, ((((a2.tr b2' (fun _ _ z => z)).tr c2 (fun _ _ z => z)).tr d2 (fun _ _ z => z)).tr e2 (fun _ _ z => z)).tr f2 (fun _ _ z => z), f3⟩
  rw [hf]
  exact q1.trans (q2.trans (q3.trans (q4.trans (q5.trans q6))))
def GR (σ : mSt) (xs : Nat → Int32) (L : Nat) : Prop := σ 257 = ghK ∧ σ 258 = ghF xs L ∧ σ 259 = ghS xs L ∧ σ 260 = ghG xs L ∧ σ 261 = ghP xs L
theorem text_ok {xs : Nat → Int32} {L t : Nat} {σ : mSt} (hL : Lay σ) (hT : iTape σ t) (q3 : σ 0 3 = ((37 : Nat) : Int)) (q4 : σ 0 4 = ((69 : Nat) : Int)) (hn : (lawT xs L).length ≤ t) (hw : LX (lawT xs L) (σ 1)) (hG : GR σ xs L) : ∃ (σ2 : mSt) (s : Nat), mX11_text 0 ((lawT xs L).length : Int) σ = some (6, σ2) ∧ CI σ2 69 s ∧ ∀ i, 253 ≤ i → σ2 i = σ i := by
  obtain ⟨t0, t1, -, t3⟩ := id hT
  have hD : (69 : Nat) = 37 ∨ (69 : Nat) = 69 := Or.inr rfl
  have hn0 : ((lawT xs L).length : Int).toNat = (lawT xs L).length := Int.toNat_natCast _
  obtain ⟨σ1, c1, c2, c3, c4, c5, c6⟩ := start_c (D := 69) (a1 := ((lawT xs L).length : Int)) hL hT hD (by omega) (by omega)
  have hat : At (lawT xs L) 0 (lawT xs L) := ⟨rfl, Nat.zero_add _⟩
  have sk0 : skp (σ 1) (lawT xs L).length 0 = 0 := skp_at hw hat (by
    rw [lawT_e]
    exact fun c hc => by
      have : c = 113 := (Option.some.inj hc).symm
      rw [this]; decide)
  rw [hn0, sk0] at c3
  obtain ⟨σ', s', e1, e3, e6⟩ := read_all (v1 := 1) (v3 := 69) (a1 := ((lawT xs L).length : Int)) (x := fun zσ => mX8_readText_B75 2 1 ((lawT xs L).length : Int) 69 zσ) hw ⟨c3, hD, by decide, c4, c5, c6, fun k hk => by omega⟩
  obtain ⟨zA, -, -, z21, zD0, z22, zbn⟩ := e6
  have fc : frm (cY 69) σ σ' := c2.tr e3 (fun _ _ z => Or.inl z)
  have hL' := hL.frm fc (fun _ _ z => cY_fix hD z)
  have f0 : fixR 0 1 = false := by decide +kernel
  have f3 : fixR 0 3 = false := by decide +kernel
  have f4 : fixR 0 4 = false := by decide +kernel
  obtain ⟨s12, hs12⟩ : ∃ z, z = upS σ' 0 1 0 := ⟨_, rfl⟩
  have hL12 : Lay s12 := by rw [hs12]; exact hL'.up f0
  have o12 : ∀ i, i ≠ 0 → s12 i = σ' i := fun i hi => by rw [hs12]; exact upS_row hi
  have c03 : σ' 0 3 = ((37 : Nat) : Int) := by rw [fc _ _ (by unfold cY cXl cR cL tkW; omega), q3]
  have c04 : σ' 0 4 = ((69 : Nat) : Int) := by rw [fc _ _ (by unfold cY cXl cR cL tkW; omega), q4]
  have far : ∀ i, 101 ≤ i → σ' i = σ i := fun i hi => funext fun j => fc i j (by unfold cY cXl cR cL tkW; omega)
  obtain ⟨s23, hs23⟩ : ∃ z, z = upS (upS s12 0 3 ((69 : Nat) : Int)) 0 4 ((37 : Nat) : Int) := ⟨_, rfl⟩
  have hL23 : Lay s23 := by rw [hs23]; exact (hL12.up f3).up f4
  have o23 : ∀ i, i ≠ 0 → s23 i = σ' i := fun i hi => by rw [hs23, upS_row hi, upS_row hi, o12 i hi]
  have hwf : ∀ k, k < 6 → wfK (σ' (69 + 1)) (σ' (69 + 2)) (σ' (69 + 3)) (bG σ' 69) (bP σ' 69) k := fun k hk => al2_wf (zbn k hk)
  obtain ⟨s1, sx, a1', a2, a3, a4, a5⟩ := anew_e (K := σ' (69 + 1)) (F := σ' (69 + 2)) (S := σ' (69 + 3)) (G := bG σ' 69) (P := bP σ' 69) (n := 6) hL23 hD (by decide) (by rw [hs23, upS_ne (by omega), upS_same]) (by rw [o23 _ (by omega), zD0]) (by rw [o23 _ (by omega)]) (by rw [o23 _ (by omega)]) (by rw [o23 _ (by omega)]) hwf (fun k hk z i hi => by
    rcases hwf k hk with ⟨w0, -⟩ | ⟨w0, -⟩ | ⟨w0, w1, w2, w3, w4⟩
    · omega
    · omega
    · rw [bG_at _ _ _ _ (by omega), bP_at _ _ _ _ (by omega), o23 _ (by omega), o23 _ (by omega)]
      exact ⟨rfl, rfl⟩)
  have hLx := hL23.frm a2 (fun _ _ z => anW_fix z)
  have ox : ∀ i, i < 101 → i ≠ 0 → sx i = σ' i := fun i hi h0 => by
    rw [← o23 i h0]
    exact funext fun j => a2 i j (by unfold anW recW noW elD orC; omega)
  have ox2 : ∀ i, 253 ≤ i → sx i = σ i := fun i hi => by
    rw [← far i (by omega), ← o23 i (by omega)]
    exact funext fun j => a2 i j (by unfold anW recW noW elD orC; omega)
  have sx03 : sx 0 3 = ((69 : Nat) : Int) := by rw [a2 _ _ (by unfold anW recW noW elD orC; omega), hs23, upS_ne (by omega), upS_same]
  have sx04 : sx 0 4 = ((37 : Nat) : Int) := by rw [a2 _ _ (by unfold anW recW noW elD orC; omega), hs23, upS_same]
  obtain ⟨g1, g2, g3, g4, g5⟩ := hG
  -- the ghost rows are the book's
  have alg : ∀ k, k < 6 → iAlg sx 69 0 k := fun k hk => by
    obtain ⟨i1, i2, i3, -, i5⟩ := zbn k hk
    rw [gT_257] at i1
    rw [gT_258] at i2
    rw [gT_259] at i3
    rw [gT_257, gT_258, gT_259] at i5
    unfold iAlg
    rw [Nat.zero_add, ox2 257 (by omega), ox2 258 (by omega), ox2 259 (by omega), ox2 260 (by omega), ox2 261 (by omega), g1, g2, g3, g4, g5, ox (69 + 1) (by omega) (by omega), ox (69 + 2) (by omega) (by omega), ox (69 + 3) (by omega) (by omega), ox (69 + 15 + k) (by omega) (by omega), ox (69 + 24 + k) (by omega) (by omega)]
    refine ⟨i1, i2, i3, trivial, ?_⟩
    rcases i5 with z | z | ⟨z1, z2, z3, z4, z5⟩
    · exact Or.inl z
    · exact Or.inr (Or.inl z)
    · refine Or.inr (Or.inr ⟨z1, z2, z3, z4, fun i hi => ?_⟩)
      have := z5 i hi
      have eG : gT xs L 260 (4 * (8 + k) + i) = ghG xs L (4 * k + i) := by
        show ghG xs L (4 * (8 + k) + i - 32) = _
        rw [show 4 * (8 + k) + i - 32 = 4 * k + i by omega]
      have eP : gT xs L 261 (4 * (8 + k) + i) = ghP xs L (4 * k + i) := by
        show ghP xs L (4 * (8 + k) + i - 32) = _
        rw [show 4 * (8 + k) + i - 32 = 4 * k + i by omega]
      rw [eG, eP] at this
      exact this
  have lc : ∀ k p, k < 6 → loc sx k p = locF (σ' (69 + 1)) (σ' (69 + 2)) (σ' (69 + 3)) (bG σ' 69) (bP σ' 69) 9 k p := fun k p hk => by
    unfold loc
    refine locF_cg hwf (fun k' hk' => ?_) 9 9 k p hk (by omega) (by omega)
    obtain ⟨i1, i2, i3, -, i5⟩ := alg k' hk'
    rw [Nat.zero_add] at i1 i2 i3 i5
    rw [ox (69 + 1) (by omega) (by omega)] at i1
    rw [ox (69 + 2) (by omega) (by omega)] at i2
    rw [ox (69 + 3) (by omega) (by omega)] at i3
    refine ⟨i1.symm, i2.symm, i3.symm, fun z i hi => ?_⟩
    rw [i1] at z
    rw [i2] at hi
    rcases i5 with ⟨w0, -⟩ | ⟨w0, -⟩ | ⟨w0, w1, w2, w3, w4⟩
    · omega
    · omega
    · obtain ⟨x1, x2, -⟩ := w4 i hi
      rw [bG_at _ _ _ _ (by omega), bP_at _ _ _ _ (by omega), ← x1, ← x2, ox (69 + 15 + k') (by omega) (by omega), ox (69 + 24 + k') (by omega) (by omega)]
      exact ⟨rfl, rfl⟩
  obtain ⟨p1, p2, p3, p4, p5, p6⟩ := a3
  have hP : iPlaces sx 6 s1 := ⟨p1, p2, p3, p4, fun k i hk hi => by rw [lc k _ hk]; exact p5 k i hk hi, fun k p hk hp hz => by rw [lc k _ hk]; exact p6 k p hk hp hz⟩
  refine ⟨sx, s1, ?_, ⟨hLx, ⟨hD, by decide, sx03, by rw [sx04]; decide, by rw [ox 69 (by omega) (by omega), zD0], trivial, alg⟩, hP⟩, ox2⟩
  have x3 : s12 0 3 = ((37 : Nat) : Int) := by rw [hs12, upS_ne (by omega), c03]
  have x4 : s12 0 4 = ((69 : Nat) : Int) := by rw [hs12, upS_ne (by omega), c04]
  unfold mX11_text
  rw [gc0, if_neg (by rw [wI_id (by omega)]; omega), t1, if_pos (by rw [wI_id (by omega), wI_id (by omega)]; omega), gr' (lay0 hL).2.1 (by omega), gr' (lay0 hL).1 (by omega), gr' q4 (by omega), c1.trans e1]
  unfold mX8_readText_B75
  rw [mCall_some, bnd_eq, ← hs12, if_pos (by rw [z22]; decide), gr' x3 (by omega), gr' x4 (by omega), mG_pos (by omega), bnd_eq, mG_pos (by omega), bnd_eq, ← hs23, a1', mCall_some, gr' sx03 (by omega), size_c hD, mCall_some, ox 69 (by omega) (by omega), zD0]
  rfl

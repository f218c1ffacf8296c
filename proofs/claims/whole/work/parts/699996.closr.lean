/-! the reference closes its work lattice -/
theorem cW_fix {i j : Nat} (h : cW i j) : fixR i j = false := by
  rcases h with rfl | rfl | rfl | rfl | ⟨rfl, -⟩ | ⟨rfl | rfl, -⟩
  · exact fixR_data (by decide) j
  · exact fixR_data (by decide) j
  · exact fixR_data (by decide) j
  · exact fixR_data (by decide) j
  · exact fixR_data (by decide) j
  · exact fixR_data (by decide) j
  · exact fixR_data (by decide) j
def clS (τ0 τ : mSt) (al : Nat) (a b B : Int) (E : Nat → V4) (u : V4) : Prop := Lay τ ∧ frm cW τ0 τ ∧ atR τ 8 E B B u ∧ τ 258 al = a ∧ τ 259 al = b
theorem clS_fr {τ0 τ τ' : mSt} {al : Nat} {a b B L : Int} {E G : Nat → V4} {u w : V4} (h : clS τ0 τ al a b B E u) (hf : frm cW τ τ') (ha : atR τ' 8 G L L w) : clS τ0 τ' al a b L G w := by
  obtain ⟨h1, h2, h3, h4, h5⟩ := h
  refine ⟨h1.frm hf (fun i j z => cW_fix z), h2.tr hf (fun i j z => z), ha, ?_, ?_⟩
  · rw [hf _ _ (by unfold cW; omega)]; exact h4
  · rw [hf _ _ (by unfold cW; omega)]; exact h5
theorem atR_out {τ τ' : mSt} {B : Int} {E : Nat → V4} {u : V4} (h : atR τ 8 E B B u) (hf : ∀ i j, i ≠ 265 → i ≠ 266 → i ≠ 267 → τ' i j = τ i j) : atR τ' 8 E B B u := by
  obtain ⟨h1, h2, h3, h4, h5⟩ := h
  refine ⟨?_, fun r hr => ?_, ?_, ?_, ?_⟩
  · unfold rL3
    rw [hf _ _ (by omega) (by omega) (by omega), hf _ _ (by omega) (by omega) (by omega), hf _ _ (by omega) (by omega) (by omega), hf _ _ (by omega) (by omega) (by omega)]
    exact h1
  · rw [← h2 r hr]
    exact congrFun (rowL_congr (funext fun j => hf _ _ (by omega) (by omega) (by omega))) _
  · rw [hf _ _ (by omega) (by omega) (by omega)]; exact h3
  · rw [hf _ _ (by omega) (by omega) (by omega)]; exact h4
  · rw [← h5]
    unfold rowV
    rw [hf _ _ (by omega) (by omega) (by omega), hf _ _ (by omega) (by omega) (by omega), hf _ _ (by omega) (by omega) (by omega), hf _ _ (by omega) (by omega) (by omega)]
theorem clL82 {τ : mSt} {v1 v3 v4 : Int} {x : mSt → Option (Int × mSt)} (l27 : τ 253 27 = ((267 : Nat) : Int)) (l32 : τ 253 32 = ((272 : Nat) : Int)) : mX12_closes_L82 253 v1 v3 v4 x mF 0 τ = x (stV τ 272 (rowV τ 267)) := by
  obtain ⟨f, hf⟩ := mF5
  rw [hf]
  repeat (rw [mX12_closes_L82.eq_2]; simp (disch := first | omega | (simp (disch := omega) only [up_ne, stV_ne, upS_same, l27, l32] <;> omega)) only [gr, bnd_eq, up_ne, upS_same, stV_ne, mCall_some, wI_id, wL_id, cLtF, cLtT, cLeF, cLeT, cEqF, cEqT, ↓reduceIte, Int.toNat_natCast, Int.reduceToNat, l27, l32, gx267, gx272, Int.reduceAdd])
  rfl
/-- one product -/
theorem clProd {τ0 τ : mSt} {al r s : Nat} {a b B : Int} {E : Nat → V4} {u : V4} {x : Int → mSt → Option (Int × mSt)} {c : Int → Int → mSt → Option (Int × mSt)} (hS : clS τ0 τ al a b B E u) (hal : al < 16) (ha : a ≠ 0 ∧ -60 ≤ a ∧ a ≤ 60) (hb : b ≠ 0 ∧ -60 ≤ b ∧ b ≤ 60) (hE : gdL B E) (hw : Who a b (latS B E)) (hr : r < 4) (hs : s < 4) : ∃ v τ' L G, gdL L G ∧ L ≤ 14400 ∧ (∀ S, Grp S → (subL L G S ↔ (subL B E S ∧ S (vM a b (E r) (E s)) (B * B)))) ∧ clS τ0 τ' al a b L G v0 ∧ ((v = 0 ∧ latS B E (vM a b (E r) (E s)) (B * B)) ∨ (v = 1 ∧ ¬ latS B E (vM a b (E r) (E s)) (B * B))) ∧ (mCall (mX12_takesRow 253 8 (r : Int) 0 τ) fun b29 s30 => mCall (mX12_takesRow 253 8 (s : Int) 1 s30) fun b32 s33 => mRef (s33 253 15) fun r35 => mG (ixOK r35 20 (al : Int)) <| mRef (s33 253 16) fun r38 => mG (ixOK r38 20 (al : Int)) <| mCall (mX12_multiplies 253 (wI (s33 r35 (wI (al : Int)).toNat)) (wI (s33 r38 (wI (al : Int)).toNat)) s33) fun b41 s42 => mX12_closes_L82 253 (al : Int) (r : Int) (s : Int) (fun zσ => mX12_closes_B108 253 (al : Int) (r : Int) c x (s : Int) zσ) mF 0 s42) = c v ((s : Int) + 1) τ' := by
  have hS' := hS
  obtain ⟨hL, hf, h3, h4, h5⟩ := hS
  have ly := lay253 hL
  have B14 := whole_rng ha hb hE (c := 2) (by omega) (who_dvS hE.1 hw)
  have B0 := hE.1.1
  have BB := mul_rng (x := B) (y := B) (A := 14400) (B := 14400) (by omega) (by omega) (by omega)
  have BB0 : 0 < B * B := Int.mul_pos B0 B0
  have rb := rB2_of hE.1
  have vm := vM_rng ha.2 hb.2 (rb r hr) (rb s hs) (by omega)
  obtain ⟨τ1, h1⟩ : ∃ τ1, τ1 = stV τ 265 (rowL τ 8 r) := ⟨_, rfl⟩
  obtain ⟨τ2, h2⟩ : ∃ τ2, τ2 = stV τ1 266 (rowL τ1 8 s) := ⟨_, rfl⟩
  obtain ⟨τ3, h33⟩ : ∃ τ3, τ3 = stV τ2 267 (vM a b (E r) (E s)) := ⟨_, rfl⟩
  have u1 : ∀ i j, i ≠ 265 → τ1 i j = τ i j := fun i j z => by rw [h1, stV_ne _ _ _ _ _ z]
  have u2 : ∀ i j, i ≠ 265 → i ≠ 266 → τ2 i j = τ i j := fun i j z y => by rw [h2, stV_ne _ _ _ _ _ y, u1 _ _ z]
  have u3 : ∀ i j, i ≠ 265 → i ≠ 266 → i ≠ 267 → τ3 i j = τ i j := fun i j z y w => by rw [h33, stV_ne _ _ _ _ _ w, u2 _ _ z y]
  have row1 : rowL τ1 8 s = E s := by
    rw [rowL_congr (σ := τ) (funext fun j => u1 _ _ (by omega))]
    exact h3.2.1 s hs
  have t1 := takesRow0_e (τ := τ) (l := 8) (r := r) ly.2.2.2.2.2.2.2.2.2.2.2.2.2.2.2.1 ly.2.2.2.2.2.2.2.2.2.2.2.1 (by omega) hr
  have t2 := takesRow1_e (τ := τ1) (l := 8) (r := s) (by rw [u1 _ _ (by omega)]; exact ly.2.2.2.2.2.2.2.2.2.2.2.2.2.2.2.1) (by rw [u1 _ _ (by omega)]; exact ly.2.2.2.2.2.2.2.2.2.2.2.2.1) (by omega) hs
  rw [← h1] at t1
  rw [← h2] at t2
  have t3 := multiplies_e (τ := τ2) (a := a) (b := b) (by rw [u2 _ _ (by omega) (by omega)]; exact ly.2.2.2.2.2.2.2.2.2.2.2.1) (by rw [u2 _ _ (by omega) (by omega)]; exact ly.2.2.2.2.2.2.2.2.2.2.2.2.1) (by rw [u2 _ _ (by omega) (by omega)]; exact ly.2.2.2.2.2.2.2.2.2.2.2.2.2.1)
  have r265 : rowV τ2 265 = E r := by
    rw [← h3.2.1 r hr, ← rowV_stV τ 265 (rowL τ 8 r), ← h1]
    unfold rowV
    rw [h2, stV_ne _ _ _ _ _ (by omega), stV_ne _ _ _ _ _ (by omega), stV_ne _ _ _ _ _ (by omega), stV_ne _ _ _ _ _ (by omega)]
  have r266 : rowV τ2 266 = E s := by rw [h2, rowV_stV, row1]
  rw [r265, r266, ← h33] at t3
  have r267 : rowV τ3 267 = vM a b (E r) (E s) := by rw [h33, rowV_stV]
  have L82 := clL82 (τ := τ3) (v1 := (al : Int)) (v3 := (r : Int)) (v4 := (s : Int)) (x := fun zσ => mX12_closes_B108 253 (al : Int) (r : Int) c x (s : Int) zσ) (by rw [u3 _ _ (by omega) (by omega) (by omega)]; exact ly.2.2.2.2.2.2.2.2.2.2.2.2.2.1) (by rw [u3 _ _ (by omega) (by omega) (by omega)]; exact ly.2.2.2.2.2.2.2.2.2.2.2.2.2.2.2.2.2.2.1)
  rw [r267] at L82
  have A3 := atR_out h3 u3
  obtain ⟨τ4, h44⟩ : ∃ τ4, τ4 = stV τ3 272 (vM a b (E r) (E s)) := ⟨_, rfl⟩
  have A4 : atR τ4 8 E B B (vM a b (E r) (E s)) := by
    obtain ⟨x1, x2, x3, x4, x5⟩ := A3
    rw [h44]
    refine ⟨?_, fun q hq => ?_, ?_, ?_, rowV_stV _ _ _⟩
    · unfold rL3
      rw [stV_ne _ _ _ _ _ (by omega), stV_ne _ _ _ _ _ (by omega), stV_ne _ _ _ _ _ (by omega), stV_ne _ _ _ _ _ (by omega)]
      exact x1
    · rw [← x2 q hq]
      exact congrFun (rowL_congr (stV_row _ _ _ _ (by omega))) _
    · rw [stV_ne _ _ _ _ _ (by omega)]; exact x3
    · rw [stV_ne _ _ _ _ _ (by omega)]; exact x4
  have f4 : frm cW τ τ4 := by
    rw [h44, h33, h2, h1]
    exact ((((frm.rf τ).stV (fun j => Or.inl rfl)).stV (fun j => Or.inr (Or.inl rfl))).stV (fun j => Or.inr (Or.inr (Or.inl rfl)))).stV (fun j => Or.inr (Or.inr (Or.inr (Or.inl rfl))))
  obtain ⟨L, G, v, τ', p1, p2, p3, p4, p5, p6, p7⟩ := put8 A4 hE (Int.dvd_mul_right B B) ⟨BB0, by omega⟩ (fun i hi => by have := vm i hi; omega)
  have S4 := clS_fr hS' f4 A4
  refine ⟨v, τ', L, G, p1, ?_, p3, clS_fr S4 p5 p6, p7, ?_⟩
  · refine whole_rng ha hb p1 (c := 4) (by omega) ((p3 _ (dvS_grp _)).mpr ⟨fun r hr => ?_, prod_dvS hE.1 hw hr hs⟩)
    have := dvS_mul 2 (who_dvS hE.1 hw r hr)
    rwa [← Int.mul_assoc] at this
  · have e8 : ((8 : Nat) : Int) = 8 := rfl
    rw [e8] at t1 t2
    rw [t1, mCall_some, t2, mCall_some, gr' (r := 258) (by rw [u2 _ _ (by omega) (by omega)]; exact ly.2.2.2.2.1) (by omega), gx258 _ (by omega), gr' (r := 259) (by rw [u2 _ _ (by omega) (by omega)]; exact ly.2.2.2.2.2.1) (by omega), gx259 _ (by omega), wI_nat (k := al) (by omega), u2 _ _ (by omega) (by omega), u2 _ _ (by omega) (by omega), h4, h5, wI_id (x := a) (by omega), wI_id (x := b) (by omega), t3, mCall_some, L82, ← h44]
    unfold mX12_closes_B108
    have q30 : τ4 253 30 = ((270 : Nat) : Int) := A4.1.2.1
    have q8 : τ4 270 8 = B := A4.2.2.1
    rw [gr' q30 (by omega), gx270 _ (by omega), gr' q30 (by omega), gx270 _ (by omega), q8, bnd_eq, p4, mCall_some, bnd_eq]
def gwn (a b B : Int) (E : Nat → V4) (L : Int) (G : Nat → V4) : Prop := gdL L G ∧ L ≤ 14400 ∧ 2 * lot B E ≤ lot L G ∧ subL B E (latS L G) ∧ ∀ S, Grp S → Clo a b S → subL B E S → subL L G S
theorem gwn_mk {a b B L : Int} {E G : Nat → V4} {r s : Nat} (hE : gdL B E) (hG : gdL L G) (hL : L ≤ 14400) (hr : r < 4) (hs : s < 4) (h : ∀ S, Grp S → (subL L G S ↔ (subL B E S ∧ S (vM a b (E r) (E s)) (B * B)))) (hn : ¬ latS B E (vM a b (E r) (E s)) (B * B)) : gwn a b B E L G := by
  have s1 := (h _ latS_grp).mp (subL_self L G)
  have lg := lot_grow hE.1 hG.1 s1.1
  refine ⟨hG, hL, ?_, s1.1, fun S h1 h2 h3 => (h S h1).mpr ⟨h3, h2 _ _ _ _ hE.1.1 hE.1.1 (h3 r hr) (h3 s hs)⟩⟩
  refine lot_two (lot_pos hE.1.1 hE.1.2.1 (uni_of hE.1.2.2.2)) (lot_pos hG.1.1 hG.1.2.1 (uni_of hG.1.2.2.2)) lg.1 (fun z => hn ?_)
  exact ((h _ latS_grp).mp (lg.2 z)).2
theorem same_mk {a b B L : Int} {E G : Nat → V4} {r s : Nat} (hE : gdL B E) (hG : gdL L G) (h : ∀ S, Grp S → (subL L G S ↔ (subL B E S ∧ S (vM a b (E r) (E s)) (B * B)))) (hn : latS B E (vM a b (E r) (E s)) (B * B)) : L = B ∧ ∀ i, i < 4 → G i = E i := by
  refine gdL_eq hG hE ((h _ latS_grp).mpr ⟨subL_self B E, hn⟩) ((h _ latS_grp).mp (subL_self L G)).1
theorem clS_eq {τ0 τ : mSt} {al : Nat} {a b B L : Int} {E G : Nat → V4} {u : V4} (h : clS τ0 τ al a b L G u) (e : L = B ∧ ∀ i, i < 4 → G i = E i) : clS τ0 τ al a b B E u := by
  obtain ⟨h1, h2, ⟨x1, x2, x3, x4, x5⟩, h4, h5⟩ := h
  exact ⟨h1, h2, ⟨x1, fun r hr => by rw [x2 r hr, e.2 r hr], by rw [x3, e.1], by rw [x4, e.1], x5⟩, h4, h5⟩
theorem clL34 {τ0 : mSt} {al r : Nat} {a b B : Int} {E : Nat → V4} {x : Int → mSt → Option (Int × mSt)} (hal : al < 16) (ha : a ≠ 0 ∧ -60 ≤ a ∧ a ≤ 60) (hb : b ≠ 0 ∧ -60 ≤ b ∧ b ≤ 60) (hE : gdL B E) (hw : Who a b (latS B E)) (hr : r < 4) : ∀ (m s N : Nat) (τ : mSt) (u : V4), s + m = 4 → m + 1 < N → clS τ0 τ al a b B E u → ∃ τ' v, mX12_closes_L34 253 (al : Int) (r : Int) x N 0 (s : Int) τ = x v τ' ∧ ((v = 0 ∧ (∃ u', clS τ0 τ' al a b B E u') ∧ ∀ s', s ≤ s' → s' < 4 → latS B E (vM a b (E r) (E s')) (B * B)) ∨ (v = 1 ∧ ∃ L G u', clS τ0 τ' al a b L G u' ∧ gwn a b B E L G)) := by
  intro m
  induction m with
  | zero =>
    intro s N τ u h1 h2 h3
    obtain ⟨N, rfl⟩ : ∃ z, N = z + 1 := ⟨N - 1, by omega⟩
    obtain rfl : s = 4 := by omega
    exact ⟨τ, 0, by rw [mX12_closes_L34.eq_2, if_pos (by decide)], Or.inl ⟨rfl, ⟨u, h3⟩, fun s' z y => by omega⟩⟩
  | succ m ih =>
    intro s N τ u h1 h2 h3
    obtain ⟨N, rfl⟩ : ∃ z, N = z + 1 := ⟨N - 1, by omega⟩
    have hs : s < 4 := by omega
    obtain ⟨v, τ1, L, G, p1, p2, p3, p4, p5, p6⟩ := clProd (x := x) (c := mX12_closes_L34 253 (al : Int) (r : Int) x N) h3 hal ha hb hE hw hr hs
    have st : mX12_closes_L34 253 (al : Int) (r : Int) x (N + 1) 0 (s : Int) τ = mX12_closes_L34 253 (al : Int) (r : Int) x N v ((s : Int) + 1) τ1 := by
      rw [mX12_closes_L34.eq_2, if_neg (by rw [wI_id (x := (s : Int)) (by omega)]; omega), if_pos (by decide)]
      exact p6
    rw [st, show (s : Int) + 1 = ((s + 1 : Nat) : Int) by omega]
    rcases p5 with ⟨rfl, p7⟩ | ⟨rfl, p7⟩
    · obtain ⟨τ', v', q1, q2⟩ := ih (s + 1) N τ1 v0 (by omega) (by omega) (clS_eq p4 (same_mk hE p1 p3 p7))
      refine ⟨τ', v', q1, ?_⟩
      rcases q2 with ⟨w1, w2, w3⟩ | w
      · refine Or.inl ⟨w1, w2, fun s' y1 y2 => ?_⟩
        by_cases e : s' = s
        · rw [e]; exact p7
        · exact w3 s' (by omega) y2
      · exact Or.inr w
    · refine ⟨τ1, 1, ?_, Or.inr ⟨rfl, L, G, v0, p4, gwn_mk hE p1 p2 hr hs p3 p7⟩⟩
      obtain ⟨N, rfl⟩ : ∃ z, N = z + 1 := ⟨N - 1, by omega⟩
      rw [mX12_closes_L34.eq_2]
      by_cases e : 4 ≤ wI ((s + 1 : Nat) : Int)
      · rw [if_pos e]
      · rw [if_neg e, if_neg (by decide)]
theorem clL22 {τ0 : mSt} {al : Nat} {a b B : Int} {E : Nat → V4} {x : Int → mSt → Option (Int × mSt)} (hal : al < 16) (ha : a ≠ 0 ∧ -60 ≤ a ∧ a ≤ 60) (hb : b ≠ 0 ∧ -60 ≤ b ∧ b ≤ 60) (hE : gdL B E) (hw : Who a b (latS B E)) : ∀ (m r N : Nat) (τ : mSt) (u : V4), r + m = 4 → m + 1 < N → clS τ0 τ al a b B E u → ∃ τ' v, mX12_closes_L22 253 (al : Int) x N 0 (r : Int) τ = x v τ' ∧ ((v = 0 ∧ (∃ u', clS τ0 τ' al a b B E u') ∧ ∀ r' s', r ≤ r' → r' < 4 → s' < 4 → latS B E (vM a b (E r') (E s')) (B * B)) ∨ (v = 1 ∧ ∃ L G u', clS τ0 τ' al a b L G u' ∧ gwn a b B E L G)) := by
  intro m
  induction m with
  | zero =>
    intro r N τ u h1 h2 h3
    obtain ⟨N, rfl⟩ : ∃ z, N = z + 1 := ⟨N - 1, by omega⟩
    obtain rfl : r = 4 := by omega
    exact ⟨τ, 0, by rw [mX12_closes_L22.eq_2, if_pos (by decide)], Or.inl ⟨rfl, ⟨u, h3⟩, fun r' s' z y => by omega⟩⟩
  | succ m ih =>
    intro r N τ u h1 h2 h3
    obtain ⟨N, rfl⟩ : ∃ z, N = z + 1 := ⟨N - 1, by omega⟩
    have hr : r < 4 := by omega
    obtain ⟨τ1, v, p1, p2⟩ := clL34 (x := fun z2 zσ => mX12_closes_B138 253 (al : Int) (mX12_closes_L22 253 (al : Int) x N) x z2 (r : Int) zσ) hal ha hb hE hw hr 4 0 mF τ u (by omega) (by unfold mF; omega) h3
    have st : mX12_closes_L22 253 (al : Int) x (N + 1) 0 (r : Int) τ = mX12_closes_L22 253 (al : Int) x N v ((r : Int) + 1) τ1 := by
      rw [mX12_closes_L22.eq_2, if_neg (by rw [wI_id (x := (r : Int)) (by omega)]; omega), if_pos (by decide)]
      exact p1
    rw [st, show (r : Int) + 1 = ((r + 1 : Nat) : Int) by omega]
    rcases p2 with ⟨rfl, ⟨u1, p3⟩, p4⟩ | ⟨rfl, L, G, u', p3, p4⟩
    · obtain ⟨τ', v', q1, q2⟩ := ih (r + 1) N τ1 u1 (by omega) (by omega) p3
      refine ⟨τ', v', q1, ?_⟩
      rcases q2 with ⟨w1, w2, w3⟩ | w
      · refine Or.inl ⟨w1, w2, fun r' s' y1 y2 y3 => ?_⟩
        by_cases e : r' = r
        · rw [e]; exact p4 s' (by omega) y3
        · exact w3 r' s' (by omega) y2 y3
      · exact Or.inr w
    · refine ⟨τ1, 1, ?_, Or.inr ⟨rfl, L, G, u', p3, p4⟩⟩
      obtain ⟨N, rfl⟩ : ∃ z, N = z + 1 := ⟨N - 1, by omega⟩
      rw [mX12_closes_L22.eq_2]
      by_cases e : 4 ≤ wI ((r + 1 : Nat) : Int)
      · rw [if_pos e]
      · rw [if_neg e, if_neg (by decide)]
theorem clL2 {τ0 : mSt} {al : Nat} {a b : Int} (hal : al < 16) (ha : a ≠ 0 ∧ -60 ≤ a ∧ a ≤ 60) (hb : b ≠ 0 ∧ -60 ≤ b ∧ b ≤ 60) : ∀ (m j N : Nat) (τ : mSt) (B : Int) (E : Nat → V4) (u : V4), j + m = 14 → m + 1 < N → clS τ0 τ al a b B E u → gdL B E → B ≤ 10000000 → (2 : Int) ^ j ≤ lot B E → ∃ v τ', mX12_closes_L2 253 (al : Int) (fun zσ => mX12_closes_B147 253 (al : Int) zσ) N 1 τ = some (v, τ') ∧ Lay τ' ∧ frm cW τ0 τ' ∧ ((v = 1 ∧ ∃ L G u', atR τ' 8 G L L u' ∧ gdL L G ∧ Clo a b (latS L G) ∧ Who a b (latS L G) ∧ subL B E (latS L G) ∧ ∀ S, Grp S → Clo a b S → subL B E S → subL L G S) ∨ (v = 0 ∧ ¬ ∃ S, Grp S ∧ Clo a b S ∧ Who a b S ∧ subL B E S)) := by
  intro m
  induction m with
  | zero =>
    intro j N τ B E u p1 p2 p3 p4 p5 p6
    obtain ⟨N, rfl⟩ : ∃ z, N = z + 1 := ⟨N - 1, by omega⟩
    obtain rfl : j = 14 := by omega
    obtain ⟨A1, A2, -, -⟩ := ab_rng ha hb
    have p3' := p3
    obtain ⟨h1, h2, h3, h4, h5⟩ := p3
    obtain ⟨w1, w2, e⟩ := wholeR_e (l := 8) h1 (by omega) hal h3.2.1 h4 h5 h3.2.2.1 ha.2 hb.2 ⟨p4.1.1, p5⟩ (rB2_of p4.1)
    have nd : ¬ Who a b (latS B E) := fun z => by
      have := Int.le_of_dvd (by omega) (abs_dvd.mpr (lotd p4 z))
      omega
    have f : frm cW τ (stV (stV τ 265 w1) 266 w2) := ((frm.rf τ).stV (fun j => Or.inl rfl)).stV (fun j => Or.inr (Or.inl rfl))
    refine ⟨0, _, ?_, h1.frm f (fun i j z => cW_fix z), h2.tr f (fun i j z => z), Or.inr ⟨rfl, ?_⟩⟩
    · rw [mX12_closes_L2.eq_2, if_neg (by decide), show (8 : Int) = ((8 : Nat) : Int) from rfl, e, mCall_some, if_pos (by rw [b2_f (fun z => nd (who_of_rows p4.1.1 z))]; decide)]
    · rintro ⟨S, s1, s2, s3, s4⟩
      exact nd (who_le ((subL_lat p4.1.1 s1).mp s4) s3)
  | succ m ih =>
    intro j N τ B E u p1 p2 p3 p4 p5 p6
    obtain ⟨N, rfl⟩ : ∃ z, N = z + 1 := ⟨N - 1, by omega⟩
    have p3' := p3
    obtain ⟨h1, h2, h3, h4, h5⟩ := p3
    obtain ⟨w1, w2, e⟩ := wholeR_e (l := 8) h1 (by omega) hal h3.2.1 h4 h5 h3.2.2.1 ha.2 hb.2 ⟨p4.1.1, p5⟩ (rB2_of p4.1)
    have f : frm cW τ (stV (stV τ 265 w1) 266 w2) := ((frm.rf τ).stV (fun j => Or.inl rfl)).stV (fun j => Or.inr (Or.inl rfl))
    have S1 := clS_fr p3' f (atR_out h3 (fun i j z y _ => by rw [stV_ne _ _ _ _ _ y, stV_ne _ _ _ _ _ z]))
    by_cases hw : rWho a b B E
    · have hW := who_of_rows p4.1.1 hw
      obtain ⟨τ2, v, q1, q2⟩ := clL22 (x := fun z2 zσ => mX12_closes_B144 253 (al : Int) (mX12_closes_L2 253 (al : Int) (fun zσ => mX12_closes_B147 253 (al : Int) zσ) N) (fun zσ => mX12_closes_B147 253 (al : Int) zσ) z2 zσ) hal ha hb p4 hW 4 0 mF _ u (by omega) (by unfold mF; omega) S1
      have st : mX12_closes_L2 253 (al : Int) (fun zσ => mX12_closes_B147 253 (al : Int) zσ) (N + 1) 1 τ = mX12_closes_L2 253 (al : Int) (fun zσ => mX12_closes_B147 253 (al : Int) zσ) N v τ2 := by
        rw [mX12_closes_L2.eq_2, if_neg (by decide), show (8 : Int) = ((8 : Nat) : Int) from rfl, e, mCall_some, if_neg (by rw [b2_t hw]; decide)]
        exact q1
      rw [st]
      rcases q2 with ⟨rfl, ⟨u1, q3⟩, q4⟩ | ⟨rfl, L, G, u1, q3, q4⟩
      · obtain ⟨N, rfl⟩ : ∃ z, N = z + 1 := ⟨N - 1, by omega⟩
        refine ⟨1, τ2, ?_, q3.1, q3.2.1, Or.inl ⟨rfl, B, E, u1, q3.2.2.1, p4, clo_rows p4.1.1 (fun r s hr hs => q4 r s (by omega) hr hs), hW, subL_self B E, fun S _ _ h => h⟩⟩
        rw [mX12_closes_L2.eq_2, if_pos (by decide)]
        rfl
      · obtain ⟨g1, g2, g3, g4, g5⟩ := q4
        obtain ⟨v, τ', i1, i2, i3, i4⟩ := ih (j + 1) N τ2 L G u1 (by omega) (by omega) q3 g1 (by omega) (by rw [Int.pow_succ]; omega)
        refine ⟨v, τ', i1, i2, i3, ?_⟩
        rcases i4 with ⟨y1, L', G', u', y2, y3, y4, y5, y6, y7⟩ | ⟨y1, y2⟩
        · refine Or.inl ⟨y1, L', G', u', y2, y3, y4, y5, ?_, fun S s1 s2 s3 => y7 S s1 s2 (g5 S s1 s2 s3)⟩
          intro r hr
          exact (subL_lat g1.1.1 latS_grp).mp y6 _ _ p4.1.1 (g4 r hr)
        · refine Or.inr ⟨y1, ?_⟩
          rintro ⟨S, s1, s2, s3, s4⟩
          exact y2 ⟨S, s1, s2, s3, g5 S s1 s2 s4⟩
    · refine ⟨0, _, ?_, S1.1, S1.2.1, Or.inr ⟨rfl, ?_⟩⟩
      · rw [mX12_closes_L2.eq_2, if_neg (by decide), show (8 : Int) = ((8 : Nat) : Int) from rfl, e, mCall_some, if_pos (by rw [b2_f hw]; decide)]
      · rintro ⟨S, s1, s2, s3, s4⟩
        exact hw (rows_of_who p4.1.1 (who_le ((subL_lat p4.1.1 s1).mp s4) s3))
theorem closes_e {τ : mSt} {al : Nat} {a b B : Int} {E : Nat → V4} {u : V4} (hal : al < 16) (ha : a ≠ 0 ∧ -60 ≤ a ∧ a ≤ 60) (hb : b ≠ 0 ∧ -60 ≤ b ∧ b ≤ 60) (hL : Lay τ) (hA : atR τ 8 E B B u) (h1 : τ 258 al = a) (h2 : τ 259 al = b) (hE : gdL B E) (hB : B ≤ 10000000) : ∃ v τ', mX12_closes 253 (al : Int) τ = some (v, τ') ∧ Lay τ' ∧ frm cW τ τ' ∧ ((v = 1 ∧ ∃ L G u', atR τ' 8 G L L u' ∧ gdL L G ∧ Clo a b (latS L G) ∧ Who a b (latS L G) ∧ subL B E (latS L G) ∧ ∀ S, Grp S → Clo a b S → subL B E S → subL L G S) ∨ (v = 0 ∧ ¬ ∃ S, Grp S ∧ Clo a b S ∧ Who a b S ∧ subL B E S)) := by
  unfold mX12_closes
  rw [gc253]
  exact clL2 hal ha hb 14 0 mF τ B E u (by omega) (by unfold mF; omega) ⟨hL, frm.rf τ, hA, h1, h2⟩ hE hB (lot_pos hE.1.1 hE.1.2.1 (uni_of hE.1.2.2.2))

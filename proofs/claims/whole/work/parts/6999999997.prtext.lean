theorem pr_text (σ : mSt) (h : Inv σ) (a1 : Int) (h1 : i32 a1) : ∃ b s b2 s2, mX11_text 0 a1 σ = some (b, s) ∧ mX12_text 253 a1 s = some (b2, s2) ∧ wI b = wI b2 ∧ Inv s2 := by
  have hI := h
  obtain ⟨hL, hb, t, B, n, s0, hT, hB, hP, hE, hO⟩ := h
  have hT0 := hT
  obtain ⟨t0, t1, t2, t3⟩ := hT0
  have wa : wI a1 = a1 := wI_id (x := a1) h1
  have wt : wI (t : Int) = (t : Int) := wI_id (x := (t : Int)) (by omega)
  by_cases hv : 0 ≤ a1 ∧ a1 ≤ (t : Int)
  · obtain ⟨q1, hn, q3, q4, q5, q6, q7⟩ := hB
    obtain ⟨D, hBD, q4'⟩ : ∃ D : Nat, ((B = 37 ∧ D = 69) ∨ (B = 69 ∧ D = 37)) ∧ σ 0 4 = (D : Int) := ⟨106 - B, by omega, by omega⟩
    have hD : D = 37 ∨ D = 69 := by omega
    obtain ⟨σ1, c1, c2, c3, c4, c5, c6⟩ := start_c hL hT hD hv.1 hv.2
    obtain ⟨w, hw⟩ : ∃ w, w = σ 1 := ⟨_, rfl⟩
    obtain ⟨nn, hnn⟩ : ∃ z, z = a1.toNat := ⟨_, rfl⟩
    rw [← hw, ← hnn] at c3
    -- both run over the lines, from any store with this tape
    have both : ∀ s : mSt, Lay s → s 253 2 = (t : Int) → s 254 = σ 254 → ∃ v σ' τ', mX8_readText 2 1 a1 D σ = some (σ' 2 2, σ') ∧ mX12_text 253 a1 s = mX12_text_B81 253 a1 v τ' ∧ frm (cXl D) σ1 σ' ∧ frm rY s τ' ∧ τ' 253 2 = 0 ∧ ((v = 0 ∧ flt σ' τ') ∨ (v = 1 ∧ ∃ s' m', stT σ' τ' w nn s' D m')) := fun s hs h2 h254 => by
      obtain ⟨τ1, r1, r2, r3, r4, r5, r6, r7⟩ := start_r (a1 := a1) w hs h2 t0 (fun k hk => by rw [h254, hw]; exact ⟨(t3 k hk).1.symm, (t3 k hk).2⟩) hv.1 hv.2
      rw [← hnn] at r3
      have st : stT σ1 τ1 w nn (skp w nn 0) D 0 := ⟨c3, r3, hD, by omega, c4, c5, r5, r6, r7, fun k hk => by omega, c6⟩
      obtain ⟨v, σ', τ', e1, e2, e3, e4, e5⟩ := loop_e (v1 := 1) (v3 := D) (a1 := a1) (a2 := a1) (x := fun zσ => mX8_readText_B75 2 1 a1 D zσ) (y := fun z2 zσ => mX12_text_B81 253 a1 z2 zσ) (f := 999999999990) (g := 999999999991) 8 0 rfl σ1 τ1 _ st
      refine ⟨v, σ', τ', ?_, ?_, e3, r2.tr e4 (fun _ _ z => Or.inl z), ?_, e5⟩
      · rw [c1]
        refine Eq.trans (show _ = _ from e1) ?_
        rfl
      · rw [r1]
        exact e2
      · rw [e4 _ _ (by unfold rX rN rL; omega), r4]
    obtain ⟨v, σ', τa, e1, e2, e3, e4, -, e5⟩ := both σ hL t2 rfl
    have fc : frm (cY D) σ σ' := c2.tr e3 (fun _ _ z => Or.inl z)
    have hL' := hL.frm fc (fun _ _ z => cY_fix hD z)
    have f0 : fixR 0 1 = false := by decide +kernel
    have f3 : fixR 0 3 = false := by decide +kernel
    have f4 : fixR 0 4 = false := by decide +kernel
    have f9 : fixR 253 11 = false := by decide +kernel
    obtain ⟨s12, hs12⟩ : ∃ z, z = upS σ' 0 1 0 := ⟨_, rfl⟩
    have hL12 : Lay s12 := by rw [hs12]; exact hL'.up f0
    have o12 : ∀ i, i ≠ 0 → s12 i = σ' i := fun i hi => by rw [hs12]; exact upS_row hi
    have c03 : σ' 0 3 = (B : Int) := by rw [fc _ _ (by unfold cY cXl cR cL tkW; omega), q3]
    have c04 : σ' 0 4 = (D : Int) := by rw [fc _ _ (by unfold cY cXl cR cL tkW; omega), q4']
    have far : ∀ i, 101 ≤ i → σ' i = σ i := fun i hi => funext fun j => fc i j (by unfold cY cXl cR cL tkW; omega)
    have head : ∀ o, (if wI (σ' 2 2) = 0 then (mRef (s12 0 3) fun r15 => mRef (s12 0 4) fun r17 => mG (r17 ≠ 0) <| bnd (upS s12 0 3 (r17 : Int)) fun s20 => mG (r15 ≠ 0) <| bnd (upS s20 0 4 (r15 : Int)) fun s23 => mCall (mX11_beginAnew 0 s23) fun b25 s26 => mRef (s26 0 3) fun r28 => mCall (mX0_size r28 s26) fun b30 s31 => some (b30, s31)) else some ((-2) - σ' 2 2, s12)) = o → mX11_text 0 a1 σ = o := fun o z => by
      unfold mX11_text
      rw [gc0, if_neg (by rw [wa]; omega), t1, if_pos (by rw [wa, wt]; exact hv.2), gr' (lay0 hL).2.1 (by omega), gr' (lay0 hL).1 (by omega), gr' q4' (by omega), e1, mCall_some, bnd_eq, ← hs12]
      exact z
    rcases e5 with ⟨rfl, e6⟩ | ⟨rfl, s', m, e6⟩
    · -- a fault
      obtain ⟨c, p, x1, x2, x3, x4, x5⟩ := e6
      obtain ⟨v, σ2, τ2, g1, g2, g3, g4, g5, g6⟩ := both s12 hL12 (by rw [o12 _ (by omega), far _ (by omega), t2]) (by rw [o12 _ (by omega), far _ (by omega)])
      have es : σ2 = σ' := by
        have := g1.symm.trans e1
        injection this with this
        exact congrArg Prod.snd this
      subst es
      have hv0 : v = 0 ∧ flt σ2 τ2 := by
        rcases g6 with z | ⟨_, s', m, z⟩
        · exact z
        · have := z.2.2.2.2.2.2.2.2.2.2
          omega
      obtain ⟨hv0, c', p', y1, y2, y3, y4, y5⟩ := hv0
      obtain ⟨s2, hs2⟩ : ∃ z, z = upS τ2 253 11 0 := ⟨_, rfl⟩
      have hLt := hL12.frm g4 (fun _ _ z => rY_fix z)
      have hL2 : Lay s2 := by rw [hs2]; exact hLt.up f9
      refine ⟨-2 - σ2 2 2, s12, -2 - (8 * τ2 253 10 + τ2 253 9), s2, head _ ?_, ?_, ?_, ?_⟩
      · rw [if_neg (by rw [x3, wI_id (x := 8 * (p : Int) + c) (by omega)]; omega)]
      · rw [g2, hv0]
        unfold mX12_text_B81
        rw [bnd_eq, if_pos (by decide), ← hs2, show s2 253 10 = τ2 253 10 by rw [hs2, upS_ne (by omega)], show s2 253 9 = τ2 253 9 by rw [hs2, upS_ne (by omega)]]
      · rw [y3, y4, y5]
      · refine inv_err (D := D) hL2 (by rw [hs2, upS_same]) ?_ ?_ ?_ hBD hb.2 ⟨q1, hn, q3, q4, q5, q6, q7⟩ hP hE hO
        · rw [hs2, upS_ne (by omega), g4 _ _ (by unfold rY rX rN rL; omega), hs12, upS_same]
        · rw [hs2, upS_ne (by omega), g5]
        · rw [hs2]
          refine frm.put (((fc.mono (fun _ _ z => Or.inl z)).tr ?_ (fun _ _ z => z)).tr g4 (fun _ _ z => Or.inr (Or.inl z))) (Or.inr (Or.inl (Or.inr ⟨rfl, by omega⟩)))
          rw [hs12]
          exact frm.one (Or.inr (Or.inr ⟨rfl, rfl⟩))
    · -- taken over
      have e6' := e6
      obtain ⟨-, -, -, m8, z21, zD0, -, -, -, zbn, z22⟩ := e6'
      obtain ⟨s23, hs23⟩ : ∃ z, z = upS (upS s12 0 3 (D : Int)) 0 4 (B : Int) := ⟨_, rfl⟩
      have hL23 : Lay s23 := by rw [hs23]; exact (hL12.up f3).up f4
      have o23 : ∀ i, i ≠ 0 → s23 i = σ' i := fun i hi => by rw [hs23, upS_row hi, upS_row hi, o12 i hi]
      have hwf : ∀ k, k < m → wfK (σ' (D + 1)) (σ' (D + 2)) (σ' (D + 3)) (bG σ' D) (bP σ' D) k := fun k hk => al2_wf (zbn k hk)
      obtain ⟨s1, sx, a1', a2, a3, a4, a5⟩ := anew_e (K := σ' (D + 1)) (F := σ' (D + 2)) (S := σ' (D + 3)) (G := bG σ' D) (P := bP σ' D) (n := m) hL23 hD m8 (by rw [hs23, upS_ne (by omega), upS_same]) (by rw [o23 _ (by omega), zD0]) (by rw [o23 _ (by omega)]) (by rw [o23 _ (by omega)]) (by rw [o23 _ (by omega)]) hwf (fun k hk z i hi => by
        rcases hwf k hk with ⟨w0, -⟩ | ⟨w0, -⟩ | ⟨w0, w1, w2, w3, w4⟩
        · omega
        · omega
        · rw [bG_at _ _ _ _ (by omega), bP_at _ _ _ _ (by omega), o23 _ (by omega), o23 _ (by omega)]
          exact ⟨rfl, rfl⟩)
      have hLx := hL23.frm a2 (fun _ _ z => anW_fix z)
      have ox : ∀ i, i < 101 → i ≠ 0 → sx i = σ' i := fun i hi h0 => by
        rw [← o23 i h0]
        exact funext fun j => a2 i j (by unfold anW recW noW elD orC; omega)
      have ox2 : ∀ i, 253 ≤ i → sx i = σ i := fun i hi => by
        rw [← far i (by omega), ← o23 i (by omega)]
        exact funext fun j => a2 i j (by unfold anW recW noW elD orC; omega)
      have sx03 : sx 0 3 = (D : Int) := by rw [a2 _ _ (by unfold anW recW noW elD orC; omega), hs23, upS_ne (by omega), upS_same]
      have sx04 : sx 0 4 = (B : Int) := by rw [a2 _ _ (by unfold anW recW noW elD orC; omega), hs23, upS_same]
      have sx01 : sx 0 1 = 0 := by rw [a2 _ _ (by unfold anW recW noW elD orC; omega), hs23, upS_ne (by omega), upS_ne (by omega), hs12, upS_same]
      obtain ⟨v, σ2, τ2, g1, g2, g3, g4, g5, g6⟩ := both sx hLx (by rw [ox2 _ (by omega), t2]) (by rw [ox2 _ (by omega)])
      have es : σ2 = σ' := by
        have := g1.symm.trans e1
        injection this with this
        exact congrArg Prod.snd this
      subst es
      have hv1 : v = 1 ∧ ∃ s' m', stT σ2 τ2 w nn s' D m' := by
        rcases g6 with ⟨_, c, p, y1, y2, y3, -⟩ | z
        · omega
        · exact z
      obtain ⟨hv1, s'', m', hst⟩ := hv1
      obtain ⟨-, -, -, -, -, yD0, -, -, y255, ybn, -⟩ := hst
      have mm : m' = m := by omega
      subst mm
      have hLt := hLx.frm g4 (fun _ _ z => rY_fix z)
      obtain ⟨s2, k1, k2, k3, k4, k5, k6, k7, k8⟩ := fin_r (a1 := a1) hLt y255 m8
      have hL2 := hLt.frm k2 (fun _ _ z => fnW_fix z)
      -- what stands from the class' store
      have os : ∀ i, i < 253 → s2 i = sx i := fun i hi => funext fun j => by
        rw [k2 _ _ (by unfold fnW plW; omega), g4 _ _ (by unfold rY rX rN rL; omega)]
      have alg : ∀ k, k < m' → iAlg s2 D 0 k := fun k hk => alg_fin (by omega) (ybn k hk) (fun i z1 z2 => by rw [os i (by omega), ox i (by omega) (by omega)]) k6 k7
      have sb : ∀ i, D ≤ i → i ≤ D + 31 → s2 i = σ2 i := fun i z1 z2 => by rw [os i (by omega), ox i (by omega) (by omega)]
      have lc : ∀ k p, k < m' → loc s2 k p = locF (σ2 (D + 1)) (σ2 (D + 2)) (σ2 (D + 3)) (bG σ2 D) (bP σ2 D) 9 k p := fun k p hk => by
        unfold loc
        refine locF_cg hwf (fun k' hk' => ?_) 9 9 k p hk (by omega) (by omega)
        obtain ⟨i1, i2, i3, -, i5⟩ := alg k' hk'
        rw [Nat.zero_add] at i1 i2 i3 i5
        rw [sb (D + 1) (by omega) (by omega)] at i1
        rw [sb (D + 2) (by omega) (by omega)] at i2
        rw [sb (D + 3) (by omega) (by omega)] at i3
        refine ⟨i1.symm, i2.symm, i3.symm, fun z i hi => ?_⟩
        rw [i1] at z
        rw [i2] at hi
        rcases i5 with ⟨w0, -⟩ | ⟨w0, -⟩ | ⟨w0, w1, w2, w3, w4⟩
        · omega
        · omega
        · obtain ⟨x1, x2, -⟩ := w4 i hi
          rw [bG_at _ _ _ _ (by omega), bP_at _ _ _ _ (by omega), ← x1, ← x2, sb (D + 15 + k') (by omega) (by omega), sb (D + 24 + k') (by omega) (by omega)]
          exact ⟨rfl, rfl⟩
      obtain ⟨p1, p2, p3, p4, p5, p6⟩ := a3
      refine ⟨(m' : Int), sx, (m' : Int), s2, head _ ?_, by rw [g2, hv1]; exact k1, rfl, hL2, ⟨k3, fun j hj => ?_⟩, 0, D, m', s1, ⟨by omega, ?_, ?_, fun k hk => by omega⟩, ⟨hD, m8, ?_, ?_, ?_, k5, alg⟩, ⟨p1, ?_, ?_, ?_, ?_, ?_⟩, ⟨?_, fun k hk z => ?_⟩, fun k hk z => ?_, ?_⟩
      · have x3 : s12 0 3 = (B : Int) := by rw [hs12, upS_ne (by omega), c03]
        have x4 : s12 0 4 = (D : Int) := by rw [hs12, upS_ne (by omega), c04]
        rw [if_pos (by rw [z22]; decide), gr' x3 (by omega), gr' x4 (by omega), mG_pos (by omega), bnd_eq, mG_pos (by omega), bnd_eq, ← hs23, a1', mCall_some, gr' sx03 (by omega), size_c hD, mCall_some, ox D (by omega) (by omega), zD0]
      · rw [os _ (by omega), a2 _ _ (by unfold anW recW noW elD orC; omega), o23 _ (by omega), far _ (by omega)]
        exact hb.2 j hj
      · rw [os _ (by omega), sx01]; rfl
      · rw [k2 _ _ (by unfold fnW plW; omega), g5]; rfl
      · rw [os _ (by omega), sx03]
      · rw [os _ (by omega), sx04]; omega
      · rw [sb D (by omega) (by omega), zD0]
      · rw [os _ (by omega), p2]
      · rw [os _ (by omega)]; exact p3
      · rw [os _ (by omega)]; exact p4
      · intro k i hk hi
        rw [os _ (by omega), os _ (by omega), lc k _ hk]
        exact p5 k i hk hi
      · intro k p hk hp hne
        rw [os _ (by omega)] at hne
        rw [lc k _ hk]
        exact p6 k p hk hp hne
      · rw [k4, bits_0 8 (fun k hk => by rw [os _ (by omega), a4 k hk])]
      · rw [os _ (by omega)] at z
        exact absurd (a4 k hk) z
      · obtain ⟨i1, i2, i3, -, -⟩ := alg k hk
        rw [Nat.zero_add] at i1 i2 i3
        rw [sb (D + 1) (by omega) (by omega)] at i1
        rw [sb (D + 2) (by omega) (by omega)] at i2
        rw [sb (D + 3) (by omega) (by omega)] at i3
        obtain ⟨b1, b2, b3, b4⟩ := a5 k hk (by rw [i1]; exact z)
        obtain ⟨d1, d2, d3⟩ := k8 k hk
        unfold iOrd
        rw [d2, d3, os (181 + 9 * k) (by omega), os (182 + 9 * k) (by omega), b1, b2, b3, i2, i3]
        refine ⟨rfl, rfl, rfl, rfl, fun r hr => ?_, ord_congr (fun r hr => (d1 r hr).symm) (ord_plain _ _)⟩
        rw [d1 r hr, ← b4 r hr]
        unfold rowV
        rw [os (184 + 9 * k + r) (by omega)]
      · rw [os _ (by omega), show sx 114 = σ 114 by
          rw [← far 114 (by omega), ← o23 114 (by omega)]
          exact funext fun j => a2 114 j (by unfold anW recW noW elD orC; omega)]
        exact hO.2
  · have out : ∀ s, s = upS σ 253 0 0 → mX12_text 253 a1 σ = some (-1, s) := fun s hs => by
      unfold mX12_text
      rw [gc253, bnd_eq, upS_ne (by omega), t2, wa, wt, within_e _ _ _ _ (by unfold i32 at h1; omega) (by omega) (by omega), b2_f (by omega), mCall_some, if_pos (by decide), hs]
    refine ⟨-1, σ, -1, _, ?_, out _ rfl, rfl, hI.scr (scr_t (σ := σ) (v := 0))⟩
    unfold mX11_text
    rw [gc0, wa, t1, wt]
    by_cases c : a1 < 0
    · rw [if_pos c]
    · rw [if_neg c, if_neg (by omega)]

/-! ideals: both sides set up -/
def sameO (σ ρ : mSt) : Prop := ∀ i, (165 ≤ i ∧ i ≤ 252 ∧ (i ≤ 188 ∨ i % 9 ≠ 0)) ∨ (257 ≤ i ∧ i ≤ 263) ∨ (269 ≤ i ∧ i ≤ 271) → ρ i = σ i
theorem kp_same {σ ρ : mSt} (h : sameO σ ρ) (a : Int) : kp ρ a ↔ kp σ a := by
  unfold kp
  constructor
  · rintro ⟨h1, h2, h3⟩
    exact ⟨h1, h2, by rw [h _ (by omega)] at h3; exact h3⟩
  · rintro ⟨h1, h2, h3⟩
    exact ⟨h1, h2, by rw [h _ (by omega)]; exact h3⟩
theorem fvP_same {σ ρ : mSt} (h : sameO σ ρ) {a1 a2 v : Int} (hf : fvP ρ a1 a2 v) : fvP σ a1 a2 v := by
  have e1 : ∀ k, inP ρ k = inP σ k := fun k => by
    unfold inP elV
    rw [h 270 (by omega), h 262 (by omega), h 263 (by omega), rowL_congr (h 269 (by omega))]
  have e2 : ∀ k, smP ρ k = smP σ k := fun k => by
    unfold smP elV
    rw [h 263 (by omega)]
  have e3 : ∀ k, foP ρ k = foP σ k := fun k => by
    unfold foP elV
    rw [h 263 (by omega), h 262 (by omega), h 258 (by omega), h 259 (by omega)]
  have e4 : idP ρ a1 a2 = idP σ a1 a2 := by
    unfold idP
    rw [propext (kp_same h a1), propext (kp_same h a2), h 262 (by omega)]
  unfold fvP at hf ⊢
  rw [e1, e1, e2, e2, e3, e4] at hf
  exact hf
theorem idC_o {σ σ' : mSt} {al : Nat} {a b M : Int} {E : Nat → V4} (h : idC σ al a b M E) (hL : Lay σ') (o : ∀ i, 181 + 9 * al ≤ i → i ≤ 187 + 9 * al → σ' i = σ i) : idC σ' al a b M E := by
  obtain ⟨h1, h2, h3, h4, h5, h6⟩ := h
  exact ⟨hL, h2, by rw [o _ (by omega) (by omega)]; exact h3, by rw [o _ (by omega) (by omega)]; exact h4, atC_congr h5 (by rw [o _ (by omega) (by omega)]) (fun r hr j => by rw [o _ (by omega) (by omega)]), h6⟩
def iD (i j : Nat) : Prop := (fixR i j = false ∧ (i = 146 ∨ (156 ≤ i ∧ i ≤ 164) ∨ (189 ≤ i ∧ i ≤ 252 ∧ i % 9 = 0))) ∨ dull i j ∨ jR i j
theorem iD_scr {i j : Nat} (h : iD i j) : scr i j := by
  rcases h with ⟨h1, h2⟩ | h | h
  · exact ⟨h1, Or.inl (by unfold sObj; omega)⟩
  · exact dull_scr h
  · refine ⟨jR_fix h, ?_⟩
    rcases h with rfl | rfl | rfl | rfl | h | h | h
    · exact Or.inl (by unfold sObj; omega)
    · exact Or.inl (by unfold sObj; omega)
    · exact Or.inl (by unfold sObj; omega)
    · exact Or.inl (by unfold sObj; omega)
    · exact Or.inr (by unfold sSlot; omega)
    · exact Or.inr (by unfold sSlot; omega)
    · exact Or.inr (by unfold sSlot; omega)
theorem iW_iD {al : Nat} (hal : al < 8) {i j : Nat} (h : iW al i j) : iD i j := by
  refine Or.inl ⟨?_, ?_⟩
  · rcases h with h | ⟨rfl, rfl⟩
    · exact jW_fix hal h
    · decide +kernel
  · unfold iW jW oW at h
    omega
theorem qW_iD {al : Nat} (hal : al < 8) {i j : Nat} (h : qW al i j) : iD i j := iW_iD hal (Or.inl (by unfold qW at h; unfold jW oW; omega))
theorem iD_same {σ ρ : mSt} (hf : frm (fun i j => iD i j ∧ ¬ jR i j) σ ρ) : sameO σ ρ := fun i hi => funext fun j => hf i j (fun z => by
  obtain ⟨z1, z2⟩ := z
  rcases z1 with ⟨z3, z4⟩ | z4 | z4
  · omega
  · unfold dull at z4; omega
  · exact z2 z4)
/-- an element of an ideal's pair -/
theorem el_of {σ : mSt} (h : Inv σ) {k : Nat} (hk : k < 8) (hkk : σ (165 + 2 * k) 2 ≠ -1) (hin : inP σ k) (hs : smP σ k) : ∃ al : Nat, al < 8 ∧ σ 262 k = (al : Int) ∧ σ 257 al = 0 ∧ idC σ al (σ 258 al) (σ 259 al) (σ 270 al) (rowL σ al) ∧ elC σ k al (σ 270 al) (rowL σ al) (elV σ k) (σ 263 (5 * k + 4)) ∧ elS σ k al (elV σ k) (σ 263 (5 * k + 4)) ∧ iOrd σ al := by
  obtain ⟨hL, hb, t, B, n, s0, hT, hB, hP, hE, hO⟩ := h
  have hn := hB.2.1
  obtain ⟨al, f1, f2, f3, f4, f5, f6, r0, r1, r2, r3, r4, r5⟩ := elF hL hE hn hk hkk
  obtain ⟨-, ⟨na, ra1, ra2, -⟩, nb, rb1, rb2, -⟩ := quatF hB f1 f2
  have io := hO.1 al f1 f2
  obtain ⟨rc, rm⟩ := iord_c io
  have e : (σ 262 k).toNat = al := by rw [f3.2.2.2.1]; exact Int.toNat_natCast _
  unfold inP at hin
  rw [e] at hin
  refine ⟨al, by omega, f3.2.2.2.1, f2, ⟨hL, by omega, io.1, io.2.1, ⟨rm, rc⟩, io.2.2.2.2.2, ⟨na, ra1, ra2⟩, nb, rb1, rb2⟩, ⟨hk, f3.2.2.2.2, f3.2.2.1, f6, hs.1, ⟨r4, hs.2⟩, hin⟩, ⟨hk, f3.2.2.2.1, rfl, rfl, hs.1, r4, hs.2⟩, io⟩
theorem elC_o {σ σ' : mSt} {k al : Nat} {M : Int} {E : Nat → V4} {u : V4} {d : Int} (h : elC σ k al M E u d) (o : sameO σ σ') : elC σ' k al M E u d := elC_fr h (fun i j z1 z2 => by rw [o i (by omega)])
theorem elS_o {σ σ' : mSt} {k al : Nat} {u : V4} {d : Int} (h : elS σ k al u d) (o : sameO σ σ') : elS σ' k al u d := by
  obtain ⟨h1, h2, h3, h4⟩ := h
  refine ⟨h1, by rw [o 262 (by omega)]; exact h2, ?_, by rw [o 263 (by omega)]; exact h4⟩
  rw [← h3]
  unfold elV
  rw [o 263 (by omega)]
/-- what stands when nothing is refused -/
theorem ideal0 {σ : mSt} (h : Inv σ) {a1 a2 : Int} (h2 : i32 a2) (hf : fvP σ a1 a2 0) : ∃ (k1 al : Nat) (a b M d1 d2 N : Int) (E : Nat → V4) (u1 u2 : V4), a1 = (k1 : Int) ∧ k1 < 8 ∧ al < 8 ∧ σ 262 k1 = (al : Int) ∧ σ 270 al = M ∧ rowL σ al = E ∧ σ 258 al = a ∧ σ 259 al = b ∧ Ord a b M E ∧ 0 < N ∧ (elC σ k1 al M E u1 d1 ∧ elS σ k1 al u1 d1) ∧ (a2 = -1 ∨ ∃ k2 : Nat, a2 = (k2 : Int) ∧ elC σ k2 al M E u2 d2 ∧ elS σ k2 al u2 d2) ∧ (∀ ρ, Inv ρ → sameO σ ρ → ∃ ρ' G, mX11_makeIdeal 0 a1 a2 ρ = some (0, ρ') ∧ frm (iW al) ρ ρ' ∧ ilC ρ' al a b M E N G ∧ clG a b N E G u1 d1 (a2 ≠ -1) u2 d2) ∧ ∀ ρ, Inv ρ → sameO σ ρ → ∃ ρ' L F, mX12_laysIdeal 253 a1 a2 ρ = some (0, ρ') ∧ frm jR ρ ρ' ∧ ilR ρ' al a b M E N L F ∧ rfG a b M N E L F u1 d1 (a2 ≠ -1) u2 d2 := by
  rcases hf with ⟨e, -⟩ | ⟨e, -⟩ | ⟨e, -⟩ | ⟨-, hp, hin, hsm, hfo⟩
  · omega
  · omega
  · omega
  obtain ⟨k1, rfl, hk, hkk⟩ := kp_nat hp.1
  have tn : ((k1 : Int)).toNat = k1 := Int.toNat_natCast k1
  rw [tn] at hin hsm hfo
  obtain ⟨al, x1, x2, x3, x4, x5, x6, x7⟩ := el_of h hk hkk hin.1 hsm.1
  have e : (σ 262 k1).toNat = al := by rw [x2]; exact Int.toNat_natCast _
  unfold foP at hfo
  rw [e] at hfo
  have rn := ideN_rng x4 x5 hfo
  have io := x7
  obtain ⟨u2, d2, hs2⟩ : ∃ (u2 : V4) (d2 : Int), a2 = -1 ∨ ∃ k2 : Nat, a2 = (k2 : Int) ∧ elC σ k2 al (σ 270 al) (rowL σ al) u2 d2 ∧ elS σ k2 al u2 d2 := by
    by_cases z : a2 = -1
    · exact ⟨v0, 1, Or.inl z⟩
    · obtain ⟨k2, rfl, hk2, hkk2⟩ := kp_nat (hp.2.resolve_left z).1
      have tn2 : ((k2 : Int)).toNat = k2 := Int.toNat_natCast k2
      have i2 := hin.2 z
      have s2 := hsm.2 z
      rw [tn2] at i2 s2
      obtain ⟨al2, y1, y2, y3, y4, y5, y6, y7⟩ := el_of h hk2 hkk2 i2 s2
      have q := (hp.2.resolve_left z).2
      rw [tn, tn2, x2, y2] at q
      obtain rfl : al2 = al := by omega
      exact ⟨_, _, Or.inr ⟨k2, rfl, y5, y6⟩⟩
  refine ⟨k1, al, σ 258 al, σ 259 al, σ 270 al, σ 263 (5 * k1 + 4), d2, ideN (σ 258 al) (σ 259 al) (elV σ k1) (σ 263 (5 * k1 + 4)), rowL σ al, elV σ k1, u2, rfl, hk, x1, x2, rfl, rfl, rfl, rfl, x4.2.2.2.2.2.1, by omega, ⟨x5, x6⟩, hs2, fun ρ hI ho => ?_, fun ρ hI ho => ?_⟩
  · exact makeC (idC_o x4 hI.1 (fun i z1 z2 => ho i (by omega))) (elC_o x5 ho) hfo h2 (hs2.imp_right (fun ⟨k2, q1, q2, _⟩ => ⟨k2, q1, elC_o q2 ho⟩))
  · have ro : rO ρ al (σ 258 al) (σ 259 al) (σ 270 al) (rowL σ al) := inv_rO hI.1 io (fun i hi => ho i (by omega))
    exact lays_e ro x1 x4.2.2.2.2.2.2.1 x4.2.2.2.2.2.2.2 (elS_o x6 ho) ⟨rn.1, rn.2.1, rn.2.2.1, rn.2.2.2.2.1, rn.2.2.2.2.2⟩ h2 (hs2.imp_right (fun ⟨k2, q1, _, q2⟩ => ⟨k2, q1, elS_o q2 ho⟩))
/-- both refusals -/
theorem fault2 {σ : mSt} (h : Inv σ) {a1 a2 : Int} (h1 : i32 a1) (h2 : i32 a2) : ∃ v σ1, mX11_idealFault 0 a1 a2 σ = some (v, σ1) ∧ frm dull σ σ1 ∧ fvP σ a1 a2 v ∧ ∀ ρ, Inv ρ → sameO σ ρ → ∃ ρ', mX12_refusal 253 a1 a2 ρ = some (v, ρ') ∧ frm dull ρ ρ' := by
  obtain ⟨v, σ1, c1, c2, c3⟩ := faultC h h1 h2
  refine ⟨v, σ1, c1, c2, c3, fun ρ hI ho => ?_⟩
  obtain ⟨w, ρ', d1, d2, d3⟩ := faultR hI (frm.rf ρ) h1 h2
  have e := fvP_eq c3 (fvP_same ho d3)
  exact ⟨ρ', by rw [d1, e], d2⟩
theorem fv_cases {σ : mSt} {a1 a2 v : Int} (h : fvP σ a1 a2 v) : v = 0 ∨ (v < 0 ∧ -3 ≤ v) := by
  rcases h with ⟨e, -⟩ | ⟨e, -⟩ | ⟨e, -⟩ | ⟨e, -⟩ <;> omega
theorem dull_same {σ ρ : mSt} (hf : frm dull σ ρ) : sameO σ ρ := fun i hi => dull_o hf (by omega)
theorem same_tr {σ ρ τ : mSt} (h1 : sameO σ ρ) (h2 : sameO ρ τ) : sameO σ τ := fun i hi => (h2 i hi).trans (h1 i hi)
theorem iW_same {al : Nat} (hal : al < 8) {σ ρ : mSt} (hf : frm (iW al) σ ρ) : sameO σ ρ := fun i hi => funext fun j => hf i j (fun z => by unfold iW jW oW at z; omega)
theorem qW_same {al : Nat} (hal : al < 8) {σ ρ : mSt} (hf : frm (qW al) σ ρ) : sameO σ ρ := fun i hi => funext fun j => hf i j (fun z => by unfold qW at z; omega)
theorem z_same {σ : mSt} {v : Int} : sameO σ (upS σ 253 0 v) := fun i hi => upS_row (by omega)
/-! ideal: lots -/
theorem wL_md (x : Int) : wL x = (x + 9223372036854775808) % 18446744073709551616 - 9223372036854775808 := by
  unfold wL
  rw [Int64.toInt_ofInt]
  have s : ((Int64.size : Nat) : Int) = 18446744073709551616 := rfl
  simp only [Int.bmod, s]
  split <;> omega
theorem com_1 (v : Int) (σ : mSt) : ∃ g, mX12_common 1 v σ = some (g, σ) ∧ wL g = 1 := by
  have L28 : ∀ w : Int, wL w ≠ -1 → ∃ g, mX12_common_L28 1 v (fun z4 zσ => mX12_common_B53 1 v z4 zσ) mF 1 w σ = some (g, σ) ∧ wL g = 1 := fun w hw => by
    obtain ⟨f, hf⟩ := mF5
    have wr := wL_rng w
    rw [hf]
    by_cases z : wL w = 0
    · refine ⟨1, ?_, by decide⟩
      rw [mX12_common_L28.eq_2, if_pos z]
      rfl
    · rw [mX12_common_L28.eq_2, if_neg z, mG_pos z, bnd_eq, show wL 1 = 1 by decide]
      by_cases o : wL w = 1
      · refine ⟨w, ?_, o⟩
        rw [o, mX12_common_L28.eq_2, if_pos (by decide)]
        rfl
      · have t1 : (1 : Int).tmod (wL w) = 1 := by
          rcases Int.lt_or_le 0 (wL w) with p | p
          · rw [Int.tmod_eq_emod_of_nonneg (by omega)]
            exact Int.emod_eq_of_lt (by omega) (by omega)
          · have := Int.tmod_neg (1 : Int) (wL w)
            rw [← this, Int.tmod_eq_emod_of_nonneg (by omega)]
            exact Int.emod_eq_of_lt (by omega) (by omega)
        refine ⟨1, ?_, by decide⟩
        rw [t1, mX12_common_L28.eq_2, if_neg (by decide), mG_pos (by decide), bnd_eq, show wL 1 = 1 by decide, Int.tmod_one, mX12_common_L28.eq_2, if_pos (by decide)]
        rfl
  unfold mX12_common
  rw [if_pos (by decide)]
  unfold mX12_common_B12
  by_cases z : 0 ≤ wL v
  · rw [if_pos z]
    exact L28 v (by omega)
  · rw [if_neg z]
    refine L28 (-v) (fun y => ?_)
    have a1 : wL (-v) = wL (- wL v) := by rw [wL_md, wL_md (-wL v), wL_md v]; omega
    have wr := wL_rng v
    by_cases q : wL v = -9223372036854775808
    · rw [a1, q] at y
      revert y
      decide
    · rw [a1, wL_id (x := -wL v) (by omega)] at y
      omega
theorem wL_mulL (x y : Int) : wL (wL x * y) = wL (x * y) := by
  have h : ∃ k, wL x = x + 18446744073709551616 * k := ⟨-((x + 9223372036854775808) / 18446744073709551616), by rw [wL_md]; omega⟩
  obtain ⟨k, hk⟩ := h
  rw [hk, Int.add_mul, Int.mul_assoc]
  generalize k * y = q
  generalize x * y = p
  rw [wL_md, wL_md p]
  omega
def dgP (G : Nat → V4) : Nat → Nat → Int → Int
  | 0, _, v => v
  | m + 1, r, v => dgP G m (r + 1) (v * vg r (G r))
theorem dgP_wL (G : Nat → V4) : ∀ (m r : Nat) (v w : Int), wL v = wL w → wL (dgP G m r v) = wL (dgP G m r w) := by
  intro m
  induction m with
  | zero => intro r v w h; exact h
  | succ m ih =>
    intro r v w h
    refine ih (r + 1) _ _ ?_
    rw [← wL_mulL v, ← wL_mulL w, h]
theorem idL42 {τ : mSt} {al : Nat} {a b M N L v1 v2 : Int} {E F G : Nat → V4} {x : Int → Int → mSt → Option (Int × mSt)} (h : ilR τ al a b M E N L F) (tG : Tri G) (hd : ∀ r, r < 4 → vg r (F r) = L / M * vg r (E r) * vg r (G r)) : ∀ (m r n : Nat) (v5 : Int), r + m = 4 → m < n → ∃ v5', mX12_ideal_L42 253 v1 v2 (al : Int) x n v5 1 (r : Int) τ = x v5' 1 τ ∧ wL v5' = wL (dgP G m r v5) := by
  obtain ⟨hO, hal, ha, hb, ⟨w, hA⟩, ok, hN, hLr, hML⟩ := h
  obtain ⟨hL, g2, g3, g4, g5, g6, g7⟩ := hO
  have M7 := (ord_facts ha hb g7).1
  have LN := mul_rng (x := L) (y := N) (A := 72000000) (B := 37210000) (by omega) (by omega) (by omega)
  intro m
  induction m with
  | zero =>
    intro r n v5 h1 h2
    obtain ⟨n, rfl⟩ : ∃ z, n = z + 1 := ⟨n - 1, by omega⟩
    obtain rfl : r = 4 := by omega
    exact ⟨v5, by rw [mX12_ideal_L42.eq_2, if_pos (by decide)], rfl⟩
  | succ m ih =>
    intro r n v5 h1 h2
    obtain ⟨n, rfl⟩ : ∃ z, n = z + 1 := ⟨n - 1, by omega⟩
    have hr : r < 4 := by omega
    have okE := (ord_ok g7).1.1
    obtain ⟨k, hk⟩ := hML
    have k0 : 0 < k := by
      rcases Int.lt_or_le 0 k with h | h
      · exact h
      · have := Int.mul_le_mul_of_nonneg_left h (show 0 ≤ M by omega)
        omega
    have kL : L / M = k := by rw [hk, Int.mul_ediv_cancel_left _ (by omega)]
    have hdr := hd r hr
    rw [kL] at hdr
    have ep := tri_d okE.2.1 r hr
    have gp := tri_d tG r hr
    have fp := tri_d ok.2.1 r hr
    have fm := Int.le_of_dvd ok.1 (dia_dvd ok.2.1 ok.2.2.2 hr)
    obtain ⟨A, hAe⟩ : ∃ A, A = k * vg r (E r) := ⟨_, rfl⟩
    rw [← hAe] at hdr
    have A0 : 0 < A := by rw [hAe]; exact Int.mul_pos k0 ep
    have A1 := Int.mul_le_mul_of_nonneg_left (show 1 ≤ vg r (G r) by omega) (show 0 ≤ A by omega)
    have A2 := Int.mul_le_mul_of_nonneg_right (show 1 ≤ A by omega) (show 0 ≤ vg r (G r) by omega)
    have ge9 : mX12_get 253 9 (r : Int) (r : Int) τ = some (vg r (F r), τ) := by
      have := get_e (τ := τ) (l := 9) (r := (r : Int)) (c := (r : Int)) hA.1.1 ⟨by omega, by omega, by omega, by omega, by omega⟩
      rw [Int.toNat_natCast, rowL_at τ 9 hr hr, hA.2.1 r hr] at this
      exact this
    have geE : mX12_get 253 (al : Int) (r : Int) (r : Int) τ = some (vg r (E r), τ) := by
      have := get_e (τ := τ) (l := al) (r := (r : Int)) (c := (r : Int)) hA.1.1 ⟨by omega, by omega, by omega, by omega, by omega⟩
      rw [Int.toNat_natCast, rowL_at τ al hr hr, g2] at this
      exact this
    obtain ⟨g, c1, c2⟩ := com_1 v5 τ
    obtain ⟨v5', i1, i2⟩ := ih (r + 1) n (wL v5 * vg r (G r)) (by omega) (by omega)
    refine ⟨v5', ?_, ?_⟩
    · have gc1 : (Int.gcd (vg r (F r)) A : Int) = A := by
        rw [Int.gcd_comm]
        exact Int.gcd_eq_left (by omega) ⟨_, hdr⟩
      have gc2 : (Int.gcd (vg r (G r)) 1 : Int) = 1 := by simp
      have q30 := hA.1.2.1
      rw [mX12_ideal_L42.eq_2, if_neg (by rw [wI_id (x := (r : Int)) (by omega)]; omega), ge9, mCall_some, gr' q30 (by omega), gx270 _ (by omega), gr' q30 (by omega), gx270 _ (by omega), wI_nat (k := al) (by omega), g3, show τ 270 9 = L from hA.2.2.1, mG_pos (by rw [wL_id (x := M) (by omega)]; omega), geE, mCall_some, wL_id (x := L) (by omega), wL_id (x := M) (by omega), Int.tdiv_eq_ediv_of_nonneg (by omega), kL, ← hAe, bnd_eq, com_e _ _ _ (by omega) (by omega), mCall_some, gc1, mG_pos (by rw [wL_id (x := A) (by omega)]; omega), wL_id (x := A) (by omega), wL_id (x := vg r (F r)) (by omega), bnd_eq, bnd_eq, hdr, Int.mul_tdiv_cancel_left _ (show A ≠ 0 by omega), Int.tdiv_self (show A ≠ 0 by omega), com_e _ _ _ (by omega) (by omega), mCall_some, gc2, mG_pos (by decide), show wL 1 = 1 by decide, wL_id (x := vg r (G r)) (by omega), Int.tdiv_one, bnd_eq, bnd_eq, c1, mCall_some, mG_pos (by rw [c2]; decide), c2, Int.tdiv_one, bnd_eq, bnd_eq, bnd_eq, bnd_eq, bnd_eq, Int.tdiv_one, Int.mul_one, show (r : Int) + 1 = ((r + 1 : Nat) : Int) by omega]
      exact i1
    · rw [i2]
      exact dgP_wL G m (r + 1) _ _ (wL_mulL _ _)

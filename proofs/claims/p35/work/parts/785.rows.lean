/-! THE LAW'S OWN LINES -/
theorem sqf_neg {c : Int} : sqf (-c) ↔ sqf c := by
  have h : ∀ c : Int, sqf c → sqf (-c) := fun c hc k k1 k2 => fun z => hc k k1 k2 (by
    have := Int.dvd_of_emod_eq_zero z
    exact Int.emod_eq_zero_of_dvd ((Int.dvd_neg).mp this))
  exact ⟨fun z => by have := h _ z; rwa [Int.neg_neg] at this, h c⟩
def nmV (k : Nat) : Int := if k = 0 then 545 else if k = 1 then 546 else if k = 2 then 547 else if k = 3 then 97 else if k = 4 then 98 else 609
def gT (xs : Nat → Int32) (L : Nat) : mSt := fun i j => if i = 256 then nmV (j - 8) else if i = 257 then ghK (j - 8) else if i = 258 then ghF xs L (j - 8) else if i = 259 then ghS xs L (j - 8) else if i = 260 then ghG xs L (j - 32) else if i = 261 then ghP xs L (j - 32) else 0
theorem gT_256 (xs : Nat → Int32) (L : Nat) (k : Nat) : gT xs L 256 (8 + k) = nmV k := by
  show nmV (8 + k - 8) = _
  rw [Nat.add_sub_cancel_left]
theorem gT_257 (xs : Nat → Int32) (L : Nat) (k : Nat) : gT xs L 257 (8 + k) = ghK k := by
  show ghK (8 + k - 8) = _
  rw [Nat.add_sub_cancel_left]
theorem gT_258 (xs : Nat → Int32) (L : Nat) (k : Nat) : gT xs L 258 (8 + k) = ghF xs L k := by
  show ghF xs L (8 + k - 8) = _
  rw [Nat.add_sub_cancel_left]
theorem gT_259 (xs : Nat → Int32) (L : Nat) (k : Nat) : gT xs L 259 (8 + k) = ghS xs L k := by
  show ghS xs L (8 + k - 8) = _
  rw [Nat.add_sub_cancel_left]
theorem gT_nm (xs : Nat → Int32) (L : Nat) : (fun k => gT xs L 256 (8 + k)) = nmV := funext (gT_256 xs L)
theorem nm_new : ∀ m : Fin 6, fdF nmV (nmV m.val) m.val 0 = -1 ∧ nmV m.val ≠ wdK 0 ∧ nmV m.val ≠ wdK 1 ∧ nmV m.val ≠ wdK 2 := by decide +kernel
theorem nm_old : ∀ o : Fin 5, fdF nmV (nmV o.val) 5 0 = (o.val : Int) := by decide +kernel
theorem nm_pk : (∀ k : Fin 3, pkF (lv [113, 97 + k.val]) 0 2 = nmV k.val) ∧ (∀ k : Fin 2, pkF (lv [99, 97 + k.val]) 0 2 = nmV (3 + k.val)) ∧ pkF (lv [115, 97]) 0 2 = nmV 5 ∧ ∀ o : Fin 5, pkF (lv (cTx.getD (9 + o.val) [])) 0 2 = nmV o.val := by decide +kernel
theorem kw_pk : (pkF (lv [113, 117, 97, 116, 101, 114, 110, 105, 111, 110]) 0 10 = wdK 0) ∧ (pkF (lv [99, 121, 99, 108, 105, 99]) 0 6 = wdK 1 ∧ wdK 1 ≠ wdK 0) ∧ (pkF (lv [115, 117, 109]) 0 3 = wdK 2 ∧ wdK 2 ≠ wdK 0 ∧ wdK 2 ≠ wdK 1) := by decide +kernel
/-- a name of two letters -/
theorem nam_t {T : List Nat} {w : Nat → Int} (hw : LX T w) {s a b m : Nat} {u : List Nat} (h : At T s ([a, b] ++ u)) (ha : 97 ≤ a ∧ a ≤ 122) (hb : 97 ≤ b ∧ b ≤ 122) (hu : stp 97 122 u) (hm : m < 6) (hv : pkF (lv [a, b]) 0 2 = nmV m) : isN w T.length s ∧ nmW w T.length s = nmV m ∧ tE w T.length s = s + 2 ∧ At T (s + 2) u := by
  obtain ⟨t1, t2, t3, t4⟩ := word_t hw h (by intro z; cases z) (by show 2 ≤ 10; decide) (fun c hc => by
    rcases List.mem_cons.mp hc with z | z
    · omega
    · rcases List.mem_cons.mp z with z | z
      · omega
      · cases z) hu
  have t4 : nmW w T.length s = nmV m := t4.trans hv
  obtain ⟨-, n0, n1, n2⟩ := nm_new ⟨m, hm⟩
  exact ⟨⟨t3, by rw [lk_of t3 t4, if_neg n0, if_neg n1, if_neg n2]⟩, t4, t1, At.app [a, b] h⟩
theorem stp_32 {lo hi : Nat} {u : List Nat} (h : 32 < lo) : stp lo hi (32 :: u) := fun c hc => by
  have : c = 32 := (Option.some.inj hc).symm
  omega
theorem stp_59 {lo hi : Nat} {u : List Nat} (h : 59 < lo ∨ hi < 59) : stp lo hi (59 :: u) := fun c hc => by
  have : c = 59 := (Option.some.inj hc).symm
  omega
theorem nsp_c {c : Nat} {u : List Nat} (h : c ≠ 32 ∧ c ≠ 10) : nsp (c :: u) := fun d hd => by
  have : d = c := (Option.some.inj hd).symm
  rw [this]; exact h
/-- a keyword, the name behind it -/
theorem head_t {T : List Nat} {w : Nat → Int} (hw : LX T w) {s a b m : Nat} {ls u : List Nat} {x : Int} (h : At T s (ls ++ (32 :: ([a, b] ++ (32 :: u))))) (h0 : ls ≠ []) (h10 : ls.length ≤ 10) (hl : ∀ c ∈ ls, 97 ≤ c ∧ c ≤ 122) (hx : pkF (lv ls) 0 ls.length = x) (ha : 97 ≤ a ∧ a ≤ 122) (hb : 97 ≤ b ∧ b ≤ 122) (hm : m < 6) (hv : pkF (lv [a, b]) 0 2 = nmV m) (hu : nsp u) :
    tR w T.length s = 1 ∧ nmW w T.length s = x ∧ isN w T.length (nxt w T.length s) ∧ nmW w T.length (nxt w T.length s) = nmV m ∧ nxt w T.length (nxt w T.length s) = s + ls.length + 4 ∧ At T (s + ls.length + 4) u := by
  obtain ⟨t1, t2, t3, t4⟩ := word_t hw h h0 h10 hl (stp_32 (by decide))
  have h1 : At T (s + ls.length) (32 :: ([a, b] ++ (32 :: u))) := At.app ls h
  have e1 : nxt w T.length s = s + ls.length + 1 := by unfold nxt; rw [t1]; exact skp_sp hw h1 (nsp_c (by omega))
  obtain ⟨g1, g2, g3, g4⟩ := nam_t hw h1.tail ha hb (stp_32 (by decide)) hm hv
  refine ⟨t3, t4.trans hx, by rw [e1]; exact g1, by rw [e1]; exact g2, ?_, ?_⟩
  · rw [e1]
    unfold nxt
    rw [g3]
    have := skp_sp hw g4 hu
    rw [this]
  · have := g4.tail
    rw [show s + ls.length + 1 + 2 + 1 = s + ls.length + 4 by omega] at this
    exact this
theorem lineQ {T : List Nat} {xs : Nat → Int32} {L : Nat} {σ : mSt} {w : Nat → Int} {s D k : Nat} {u : List Nat} (hw : LX T w) (hk : k < 3) (h : lnC σ (gT xs L) w T.length s D k) (hat : At T s (tQ k (ghF xs L k) (ghS xs L k) ++ u)) (hu : nsp u) : ∃ σ', mX8_readLine 2 σ = some (1, σ') ∧ frm (cXl D) σ σ' ∧ lnC σ' (gT xs L) w T.length (s + (tQ k (ghF xs L k) (ghS xs L k)).length) D (k + 1) ∧ At T (s + (tQ k (ghF xs L k) (ghS xs L k)).length) u := by
  have eF : ghF xs L k = freeV xs L (4 * k) := by unfold ghF; rw [if_pos hk]
  have eS : ghS xs L k = freeV xs L (4 * k + 2) := by unfold ghS; rw [if_pos hk]
  have fA := free_side xs L (4 * k)
  have fB := free_side xs L (4 * k + 2)
  rw [← eF] at fA
  rw [← eS] at fB
  generalize hAe : ghF xs L k = A at fA hat ⊢
  generalize hBe : ghS xs L k = B at fB hat ⊢
  have hat' : At T s ([113, 117, 97, 116, 101, 114, 110, 105, 111, 110] ++ (32 :: ([113, 97 + k] ++ (32 :: (decI A ++ (32 :: (decI B ++ (59 :: u)))))))) := by
    have e : tQ k A B ++ u = [113, 117, 97, 116, 101, 114, 110, 105, 111, 110] ++ (32 :: ([113, 97 + k] ++ (32 :: (decI A ++ (32 :: (decI B ++ (59 :: u))))))) := by
      unfold tQ
      simp only [List.append_assoc, List.cons_append, List.nil_append]
    rw [← e]; exact hat
  obtain ⟨t1, t2, t3, t4, t5, t6⟩ := head_t (m := k) hw hat' (by intro z; cases z) (by decide) (by decide) (show _ = wdK 0 from kw_pk.1) (by decide) (by omega) (by omega) (nm_pk.1 ⟨k, hk⟩) (decI_hd (x := A) (by omega) _)
  obtain ⟨a1, a2, a3, a4, a5⟩ := num_t (lim := 60) hw t6 (by omega) (stp_32 (by decide)) (by omega)
  have n1 : nxt w T.length (wS w T.length (s + 14)) = s + 14 + (decI A).length + 1 := by
    unfold nxt
    rw [show wS w T.length (s + 14) = wS w T.length (s + [113, 117, 97, 116, 101, 114, 110, 105, 111, 110].length + 4) from rfl, a5]
    exact skp_sp hw a4 (decI_hd (x := B) (by omega) _)
  obtain ⟨b1, b2, b3, b4, b5⟩ := num_t (lim := 60) hw a4.tail (by omega) (stp_59 (by omega)) (by omega)
  have n2 : nxt w T.length (wS w T.length (s + 14 + (decI A).length + 1)) = s + 14 + (decI A).length + 1 + (decI B).length := by
    unfold nxt
    rw [show wS w T.length (s + 14 + (decI A).length + 1) = wS w T.length (s + [113, 117, 97, 116, 101, 114, 110, 105, 111, 110].length + 4 + (decI A).length + 1) from rfl, b5]
    exact skp_at hw b4 (nsp_c (by decide))
  obtain ⟨c1, c2⟩ := sig_t hw b4 (by decide)
  rw [if_neg (by decide), if_neg (by decide)] at c2
  have n3 : nxt w T.length (s + 14 + (decI A).length + 1 + (decI B).length) = s + 14 + (decI A).length + 1 + (decI B).length + 1 := by
    unfold nxt
    rw [show tE w T.length (s + 14 + (decI A).length + 1 + (decI B).length) = s + 14 + (decI A).length + 1 + (decI B).length + 1 from c1]
    exact skp_at hw b4.tail hu
  have sqA : sqf (wN w T.length (s + 14)) := by
    rw [show wN w T.length (s + 14) = (A.natAbs : Int) from a3]
    rcases Int.natAbs_eq A with e | e
    · rw [← e]; exact fA.2.2.2
    · have : (A.natAbs : Int) = -A := by omega
      rw [this]; exact sqf_neg.mpr fA.2.2.2
  have sqB9 : sqf (wN w T.length (s + 14 + (decI A).length + 1)) := by
    rw [show wN w T.length (s + 14 + (decI A).length + 1) = (B.natAbs : Int) from b3]
    rcases Int.natAbs_eq B with e | e
    · rw [← e]; exact fB.2.2.2
    · have : (B.natAbs : Int) = -B := by omega
      rw [this]; exact sqf_neg.mpr fB.2.2.2
  have hlen : (tQ k A B).length = 14 + (decI A).length + 1 + (decI B).length + 1 := by
    unfold tQ
    simp only [List.length_append, List.length_cons, List.length_nil]
    omega
  obtain ⟨nf, -⟩ := nm_new ⟨k, by omega⟩
  obtain ⟨σ', e1, e2, e3⟩ := line_c (kd := 0) (s2 := s + 14 + (decI A).length + 1 + (decI B).length) h (by omega) (by rw [lk_of t1 t2, if_pos rfl]) (Or.inl rfl) t3 (by rw [gT_nm, t4]; exact nf) (by rw [gT_256, t4]) (fun σ1 h1 z2 z3 => by
    rw [t5] at h1
    obtain ⟨σ2, p1, p2, p3, p4, p5, p6⟩ := sides_c (s2 := s + 14 + (decI A).length + 1) (A := A) (B := B) h1 ⟨a1, sqA⟩ a2 n1 ⟨b1, sqB9⟩ b2 n2
    refine ⟨σ2, by rw [if_pos rfl]; exact p1, p2, p3, p4, fun q1 q2 => ?_⟩
    unfold al2
    rw [gT_257, gT_258, gT_259, hAe, hBe, p5, p6, p4.1, q1]
    have eK : ghK k = 0 := by unfold ghK; rw [if_pos hk]
    exact ⟨eK.symm, rfl, rfl, q2, Or.inl ⟨eK, fA, fB⟩⟩) c2
  rw [n3] at e3
  have epos : s + (tQ k A B).length = s + 14 + (decI A).length + 1 + (decI B).length + 1 := by rw [hlen]; omega
  rw [epos]
  exact ⟨σ', e1, e2, e3, b4.tail⟩
theorem lineC {T : List Nat} {xs : Nat → Int32} {L : Nat} {σ : mSt} {w : Nat → Int} {s D k : Nat} {u : List Nat} (hw : LX T w) (hk : k < 2) (h : lnC σ (gT xs L) w T.length s D (3 + k)) (hat : At T s (tCy k (qv (someV xs L (20 + k) 6).toNat) (someV xs L (22 + k) 2) (1 + someV xs L (24 + k) 999) ++ u)) (hu : nsp u) : ∃ σ', mX8_readLine 2 σ = some (1, σ') ∧ frm (cXl D) σ σ' ∧ lnC σ' (gT xs L) w T.length (s + (tCy k (qv (someV xs L (20 + k) 6).toNat) (someV xs L (22 + k) 2) (1 + someV xs L (24 + k) 999)).length) D (3 + k + 1) ∧ At T (s + (tCy k (qv (someV xs L (20 + k) 6).toNat) (someV xs L (22 + k) 2) (1 + someV xs L (24 + k) 999)).length) u := by
  have hr := someV_rng (xs := xs) (L := L) (k := 24 + k) (n := 999) (by decide)
  have hr6 := someV_rng (xs := xs) (L := L) (k := 20 + k) (n := 6) (by decide)
  have eF : ghF xs L (3 + k) = qv (someV xs L (20 + k) 6).toNat := by unfold ghF; rw [if_neg (by omega), if_pos (by omega), show 3 + k - 3 = k by omega]
  have eS : ghS xs L (3 + k) = if someV xs L (22 + k) 2 = 0 then -(1 + someV xs L (24 + k) 999) else 1 + someV xs L (24 + k) 999 := by unfold ghS; rw [if_neg (by omega), if_pos (by omega), show 3 + k - 3 = k by omega]
  have fq := qv_rng (someV xs L (20 + k) 6).toNat (by omega)
  have fS := ghS_cy xs L (3 + k) (by omega)
  have eT : tCy k (qv (someV xs L (20 + k) 6).toNat) (someV xs L (22 + k) 2) (1 + someV xs L (24 + k) 999) = [99, 121, 99, 108, 105, 99, 32, 99] ++ ([97 + k] ++ ([32] ++ (decI (ghF xs L (3 + k)) ++ ([32] ++ (decI (ghS xs L (3 + k)) ++ [59]))))) := by
    unfold tCy
    rw [eF, eS]
    congr 5
    by_cases c : someV xs L (22 + k) 2 = 0
    · rw [if_pos c, if_pos c]
      unfold decI
      rw [if_neg (by omega), if_pos (by omega), Int.neg_neg]
      rfl
    · rw [if_neg c, if_neg c]
      rfl
  have fF : fldP (ghF xs L (3 + k)) := by
    have := ghF_cy xs L (3 + k) (by omega)
    unfold qs at this
    unfold fldP
    simp only [List.mem_cons, List.not_mem_nil, or_false] at this
    exact this
  rw [eT] at hat ⊢
  generalize hAe : ghF xs L (3 + k) = A at hat fF ⊢
  generalize hBe : ghS xs L (3 + k) = B at fS hat ⊢
  have hA7 : 7 ≤ A ∧ A ≤ 43 := by unfold fldP at fF; omega
  have hat' : At T s ([99, 121, 99, 108, 105, 99] ++ (32 :: ([99, 97 + k] ++ (32 :: (decI A ++ (32 :: (decI B ++ (59 :: u)))))))) := by
    simp only [List.append_assoc, List.cons_append, List.nil_append] at hat ⊢
    exact hat
  obtain ⟨t1, t2, t3, t4, t5, t6⟩ := head_t (m := 3 + k) hw hat' (by intro z; cases z) (by decide) (by decide) (show _ = wdK 1 from kw_pk.2.1.1) (by decide) (by omega) (by omega) (nm_pk.2.1 ⟨k, hk⟩) (decI_hd (x := A) (by omega) _)
  obtain ⟨a1, a2, a3, a4, a5⟩ := num_t (lim := 60) hw t6 (by omega) (stp_32 (by decide)) (by omega)
  have tc2 : tC w T.length (s + 10) = 2 ∧ nvF w (s + 10) (tE w T.length (s + 10) - (s + 10)) = A ∧ tE w T.length (s + 10) = s + 10 + (decI A).length := by
    have ed : decI A = decN A.toNat := by unfold decI; rw [if_neg (by omega)]
    have t6' : At T (s + 10) (decN A.toNat ++ (32 :: (decI B ++ (59 :: u)))) := by rw [← ed]; exact t6
    obtain ⟨d1, d2, d3, d4⟩ := decN_t ⟨A.toNat, by omega⟩
    obtain ⟨k1, k2, k3⟩ := dig_t hw t6' d1 d3 (stp_32 (by decide))
    rw [ed]
    exact ⟨k2, by rw [k3]; exact d4.trans (by show ((A.toNat : Nat) : Int) = A; omega), k1⟩
  have n1 : nxt w T.length (s + 10) = s + 10 + (decI A).length + 1 := by
    unfold nxt
    rw [tc2.2.2]
    exact skp_sp hw a4 (decI_hd (x := B) (by omega) _)
  obtain ⟨b1, b2, b3, b4, b5⟩ := num_t (lim := 999) hw a4.tail (by omega) (stp_59 (by omega)) (by omega)
  have n2 : nxt w T.length (wS w T.length (s + 10 + (decI A).length + 1)) = s + 10 + (decI A).length + 1 + (decI B).length := by
    unfold nxt
    rw [show wS w T.length (s + 10 + (decI A).length + 1) = wS w T.length (s + [99, 121, 99, 108, 105, 99].length + 4 + (decI A).length + 1) from rfl, b5]
    exact skp_at hw b4 (nsp_c (by decide))
  obtain ⟨c1, c2⟩ := sig_t hw b4 (by decide)
  rw [if_neg (by decide), if_neg (by decide)] at c2
  have n3 : nxt w T.length (s + 10 + (decI A).length + 1 + (decI B).length) = s + 10 + (decI A).length + 1 + (decI B).length + 1 := by
    unfold nxt
    rw [show tE w T.length (s + 10 + (decI A).length + 1 + (decI B).length) = s + 10 + (decI A).length + 1 + (decI B).length + 1 from c1]
    exact skp_at hw b4.tail hu
  obtain ⟨nf, -⟩ := nm_new ⟨3 + k, by omega⟩
  obtain ⟨σ', e1, e2, e3⟩ := line_c (kd := 1) (s2 := s + 10 + (decI A).length + 1 + (decI B).length) h (by omega) (by rw [lk_of t1 t2, if_neg kw_pk.2.1.2, if_pos rfl]) (Or.inr (Or.inl rfl)) t3 (by rw [gT_nm, t4]; exact nf) (by rw [gT_256, t4]) (fun σ1 h1 z2 z3 => by
    rw [t5] at h1
    obtain ⟨σ2, p1, p2, p3, p4, p5, p6⟩ := field_c (s2 := s + 10 + (decI A).length + 1) (A := A) (B := B) h1 tc2.1 tc2.2.1 fF n1 b1 b2 n2
    refine ⟨σ2, by rw [if_neg (by decide), if_pos rfl]; exact p1, p2, p3, p4, fun q1 q2 => ?_⟩
    unfold al2
    rw [gT_257, gT_258, gT_259, hAe, hBe, p5, p6, p4.1, q1]
    have eK : ghK (3 + k) = 1 := by unfold ghK; rw [if_neg (by omega), if_pos (by omega)]
    exact ⟨eK.symm, rfl, rfl, q2, Or.inr (Or.inl ⟨eK, fF, fS⟩)⟩) c2
  rw [n3] at e3
  have epos : s + ([99, 121, 99, 108, 105, 99, 32, 99] ++ ([97 + k] ++ ([32] ++ (decI A ++ ([32] ++ (decI B ++ [59])))))).length = s + 10 + (decI A).length + 1 + (decI B).length + 1 := by
    simp only [List.length_append, List.length_cons, List.length_nil]
    omega
  rw [epos]
  exact ⟨σ', e1, e2, e3, b4.tail⟩

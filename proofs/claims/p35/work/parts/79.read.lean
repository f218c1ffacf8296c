/-! the line of the sum; the whole text -/
def tmL (xs : Nat → Int32) (L : Nat) : Nat → Nat → List Nat
  | 0, _ => []
  | q + 1, i => tT (someV xs L (36 + i) 2) (someV xs L (31 + i) 5).toNat ++ tmL xs L q (i + 1)
theorem tmL_snoc (xs : Nat → Int32) (L : Nat) : ∀ q i : Nat, tmL xs L (q + 1) i = tmL xs L q i ++ tT (someV xs L (36 + (i + q)) 2) (someV xs L (31 + (i + q)) 5).toNat
  | 0, i => by
    show tT _ _ ++ [] = [] ++ tT _ _
    rw [List.append_nil, List.nil_append]
    rfl
  | q + 1, i => by
    have := tmL_snoc xs L q (i + 1)
    show tT _ _ ++ tmL xs L (q + 1) (i + 1) = (tT _ _ ++ tmL xs L q (i + 1)) ++ _
    rw [this, List.append_assoc, show i + 1 + q = i + (q + 1) by omega]
theorem tx3_e (xs : Nat → Int32) (L : Nat) : ∀ n : Nat, tx3 xs L n = tx2 xs L 2 ++ ([115, 117, 109, 32, 115, 97] ++ tmL xs L n 0)
  | 0 => by
    show tx2 xs L 2 ++ _ = tx2 xs L 2 ++ (_ ++ [])
    rw [List.append_nil]
  | n + 1 => by
    show tx3 xs L n ++ _ = _
    rw [tx3_e xs L n, tmL_snoc, Nat.zero_add]
    simp only [List.append_assoc]
theorem nameT : ∀ o : Fin 5, ∃ a b : Nat, cTx.getD (9 + o.val) [] = [a, b] ∧ (97 ≤ a ∧ a ≤ 122) ∧ 97 ≤ b ∧ b ≤ 122 := by
  intro o
  rcases o with ⟨o, ho⟩
  rcases (show o = 0 ∨ o = 1 ∨ o = 2 ∨ o = 3 ∨ o = 4 by omega) with rfl | rfl | rfl | rfl | rfl
  · exact ⟨113, 97, rfl, by decide, by decide⟩
  · exact ⟨113, 98, rfl, by decide, by decide⟩
  · exact ⟨113, 99, rfl, by decide, by decide⟩
  · exact ⟨99, 97, rfl, by decide, by decide⟩
  · exact ⟨99, 98, rfl, by decide, by decide⟩
/-- one term: sign, name; what follows begins with a blank or ends the line -/
theorem term_t {T : List Nat} {w : Nat → Int} (hw : LX T w) {s : Nat} {g : Int} {o : Nat} {u : List Nat} (h : At T s (tT g o ++ u)) (ho : o < 5) (hu : stp 97 122 u) :
    (tC w T.length (s + 1) = if g = 0 then 3 else 4) ∧ nxt w T.length (s + 1) = s + 3 ∧ isN w T.length (s + 3) ∧ nmW w T.length (s + 3) = nmV o ∧ tE w T.length (s + 3) = s + 5 ∧ At T (s + 5) u ∧ skp w T.length s = s + 1 := by
  obtain ⟨a, b, e, ha, hb⟩ := nameT ⟨o, ho⟩
  have e : cTx.getD (9 + o) [] = [a, b] := e
  have hv := nm_pk.2.2.2 ⟨o, ho⟩
  rw [show cTx.getD (9 + (⟨o, ho⟩ : Fin 5).val) [] = [a, b] from e] at hv
  obtain ⟨c, hc, hT⟩ : ∃ c : Nat, (c = if g = 0 then 43 else 45) ∧ tT g o ++ u = 32 :: (c :: (32 :: ([a, b] ++ u))) := by
    refine ⟨if g = 0 then 43 else 45, rfl, ?_⟩
    unfold tT
    rw [e]
    by_cases z : g = 0
    · rw [if_pos z, if_pos z]; rfl
    · rw [if_neg z, if_neg z]; rfl
  rw [hT] at h
  have hc2 : c = 43 ∨ c = 45 ∨ c = 59 := by rw [hc]; split <;> omega
  obtain ⟨g1, g2⟩ := sig_t hw h.tail hc2
  have hsk := skp_sp hw h (nsp_c (u := 32 :: ([a, b] ++ u)) (by rcases hc2 with z | z | z <;> rw [z] <;> decide))
  have h3 := h.tail.tail
  have n3 : nxt w T.length (s + 1) = s + 3 := by
    unfold nxt
    rw [g1]
    exact skp_sp hw h3 (nsp_c (by omega))
  obtain ⟨k1, k2, k3, k4⟩ := nam_t (m := o) hw h3.tail ha hb hu (by omega) hv
  refine ⟨?_, n3, k1, k2, k3, k4, hsk⟩
  rw [g2, hc]
  by_cases z : g = 0
  · rw [if_pos z, if_pos z, if_pos rfl]
  · rw [if_neg z, if_neg z, if_neg (by decide), if_pos rfl]
theorem stp_tm (xs : Nat → Int32) (L : Nat) {lo hi : Nat} (h : 59 < lo) : ∀ q i : Nat, stp lo hi (tmL xs L q i ++ [59])
  | 0, i => stp_59 (Or.inl h)
  | q + 1, i => by
    have e : ∃ l, tmL xs L (q + 1) i ++ [59] = 32 :: l := by
      show ∃ l, (tT _ _ ++ _) ++ [59] = 32 :: l
      unfold tT
      by_cases z : someV xs L (36 + i) 2 = 0
      · rw [if_pos z]; exact ⟨_, rfl⟩
      · rw [if_neg z]; exact ⟨_, rfl⟩
    obtain ⟨l, e⟩ := e
    rw [e]
    exact stp_32 (by omega)
theorem At_tm {T : List Nat} {xs : Nat → Int32} {L : Nat} {s : Nat} {u : List Nat} : ∀ (i q : Nat), At T s (tmL xs L (i + q) 0 ++ u) → At T (s + 5 * i) (tmL xs L q i ++ u) := by
  have key : ∀ (i q j s : Nat), At T s (tmL xs L (i + q) j ++ u) → At T (s + 5 * i) (tmL xs L q (j + i) ++ u) := by
    intro i
    induction i with
    | zero =>
      intro q j s h
      rw [Nat.zero_add] at h
      exact h
    | succ i ih =>
      intro q j s h
      rw [show i + 1 + q = (i + q) + 1 by omega] at h
      have h' : At T s (tT (someV xs L (36 + j) 2) (someV xs L (31 + j) 5).toNat ++ (tmL xs L (i + q) (j + 1) ++ u)) := by
        rw [← List.append_assoc]
        exact h
      have hr := someV_rng (xs := xs) (L := L) (k := 31 + j) (n := 5) (by decide)
      have hl := (tT_ok (g := someV xs L (36 + j) 2) (o := (someV xs L (31 + j) 5).toNat) (by omega)).1
      have h2 := At.app _ h'
      rw [hl] at h2
      have := ih q (j + 1) (s + 5) h2
      rw [show s + 5 + 5 * i = s + 5 * (i + 1) by omega, show j + 1 + i = j + (i + 1) by omega] at this
      exact this
  intro i q h
  have := key i q 0 s h
  rw [Nat.zero_add] at this
  exact this
theorem lineS {T : List Nat} {xs : Nat → Int32} {L : Nat} {σ : mSt} {w : Nat → Int} {s D : Nat} (hw : LX T w) (h : lnC σ (gT xs L) w T.length s D 5) (hat : At T s ([115, 117, 109, 32, 115, 97] ++ (tmL xs L (lawN xs L) 0 ++ [59]))) : ∃ (σ' : mSt) (s' : Nat), mX8_readLine 2 σ = some (1, σ') ∧ frm (cXl D) σ σ' ∧ lnC σ' (gT xs L) w T.length s' D 6 ∧ tC w T.length s' = 0 := by
  have hN := lawN_rng xs L
  obtain ⟨nt, hnt⟩ : ∃ nt, nt = lawN xs L := ⟨_, rfl⟩
  rw [← hnt] at hat hN
  have hat6 : At T (s + 6) (tmL xs L nt 0 ++ [59]) := At.app [115, 117, 109, 32, 115, 97] hat
  -- each term
  have tm : ∀ i, i < nt → (tC w T.length (s + 7 + 5 * i) = if someV xs L (36 + i) 2 = 0 then 3 else 4) ∧ nxt w T.length (s + 7 + 5 * i) = s + 9 + 5 * i ∧ isN w T.length (s + 9 + 5 * i) ∧ nmW w T.length (s + 9 + 5 * i) = nmV (ghO xs L i) ∧ tE w T.length (s + 9 + 5 * i) = s + 11 + 5 * i ∧ At T (s + 11 + 5 * i) (tmL xs L (nt - i - 1) (i + 1) ++ [59]) ∧ skp w T.length (s + 6 + 5 * i) = s + 7 + 5 * i := fun i hi => by
    have h1 := At_tm (T := T) (xs := xs) (L := L) (s := s + 6) (u := [59]) i (nt - i) (by rw [show i + (nt - i) = nt by omega]; exact hat6)
    rw [show nt - i = (nt - i - 1) + 1 by omega] at h1
    have h2 : At T (s + 6 + 5 * i) (tT (someV xs L (36 + i) 2) (ghO xs L i) ++ (tmL xs L (nt - i - 1) (i + 1) ++ [59])) := by
      rw [← List.append_assoc]
      exact h1
    obtain ⟨g1, g2, g3, g4, g5, g6, g7⟩ := term_t hw h2 (ghO_rng xs L i) (stp_tm xs L (by decide) _ _)
    rw [show s + 6 + 5 * i + 1 = s + 7 + 5 * i by omega, show s + 6 + 5 * i + 3 = s + 9 + 5 * i by omega] at *
    rw [show s + 6 + 5 * i + 5 = s + 11 + 5 * i by omega] at *
    exact ⟨g1, g2, g3, g4, g5, g6, g7⟩
  have hend : At T (s + 6 + 5 * nt) [59] := by
    have h1 := At_tm (T := T) (xs := xs) (L := L) (s := s + 6) (u := [59]) nt 0 (by rw [Nat.add_zero]; exact hat6)
    exact h1
  obtain ⟨c1, c2⟩ := sig_t hw hend (by decide)
  rw [if_neg (by decide), if_neg (by decide)] at c2
  have hnil : At T (s + 6 + 5 * nt + 1) [] := hend.tail
  have nE : nxt w T.length (s + 6 + 5 * nt) = s + 6 + 5 * nt + 1 := by
    unfold nxt
    rw [c1]
    exact skp_at hw hnil (fun c hc => by cases hc)
  -- the head: sum, its name
  obtain ⟨k0, hk0⟩ : ∃ u0, tmL xs L nt 0 ++ [59] = 32 :: u0 := by
    rw [show nt = (nt - 1) + 1 by omega]
    show ∃ u0, (tT _ _ ++ _) ++ [59] = 32 :: u0
    unfold tT
    by_cases z : someV xs L (36 + 0) 2 = 0
    · rw [if_pos z]; exact ⟨_, rfl⟩
    · rw [if_neg z]; exact ⟨_, rfl⟩
  have hat' : At T s ([115, 117, 109] ++ (32 :: ([115, 97] ++ (tmL xs L nt 0 ++ [59])))) := hat
  obtain ⟨t1, t2, t3, t4⟩ := word_t hw hat' (by intro z; cases z) (by decide) (by decide) (stp_32 (by decide))
  have t4 : nmW w T.length s = wdK 2 := t4.trans kw_pk.2.2.1
  have h1 : At T (s + 3) (32 :: ([115, 97] ++ (tmL xs L nt 0 ++ [59]))) := At.app [115, 117, 109] hat'
  have e1 : nxt w T.length s = s + 4 := by unfold nxt; rw [t1]; exact skp_sp hw h1 (nsp_c (by decide))
  obtain ⟨g1, g2, g3, g4⟩ := nam_t (m := 5) hw h1.tail (by decide) (by decide) (stp_tm xs L (by decide) _ _) (by decide) nm_pk.2.2.1
  have e2 : nxt w T.length (s + 4) = s + 7 := by
    unfold nxt
    rw [show tE w T.length (s + 4) = s + 6 from g3]
    exact (tm 0 (by omega)).2.2.2.2.2.2
  obtain ⟨nf, -⟩ := nm_new ⟨5, by decide⟩
  -- the terms' places
  obtain ⟨p, hp⟩ : ∃ p : Nat → Nat, p = fun i => if i < nt then s + 7 + 5 * i else s + 6 + 5 * nt := ⟨_, rfl⟩
  have pi : ∀ i, i < nt → p i = s + 7 + 5 * i := fun i hi => by rw [hp]; exact if_pos hi
  have pn : p nt = s + 6 + 5 * nt := by rw [hp]; exact if_neg (Nat.lt_irrefl _)
  have hstep : ∀ i, i < nt → nxt w T.length (nxt w T.length (p i)) = p (i + 1) := fun i hi => by
    obtain ⟨q1, q2, q3, q4, q5, q6, q7⟩ := tm i hi
    rw [pi i hi, q2]
    show skp w T.length (tE w T.length (s + 9 + 5 * i)) = _
    rw [q5]
    by_cases c : i + 1 < nt
    · rw [pi _ c]
      have := (tm (i + 1) c).2.2.2.2.2.2
      rw [show s + 6 + 5 * (i + 1) = s + 11 + 5 * i by omega] at this
      exact this
    · rw [show i + 1 = nt by omega, pn]
      have e : s + 11 + 5 * i = s + 6 + 5 * nt := by omega
      rw [e]
      exact skp_at hw hend (nsp_c (by decide))
  obtain ⟨σ', r1, r2, r3⟩ := line_c (kd := 2) (s2 := s + 6 + 5 * nt) h (by decide) (by rw [lk_of t3 t4, if_neg kw_pk.2.2.2.1, if_neg kw_pk.2.2.2.2, if_pos rfl]) (Or.inr (Or.inr rfl)) (by rw [e1]; exact g1) (by rw [gT_nm, e1, show nmW w T.length (s + 4) = nmV 5 from g2]; exact nf) (by rw [gT_256, e1]; exact g2.symm) (fun σ1 h1 z2 z3 => by
    rw [e1, e2] at h1
    have p0 : p 0 = s + 7 := pi 0 (by omega)
    rw [← p0] at h1
    obtain ⟨σ2, b1, b2', b3, b4⟩ := termsA_c (nt := nt) (p := p) (g := ghg xs L) (o := fun i => (ghO xs L i : Int)) hN (fun i hi => ⟨by omega, by have := ghO_rng xs L i; show (ghO xs L i : Int) < ((5 : Nat) : Int); omega⟩) (fun i hi => by
      rw [pi i hi, (tm i hi).1]
      unfold ghg
      by_cases z : someV xs L (36 + i) 2 = 0
      · rw [if_pos z, if_pos z]; exact Or.inl ⟨rfl, rfl⟩
      · rw [if_neg z, if_neg z]; exact Or.inr ⟨rfl, rfl⟩) (fun i hi => by rw [pi i hi, (tm i hi).2.1]; exact (tm i hi).2.2.1) (fun i hi => by
      rw [gT_nm, pi i hi, (tm i hi).2.1, (tm i hi).2.2.2.1]
      exact nm_old ⟨ghO xs L i, ghO_rng xs L i⟩) hstep (by rw [pn]; exact c2) h1 z2 z3
    rw [pn] at b3
    obtain ⟨y1, y2, y3, y4⟩ := b4
    refine ⟨σ2, by rw [if_neg (by decide), if_neg (by decide)]; exact b1, b2', b3, y3, fun q1 q2 => ?_⟩
    have eF : ghF xs L 5 = (nt : Int) := by rw [hnt]; rfl
    unfold al2
    rw [gT_257, gT_258, gT_259, y1, y2, y3.1, q1, eF]
    refine ⟨rfl, rfl, rfl, q2, Or.inr (Or.inr ⟨rfl, rfl, by omega, by omega, fun i hi => ?_⟩)⟩
    have hi' : i < nt := by omega
    obtain ⟨w1, w2⟩ := y4 i hi'
    have ho := ghO_rng xs L i
    have eP : gT xs L 261 (4 * (8 + 5) + i) = (ghO xs L i : Int) := by
      show ghP xs L (4 * (8 + 5) + i - 32) = _
      have hr := someV_rng (xs := xs) (L := L) (k := 31 + i) (n := 5) (by decide)
      unfold ghP ghO
      rw [show 4 * (8 + 5) + i - 32 - 20 = i by omega]
      omega
    have eG : gT xs L 260 (4 * (8 + 5) + i) = ghg xs L i := by
      show ghG xs L (4 * (8 + 5) + i - 32) = _
      unfold ghG ghg
      rw [show 4 * (8 + 5) + i - 32 - 20 = i by omega]
    rw [eP, eG]
    refine ⟨w1, w2, ?_, by omega, by omega⟩
    unfold ghg
    split
    · exact Or.inl rfl
    · exact Or.inr rfl) c2
  rw [nE] at r3
  exact ⟨σ', _, r1, r2, r3, end_t hnil⟩

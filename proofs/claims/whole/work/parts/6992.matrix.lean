/-! solution, matrix -/
theorem scr145 {k : Nat} (hk : k < 5) : scr 145 k := by
  refine ⟨?_, Or.inl (by unfold sObj; omega)⟩
  rcases (show k = 0 ∨ k = 1 ∨ k = 2 ∨ k = 3 ∨ k = 4 by omega) with rfl | rfl | rfl | rfl | rfl <;> decide +kernel
theorem frm_spS {σ : mSt} {a b x y z : Int} : frm scr σ (spS σ a b x y z) :=
  frm.put (frm.put (frm.put (frm.put (frm.one (scr145 (by omega))) (scr145 (by omega))) (scr145 (by omega))) (scr145 (by omega))) (scr145 (by omega))
theorem frm_268 {W : Nat → Nat → Prop} {σ τ : mSt} {x y z : Int} (h : frm W σ τ) (hW : ∀ j, W 268 j) : frm W σ (s268 τ x y z) := frm.put (frm.put (frm.put h (hW 0)) (hW 1)) (hW 2)
theorem lx_congr {σ τ : mSt} (o : ∀ i, (101 ≤ i ∧ i ≤ 111) ∨ (257 ≤ i ∧ i ≤ 261) → τ i = σ i) (k : Nat) : lx τ k = lx σ k := by
  funext i
  unfold lx
  rw [loc_congr (fun i h1 h2 => o i (by omega)), o 102 (by omega)]
theorem isSplit_c {σ : mSt} {B n s k : Nat} (hL : Lay σ) (hB : iBook σ B n) (hP : iPlaces σ n s) (hk : k < n) (hq : σ 257 k = 0) : (∃ t, 6 / gdF (lx σ k) s 0 6 = 1 ∧ soZ (σ 258 k) (σ 259 k) 8 0 = some t ∧ mX11_isSplit 0 (k : Int) σ = some (1, spS σ (σ 258 k) (σ 259 k) t.1 t.2.1 t.2.2)) ∨ (¬ (6 / gdF (lx σ k) s 0 6 = 1 ∧ soZ (σ 258 k) (σ 259 k) 8 0 ≠ none) ∧ ∃ s', mX11_isSplit 0 (k : Int) σ = some (0, s') ∧ frm scr σ s' ∧ ∀ i, i ≠ 145 → s' i = σ i) := by
  obtain ⟨⟨ab1, ab2⟩, ⟨-, ra1, ra2, -⟩, -, rb1, rb2, -⟩ := quatF hB hk hq
  obtain ⟨q1, hn, q3, q4, q5, q6, q7⟩ := hB
  have gi := gdF_in (lx σ k) (lx_in σ k) s 0 6 (by decide)
  have g6 : 0 ≤ 6 / gdF (lx σ k) s 0 6 ∧ 6 / gdF (lx σ k) s 0 6 ≤ 6 := by simp at gi; rcases gi with h | h | h | h <;> rw [h] <;> decide
  unfold mX11_isSplit mX11_isSplit_B44
  rw [gc0, gr' (lay0 hL).2.2.1 (by omega), indexOf_c hL hP hn hk, mCall_some, wI_id (by omega)]
  by_cases h1 : 6 / gdF (lx σ k) s 0 6 = 1
  · rw [if_pos h1, gr' (lay0 hL).2.2.2.2.2.2.1 (by omega), gr' q3 (by omega), first_c hL q1 (by omega), mCall_some, gr' q3 (by omega), second_c hL q1 (by omega), mCall_some, ab1, ab2, wI_id (by omega), wI_id (by omega)]
    rcases solve_c (σ := σ) ⟨ra1, ra2⟩ ⟨rb1, rb2⟩ with ⟨t, e1, e2⟩ | ⟨e1, x', y', z', e2⟩
    · refine Or.inl ⟨t, h1, e1, ?_⟩
      rw [e2, mCall_some, if_neg (by decide)]
    · refine Or.inr ⟨fun z => z.2 e1, spS σ (σ 258 k) (σ 259 k) x' y' z', ?_, frm_spS, fun i hi => funext fun j => spS_ne _ _ _ _ _ _ _ _ hi⟩
      rw [e2, mCall_some, if_pos (by decide)]
  · rw [if_neg h1]
    exact Or.inr ⟨fun z => h1 z.1, σ, rfl, frm.rf σ, fun _ _ => rfl⟩
theorem pr_solution (σ : mSt) (h : Inv σ) (a1 : Int) (h1 : i32 a1) (a2 : Int) (h2 : i32 a2) : ∃ b s b2 s2, mX11_solution 0 a1 a2 σ = some (b, s) ∧ mX12_solution 253 a1 a2 s = some (b2, s2) ∧ wI b = wI b2 ∧ Inv s2 := by
  have hI := h
  obtain ⟨hL, hb, t, B, n, s0, hT, hB, hP, hE, hO⟩ := h
  have hn := hB.2.1
  have ht := hI.scr (scr_t (σ := σ) (v := 0))
  have h2' := h2
  unfold i32 at h2'
  by_cases hv : (0 ≤ a1 ∧ a1 < (n : Int) ∧ σ 257 a1.toNat = 0) ∧ 0 ≤ a2 ∧ a2 ≤ 2
  · obtain ⟨hv, v1, v2⟩ := hv
    obtain ⟨k, rfl, hk, hq⟩ := quat_nat hv
    obtain ⟨⟨ab1, ab2⟩, ⟨-, ra1, ra2, -⟩, -, rb1, rb2, -⟩ := quatF hB hk hq
    have gi := gdF_in (lx σ k) (lx_in σ k) s0 0 6 (by decide)
    have g6 : 0 ≤ 6 / gdF (lx σ k) s0 0 6 ∧ 6 / gdF (lx σ k) s0 0 6 ≤ 6 := by simp at gi; rcases gi with h | h | h | h <;> rw [h] <;> decide
    have R : ∀ s, frm scr σ s → (∀ i, i ≠ 145 → s i = σ i) → Lay (upS s 253 0 0) ∧ mX12_isQuaternion 253 (k : Int) (upS s 253 0 0) = some (1, upS s 253 0 0) ∧ mX12_indexOf 253 (k : Int) (upS s 253 0 0) = some (6 / gdF (lx σ k) s0 0 6, upS s 253 0 0) ∧ mX12_solves 253 (k : Int) (upS s 253 0 0) = (soZ (σ 258 k) (σ 259 k) 8 0).elim (some (0, upS s 253 0 0)) (fun t => some (1, s268 (upS s 253 0 0) t.1 t.2.1 t.2.2)) := by
      intro s hs os
      have o : ∀ i, i ≠ 145 → i ≠ 253 → upS s 253 0 0 i = σ i := fun i p1 p2 => by rw [upS_row p2, os i p1]
      have hLt := (hI.scr (hs.tr (scr_t (v := 0)) (fun i j z => z))).1
      have hBt : iBook (upS s 253 0 0) B n := iBook_congr hB (by rw [o 0 (by omega) (by omega)]) (by rw [o 0 (by omega) (by omega)]) (fun i hi => o i (by omega) (by omega))
      have hPt : iPlaces (upS s 253 0 0) n s0 := iPlaces_congr hP hn (fun i hi => o i (by omega) (by omega))
      have e8 := o 258 (by omega) (by omega)
      have e9 := o 259 (by omega) (by omega)
      refine ⟨hLt, quatr_t hLt hBt hk (by rw [o 257 (by omega) (by omega)]; exact hq), ?_, ?_⟩
      · rw [indexOf_r hLt hBt hPt hk, lx_congr (fun i hi => o i (by omega) (by omega))]
      · have := solves_r (τ := upS s 253 0 0) (k := k) hLt (by omega) (by rw [e8]; exact ⟨ra1, ra2⟩) (by rw [e9]; exact ⟨rb1, rb2⟩)
        rw [e8, e9] at this
        exact this
    rcases isSplit_c hL hB hP hk hq with ⟨u, e1, e2, e3⟩ | ⟨e1, s', e2, e3, e4⟩
    · obtain ⟨hLt, r1, r2, r3⟩ := R _ frm_spS (fun i hi => funext fun j => spS_ne σ (σ 258 k) (σ 259 k) u.1 u.2.1 u.2.2 i j hi)
      obtain ⟨p0, p1, p2, p3, p4⟩ := spS_at σ (σ 258 k) (σ 259 k) u.1 u.2.1 u.2.2
      rw [e2] at r3
      refine ⟨(if a2 = 0 then u.1 else if a2 = 1 then u.2.1 else u.2.2), spS σ (σ 258 k) (σ 259 k) u.1 u.2.1 u.2.2, (if a2 = 0 then u.1 else if a2 = 1 then u.2.1 else u.2.2), s268 (upS (spS σ (σ 258 k) (σ 259 k) u.1 u.2.1 u.2.2) 253 0 0) u.1 u.2.1 u.2.2, ?_, ?_, rfl, hI.scr (frm_268 (frm_spS.tr (scr_t (v := 0)) (fun i j z => z)) (fun j => scrD _ _ (by omega)))⟩
      · unfold mX11_solution
        rw [gc0, quat_t hL hB hk hq, mCall_some, if_neg (by decide), wI_id h2, if_neg (by omega), if_pos v2, e3, mCall_some, if_neg (by decide), gr' (r := 145) (by rw [spS_ne _ _ _ _ _ _ _ _ (by omega)]; exact (lay0 hL).2.2.2.2.2.2.1) (by omega)]
        unfold mX9_part
        rw [gc145, wI_id h2, p2, p3, p4]
        by_cases c0 : a2 = 0
        · rw [if_pos c0, if_pos c0, mCall_some]
        · rw [if_neg c0, if_neg c0]
          by_cases c1 : a2 = 1
          · rw [if_pos c1, if_pos c1, mCall_some]
          · rw [if_neg c1, if_neg c1, mCall_some]
      · unfold mX12_solution
        rw [gc253, bnd_eq, r1, mCall_some, if_neg (by decide), within_e _ 0 2 _ (by have := wI_rng a2; omega) (by omega) (by omega), mCall_some, b2_t (by rw [wI_id h2]; exact ⟨v1, v2⟩), if_neg (by decide), r2, mCall_some, wI_id (by omega), if_pos e1, r3]
        show (mCall (some ((1 : Int), s268 (upS (spS σ (σ 258 k) (σ 259 k) u.1 u.2.1 u.2.2) 253 0 0) u.1 u.2.1 u.2.2)) _) = _
        rw [mCall_some, if_neg (by decide)]
        have l28 : s268 (upS (spS σ (σ 258 k) (σ 259 k) u.1 u.2.1 u.2.2) 253 0 0) u.1 u.2.1 u.2.2 253 28 = ((268 : Nat) : Int) := by
          unfold s268
          rw [upS_ne (by omega), upS_ne (by omega), upS_ne (by omega)]
          exact (lay253 hLt).2.2.2.2.2.2.2.2.2.2.2.2.2.2.1
        rw [gr' l28 (by omega), gx268 _ (by omega), wI_id h2]
        rcases (show a2 = 0 ∨ a2 = 1 ∨ a2 = 2 by omega) with rfl | rfl | rfl <;> simp [s268, upS]
    · obtain ⟨hLt, r1, r2, r3⟩ := R s' e3 e4
      have fin : mX12_solution 253 (k : Int) a2 s' = some (-2, upS s' 253 0 0) := by
        unfold mX12_solution mX12_solution_B53
        rw [gc253, bnd_eq, r1, mCall_some, if_neg (by decide), within_e _ 0 2 _ (by have := wI_rng a2; omega) (by omega) (by omega), mCall_some, b2_t (by rw [wI_id h2]; exact ⟨v1, v2⟩), if_neg (by decide), r2, mCall_some, wI_id (by omega)]
        by_cases c1 : 6 / gdF (lx σ k) s0 0 6 = 1
        · have c2 : soZ (σ 258 k) (σ 259 k) 8 0 = none := Classical.byContradiction (fun z => e1 ⟨c1, z⟩)
          rw [c2] at r3
          rw [if_pos c1, r3]
          show (mCall (some ((0 : Int), upS s' 253 0 0)) _) = _
          rw [mCall_some, if_pos (by decide)]
        · rw [if_neg c1]
      refine ⟨-2, s', -2, upS s' 253 0 0, ?_, fin, rfl, hI.scr (e3.tr (scr_t (v := 0)) (fun i j z => z))⟩
      unfold mX11_solution
      rw [gc0, quat_t hL hB hk hq, mCall_some, if_neg (by decide), wI_id h2, if_neg (by omega), if_pos v2, e2, mCall_some, if_pos (by decide)]
  · refine ⟨-1, σ, -1, upS σ 253 0 0, ?_, ?_, rfl, ht⟩
    · unfold mX11_solution
      refine mR_eq (mR_G (by decide) (mR_callE (quat_c hL hB h1) (mR_if (fun z => mR_ret ⟨rfl, rfl⟩) (fun z => ?_))))
      have := b2p z
      rw [wI_id h2]
      exact mR_if (fun z => mR_ret ⟨rfl, rfl⟩) (fun z => mR_neg (fun z2 => hv ⟨this, by omega, z2⟩) (mR_ret ⟨rfl, rfl⟩))
    · unfold mX12_solution
      refine mR_eq (mR_G (by decide) (mR_bnd (mR_callE (quat_r ht.1 (book_up hB) h1) (mR_if (fun z => mR_ret ⟨rfl, rfl⟩) (fun z => ?_)))))
      have := b2p z
      rw [upS_row (by omega)] at this
      exact mR_callE (within_e _ 0 2 _ (by have := wI_rng a2; omega) (by omega) (by omega)) (mR_pos (by rw [wI_b2]; exact b2_f (fun z2 => hv ⟨this, by rw [wI_id h2] at z2; exact z2⟩)) (mR_ret ⟨rfl, rfl⟩))
/-! matrix -/
def entZ (a b x y z : Int) (n : V4) (r c : Int) : Int :=
  if z = 0 then (if r = c then (if r = 0 then n.1 + n.2.1 else n.1 - n.2.1) else if r = 0 then b * (n.2.2.1 + n.2.2.2) else n.2.2.1 - n.2.2.2)
  else if r = c then (if r = 0 then n.1 * z + (n.2.2.1 * x + n.2.2.2 * a * y) else n.1 * z - (n.2.2.1 * x + n.2.2.2 * a * y)) else if r = 0 then a * (n.2.1 * z - (n.2.2.1 * y + n.2.2.2 * x)) else n.2.1 * z + (n.2.2.1 * y + n.2.2.2 * x)
theorem entry_c {σ : mSt} {a b x y z : Int} {num : Nat} {r c : Int} (hn : shp num = (21, 4)) (hne : num ≠ 145) (hr : r = 0 ∨ r = 1) (hc : c = 0 ∨ c = 1) (hz : 0 ≤ z ∧ z ≤ 8) : mX9_entry 145 num r c (spS σ a b x y z) = some (entZ a b x y z (rowV σ num) r c, spS σ a b x y z) := by
  obtain ⟨p0, p1, p2, p3, p4⟩ := spS_at σ a b x y z
  have q : ∀ i, i < 4 → spS σ a b x y z num i = vg i (rowV σ num) := fun i hi => by rw [spS_ne _ _ _ _ _ _ _ _ hne, vg_rowV _ _ hi]
  have q0 := q 0 (by omega)
  have q1 := q 1 (by omega)
  have q2 := q 2 (by omega)
  have q3 := q 3 (by omega)
  unfold mX9_entry mX9_plainEntry entZ
  rw [gc145, p4, wL_id (by omega)]
  by_cases hz0 : z = 0
  · rw [if_pos hz0, if_pos hz0, gc145]
    rcases hr with rfl | rfl <;> rcases hc with rfl | rfl <;> simp (disch := omega) only [gr, bnd_eq, up_ne, upS_same, stV_ne, mCall_some, wI_id, wL_id, cLtF, cLtT, cLeF, cLeT, cEqF, cEqT, ↓reduceIte, Int.toNat_natCast, Int.reduceToNat, gx hn, q0, q1, q2, q3, p1] <;> rfl
  · rw [if_neg hz0, if_neg hz0]
    rcases hr with rfl | rfl <;> rcases hc with rfl | rfl <;> simp (disch := omega) only [gr, bnd_eq, up_ne, upS_same, stV_ne, mCall_some, wI_id, wL_id, cLtF, cLtT, cLeF, cLeT, cEqF, cEqT, ↓reduceIte, Int.toNat_natCast, Int.reduceToNat, gx hn, q0, q1, q2, q3, p0, p1, p2, p3, p4] <;> rfl
theorem entry_r {τ : mSt} {k al : Nat} {a b x y z r c : Int} (hL : Lay τ) (hk : k < 8) (hal8 : al < 8) (hal : τ 262 k = (al : Int)) (ha : τ 258 al = a) (hb : τ 259 al = b) (ra : -60 ≤ a ∧ a ≤ 60) (rb : -60 ≤ b ∧ b ≤ 60) (h0 : τ 268 0 = x) (h1 : τ 268 1 = y) (h2 : τ 268 2 = z) (hx : 0 ≤ x ∧ x ≤ 10000) (hy : 0 ≤ y ∧ y ≤ 8) (hz : 0 ≤ z ∧ z ≤ 8) (hr : r = 0 ∨ r = 1) (hc : c = 0 ∨ c = 1) : mX12_entry 253 (k : Int) r c τ = some (entZ a b x y z (elV τ k) r c, τ) := by
  have l := lay253 hL
  have pe := fun (i : Int) (hi : 0 ≤ i ∧ i < 5) => part_e (τ := τ) (k := k) (i := i) l.2.2.2.2.2.2.2.2.2.1 ⟨hk, hi⟩
  have p0 := pe 0 (by omega)
  have p1 := pe 1 (by omega)
  have p2 := pe 2 (by omega)
  have p3 := pe 3 (by omega)
  unfold mX12_entry mX12_entry_B178 entZ elV
  rw [gc253, gr' l.2.2.2.2.1 (by omega), gr' l.2.2.2.2.2.2.2.2.1 (by omega), gx262 _ (by omega), wI_nat (by omega), hal, gx258 _ (by omega), wI_nat (by omega), ha, bnd_eq, gr' l.2.2.2.2.2.1 (by omega), gr' l.2.2.2.2.2.2.2.2.1 (by omega), gx262 _ (by omega), hal, gx259 _ (by omega), wI_nat (by omega), hb, bnd_eq, gr' l.2.2.2.2.2.2.2.2.2.2.2.2.2.2.1 (by omega), gx268 _ (by omega), bnd_eq, gr' l.2.2.2.2.2.2.2.2.2.2.2.2.2.2.1 (by omega), gx268 _ (by omega), bnd_eq, gr' l.2.2.2.2.2.2.2.2.2.2.2.2.2.2.1 (by omega), gx268 _ (by omega), bnd_eq, h0, h1, h2, wI_id (x := a) (by omega), wI_id (x := b) (by omega), wI_id (x := x) (by omega), wI_id (x := y) (by omega), wI_id (x := z) (by omega), wL_id (x := z) (by omega)]
  by_cases hz0 : z = 0
  · rw [if_pos hz0, if_pos hz0]
    rcases hr with rfl | rfl <;> rcases hc with rfl | rfl <;> simp (disch := omega) only [gr, bnd_eq, up_ne, upS_same, stV_ne, mCall_some, wI_id, wL_id, cLtF, cLtT, cLeF, cLeT, cEqF, cEqT, ↓reduceIte, Int.toNat_natCast, Int.reduceToNat, p0, p1, p2, p3] <;> rfl
  · rw [if_neg hz0, if_neg hz0]
    rcases hr with rfl | rfl <;> rcases hc with rfl | rfl <;> simp (disch := omega) only [gr, bnd_eq, up_ne, upS_same, stV_ne, mCall_some, wI_id, wL_id, cLtF, cLtT, cLeF, cLeT, cEqF, cEqT, ↓reduceIte, Int.toNat_natCast, Int.reduceToNat, p0, p1, p2, p3] <;> simp <;> grind

theorem entZ_rng {a b x y z r c : Int} {n : V4} (ra : -60 ≤ a ∧ a ≤ 60) (rb : -60 ≤ b ∧ b ≤ 60) (hx : 0 ≤ x ∧ x ≤ 10000) (hy : 0 ≤ y ∧ y ≤ 8) (hz : 0 ≤ z ∧ z ≤ 8) (hn : ∀ i, i < 4 → -1000000 ≤ vg i n ∧ vg i n ≤ 1000000) : -10000000000000 ≤ entZ a b x y z n r c ∧ entZ a b x y z n r c ≤ 10000000000000 := by
  have n0 := hn 0 (by omega)
  have n1 := hn 1 (by omega)
  have n2 := hn 2 (by omega)
  have n3 := hn 3 (by omega)
  simp only [vg] at n0 n1 n2 n3
  have m := fun (u v : Int) (hu : -1000000 ≤ u ∧ u ≤ 1000000) (hv : -10000 ≤ v ∧ v ≤ 10000) => mul_rng (x := u) (y := v) (A := 1000000) (B := 10000) hu hv (by omega)
  have a1 := m n.1 z n0 (by omega)
  have a2 := m n.2.2.1 x n2 (by omega)
  have a3 := m n.2.2.2 a n3 (by omega)
  have a3b := mul_rng (x := n.2.2.2) (y := a) (A := 1000000) (B := 60) n3 ra (by omega)
  have a4 := mul_rng (x := n.2.2.2 * a) (y := y) (A := 1000000 * 60) (B := 8) a3b (by omega) (by omega)
  have a5 := m n.2.1 z n1 (by omega)
  have a6 := m n.2.2.1 y n2 (by omega)
  have a7 := m n.2.2.2 x n3 (by omega)
  have a8 := mul_rng (x := b) (y := n.2.2.1 + n.2.2.2) (A := 60) (B := 2000000) rb (by omega) (by omega)
  have a9 := mul_rng (x := a) (y := n.2.1 * z - (n.2.2.1 * y + n.2.2.2 * x)) (A := 60) (B := 30000000000) ra (by omega) (by omega)
  unfold entZ
  split
  · split
    · split <;> omega
    · split <;> omega
  · split
    · split <;> omega
    · split <;> omega
theorem pr_matrix (σ : mSt) (h : Inv σ) (a1 : Int) (h1 : i32 a1) (a2 : Int) (h2 : i32 a2) (a3 : Int) (h3 : i32 a3) (a4 : Int) (h4 : i32 a4) : ∃ b s, mX11_matrix 0 a1 a2 a3 a4 σ = some (b, s) ∧ Inv s ∧ ((b = mThrow ∧ ∃ b2 s2, mX12_matrix 253 a1 a2 a3 a4 s = some (b2, s2) ∧ s2 253 0 = 1 ∧ Inv s2) ∨ (b ≠ mThrow ∧ ∀ s1, Inv s1 → frm (fun i _ => i = 275) s s1 → ∃ b2 s2, mX12_matrix 253 a1 a2 a3 a4 s1 = some (b2, s2) ∧ s2 253 0 = 0 ∧ s2 275 0 = s1 275 0 ∧ wL b = wL b2 ∧ Inv s2)) := by
  have hI := h
  obtain ⟨hL, hb, t, B, n, s0, hT, hB, hP, hE, hO⟩ := h
  have hn := hB.2.1
  have e84 : ∀ τ, mX12_matrix_B83 253 a1 a2 a3 a4 253 τ = some (0, upS τ 253 0 1) := fun τ => by
    unfold mX12_matrix_B83 mX12_matrix_B84
    exact mR_eq (mR_G (by decide) (mR_bnd (mR_pos (by rw [upS_same]; decide) (mR_ret ⟨rfl, rfl⟩))))
  have e43 : ∀ τ, mX12_matrix_B43 253 a1 a2 a3 a4 τ = some (0, upS τ 253 0 1) := fun τ => by
    unfold mX12_matrix_B43 mX12_matrix_B44
    rw [if_pos (by decide), e84]
  by_cases hv : kp σ a1 ∧ (0 ≤ a2 ∧ a2 ≤ 1) ∧ (0 ≤ a3 ∧ a3 ≤ 1) ∧ 0 ≤ a4 ∧ a4 ≤ 1
  · obtain ⟨hk0, w2, w3, w4⟩ := hv
    obtain ⟨k, rfl, hk, hkk⟩ := kp_nat hk0
    obtain ⟨al, f1, f2, f3, f4, f5, f6, r0, r1, r2, r3, r4, r5⟩ := elF hL hE hn hk hkk
    have rr := elR r0 r1 r2 r3
    obtain ⟨⟨ab1, ab2⟩, ⟨-, ra1, ra2, -⟩, -, rb1, rb2, -⟩ := quatF hB f1 f2
    have al8 : al < 8 := by omega
    have gi := gdF_in (lx σ al) (lx_in σ al) s0 0 6 (by decide)
    have g6 : 0 ≤ 6 / gdF (lx σ al) s0 0 6 ∧ 6 / gdF (lx σ al) s0 0 6 ≤ 6 := by simp at gi; rcases gi with h | h | h | h <;> rw [h] <;> decide
    have R : ∀ s1, Lay s1 → (∀ i, i ≠ 145 → i ≠ 275 → s1 i = σ i) → iBook s1 B n ∧ mX12_isKept 253 (k : Int) s1 = some (1, s1) ∧ mX12_indexOf 253 (al : Int) s1 = some (6 / gdF (lx σ al) s0 0 6, s1) ∧ mX12_solves 253 (al : Int) s1 = (soZ (σ 258 al) (σ 259 al) 8 0).elim (some (0, s1)) (fun t => some (1, s268 s1 t.1 t.2.1 t.2.2)) := by
      intro s1 hLt o
      have hBt : iBook s1 B n := iBook_congr hB (by rw [o 0 (by omega) (by omega)]) (by rw [o 0 (by omega) (by omega)]) (fun i hi => o i (by omega) (by omega))
      have hPt : iPlaces s1 n s0 := iPlaces_congr hP hn (fun i hi => o i (by omega) (by omega))
      have e8 := o 258 (by omega) (by omega)
      have e9 := o 259 (by omega) (by omega)
      refine ⟨hBt, kept_rt (σ := σ) (by rw [o 253 (by omega) (by omega)]; exact hE.1) hk hkk, ?_, ?_⟩
      · rw [indexOf_r hLt hBt hPt f1, lx_congr (fun i hi => o i (by omega) (by omega))]
      · have := solves_r (τ := s1) (k := al) hLt al8 (by rw [e8]; exact ⟨ra1, ra2⟩) (by rw [e9]; exact ⟨rb1, rb2⟩)
        rw [e8, e9] at this
        exact this
    have G : ∀ s1, mX12_isKept 253 (k : Int) s1 = some (1, s1) → mX12_matrix 253 (k : Int) a2 a3 a4 s1 = mX12_matrix_B44 253 (k : Int) a2 a3 a4 1 s1 := by
      intro s1 hk1
      unfold mX12_matrix
      rw [gc253, hk1, mCall_some, if_neg (by decide), within_e _ 0 1 _ (by have := wI_rng a2; omega) (by omega) (by omega), mCall_some, b2_t (by rw [wI_id h2]; exact w2), if_neg (by decide), within_e _ 0 1 _ (by have := wI_rng a3; omega) (by omega) (by omega), mCall_some, b2_t (by rw [wI_id h3]; exact w3), if_neg (by decide), within_e _ 0 1 _ (by have := wI_rng a4; omega) (by omega) (by omega), mCall_some, b2_t (by rw [wI_id h4]; exact w4), if_neg (by decide)]
    have C : ∀ b s, mX11_isSplit 0 (al : Int) σ = some (b, s) → mX11_matrix 0 (k : Int) a2 a3 a4 σ = (if wI b = 0 then mX11_matrix_B65 0 (k : Int) a2 a3 a4 s else mRef (s 0 9) fun r21 => mRef (s (165 + 2 * k) 0) fun r23 => mCall (mX9_entry r21 r23 a2 a3 s) fun b25 s26 => mRef (s26 0 9) fun r28 => mCall (mX9_below r28 s26) fun b30 s31 => mCall (mX5_lowest b25 ((s26 (165 + 2 * k) 1) * b30) a4 s31) fun b33 s34 => some (wL b33, s34)) := by
      intro b s e
      unfold mX11_matrix
      rw [gc0, kept_t hL (hE.own hn) hk hkk, mCall_some, if_neg (by decide), if_neg (by rw [wI_id h2]; omega), if_neg (by rw [wI_id h2]; omega), if_neg (by rw [wI_id h3]; omega), if_pos (by rw [wI_id h3]; omega), gr' (lay0 hL).2.2.2.1 (by omega), gx112 _ (by omega), wI_nat (by omega), gr' f3.1 (by omega), if_neg (by rw [wI_id h4]; omega), if_neg (by rw [wI_id h4]; omega), gc f4, f3.2.2.1, e, mCall_some]
    rcases isSplit_c hL hB hP f1 f2 with ⟨u, e1, e2, e3⟩ | ⟨e1, s', e2, e3, e4⟩
    · obtain ⟨ux, uy, uz⟩ := soZ_rng ⟨ra1, ra2⟩ ⟨rb1, rb2⟩ 8 0 u (by omega) (by omega) e2
      obtain ⟨p0, p1, p2, p3, p4⟩ := spS_at σ (σ 258 al) (σ 259 al) u.1 u.2.1 u.2.2
      obtain ⟨s, hs⟩ : ∃ z, z = spS σ (σ 258 al) (σ 259 al) u.1 u.2.1 u.2.2 := ⟨_, rfl⟩
      obtain ⟨W, hW⟩ : ∃ W, W = entZ (σ 258 al) (σ 259 al) u.1 u.2.1 u.2.2 (elV σ k) a2 a3 := ⟨_, rfl⟩
      have Wr := entZ_rng (r := a2) (c := a3) ⟨ra1, ra2⟩ ⟨rb1, rb2⟩ ux uy uz rr
      rw [← hW] at Wr
      obtain ⟨D, hD⟩ : ∃ D, D = σ 263 (5 * k + 4) * (if u.2.2 = 0 then 1 else u.2.2) := ⟨_, rfl⟩
      have z1 : 1 ≤ (if u.2.2 = 0 then 1 else u.2.2) ∧ (if u.2.2 = 0 then 1 else u.2.2) ≤ 8 := by split <;> omega
      have Dr : 1 * 1 ≤ D ∧ D ≤ 1000000 * 8 := by
        rw [hD]
        exact ⟨Int.mul_le_mul r4 z1.1 (by omega) (by omega), Int.mul_le_mul r5 z1.2 (by omega) (by omega)⟩
      have os : ∀ i, i ≠ 145 → s i = σ i := fun i hi => funext fun j => by rw [hs]; exact spS_ne _ _ _ _ _ _ _ _ hi
      have c : mX11_matrix 0 (k : Int) a2 a3 a4 σ = some (wL ((if wI a4 = 0 then W else D) / (Int.gcd W D : Int)), s) := by
        have en := entry_c (σ := σ) (a := σ 258 al) (b := σ 259 al) (x := u.1) (y := u.2.1) (z := u.2.2) (num := 166 + 2 * k) (r := a2) (c := a3) f5 (by omega) (by omega) (by omega) uz
        rw [f6, ← hW, ← hs] at en
        rw [C 1 s (by rw [e3, hs]), if_neg (by decide), gr' (r := 145) (by rw [os 0 (by omega)]; exact (lay0 hL).2.2.2.2.2.2.1) (by omega), gr' (r := 166 + 2 * k) (by rw [os _ (by omega)]; exact f3.2.1) (by omega), en, mCall_some, gr' (r := 145) (by rw [os 0 (by omega)]; exact (lay0 hL).2.2.2.2.2.2.1) (by omega)]
        have be : mX9_below 145 s = some ((if u.2.2 = 0 then 1 else u.2.2), s) := by
          unfold mX9_below
          rw [gc145, show s 145 4 = u.2.2 by rw [hs]; exact p4, wL_id (by omega)]
          by_cases hz : u.2.2 = 0
          · rw [if_pos hz, if_pos hz]
          · rw [if_neg hz, if_neg hz]
        rw [be, mCall_some, os (165 + 2 * k) (by omega), f3.2.2.2.2, ← hD, lowest_e (by omega) (by omega), mCall_some]
      have fs : frm scr σ s := by rw [hs]; exact frm_spS
      refine ⟨_, _, c, hI.scr fs, Or.inr ⟨mThrow_neL _, fun s1 hs1 hf => ?_⟩⟩
      have o : ∀ i, i ≠ 145 → i ≠ 275 → s1 i = σ i := fun i q1 q2 => by rw [f275 hf i q2, os i q1]
      obtain ⟨hBt, rk, ri, rs⟩ := R s1 hs1.1 o
      rw [e2] at rs
      have o1 : ∀ i, i ≠ 145 → i ≠ 275 → i ≠ 253 → i ≠ 268 → upS (s268 s1 u.1 u.2.1 u.2.2) 253 0 0 i = σ i := fun i q1 q2 q3 q4 => by
        unfold s268
        rw [upS_row q3, upS_row q4, upS_row q4, upS_row q4, o i q1 q2]
      have f1' : frm scr s1 (upS (s268 s1 u.1 u.2.1 u.2.2) 253 0 0) := (frm_268 (frm.rf s1) (fun j => scrD _ _ (by omega))).tr (scr_t (v := 0)) (fun i j z => z)
      have hLt := hs1.1.frm f1' (fun i j z => z.1)
      have l := lay253 hLt
      have ev : elV (upS (s268 s1 u.1 u.2.1 u.2.2) 253 0 0) k = elV σ k := by unfold elV; rw [o1 263 (by omega) (by omega) (by omega) (by omega)]
      refine ⟨((if wI a4 = 0 then W else D) / (Int.gcd W D : Int)), upS (s268 s1 u.1 u.2.1 u.2.2) 253 0 0, ?_, upS_same _ _ _ _, by unfold s268; rw [upS_ne (by omega), upS_ne (by omega), upS_ne (by omega), upS_ne (by omega)], wL_wL _, hs1.scr f1'⟩
      have en := entry_r (τ := upS (s268 s1 u.1 u.2.1 u.2.2) 253 0 0) (k := k) (al := al) (a := σ 258 al) (b := σ 259 al) (x := u.1) (y := u.2.1) (z := u.2.2) (r := a2) (c := a3) hLt hk al8 (by rw [o1 262 (by omega) (by omega) (by omega) (by omega)]; exact f3.2.2.2.1) (by rw [o1 258 (by omega) (by omega) (by omega) (by omega)]) (by rw [o1 259 (by omega) (by omega) (by omega) (by omega)]) ⟨ra1, ra2⟩ ⟨rb1, rb2⟩ (by unfold s268; simp [upS]) (by unfold s268; simp [upS]) (by unfold s268; simp [upS]) ux uy uz (by omega) (by omega)
      rw [ev, ← hW] at en
      have pe := part_e (τ := upS (s268 s1 u.1 u.2.1 u.2.2) 253 0 0) (k := k) (i := 4) l.2.2.2.2.2.2.2.2.2.1 ⟨hk, by omega, by omega⟩
      rw [o1 263 (by omega) (by omega) (by omega) (by omega), show 5 * k + (4 : Int).toNat = 5 * k + 4 from rfl] at pe
      have s2 : upS (s268 s1 u.1 u.2.1 u.2.2) 253 0 0 268 2 = u.2.2 := by unfold s268; simp [upS]
      rw [G s1 rk]
      unfold mX12_matrix_B44
      rw [if_neg (by decide), gr' (lay253 hs1.1).2.2.2.2.2.2.2.2.1 (by omega), gx262 _ (by omega), wI_nat (by omega), o 262 (by omega) (by omega), f3.2.2.2.1, ri, mCall_some, wI_id (by omega), if_pos e1, gr' (lay253 hs1.1).2.2.2.2.2.2.2.2.1 (by omega), gx262 _ (by omega), o 262 (by omega) (by omega), f3.2.2.2.1, rs]
      show (mCall (some ((1 : Int), s268 s1 u.1 u.2.1 u.2.2)) _) = _
      rw [mCall_some, if_neg (by decide)]
      unfold mX12_matrix_B84
      rw [gc253, bnd_eq, upS_same, if_neg (by decide), en, mCall_some, pe, mCall_some, gr' l.2.2.2.2.2.2.2.2.2.2.2.2.2.2.1 (by omega), gx268 _ (by omega), s2, wI_id (x := u.2.2) (by omega)]
      unfold mX12_matrix_B129
      by_cases hz : u.2.2 = 0
      · rw [if_pos hz] at hD ⊢
        rw [wI_id (x := 1) (by omega), ← hD, toldf_e (by omega) (by omega), mCall_some]
      · rw [if_neg hz] at hD ⊢
        rw [gr' l.2.2.2.2.2.2.2.2.2.2.2.2.2.2.1 (by omega), gx268 _ (by omega), s2, wI_id (x := u.2.2) (by omega), ← hD, toldf_e (by omega) (by omega), mCall_some]
    · have c : mX11_matrix 0 (k : Int) a2 a3 a4 σ = some (mThrow, s') := by
        rw [C 0 s' e2, if_pos (by decide)]
        rfl
      have hIs := hI.scr e3
      obtain ⟨hBt, rk, ri, rs⟩ := R s' hIs.1 (fun i q1 q2 => e4 i q1)
      refine ⟨_, _, c, hIs, Or.inl ⟨rfl, 0, upS s' 253 0 1, ?_, upS_same _ _ _ _, hIs.scr scr_t⟩⟩
      rw [G s' rk]
      unfold mX12_matrix_B44
      rw [if_neg (by decide), gr' (lay253 hIs.1).2.2.2.2.2.2.2.2.1 (by omega), gx262 _ (by omega), wI_nat (by omega), e4 262 (by omega), f3.2.2.2.1, ri, mCall_some, wI_id (by omega)]
      by_cases c1 : 6 / gdF (lx σ al) s0 0 6 = 1
      · have c2 : soZ (σ 258 al) (σ 259 al) 8 0 = none := Classical.byContradiction (fun z => e1 ⟨c1, z⟩)
        rw [c2] at rs
        rw [if_pos c1, gr' (lay253 hIs.1).2.2.2.2.2.2.2.2.1 (by omega), gx262 _ (by omega), e4 262 (by omega), f3.2.2.2.1, rs]
        show (mCall (some ((0 : Int), s')) _) = _
        rw [mCall_some, if_pos (by decide), e84]
      · rw [if_neg c1, e84]
  · have c : mX11_matrix 0 a1 a2 a3 a4 σ = some (mThrow, σ) := by
      unfold mX11_matrix mX11_matrix_B26 mX11_matrix_B65
      refine mR_eq (mR_G (by decide) (mR_callE (kept_c hL (hE.own hn) h1) (mR_if (fun z => mR_ret ⟨rfl, rfl⟩) (fun z => mR_if (fun z2 => mR_ret ⟨rfl, rfl⟩) (fun z2 => mR_if (fun z3 => mR_ret ⟨rfl, rfl⟩) (fun z3 => mR_if (fun z4 => mR_ret ⟨rfl, rfl⟩) (fun z4 => mR_if (fun z5 => ?_) (fun z5 => mR_ret ⟨rfl, rfl⟩))))))))
      have w := b2p z
      obtain ⟨l1, l2, l3, l4⟩ := el_lay hL a1.toNat (by omega)
      refine mR_ref (lay0 hL).2.2.2.1 (by omega) (mR_G (ixOK_of (n := 8) (by decide) w.1 (by omega) (by omega)) ?_)
      rw [wI_id h1]
      refine mR_ref l1 (by omega) (mR_if (fun z6 => mR_ret ⟨rfl, rfl⟩) (fun z6 => mR_if (fun z7 => mR_ret ⟨rfl, rfl⟩) (fun z7 => ?_)))
      rw [wI_id h2] at z2 z3
      rw [wI_id h3] at z4 z5
      rw [wI_id h4] at z6 z7
      exact absurd ⟨w, ⟨by omega, by omega⟩, ⟨by omega, by omega⟩, by omega, by omega⟩ hv
    refine ⟨_, _, c, hI, Or.inl ⟨rfl, 0, upS σ 253 0 1, ?_, upS_same _ _ _ _, hI.scr scr_t⟩⟩
    unfold mX12_matrix
    refine mR_eq (mR_G (by decide) (mR_callE (kept_r hE h1) (mR_if (fun z => mR_of (e43 σ) ⟨rfl, rfl⟩) (fun z => ?_))))
    have := b2p z
    refine mR_callE (within_e _ 0 1 _ (by have := wI_rng a2; omega) (by omega) (by omega)) (mR_if (fun z => mR_of (e43 σ) ⟨rfl, rfl⟩) (fun z2 => mR_callE (within_e _ 0 1 _ (by have := wI_rng a3; omega) (by omega) (by omega)) (mR_if (fun z => mR_of (e43 σ) ⟨rfl, rfl⟩) (fun z3 => mR_callE (within_e _ 0 1 _ (by have := wI_rng a4; omega) (by omega) (by omega)) (mR_if (fun z => mR_of (e43 σ) ⟨rfl, rfl⟩) (fun z4 => ?_))))))
    have q2 := b2p z2
    have q3 := b2p z3
    have q4 := b2p z4
    rw [wI_id h2] at q2
    rw [wI_id h3] at q3
    rw [wI_id h4] at q4
    exact absurd ⟨this, q2, q3, q4⟩ hv

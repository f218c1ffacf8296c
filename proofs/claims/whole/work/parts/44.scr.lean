/-! what may be written without harm -/
def sObj (i : Nat) : Prop := i = 2 ∨ i = 3 ∨ (115 ≤ i ∧ i ≤ 164 ∧ i ≠ 139) ∨ (264 ≤ i ∧ i ≤ 268) ∨ (272 ≤ i ∧ i ≤ 275) ∨ (188 ≤ i ∧ i ≤ 252 ∧ (i % 9 = 8 ∨ i % 9 = 0))
def sSlot (i k : Nat) : Prop := (i = 253 ∧ (k = 0 ∨ (3 ≤ k ∧ k ≤ 10) ∨ k = 19 ∨ k = 20 ∨ k = 34 ∨ k = 35)) ∨ (i = 114 ∧ k < 3) ∨ (i = 269 ∧ 128 ≤ k) ∨ (i = 270 ∧ 8 ≤ k) ∨ (i = 271 ∧ 8 ≤ k)
def scr (i k : Nat) : Prop := fixR i k = false ∧ (sObj i ∨ sSlot i k)
theorem frm.obj {σ σ' : mSt} (h : frm scr σ σ') (i : Nat) (hi : ¬ sObj i) (h2 : i ≠ 253 ∧ i ≠ 114 ∧ i ≠ 269 ∧ i ≠ 270 ∧ i ≠ 271) : σ' i = σ i := by
  funext k
  refine h i k (fun z => ?_)
  rcases z.2 with z | z
  · exact hi z
  · unfold sSlot at z; omega
theorem spellF_congr {σ σ' : mSt} {r : Nat} (h : σ' r = σ r) (n : Nat) : spellF σ' r n = spellF σ r n := by
  induction n with
  | zero => rfl
  | succ n ih => show 32 * spellF σ' r n + (σ' r n - 96) = _; rw [ih, h]; rfl
theorem loc_congr {σ σ' : mSt} (h : ∀ i, 257 ≤ i → i ≤ 261 → σ' i = σ i) (k : Nat) (p : Int) : loc σ' k p = loc σ k p := by
  unfold loc
  rw [h 257 (by omega) (by omega), h 258 (by omega) (by omega), h 259 (by omega) (by omega), h 260 (by omega) (by omega), h 261 (by omega) (by omega)]
theorem iAlg_congr {σ σ' : mSt} {B o k : Nat} (h1 : ∀ i, B ≤ i → i < B + 32 → σ' i = σ i) (h2 : ∀ i, 256 ≤ i → i ≤ 261 → σ' i = σ i) (hk : k < 8) (h : iAlg σ B o k) : iAlg σ' B o k := by
  unfold iAlg at h ⊢
  rw [h1 (B + 1) (by omega) (by omega), h1 (B + 2) (by omega) (by omega), h1 (B + 3) (by omega) (by omega), h1 (B + 4) (by omega) (by omega), h1 (B + 6 + k) (by omega) (by omega), h1 (B + 15 + k) (by omega) (by omega), h1 (B + 24 + k) (by omega) (by omega), h2 256 (by omega) (by omega), h2 257 (by omega) (by omega), h2 258 (by omega) (by omega), h2 259 (by omega) (by omega), h2 260 (by omega) (by omega), h2 261 (by omega) (by omega)]
  obtain ⟨a1, a2, a3, ⟨n, b1, b2, b3, b4, b5⟩, a5⟩ := h
  exact ⟨a1, a2, a3, ⟨n, b1, b2, b3, b4, by rw [spellF_congr (h1 _ (by omega) (by omega))]; exact b5⟩, a5⟩
theorem bits_congr {σ σ' : mSt} (h : ∀ k, k < 8 → σ' (165 + 2 * k) 2 = σ (165 + 2 * k) 2) : ∀ n, n ≤ 8 → bits σ' n = bits σ n := by
  intro n
  induction n with
  | zero => intro _; rfl
  | succ n ih =>
    intro hn
    show bits σ' n + _ = bits σ n + _
    rw [ih (by omega), h n (by omega)]
def tapeW (i k : Nat) : Prop := i = 1 ∨ i = 254 ∨ (i = 0 ∧ k = 1) ∨ (i = 253 ∧ k = 2)
def scr2 (i k : Nat) : Prop := scr i k ∨ tapeW i k
def InvR (σ : mSt) (B n s : Nat) : Prop := Lay σ ∧ (σ 253 11 = 0 ∧ ∀ j, j < 4 → σ 139 j = 0) ∧ iBook σ B n ∧ iPlaces σ n s ∧ iEls σ n ∧ iOrds σ n
theorem tapeW_fix {i k : Nat} (h : tapeW i k) : fixR i k = false := by
  rcases h with rfl | rfl | ⟨rfl, rfl⟩ | ⟨rfl, rfl⟩
  · exact fixR_data (by decide) k
  · exact fixR_data (by decide) k
  · decide +kernel
  · decide +kernel
theorem frm.obj2 {σ σ' : mSt} (h : frm scr2 σ σ') (i : Nat) (hi : ¬ sObj i) (h2 : i ≠ 253 ∧ i ≠ 114 ∧ i ≠ 269 ∧ i ≠ 270 ∧ i ≠ 271 ∧ i ≠ 0 ∧ i ≠ 1 ∧ i ≠ 254) : σ' i = σ i := by
  funext k
  refine h i k (fun z => ?_)
  rcases z with z | z
  · rcases z.2 with z | z
    · exact hi z
    · unfold sSlot at z; omega
  · unfold tapeW at z; omega
theorem InvR.scr2 {σ σ' : mSt} {B n s : Nat} (h : InvR σ B n s) (hf : frm scr2 σ σ') : InvR σ' B n s := by
  obtain ⟨hL, hb, hB, hP, hE, hO⟩ := h
  have o : ∀ i, ¬ sObj i → (i ≠ 253 ∧ i ≠ 114 ∧ i ≠ 269 ∧ i ≠ 270 ∧ i ≠ 271 ∧ i ≠ 0 ∧ i ≠ 1 ∧ i ≠ 254) → σ' i = σ i := fun i => hf.obj2 i
  have c : ∀ i k, ¬ sObj i → ¬ sSlot i k → ¬ tapeW i k → σ' i k = σ i k := fun i k h1 h2 h3 => hf i k (fun z => z.elim (fun z => z.2.elim h1 h2) h3)
  have hB2 := hB
  obtain ⟨q1, q2, q3, q4, q5, q6, q7⟩ := hB
  refine ⟨hL.frm hf (fun i k z => z.elim (fun z => z.1) tapeW_fix), ⟨(c 253 11 (by unfold sObj; omega) (by unfold sSlot; omega) (by unfold tapeW; omega)).trans hb.1, fun j => by rw [o 139 (by unfold sObj; omega) (by omega)]; exact hb.2 j⟩, ?_, ?_, ?_, ?_⟩
  · exact ⟨q1, q2, by rw [c 0 3 (by unfold sObj; omega) (by unfold sSlot; omega) (by unfold tapeW; omega)]; exact q3, by rw [c 0 4 (by unfold sObj; omega) (by unfold sSlot; omega) (by unfold tapeW; omega)]; exact q4, by rw [o B (by unfold sObj; omega) (by omega)]; exact q5, by rw [o 255 (by unfold sObj; omega) (by omega)]; exact q6, fun k hk => iAlg_congr (fun i h1 h2 => o i (by unfold sObj; omega) (by omega)) (fun i h1 h2 => o i (by unfold sObj; omega) (by omega)) (by omega) (q7 k hk)⟩
  · obtain ⟨p2, p3, p4, p5, p6, p7⟩ := hP
    have lc : ∀ k p, loc σ' k p = loc σ k p := loc_congr (fun i h1 h2 => o i (by unfold sObj; omega) (by omega))
    have o2 := o 102 (by unfold sObj; omega) (by omega)
    refine ⟨p2, by rw [o 101 (by unfold sObj; omega) (by omega)]; exact p3, by rw [o2]; exact p4, by rw [o2]; exact p5, fun k i hk hi => ?_, fun k p hk hp hn => ?_⟩
    · rw [o (104 + k) (by unfold sObj; omega) (by omega), o2, lc]; exact p6 k i hk hi
    · rw [lc]; rw [o2] at hn; exact p7 k p hk hp hn
  · obtain ⟨e1, e2⟩ := hE
    have ow : ∀ k, k < 8 → σ' (165 + 2 * k) = σ (165 + 2 * k) := fun k hk => o _ (by unfold sObj; omega) (by omega)
    refine ⟨by rw [c 253 21 (by unfold sObj; omega) (by unfold sSlot; omega) (by unfold tapeW; omega), bits_congr (fun k hk => by rw [ow k hk]) 8 (by omega)]; exact e1, fun k hk hn => ?_⟩
    rw [ow k hk] at hn
    have := e2 k hk hn
    unfold iEl at this ⊢
    rw [ow k hk, o (166 + 2 * k) (by unfold sObj; omega) (by omega), o 262 (by unfold sObj; omega) (by omega), o 263 (by unfold sObj; omega) (by omega), o 257 (by unfold sObj; omega) (by omega)]
    exact this
  · obtain ⟨o1, o2⟩ := hO
    refine ⟨fun k hk hq => ?_, ?_⟩
    · rw [o 257 (by unfold sObj; omega) (by omega)] at hq
      have := o1 k hk hq
      unfold iOrd at this ⊢
      have rl : rowL σ' k = rowL σ k := by
        funext r
        unfold rowL
        by_cases hr : 4 ≤ r
        · rw [if_pos hr, if_pos hr]
        · rw [if_neg hr, if_neg hr, c 269 (16 * k + 4 * r) (by unfold sObj; omega) (by unfold sSlot; omega) (by unfold tapeW; omega), c 269 (16 * k + 4 * r + 1) (by unfold sObj; omega) (by unfold sSlot; omega) (by unfold tapeW; omega), c 269 (16 * k + 4 * r + 2) (by unfold sObj; omega) (by unfold sSlot; omega) (by unfold tapeW; omega), c 269 (16 * k + 4 * r + 3) (by unfold sObj; omega) (by unfold sSlot; omega) (by unfold tapeW; omega)]
      obtain ⟨g1, g2, g3, g4, g5, g6⟩ := this
      rw [rl, o (181 + 9 * k) (by unfold sObj; omega) (by omega), o (182 + 9 * k) (by unfold sObj; omega) (by omega), o 258 (by unfold sObj; omega) (by omega), o 259 (by unfold sObj; omega) (by omega), c 270 k (by unfold sObj; omega) (by unfold sSlot; omega) (by unfold tapeW; omega), c 271 k (by unfold sObj; omega) (by unfold sSlot; omega) (by unfold tapeW; omega)]
      refine ⟨g1, g2, g3, g4, fun r hr => ?_, g6⟩
      rw [← g5 r hr]
      unfold rowV
      rw [o (184 + 9 * k + r) (by unfold sObj; omega) (by omega)]
    · rw [c 114 3 (by unfold sObj; omega) (by unfold sSlot; omega) (by unfold tapeW; omega), c 114 4 (by unfold sObj; omega) (by unfold sSlot; omega) (by unfold tapeW; omega)]
      exact o2
theorem Inv.scr {σ σ' : mSt} (h : Inv σ) (hf : frm scr σ σ') : Inv σ' := by
  obtain ⟨hL, hb, t, B, n, s, hT, hB, hP, hE, hO⟩ := h
  obtain ⟨g1, g2, g3⟩ := InvR.scr2 (B := B) (n := n) (s := s) ⟨hL, hb, hB, hP, hE, hO⟩ (hf.mono (fun i k z => Or.inl z))
  obtain ⟨t1, t2, t3, t4⟩ := hT
  refine ⟨g1, g2, t, B, n, s, ⟨t1, ?_, ?_, ?_⟩, g3⟩
  · rw [hf.obj 0 (by unfold sObj; omega) (by omega)]; exact t2
  · exact (hf 253 2 (fun z => z.2.elim (by unfold sObj; omega) (by unfold sSlot; omega))).trans t3
  · rw [hf.obj 1 (by unfold sObj; omega) (by omega), hf.obj 254 (by unfold sObj; omega) (by omega)]; exact t4

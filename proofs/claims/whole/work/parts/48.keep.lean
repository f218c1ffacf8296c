theorem iBook_congr {σ σ' : mSt} {B n : Nat} (h : iBook σ B n) (h3 : σ' 0 3 = σ 0 3) (h4 : σ' 0 4 = σ 0 4) (o : ∀ i, (37 ≤ i ∧ i ≤ 100) ∨ (255 ≤ i ∧ i ≤ 261) → σ' i = σ i) : iBook σ' B n := by
  obtain ⟨q1, q2, q3, q4, q5, q6, q7⟩ := h
  exact ⟨q1, q2, h3.trans q3, h4.trans q4, by rw [o B (by omega)]; exact q5, by rw [o 255 (by omega)]; exact q6, fun k hk => iAlg_congr (fun i h1 h2 => o i (by omega)) (fun i h1 h2 => o i (by omega)) (by omega) (q7 k hk)⟩
theorem iPlaces_congr {σ σ' : mSt} {n s : Nat} (h : iPlaces σ n s) (hn : n ≤ 8) (o : ∀ i, (101 ≤ i ∧ i ≤ 111) ∨ (257 ≤ i ∧ i ≤ 261) → σ' i = σ i) : iPlaces σ' n s := by
  obtain ⟨p2, p3, p4, p5, p6, p7⟩ := h
  have lc : ∀ k p, loc σ' k p = loc σ k p := loc_congr (fun i h1 h2 => o i (by omega))
  have o2 := o 102 (by omega)
  refine ⟨p2, by rw [o 101 (by omega)]; exact p3, by rw [o2]; exact p4, by rw [o2]; exact p5, fun k i hk hi => ?_, fun k p hk hp hn => ?_⟩
  · rw [o (104 + k) (by omega), o2, lc]; exact p6 k i hk hi
  · rw [lc]; rw [o2] at hn; exact p7 k p hk hp hn
theorem iOrds_congr {σ σ' : mSt} {n : Nat} (h : iOrds σ n) (hn : n ≤ 8) (o : ∀ i, (181 ≤ i ∧ i ≤ 252 ∧ i % 9 ≠ 8 ∧ i % 9 ≠ 0) ∨ (257 ≤ i ∧ i ≤ 259) → σ' i = σ i) (l : ∀ j, j < 128 → σ' 269 j = σ 269 j) (b : ∀ j, j < 8 → σ' 270 j = σ 270 j ∧ σ' 271 j = σ 271 j) (e3 : σ' 114 3 = σ 114 3) (e4 : σ' 114 4 = σ 114 4) : iOrds σ' n := by
  obtain ⟨o1, o2⟩ := h
  refine ⟨fun k hk hq => ?_, by rw [e3, e4]; exact o2⟩
  rw [o 257 (by omega)] at hq
  have := o1 k hk hq
  unfold iOrd at this ⊢
  have rl : rowL σ' k = rowL σ k := by
    funext r
    unfold rowL
    by_cases hr : 4 ≤ r
    · rw [if_pos hr, if_pos hr]
    · rw [if_neg hr, if_neg hr, l _ (by omega), l _ (by omega), l _ (by omega), l _ (by omega)]
  obtain ⟨g1, g2, g3, g4, g5, g6⟩ := this
  rw [rl, o (181 + 9 * k) (by omega), o (182 + 9 * k) (by omega), o 258 (by omega), o 259 (by omega), (b k (by omega)).1, (b k (by omega)).2]
  refine ⟨g1, g2, g3, g4, fun r hr => ?_, g6⟩
  rw [← g5 r hr]
  unfold rowV
  rw [o (184 + 9 * k + r) (by omega)]
/-- what may change when an ELEMENT is kept -/
def elW (k i j : Nat) : Prop := scr i j ∨ (i = 165 + 2 * k ∧ j ≠ 0) ∨ i = 166 + 2 * k ∨ (i = 262 ∧ j = k) ∨ (i = 263 ∧ 5 * k ≤ j ∧ j < 5 * k + 5) ∨ (i = 253 ∧ j = 21)
theorem elW_fix {k i j : Nat} (hk : k < 8) (h : elW k i j) : fixR i j = false := by
  rcases h with h | ⟨rfl, h⟩ | rfl | ⟨rfl, rfl⟩ | ⟨rfl, h⟩ | ⟨rfl, rfl⟩
  · exact h.1
  · have e : (shp (165 + 2 * k)).1 = 1 := by
      have : ∀ k, k < 8 → (shp (165 + 2 * k)).1 = 1 := by decide +kernel
      exact this k hk
    unfold fixR
    rw [e]
    obtain ⟨j, rfl⟩ : ∃ q, j = q + 1 := ⟨j - 1, by omega⟩
    match j with
    | 0 => simp [mFt]
    | 1 => simp [mFt]
    | j + 2 => simp [mFt]
  · have e : (shp (166 + 2 * k)).1 = 21 := by
      have : ∀ k, k < 8 → (shp (166 + 2 * k)).1 = 21 := by decide +kernel
      exact this k hk
    exact fixR_data (by omega) j
  · exact fixR_data (by decide) j
  · exact fixR_data (by decide) j
  · decide +kernel
theorem Inv.el {σ τ : mSt} (h : Inv σ) {k : Nat} (hk : k < 8) (hf : frm (elW k) σ τ) (hn : ∀ n : Nat, σ 255 0 = (n : Int) → n ≤ 8 → iEl τ n k) (hb : τ 253 21 = bits τ 8) : Inv τ := by
  obtain ⟨hL, hb0, t, B, n, s, hT, hB, hP, hE, hO⟩ := h
  have o : ∀ i, ¬ sObj i → (i ≠ 253 ∧ i ≠ 114 ∧ i ≠ 269 ∧ i ≠ 270 ∧ i ≠ 271 ∧ i ≠ 165 + 2 * k ∧ i ≠ 166 + 2 * k ∧ i ≠ 262 ∧ i ≠ 263) → τ i = σ i := by
    intro i h1 h2
    funext j
    refine hf i j (fun z => ?_)
    rcases z with z | z
    · exact z.2.elim h1 (fun z => by unfold sSlot at z; omega)
    · omega
  have c : ∀ i j, ¬ sObj i → ¬ sSlot i j → ¬ ((i = 165 + 2 * k ∧ j ≠ 0) ∨ i = 166 + 2 * k ∨ (i = 262 ∧ j = k) ∨ (i = 263 ∧ 5 * k ≤ j ∧ j < 5 * k + 5) ∨ (i = 253 ∧ j = 21)) → τ i j = σ i j := fun i j h1 h2 h3 => hf i j (fun z => z.elim (fun z => z.2.elim h1 h2) h3)
  have hn8 := hB.2.1
  refine ⟨hL.frm hf (fun i j z => elW_fix hk z), ⟨(c 253 11 (by unfold sObj; omega) (by unfold sSlot; omega) (by omega)).trans hb0.1, fun j => by rw [o 139 (by unfold sObj; omega) (by omega)]; exact hb0.2 j⟩, t, B, n, s, ?_, iBook_congr hB (by rw [o 0 (by unfold sObj; omega) (by omega)]) (by rw [o 0 (by unfold sObj; omega) (by omega)]) (fun i hi => o i (by unfold sObj; omega) (by omega)), iPlaces_congr hP hn8 (fun i hi => o i (by unfold sObj; omega) (by omega)), ⟨hb, fun j hj hjn => ?_⟩, iOrds_congr hO hn8 (fun i hi => o i (by unfold sObj; omega) (by omega)) (fun j hj => c 269 j (by unfold sObj; omega) (by unfold sSlot; omega) (by omega)) (fun j hj => ⟨c 270 j (by unfold sObj; omega) (by unfold sSlot; omega) (by omega), c 271 j (by unfold sObj; omega) (by unfold sSlot; omega) (by omega)⟩) (c 114 3 (by unfold sObj; omega) (by unfold sSlot; omega) (by omega)) (c 114 4 (by unfold sObj; omega) (by unfold sSlot; omega) (by omega))⟩
  · obtain ⟨t1, t2, t3, t4⟩ := hT
    exact ⟨t1, by rw [o 0 (by unfold sObj; omega) (by omega)]; exact t2, (c 253 2 (by unfold sObj; omega) (by unfold sSlot; omega) (by omega)).trans t3, by rw [o 1 (by unfold sObj; omega) (by omega), o 254 (by unfold sObj; omega) (by omega)]; exact t4⟩
  · by_cases hjk : j = k
    · subst hjk
      exact hn n hB.2.2.2.2.2.1 hn8
    · have ow := o (165 + 2 * j) (by unfold sObj; omega) (by omega)
      rw [ow] at hjn
      have := hE.2 j hj hjn
      have d : ∀ i, i < 5 → τ 263 (5 * j + i) = σ 263 (5 * j + i) := fun i hi => c 263 _ (by unfold sObj; omega) (by unfold sSlot; omega) (by omega)
      obtain ⟨g1, g2, g3, g4, g5, g6, g7, g8⟩ := this
      have d2 : τ 262 j = σ 262 j := c 262 j (by unfold sObj; omega) (by unfold sSlot; omega) (by omega)
      refine ⟨by rw [ow, d2]; exact g1, by rw [d2]; exact g2, by rw [d2]; exact g3, by rw [d2, o 257 (by unfold sObj; omega) (by omega)]; exact g4, fun i hi => ?_, ?_, ?_, ?_⟩
      · rw [o (166 + 2 * j) (by unfold sObj; omega) (by omega), d i (by omega)]; exact g5 i hi
      · rw [ow, d 4 (by omega)]; exact g6
      · rw [d 4 (by omega)]; exact g7
      · rw [d 4 (by omega)]; exact g8

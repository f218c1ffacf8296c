/-! TEXT -/
theorem iAlg_wf {σ : mSt} {B k : Nat} (h : iAlg σ B 0 k) : wfK (σ 257) (σ 258) (σ 259) (σ 260) (σ 261) k := by
  obtain ⟨-, -, -, -, h5⟩ := h
  rw [Nat.zero_add] at h5
  unfold wfK
  rcases h5 with h | ⟨h0, h1, h2⟩ | ⟨h0, h1, h2, h3, h4⟩
  · exact Or.inl h
  · exact Or.inr (Or.inl ⟨h0, by unfold qs; simp; omega, h2⟩)
  · exact Or.inr (Or.inr ⟨h0, h1, h2, h3, fun i hi => (h4 i hi).2.2⟩)
def bG (σ : mSt) (D j : Nat) : Int := σ (D + 24 + j / 4) (j % 4)
def bP (σ : mSt) (D j : Nat) : Int := σ (D + 15 + j / 4) (j % 4)
theorem bG_at (σ : mSt) (D k i : Nat) (h : i < 4) : bG σ D (4 * k + i) = σ (D + 24 + k) i := by
  unfold bG
  rw [show (4 * k + i) / 4 = k by omega, show (4 * k + i) % 4 = i by omega]
theorem bP_at (σ : mSt) (D k i : Nat) (h : i < 4) : bP σ D (4 * k + i) = σ (D + 15 + k) i := by
  unfold bP
  rw [show (4 * k + i) / 4 = k by omega, show (4 * k + i) % 4 = i by omega]
theorem al2_wf {σ τ : mSt} {D k : Nat} (h : al2 σ τ D k) : wfK (σ (D + 1)) (σ (D + 2)) (σ (D + 3)) (bG σ D) (bP σ D) k := by
  obtain ⟨e1, e2, e3, -, h5⟩ := h
  unfold wfK
  rw [e1, e2, e3]
  rcases h5 with h | ⟨h0, h1, h2⟩ | ⟨h0, h1, h2, h3, h4⟩
  · exact Or.inl h
  · exact Or.inr (Or.inl ⟨h0, by unfold qs; simp; omega, h2⟩)
  · refine Or.inr (Or.inr ⟨h0, h1, h2, h3, fun i hi => ?_⟩)
    obtain ⟨a1, a2, a3, a4, a5⟩ := h4 i hi
    rw [bG_at _ _ _ _ (by omega), bP_at _ _ _ _ (by omega), a1, a2]
    exact ⟨a3, a4, a5⟩
theorem alg_fin {σ τ s : mSt} {D k : Nat} (hk : k < 8) (h : al2 σ τ D k) (hc : ∀ i, D ≤ i → i ≤ D + 31 → s i = σ i) (hr : ∀ i k, 256 ≤ i → i ≤ 259 → k < 8 → s i k = τ i (8 + k)) (ht : ∀ j, j < 32 → s 260 j = τ 260 (32 + j) ∧ s 261 j = τ 261 (32 + j)) : iAlg s D 0 k := by
  obtain ⟨e1, e2, e3, ⟨l, l1, l2, l3, l4, l5⟩, h5⟩ := h
  unfold iAlg
  rw [Nat.zero_add, hc (D + 1) (by omega) (by omega), hc (D + 2) (by omega) (by omega), hc (D + 3) (by omega) (by omega), hc (D + 4) (by omega) (by omega), hc (D + 6 + k) (by omega) (by omega), hc (D + 15 + k) (by omega) (by omega), hc (D + 24 + k) (by omega) (by omega), hr 256 k (by omega) (by omega) hk, hr 257 k (by omega) (by omega) hk, hr 258 k (by omega) (by omega) hk, hr 259 k (by omega) (by omega) hk]
  refine ⟨e1, e2, e3, ⟨l, l1, l2, l3, l4, by rw [spellF_congr (hc (D + 6 + k) (by omega) (by omega)), l5]⟩, ?_⟩
  rcases h5 with h | h | ⟨h0, h1, h2, h3, h4⟩
  · exact Or.inl h
  · exact Or.inr (Or.inl h)
  · refine Or.inr (Or.inr ⟨h0, h1, h2, h3, fun i hi => ?_⟩)
    have a := h4 i hi
    obtain ⟨b1, b2⟩ := ht (4 * k + i) (by omega)
    rw [show 4 * (8 + k) + i = 32 + (4 * k + i) by omega] at a
    rw [b1, b2]
    exact a
theorem bits_0 {σ : mSt} : ∀ n : Nat, (∀ k, k < n → σ (165 + 2 * k) 2 = -1) → bits σ n = 0 := by
  intro n
  induction n with
  | zero => intro _; rfl
  | succ n ih =>
    intro h
    show bits σ n + (if σ (165 + 2 * n) 2 = -1 then 0 else 2 ^ n) = 0
    rw [ih (fun k hk => h k (by omega)), if_pos (h n (by omega))]
    rfl
/-- nothing taken over: all stands but the tape -/
def erW (D i j : Nat) : Prop := cY D i j ∨ rY i j ∨ (i = 0 ∧ j = 1)
theorem inv_err {σ σ2 : mSt} {B n s D : Nat} (hL2 : Lay σ2) (h11 : σ2 253 11 = 0) (h01 : σ2 0 1 = 0) (h2 : σ2 253 2 = 0) (hf : frm (erW D) σ σ2) (hBD : (B = 37 ∧ D = 69) ∨ (B = 69 ∧ D = 37)) (hb : ∀ j, j < 4 → σ 139 j = 0) (hB : iBook σ B n) (hP : iPlaces σ n s) (hE : iEls σ n) (hO : iOrds σ n) : Inv σ2 := by
  have hB0 := hB
  obtain ⟨q1, q2, q3, q4, q5, q6, q7⟩ := hB
  have hw : ∀ k, k < n → wfK (σ 257) (σ 258) (σ 259) (σ 260) (σ 261) k := fun k hk => iAlg_wf (q7 k hk)
  have u : ∀ i j, ¬ erW D i j → σ2 i j = σ i j := hf
  have ub : ∀ i, B ≤ i → i < B + 32 → σ2 i = σ i := fun i h1 h3 => funext fun j => u i j (by unfold erW cY cXl cR cL tkW rY rX rN rL; omega)
  have ur : ∀ i, 101 ≤ i → i < 253 → σ2 i = σ i := fun i h1 h3 => funext fun j => u i j (by unfold erW cY cXl cR cL tkW rY rX rN rL; omega)
  have u6 : ∀ i k, 256 ≤ i → i ≤ 259 → k < 8 → σ2 i k = σ i k := fun i k h1 h3 hk => u i k (by unfold erW cY cXl cR cL tkW rY rX rN rL; omega)
  have ut : ∀ j, j < 32 → σ2 260 j = σ 260 j ∧ σ2 261 j = σ 261 j := fun j hj => ⟨u _ _ (by unfold erW cY cXl cR cL tkW rY rX rN rL; omega), u _ _ (by unfold erW cY cXl cR cL tkW rY rX rN rL; omega)⟩
  have ux : ∀ i, 262 ≤ i → σ2 i = σ i := fun i h1 => funext fun j => u i j (by unfold erW cY cXl cR cL tkW rY rX rN rL; omega)
  have lc : ∀ k p, k < n → loc σ2 k p = loc σ k p := fun k p hk => by
    unfold loc
    refine locF_cg hw (fun k' hk' => ⟨u6 _ _ (by omega) (by omega) (by omega), u6 _ _ (by omega) (by omega) (by omega), u6 _ _ (by omega) (by omega) (by omega), fun z i hi => ?_⟩) 9 9 k p hk (by omega) (by omega)
    rcases hw k' hk' with ⟨w0, -⟩ | ⟨w0, -⟩ | ⟨w0, w1, w2, w3, w4⟩
    · omega
    · omega
    · exact ut (4 * k' + i) (by omega)
  obtain ⟨p1, p2, p3, p4, p5, p6⟩ := hP
  refine ⟨hL2, ⟨h11, fun j hj => by rw [ur _ (by omega) (by omega)]; exact hb j hj⟩, 0, B, n, s, ⟨by omega, h01, h2, fun k hk => by omega⟩, ⟨q1, q2, by rw [u _ _ (by unfold erW cY cXl cR cL tkW rY rX rN rL; omega), q3], by rw [u _ _ (by unfold erW cY cXl cR cL tkW rY rX rN rL; omega), q4], by rw [ub _ (by omega) (by omega), q5], by rw [u _ _ (by unfold erW cY cXl cR cL tkW rY rX rN rL; omega), q6], fun k hk => ?_⟩, ⟨p1, by rw [ur _ (by omega) (by omega), p2], by rw [ur _ (by omega) (by omega)]; exact p3, by rw [ur _ (by omega) (by omega)]; exact p4, fun k i hk hi => by rw [ur _ (by omega) (by omega), ur _ (by omega) (by omega), lc k _ hk]; exact p5 k i hk hi, fun k p hk hp h => by rw [ur _ (by omega) (by omega)] at h; rw [lc k _ hk]; exact p6 k p hk hp h⟩, ⟨?_, fun k hk hne => ?_⟩, fun k hk hq => ?_, by rw [ur _ (by omega) (by omega)]; exact hO.2⟩
  · have h := q7 k hk
    have g := iAlg_wf h
    unfold iAlg at h ⊢
    rw [Nat.zero_add] at h ⊢
    rw [ub (B + 1) (by omega) (by omega), ub (B + 2) (by omega) (by omega), ub (B + 3) (by omega) (by omega), ub (B + 4) (by omega) (by omega), ub (B + 6 + k) (by omega) (by omega), ub (B + 15 + k) (by omega) (by omega), ub (B + 24 + k) (by omega) (by omega), u6 256 k (by omega) (by omega) (by omega), u6 257 k (by omega) (by omega) (by omega), u6 258 k (by omega) (by omega) (by omega), u6 259 k (by omega) (by omega) (by omega)]
    obtain ⟨e1, e2, e3, ⟨l, l1, l2, l3, l4, l5⟩, h5⟩ := h
    refine ⟨e1, e2, e3, ⟨l, l1, l2, l3, l4, by rw [spellF_congr (ub (B + 6 + k) (by omega) (by omega)), l5]⟩, ?_⟩
    rcases h5 with h | h | ⟨h0, h1, h2, h3, h4⟩
    · exact Or.inl h
    · exact Or.inr (Or.inl h)
    · refine Or.inr (Or.inr ⟨h0, h1, h2, h3, fun i hi => ?_⟩)
      obtain ⟨b1, b2⟩ := ut (4 * k + i) (by omega)
      rw [b1, b2]
      exact h4 i hi
  · rw [u _ _ (by unfold erW cY cXl cR cL tkW rY rX rN rL; omega), hE.1]
    exact (bits_congr (fun k hk => by rw [ur _ (by omega) (by omega)]) 8 (by omega)).symm
  · rw [ur _ (by omega) (by omega)] at hne
    obtain ⟨a1, a2, a3, a4, a5, a6, a7, a8⟩ := hE.2 k hk hne
    refine ⟨by rw [ur _ (by omega) (by omega), ux _ (by omega), a1], by rw [ux _ (by omega)]; exact a2, by rw [ux _ (by omega)]; exact a3, ?_, fun i hi => ?_, by rw [ur _ (by omega) (by omega), ux _ (by omega)]; exact a6, by rw [ux _ (by omega)]; exact a7, by rw [ux _ (by omega)]; exact a8⟩
    · rw [ux 262 (by omega), u6 _ _ (by omega) (by omega) (by omega)]; exact a4
    · rw [ur _ (by omega) (by omega), ux _ (by omega)]; exact a5 i hi
  · rw [u6 _ _ (by omega) (by omega) (by omega)] at hq
    have h := hO.1 k hk hq
    have rl : ∀ r, rowL σ2 k r = rowL σ k r := fun r => by unfold rowL; rw [ux 269 (by omega)]
    unfold iOrd at h ⊢
    rw [ur (181 + 9 * k) (by omega) (by omega), ur (182 + 9 * k) (by omega) (by omega), ux 270 (by omega), ux 271 (by omega), u6 258 k (by omega) (by omega) (by omega), u6 259 k (by omega) (by omega) (by omega), show rowL σ2 k = rowL σ k from funext rl]
    refine ⟨h.1, h.2.1, h.2.2.1, h.2.2.2.1, fun r hr => ?_, h.2.2.2.2.2⟩
    rw [← h.2.2.2.2.1 r hr]
    unfold rowV
    rw [ur (184 + 9 * k + r) (by omega) (by omega)]

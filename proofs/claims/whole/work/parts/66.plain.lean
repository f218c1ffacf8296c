/-! an ORDER at first; plain, row, disc -/
theorem vC_congr {E F : Nat → V4} (h : ∀ r, r < 4 → E r = F r) (c : V4) : vC E c = vC F c := by
  unfold vC
  rw [h 0 (by omega), h 1 (by omega), h 2 (by omega), h 3 (by omega)]
theorem latS_congr {E F : Nat → V4} (h : ∀ r, r < 4 → E r = F r) (M : Int) : latS M E = latS M F := by
  funext x N
  unfold latS
  simp only [vC_congr h]
theorem ord_congr {E F : Nat → V4} {a b M : Int} (h : ∀ r, r < 4 → E r = F r) (hE : Ord a b M E) : Ord a b M F := by
  obtain ⟨h1, h2, h3, h4, h5⟩ := hE
  unfold Tri at h2
  unfold Red at h3
  unfold Low at h4
  refine ⟨h1, ?_, ?_, ?_, ?_⟩
  · unfold Tri
    rw [← h 0 (by omega), ← h 1 (by omega), ← h 2 (by omega), ← h 3 (by omega)]
    exact h2
  · unfold Red
    rw [← h 0 (by omega), ← h 1 (by omega), ← h 2 (by omega), ← h 3 (by omega)]
    exact h3
  · intro d d0 dM hd
    exact h4 d d0 dM (fun i hi => by rw [h i hi]; exact hd i hi)
  · rw [← latS_congr h M]
    exact h5
theorem vC_id (c : V4) : vC (idR 1) c = c := by
  apply vext <;> simp [vC, idR, vA, vS, vE]
theorem vM_smul (a b k l : Int) (x y : V4) : vM a b (vS k x) (vS l y) = vS (k * l) (vM a b x y) := by
  apply vext <;> simp only [vM, vS] <;> grind
theorem ord_plain (a b : Int) : Ord a b 1 (idR 1) := by
  have g : ∀ x N, latS 1 (idR 1) x N ↔ ∃ c, x = vS N c := by
    intro x N
    unfold latS
    simp only [vC_id, vS_one]
  refine ⟨by decide, ?_, ?_, ?_, ?_, ?_, ?_⟩
  · unfold Tri idR; simp [vS, vE]
  · unfold Red idR; simp [vS, vE]
  · intro d d0 d1 _
    have := Int.le_of_dvd (by decide) d1
    omega
  · intro x y M N _ _ hx hy
    rw [g] at hx hy ⊢
    obtain ⟨c, rfl⟩ := hx
    obtain ⟨d, rfl⟩ := hy
    exact ⟨vM a b c d, vM_smul a b M N c d⟩
  · intro x N _ hx
    rw [g] at hx
    obtain ⟨c, rfl⟩ := hx
    refine ⟨⟨2 * c.1, by simp only [vS]; grind⟩, ?_⟩
    rw [vN_smul]
    exact ⟨_, rfl⟩
  · intro i _
    rw [g]
    exact ⟨vE i, (vS_one _).symm⟩
theorem quat_t {σ : mSt} {B n k : Nat} (hL : Lay σ) (hB : iBook σ B n) (hk : k < n) (h : σ 257 k = 0) : mX11_isQuaternion 0 (k : Int) σ = some (1, σ) := by
  have := hB.2.1
  rw [quat_c hL hB (by unfold i32; omega), b2_t ⟨by omega, by omega, by rw [Int.toNat_natCast]; exact h⟩]
theorem quatr_t {σ : mSt} {B n k : Nat} (hL : Lay σ) (hB : iBook σ B n) (hk : k < n) (h : σ 257 k = 0) : mX12_isQuaternion 253 (k : Int) σ = some (1, σ) := by
  have := hB.2.1
  rw [quat_r hL hB (by unfold i32; omega), b2_t ⟨by omega, by omega, by rw [Int.toNat_natCast]; exact h⟩]
theorem book_up {σ : mSt} {B n : Nat} {v : Int} (hB : iBook σ B n) : iBook (upS σ 253 0 v) B n := iBook_congr hB (by rw [upS_ne (by omega)]) (by rw [upS_ne (by omega)]) (fun i hi => upS_row (by omega))
theorem quat_nat {σ : mSt} {n : Nat} {a : Int} (h : 0 ≤ a ∧ a < (n : Int) ∧ σ 257 a.toNat = 0) : ∃ k : Nat, a = (k : Int) ∧ k < n ∧ σ 257 k = 0 := ⟨a.toNat, by omega, by omega, h.2.2⟩
theorem ordBegin_e {σ : mSt} {k : Nat} {a b : Int} (hL : Lay σ) (hk : k < 8) : mX6_begin (181 + 9 * k) a b σ = some (0, stQ (upS (upS (upS σ (181 + 9 * k) 0 a) (181 + 9 * k) 1 b) (182 + 9 * k) 2 1) (182 + 9 * k) (idR 1) 16) := by
  obtain ⟨k1, k2, k3, k4, k5, k6⟩ := ord_lay hL hk
  have hL2 : Lay (upS (upS σ (181 + 9 * k) 0 a) (181 + 9 * k) 1 b) := (hL.up (ordW_fix hk (Or.inr (Or.inl ⟨rfl, by omega⟩)))).up (ordW_fix hk (Or.inr (Or.inl ⟨rfl, by omega⟩)))
  unfold mX6_begin
  simp (disch := omega) only [gc k1, gr, bnd_eq, up_ne, upS_same, stV_ne, mCall_some, wI_id, wL_id, cLtF, cLtT, cLeF, cLeT, cEqF, cEqT, ↓reduceIte, Int.toNat_natCast, Int.reduceToNat, k5, begin_e hL2 k3]
theorem pr_plain (σ : mSt) (h : Inv σ) (a1 : Int) (h1 : i32 a1) : ∃ b s b2 s2, mX11_plain 0 a1 σ = some (b, s) ∧ mX12_plain 253 a1 s = some (b2, s2) ∧ wI b = wI b2 ∧ Inv s2 := by
  have hI := h
  obtain ⟨hL, hb, t, B, n, s0, hT, hB, hP, hE, hO⟩ := h
  have hB2 := hB
  obtain ⟨q1, hn, q3, q4, q5, q6, q7⟩ := hB2
  have ht := hI.scr (scr_t (σ := σ) (v := 0))
  by_cases hv : 0 ≤ a1 ∧ a1 < (n : Int) ∧ σ 257 a1.toNat = 0
  · obtain ⟨k, rfl, hk, hq⟩ := quat_nat hv
    have hk8 : k < 8 := by omega
    obtain ⟨k1, k2, k3, k4, k5, k6⟩ := ord_lay hL hk8
    obtain ⟨⟨ab1, ab2⟩, ⟨-, ra1, ra2, -⟩, -, rb1, rb2, -⟩ := quatF hB hk hq
    obtain ⟨s, hs⟩ : ∃ z, z = stQ (upS (upS (upS σ (181 + 9 * k) 0 (σ 258 k)) (181 + 9 * k) 1 (σ 259 k)) (182 + 9 * k) 2 1) (182 + 9 * k) (idR 1) 16 := ⟨_, rfl⟩
    have c : mX11_plain 0 (k : Int) σ = some (1, s) := by
      unfold mX11_plain
      simp (disch := omega) only [gc0, quat_t hL hB hk hq, gr, bnd_eq, up_ne, upS_same, stV_ne, mCall_some, wI_id, wL_id, cLtF, cLtT, cLeF, cLeT, cEqF, cEqT, ↓reduceIte, Int.toNat_natCast, Int.reduceToNat, lay0 hL, gx113, k4, q3, first_c hL q1 hk8, second_c hL q1 hk8, ab1, ab2, ordBegin_e hL hk8, ← hs]
    have fs : frm (ordW k) σ s := by
      rw [hs]
      exact frm_stQ (frm.put (frm.put (frm.one (Or.inr (Or.inl ⟨rfl, by omega⟩))) (Or.inr (Or.inl ⟨rfl, by omega⟩))) (Or.inr (Or.inr (Or.inl ⟨rfl, rfl⟩)))) (fun i j h1 h2 => Or.inr (Or.inr (Or.inr (Or.inl ⟨by omega, by omega⟩))))
    have os : ∀ i, ¬ (181 + 9 * k ≤ i ∧ i ≤ 187 + 9 * k) → s i = σ i := fun i hi => funext fun j => by
      rw [hs, stQ_ne _ _ _ _ _ _ (by omega), upS_ne (by omega), upS_ne (by omega), upS_ne (by omega)]
    have hLs : Lay s := hL.frm fs (fun i j z => ordW_fix hk8 z)
    have hBs : iBook s B n := iBook_congr hB (by rw [os 0 (by omega)]) (by rw [os 0 (by omega)]) (fun i hi => os i (by omega))
    obtain ⟨τ, hτ⟩ : ∃ z, z = upS (upS (stP (upS s 253 0 0) k (idR 1) 16) 270 k 1) 271 k 1 := ⟨_, rfl⟩
    have e2 : mX12_plain 253 (k : Int) s = some (1, τ) := by
      have hLt : Lay (upS s 253 0 0) := hLs.frm scr_t (fun i j z => z.1)
      unfold mX12_plain
      rw [gc253, bnd_eq, quatr_t hLt (book_up hBs) hk (by rw [upS_row (by omega), os 257 (by omega)]; exact hq), mCall_some, if_neg (by decide), laysPlain_e (lay253 hLt).2.2.2.2.2.2.2.2.2.2.2.2.2.2.2.1 (lay253 hLt).2.2.2.2.2.2.2.2.2.2.2.2.2.2.2.2.1 (lay253 hLt).2.2.2.2.2.2.2.2.2.2.2.2.2.2.2.2.2.1 (by omega), mCall_some, ← hτ]
    have ft : frm (ordW k) s τ := by
      rw [hτ]
      exact frm.put (frm.put (frm_stP (scr_t.mono (fun i j z => Or.inl z)) (fun j h1 h2 => Or.inr (Or.inr (Or.inr (Or.inr (Or.inl ⟨rfl, h1, h2⟩)))))) (Or.inr (Or.inr (Or.inr (Or.inr (Or.inr (Or.inl ⟨Or.inl rfl, rfl⟩))))))) (Or.inr (Or.inr (Or.inr (Or.inr (Or.inr (Or.inl ⟨Or.inr rfl, rfl⟩))))))
    have ot : ∀ i, i ≠ 253 → i ≠ 269 → i ≠ 270 → i ≠ 271 → τ i = s i := fun i h1 h2 h3 h4 => funext fun j => by
      rw [hτ, upS_ne (by omega), upS_ne (by omega), stP_ne _ _ _ _ _ _ h2, upS_ne (by omega)]
    refine ⟨1, s, 1, τ, c, e2, rfl, hI.ord hk8 (fs.tr ft (fun i j z => z)) ?_ ?_⟩
    · have r270 : τ 270 k = 1 := by rw [hτ, upS_ne (by omega), upS_same]
      have r271 : τ 271 k = 1 := by rw [hτ, upS_same]
      have rl : ∀ r, r < 4 → rowL τ k r = idR 1 r := fun r hr => by
        rw [← rowL_stP (upS s 253 0 0) k (idR 1) hr, hτ]
        unfold rowL
        rw [if_neg (by omega), if_neg (by omega), upS_row (by omega), upS_row (by omega)]
      unfold iOrd
      rw [r270, r271, ot (181 + 9 * k) (by omega) (by omega) (by omega) (by omega), ot (182 + 9 * k) (by omega) (by omega) (by omega) (by omega), ot 258 (by omega) (by omega) (by omega) (by omega), ot 259 (by omega) (by omega) (by omega) (by omega), os 258 (by omega), os 259 (by omega)]
      refine ⟨?_, ?_, ?_, rfl, fun r hr => ?_, ord_congr (fun r hr => (rl r hr).symm) (ord_plain _ _)⟩
      · rw [hs, stQ_ne _ _ _ _ _ _ (by omega), upS_ne (by omega), upS_ne (by omega), upS_same]
      · rw [hs, stQ_ne _ _ _ _ _ _ (by omega), upS_ne (by omega), upS_same]
      · rw [hs, stQ_ne _ _ _ _ _ _ (by omega), upS_same]
      · rw [rl r hr, ← rwC_stQ (upS (upS (upS σ (181 + 9 * k) 0 (σ 258 k)) (181 + 9 * k) 1 (σ 259 k)) (182 + 9 * k) 2 1) (182 + 9 * k) (idR 1) hr, ← hs]
        unfold rwC rowV
        rw [show 182 + 9 * k + 2 + r = 184 + 9 * k + r by omega, ot (184 + 9 * k + r) (by omega) (by omega) (by omega) (by omega)]
    · rw [ot 114 (by omega) (by omega) (by omega) (by omega), os 114 (by omega)]
      exact hO.2
  · refine ⟨0, σ, 0, upS σ 253 0 0, ?_, ?_, rfl, ht⟩
    · unfold mX11_plain
      exact mR_eq (mR_G (by decide) (mR_callE (quat_c hL hB h1) (mR_pos (by rw [wI_b2, b2_f hv]) (mR_ret ⟨rfl, rfl⟩))))
    · unfold mX12_plain
      exact mR_eq (mR_G (by decide) (mR_bnd (mR_callE (quat_r ht.1 (book_up hB) h1) (mR_pos (by rw [wI_b2, b2_f (by rw [upS_row (by omega)]; exact hv)]) (mR_ret ⟨rfl, rfl⟩)))))

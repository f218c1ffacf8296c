/-! the reference takes the bench over -/
def cp8 (τ : mSt) (n : Nat) : mSt := fun a b => if 256 ≤ a ∧ a ≤ 259 ∧ b < n then τ a (8 + b) else τ a b
def cp32 (τ : mSt) (n : Nat) : mSt := fun a b => if (a = 260 ∨ a = 261) ∧ b < n then τ a (32 + b) else τ a b
theorem upS_if {σ : mSt} {i k a b : Nat} {v : Int} : upS σ i k v a b = if a = i ∧ b = k then v else σ a b := by
  by_cases h : a = i ∧ b = k
  · rw [if_pos h, h.1, h.2, upS_same]
  · rw [if_neg h, upS_ne h]
theorem cp8_step (τ : mSt) (n : Nat) : upS (upS (upS (upS (cp8 τ n) 256 n (τ 256 (8 + n))) 257 n (τ 257 (8 + n))) 258 n (τ 258 (8 + n))) 259 n (τ 259 (8 + n)) = cp8 τ (n + 1) := by
  funext a b
  rw [upS_if, upS_if, upS_if, upS_if]
  unfold cp8
  by_cases h : b = n
  · subst h
    by_cases a6 : a = 256
    · subst a6; rw [if_neg (by omega), if_neg (by omega), if_neg (by omega), if_pos (by omega), if_pos (by omega)]
    · by_cases a7 : a = 257
      · subst a7; rw [if_neg (by omega), if_neg (by omega), if_pos (by omega), if_pos (by omega)]
      · by_cases a8 : a = 258
        · subst a8; rw [if_neg (by omega), if_pos (by omega), if_pos (by omega)]
        · by_cases a9 : a = 259
          · subst a9; rw [if_pos (by omega), if_pos (by omega)]
          · rw [if_neg (by omega), if_neg (by omega), if_neg (by omega), if_neg (by omega), if_neg (by omega), if_neg (by omega)]
  · rw [if_neg (by omega), if_neg (by omega), if_neg (by omega), if_neg (by omega)]
    by_cases c : 256 ≤ a ∧ a ≤ 259 ∧ b < n
    · rw [if_pos c, if_pos (by omega)]
    · rw [if_neg c, if_neg (by omega)]
theorem cp32_step (τ : mSt) (n : Nat) : upS (upS (cp32 τ n) 260 n (τ 260 (32 + n))) 261 n (τ 261 (32 + n)) = cp32 τ (n + 1) := by
  funext a b
  rw [upS_if, upS_if]
  unfold cp32
  by_cases h : b = n
  · subst h
    by_cases a6 : a = 260
    · subst a6; rw [if_neg (by omega), if_pos (by omega), if_pos (by omega)]
    · by_cases a7 : a = 261
      · subst a7; rw [if_pos (by omega), if_pos (by omega)]
      · rw [if_neg (by omega), if_neg (by omega), if_neg (by omega), if_neg (by omega)]
  · rw [if_neg (by omega), if_neg (by omega)]
    by_cases c : (a = 260 ∨ a = 261) ∧ b < n
    · rw [if_pos c, if_pos (by omega)]
    · rw [if_neg c, if_neg (by omega)]
theorem cp8_ge {τ : mSt} {n a b : Nat} (h : n ≤ b) : cp8 τ n a b = τ a b := by unfold cp8; rw [if_neg (by omega)]
theorem cp32_ge {τ : mSt} {n a b : Nat} (h : n ≤ b) : cp32 τ n a b = τ a b := by unfold cp32; rw [if_neg (by omega)]
theorem cp8_lay {τ : mSt} {n : Nat} (hL : Lay τ) : Lay (cp8 τ n) := hL.frm (W := fun i _ => 256 ≤ i ∧ i ≤ 259) (fun i j z => by unfold cp8; rw [if_neg (fun y => z ⟨y.1, y.2.1⟩)]) (fun i j z => fixR_data (by
  have : i = 256 ∨ i = 257 ∨ i = 258 ∨ i = 259 := by omega
  rcases this with rfl | rfl | rfl | rfl <;> decide) j)
theorem cp32_lay {τ : mSt} {n : Nat} (hL : Lay τ) : Lay (cp32 τ n) := hL.frm (W := fun i _ => i = 260 ∨ i = 261) (fun i j z => by unfold cp32; rw [if_neg (fun y => z y.1)]) (fun i j z => fixR_data (by
  rcases z with rfl | rfl <;> decide) j)
theorem cpL120 {τ : mSt} {a1 : Int} {x : mSt → Option (Int × mSt)} (hL : Lay τ) : ∀ (m n N : Nat), n + m = 8 → m < N → mX12_text_L120 253 a1 x N (n : Int) (cp8 τ n) = x (cp8 τ 8) := by
  intro m
  induction m with
  | zero =>
    intro n N e1 e2
    obtain ⟨N, rfl⟩ : ∃ q, N = q + 1 := ⟨N - 1, by omega⟩
    rw [mX12_text_L120.eq_2, if_pos (by rw [wI_id (x := (n : Int)) (by omega)]; omega), show n = 8 by omega]
  | succ m ih =>
    intro n N e1 e2
    obtain ⟨N, rfl⟩ : ∃ q, N = q + 1 := ⟨N - 1, by omega⟩
    have L0 := lay253 (cp8_lay (n := n) hL)
    have hw1 : wI (n : Int) = (n : Int) := wI_id (x := (n : Int)) (by omega)
    obtain ⟨s1, e1'⟩ : ∃ z, z = upS (cp8 τ n) 256 n (τ 256 (8 + n)) := ⟨_, rfl⟩
    obtain ⟨s2, e2'⟩ : ∃ z, z = upS s1 257 n (τ 257 (8 + n)) := ⟨_, rfl⟩
    obtain ⟨s3, e3'⟩ : ∃ z, z = upS s2 258 n (τ 258 (8 + n)) := ⟨_, rfl⟩
    have r1 : ∀ a, a ≠ 256 → s1 a = cp8 τ n a := fun a h => by rw [e1']; exact upS_row h
    have r2 : ∀ a, a ≠ 256 → a ≠ 257 → s2 a = cp8 τ n a := fun a h h2 => by rw [e2', upS_row h2]; exact r1 a h
    have r3 : ∀ a, a ≠ 256 → a ≠ 257 → a ≠ 258 → s3 a = cp8 τ n a := fun a h h2 h3 => by rw [e3', upS_row h3]; exact r2 a h h2
    have b1 := L0.2.2.1
    have b2 := L0.2.2.2.1
    have b3 := L0.2.2.2.2.1
    have b4 := L0.2.2.2.2.2.1
    rw [mX12_text_L120.eq_2, if_neg (by rw [hw1]; omega), gr' b1 (by omega), gr' b1 (by omega), gx256 _ (by omega), gx256 _ (by omega), show (8 : Int) + (n : Int) = ((8 + n : Nat) : Int) by omega, wI_nat (k := n) (by omega), wI_nat (k := 8 + n) (by omega), bnd_eq, cp8_ge (by omega), ← e1', gr' ((congrFun (r1 253 (by omega)) 14).trans b2) (by omega), gr' ((congrFun (r1 253 (by omega)) 14).trans b2) (by omega), gx257 _ (by omega), gx257 _ (by omega), bnd_eq, congrFun (r1 257 (by omega)) (8 + n), cp8_ge (by omega), ← e2', gr' ((congrFun (r2 253 (by omega) (by omega)) 15).trans b3) (by omega), gr' ((congrFun (r2 253 (by omega) (by omega)) 15).trans b3) (by omega), gx258 _ (by omega), gx258 _ (by omega), bnd_eq, congrFun (r2 258 (by omega) (by omega)) (8 + n), cp8_ge (by omega), ← e3', gr' ((congrFun (r3 253 (by omega) (by omega) (by omega)) 16).trans b4) (by omega), gr' ((congrFun (r3 253 (by omega) (by omega) (by omega)) 16).trans b4) (by omega), gx259 _ (by omega), gx259 _ (by omega), bnd_eq, congrFun (r3 259 (by omega) (by omega) (by omega)) (8 + n), cp8_ge (by omega), bnd_eq, e3', e2', e1', cp8_step, show (n : Int) + 1 = ((n + 1 : Nat) : Int) by omega]
    exact ih (n + 1) N (by omega) (by omega)
theorem cpL194 {τ : mSt} {a1 : Int} {x : mSt → Option (Int × mSt)} (hL : Lay τ) : ∀ (m n N : Nat), n + m = 32 → m < N → mX12_text_L194 253 a1 x N (n : Int) (cp32 τ n) = x (cp32 τ 32) := by
  intro m
  induction m with
  | zero =>
    intro n N e1 e2
    obtain ⟨N, rfl⟩ : ∃ q, N = q + 1 := ⟨N - 1, by omega⟩
    rw [mX12_text_L194.eq_2, if_pos (by rw [wI_id (x := (n : Int)) (by omega)]; omega), show n = 32 by omega]
  | succ m ih =>
    intro n N e1 e2
    obtain ⟨N, rfl⟩ : ∃ q, N = q + 1 := ⟨N - 1, by omega⟩
    have L0 := lay253 (cp32_lay (n := n) hL)
    have hw1 : wI (n : Int) = (n : Int) := wI_id (x := (n : Int)) (by omega)
    obtain ⟨s1, e1'⟩ : ∃ z, z = upS (cp32 τ n) 260 n (τ 260 (32 + n)) := ⟨_, rfl⟩
    have r1 : ∀ a, a ≠ 260 → s1 a = cp32 τ n a := fun a h => by rw [e1']; exact upS_row h
    have b1 := L0.2.2.2.2.2.2.1
    have b2 := L0.2.2.2.2.2.2.2.1
    rw [mX12_text_L194.eq_2, if_neg (by rw [hw1]; omega), gr' b1 (by omega), gr' b1 (by omega), gx260 _ (by omega), gx260 _ (by omega), show (32 : Int) + (n : Int) = ((32 + n : Nat) : Int) by omega, wI_nat (k := n) (by omega), wI_nat (k := 32 + n) (by omega), bnd_eq, cp32_ge (by omega), ← e1', gr' ((congrFun (r1 253 (by omega)) 18).trans b2) (by omega), gr' ((congrFun (r1 253 (by omega)) 18).trans b2) (by omega), gx261 _ (by omega), gx261 _ (by omega), bnd_eq, congrFun (r1 261 (by omega)) (32 + n), cp32_ge (by omega), bnd_eq, e1', cp32_step, show (n : Int) + 1 = ((n + 1 : Nat) : Int) by omega]
    exact ih (n + 1) N (by omega) (by omega)
def plW (i _j : Nat) : Prop := 269 ≤ i ∧ i ≤ 271
def plP (τ : mSt) (k : Nat) : Prop := (∀ r, r < 4 → rowL τ k r = idR 1 r) ∧ τ 270 k = 1 ∧ τ 271 k = 1
theorem plL243 {n : Nat} {a1 : Int} {x : mSt → Option (Int × mSt)} (hn : n ≤ 8) : ∀ (m k N : Nat) (τ : mSt), k + m = n → m < N → Lay τ → τ 255 0 = (n : Int) → (∀ k', k' < k → plP τ k') → ∃ τ', mX12_text_L243 253 a1 x N (k : Int) τ = x τ' ∧ frm plW τ τ' ∧ ∀ k', k' < n → plP τ' k' := by
  intro m
  induction m with
  | zero =>
    intro k N τ e1 e2 hL h0 h
    obtain ⟨N, rfl⟩ : ∃ q, N = q + 1 := ⟨N - 1, by omega⟩
    refine ⟨τ, ?_, frm.rf τ, fun k' hk' => h k' (by omega)⟩
    rw [mX12_text_L243.eq_2, gr' (lay253 hL).2.1 (by omega), gx255 _ (by omega), h0, if_pos (by rw [wI_id (x := (n : Int)) (by omega), wI_id (x := (k : Int)) (by omega)]; omega)]
  | succ m ih =>
    intro k N τ e1 e2 hL h0 h
    obtain ⟨N, rfl⟩ : ∃ q, N = q + 1 := ⟨N - 1, by omega⟩
    have L0 := lay253 hL
    obtain ⟨τ1, e⟩ : ∃ z, z = upS (upS (stP τ k (idR 1) 16) 270 k 1) 271 k 1 := ⟨_, rfl⟩
    have f1 : frm plW τ τ1 := fun i j z => by
      unfold plW at z
      rw [e, upS_ne (by omega), upS_ne (by omega), stP_ne _ _ _ _ _ _ (by omega)]
    have hL1 := hL.frm f1 (fun i j z => fixR_data (by
      unfold plW at z
      have : i = 269 ∨ i = 270 ∨ i = 271 := by omega
      rcases this with rfl | rfl | rfl <;> decide) j)
    obtain ⟨τ2, q1, q2, q3⟩ := ih (k + 1) N τ1 (by omega) (by omega) hL1 (by rw [f1 _ _ (by unfold plW; omega), h0]) (fun k' hk' => by
      by_cases c : k' = k
      · subst c
        refine ⟨fun r hr => ?_, by rw [e, upS_ne (by omega), upS_same], by rw [e, upS_same]⟩
        rw [← rowL_stP τ k' (idR 1) hr, e]
        unfold rowL
        rw [if_neg (by omega), if_neg (by omega), upS_row (by omega), upS_row (by omega)]
      · obtain ⟨p1, p2, p3⟩ := h k' (by omega)
        have o9 : ∀ j, j < 16 → τ1 269 (16 * k' + j) = τ 269 (16 * k' + j) := fun j hj => by
          rw [e, upS_ne (by omega), upS_ne (by omega), stP_out _ _ _ _ _ (by omega)]
        refine ⟨fun r hr => ?_, by rw [e, upS_ne (by omega), upS_ne (by omega), stP_ne _ _ _ _ _ _ (by omega), p2], by rw [e, upS_ne (by omega), upS_ne (by omega), stP_ne _ _ _ _ _ _ (by omega), p3]⟩
        rw [← p1 r hr]
        unfold rowL
        rw [if_neg (by omega), if_neg (by omega)]
        rw [show 16 * k' + 4 * r + 1 = 16 * k' + (4 * r + 1) by omega, show 16 * k' + 4 * r + 2 = 16 * k' + (4 * r + 2) by omega, show 16 * k' + 4 * r + 3 = 16 * k' + (4 * r + 3) by omega, show 16 * k' + 4 * r = 16 * k' + (4 * r) by omega, o9 _ (by omega), o9 _ (by omega), o9 _ (by omega), o9 _ (by omega)])
    refine ⟨τ2, ?_, f1.tr q2 (fun _ _ z => z), q3⟩
    rw [mX12_text_L243.eq_2, gr' L0.2.1 (by omega), gx255 _ (by omega), show (τ 255 0) = (n : Int) from h0, if_neg (by rw [wI_id (x := (n : Int)) (by omega), wI_id (x := (k : Int)) (by omega)]; omega), laysPlain_e L0.2.2.2.2.2.2.2.2.2.2.2.2.2.2.2.1 L0.2.2.2.2.2.2.2.2.2.2.2.2.2.2.2.2.1 L0.2.2.2.2.2.2.2.2.2.2.2.2.2.2.2.2.2.1 (by omega), mCall_some, bnd_eq, ← e]
    exact q1
def fnW (i j : Nat) : Prop := (i = 253 ∧ (j = 11 ∨ j = 21)) ∨ (255 ≤ i ∧ i ≤ 261) ∨ plW i j
theorem fnW_fix {i j : Nat} (h : fnW i j) : fixR i j = false := by
  rcases h with ⟨rfl, rfl | rfl⟩ | h | h
  · decide +kernel
  · decide +kernel
  · refine fixR_data ?_ j
    have : i = 255 ∨ i = 256 ∨ i = 257 ∨ i = 258 ∨ i = 259 ∨ i = 260 ∨ i = 261 := by omega
    rcases this with rfl | rfl | rfl | rfl | rfl | rfl | rfl <;> decide
  · refine fixR_data ?_ j
    unfold plW at h
    have : i = 269 ∨ i = 270 ∨ i = 271 := by omega
    rcases this with rfl | rfl | rfl <;> decide
theorem fin_r {τ : mSt} {m : Nat} {a1 : Int} (hL : Lay τ) (h1 : τ 255 1 = (m : Int)) (hm : m ≤ 8) : ∃ τ', mX12_text_B81 253 a1 1 τ = some ((m : Int), τ') ∧ frm fnW τ τ' ∧ τ' 253 11 = 0 ∧ τ' 253 21 = 0 ∧ τ' 255 0 = (m : Int) ∧ (∀ i k, 256 ≤ i → i ≤ 259 → k < 8 → τ' i k = τ i (8 + k)) ∧ (∀ j, j < 32 → τ' 260 j = τ 260 (32 + j) ∧ τ' 261 j = τ 261 (32 + j)) ∧ ∀ k, k < m → plP τ' k := by
  obtain ⟨τ1, e1⟩ : ∃ z, z = upS (upS τ 253 11 0) 255 0 (m : Int) := ⟨_, rfl⟩
  have f1 : frm fnW τ τ1 := by rw [e1]; exact (frm.one (Or.inl ⟨rfl, by omega⟩)).put (Or.inr (Or.inl (by omega)))
  have hL1 := hL.frm f1 (fun _ _ z => fnW_fix z)
  have c1 := cpL120 (a1 := a1) (x := fun zσ => mX12_text_B192 253 a1 zσ) hL1 8 0 mF (by omega) (by unfold mF; omega)
  have hL2 := cp8_lay (n := 8) hL1
  have c2 := cpL194 (a1 := a1) (x := fun zσ => mX12_text_B236 253 a1 zσ) hL2 32 0 mF (by omega) (by unfold mF; omega)
  have hL3 := cp32_lay (n := 32) hL2
  obtain ⟨τ4, e4⟩ : ∃ z, z = upS (cp32 (cp8 τ1 8) 32) 253 21 0 := ⟨_, rfl⟩
  have hL4 : Lay τ4 := by rw [e4]; exact hL3.up (by decide +kernel)
  have at4 : ∀ i j, i < 256 → ¬ (i = 253 ∧ j = 21) → τ4 i j = τ1 i j := fun i j h h2 => by
    rw [e4, upS_ne h2]
    unfold cp32 cp8
    rw [if_neg (by omega), if_neg (by omega)]
  have h40 : τ4 255 0 = (m : Int) := by rw [at4 _ _ (by omega) (by omega), e1, upS_same]
  obtain ⟨τ5, q1, q2, q3⟩ := plL243 (a1 := a1) (x := fun zσ => mX12_text_B264 253 a1 zσ) hm m 0 mF τ4 (by omega) (by unfold mF; omega) hL4 h40 (fun k' h => by omega)
  have o5 : ∀ i j, i < 269 → τ5 i j = τ4 i j := fun i j h => q2 i j (by unfold plW; omega)
  have hL5 := hL4.frm q2 (fun i j z => fnW_fix (Or.inr (Or.inr z)))
  refine ⟨τ5, ?_, fun i j z => ?_, ?_, ?_, by rw [o5 _ _ (by omega), h40], fun i k z1 z2 z3 => ?_, fun j hj => ⟨?_, ?_⟩, q3⟩
  · unfold mX12_text_B81
    have x12 : (upS τ 253 11 0) 253 12 = ((255 : Nat) : Int) := by rw [upS_ne (by omega)]; exact (lay253 hL).2.1
    have x1 : (upS τ 253 11 0) 255 1 = (m : Int) := by rw [upS_ne (by omega), h1]
    rw [bnd_eq, if_neg (by decide), gr' x12 (by omega), gr' x12 (by omega), gx255 _ (by omega), gx255 _ (by omega), x1, bnd_eq, ← e1]
    have z8 : cp8 τ1 0 = τ1 := by funext a b; unfold cp8; rw [if_neg (by omega)]
    have z32 : cp32 (cp8 τ1 8) 0 = cp8 τ1 8 := by funext a b; unfold cp32; rw [if_neg (by omega)]
    rw [z8] at c1
    rw [z32] at c2
    refine Eq.trans (show _ = _ from c1) ?_
    unfold mX12_text_B192
    refine Eq.trans (show _ = _ from c2) ?_
    unfold mX12_text_B236
    rw [bnd_eq, ← e4]
    refine Eq.trans (show _ = _ from q1) ?_
    unfold mX12_text_B264
    rw [gr' (lay253 hL5).2.1 (by omega), gx255 _ (by omega), o5 _ _ (by omega), h40]
  · unfold fnW plW at z
    rw [q2 _ _ (by unfold plW; omega), e4, upS_ne (by omega)]
    unfold cp32 cp8
    rw [if_neg (by omega), if_neg (by omega)]
    exact f1 _ _ (by unfold fnW plW; omega)
  · rw [o5 _ _ (by omega), at4 _ _ (by omega) (by omega), e1, upS_ne (by omega), upS_same]
  · rw [o5 _ _ (by omega), e4, upS_same]
  · rw [o5 _ _ (by omega), e4, upS_ne (by omega)]
    unfold cp32 cp8
    rw [if_neg (by omega), if_pos (by omega), e1, upS_ne (by omega), upS_ne (by omega)]
  · rw [o5 _ _ (by omega), e4, upS_ne (by omega)]
    unfold cp32 cp8
    rw [if_pos (by omega), if_neg (by omega), e1, upS_ne (by omega), upS_ne (by omega)]
  · rw [o5 _ _ (by omega), e4, upS_ne (by omega)]
    unfold cp32 cp8
    rw [if_pos (by omega), if_neg (by omega), e1, upS_ne (by omega), upS_ne (by omega)]

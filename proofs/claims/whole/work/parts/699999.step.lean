/-! one step of an order, on both sides -/
def cut (F : Nat → V4) : Nat → V4 := fun r => if r < 4 then F r else v0
theorem cut_r (F : Nat → V4) {r : Nat} (h : r < 4) : cut F r = F r := if_pos h
theorem cut_lat (N : Int) (F : Nat → V4) : latS N (cut F) = latS N F := rfl
theorem gdL_cut {N : Int} {F : Nat → V4} (h : gdL N F) : gdL N (cut F) := by
  obtain ⟨⟨h1, h2, h3, h4⟩, h5, h6⟩ := h
  refine ⟨⟨h1, h2, fun r i g1 g2 => ?_, h4⟩, h5, fun d g1 g2 g3 => h6 d g1 g2 (fun i hi => ?_)⟩
  · rw [cut_r F (by omega)]
    exact h3 r i g1 g2
  · have := g3 i hi
    rw [cut_r F hi] at this
    exact this
theorem subL_cut {N : Int} {F : Nat → V4} {S : V4 → Int → Prop} : subL N (cut F) S ↔ subL N F S := by
  constructor
  · intro h r hr
    have := h r hr
    rw [cut_r F hr] at this
    exact this
  · intro h r hr
    rw [cut_r F hr]
    exact h r hr
theorem hull_cut {a b M d N : Int} {E F : Nat → V4} {x : V4} (h : hull a b M E x d N F) : hull a b M E x d N (cut F) := by
  obtain ⟨h1, h2, h3, h4, h5, h6⟩ := h
  exact ⟨gdL_cut h1, h2, h3, h4, h5, fun S s1 s2 s3 s4 => subL_cut.mpr (h6 S s1 s2 s3 s4)⟩
def St (a b M p : Int) (E : Nat → V4) (N : Int) (F : Nat → V4) : Prop := (∃ k, digs p k ∧ gdP a b M p E k ∧ ng a b M p E 4 (pv p k 4) ∧ hull a b M E (pS E k 4) (M * p) N F) ∧ F = cut F
theorem St_uniq {a b M p N K : Int} {E F G : Nat → V4} (hp : 0 < p) (h1 : St a b M p E N F) (h2 : St a b M p E K G) : N = K ∧ F = G := by
  obtain ⟨⟨k, k1, k2, k3, k4⟩, k5⟩ := h1
  obtain ⟨⟨l, l1, l2, l3, l4⟩, l5⟩ := h2
  have e : pv p k 4 = pv p l 4 := by
    have a1 : ¬ pv p l 4 < pv p k 4 := fun z => k3 l l1 z l2
    have a2 : ¬ pv p k 4 < pv p l 4 := fun z => l3 k k1 z k2
    omega
  have e2 := pv_inj hp 4 (by omega) (fun i hi => ⟨k1 i hi, l1 i hi⟩) e
  rw [pS_congr 4 e2] at k4
  obtain ⟨h3, h4⟩ := hull_eq k4 l4
  refine ⟨h3, ?_⟩
  rw [k5, l5]
  funext r
  unfold cut
  by_cases hr : r < 4
  · rw [if_pos hr, if_pos hr, h4 r hr]
  · rw [if_neg hr, if_neg hr]
theorem St_no {a b M p N : Int} {E F : Nat → V4} (h : St a b M p E N F) : ¬ noF a b M p E := fun z => by
  obtain ⟨⟨k, k1, k2, -⟩, -⟩ := h
  exact z k k1 k2
theorem St_ord {a b M p N : Int} {E F : Nat → V4} (h : St a b M p E N F) : Ord a b N F := by
  obtain ⟨⟨k, -, -, -, ⟨⟨k1, k2, k3, k4⟩, k5, k6⟩, k7, k8, -⟩, -⟩ := h
  exact ⟨k1, k2, k5, k6, k7, k8, uni_of k4⟩
theorem St_lot {a b M p N : Int} {E F : Nat → V4} (hp : 0 < p) (hE : Ord a b M E) (h : St a b M p E N F) : 2 * lot M E ≤ lot N F := by
  obtain ⟨⟨k, k1, k2, k3, k4⟩, -⟩ := h
  have ok := (ord_ok hE).1
  have lg := lot_grow ok.1 k4.1.1 k4.2.2.2.1
  refine lot_two (lot_pos ok.1.1 ok.1.2.1 (uni_of ok.1.2.2.2)) (lot_pos k4.1.1.1 k4.1.1.2.1 (uni_of k4.1.1.2.2.2)) lg.1 (fun z => k2.1 ?_)
  exact digs_lat ok.1.1 hp ok.1.2.1 k1 ((subL_lat k4.1.1.1 latS_grp).mp (lg.2 z) _ _ (Int.mul_pos ok.1.1 hp) k4.2.2.2.2.1)
/-- the class' order stands -/
def cO (σ : mSt) (q : Nat) (a b M : Int) (E : Nat → V4) : Prop := Lay σ ∧ (σ (181 + 9 * q) 0 = a ∧ σ (181 + 9 * q) 1 = b ∧ atC σ (182 + 9 * q) M E) ∧ Ord a b M E ∧ ((σ 114 3 = 124 ∧ σ 114 4 = 131) ∨ (σ 114 3 = 131 ∧ σ 114 4 = 124)) ∧ rowV σ 139 = v0
theorem gV_ord {q i j : Nat} (hq : q < 8) (h : gV q i j) : ordW q i j := by
  have f : fixR i j = false := by
    rcases h with h | h
    · exact gW_fix h
    · have : ∀ q, q < 8 → 182 + 9 * q ∈ latIds := by decide
      exact oW_fix (this q hq) h
  have s : sObj i → ordW q i j := fun z => Or.inl ⟨f, Or.inl z⟩
  have n : i = 124 ∨ i = 131 ∨ (126 ≤ i ∧ i ≤ 130) ∨ (133 ≤ i ∧ i ≤ 137) ∨ (140 ≤ i ∧ i ≤ 144) ∨ i = 188 + 9 * q → ordW q i j := fun z => s (by unfold sObj; omega)
  rcases h with ((h | h | h) | h) | h
  · unfold nW oW at h
    exact n (by omega)
  · unfold nW oW at h
    exact n (by omega)
  · exact Or.inr (Or.inr (Or.inr (Or.inr (Or.inr (Or.inr h)))))
  · exact n (by omega)
  · unfold oW at h
    rcases h with h | h
    · by_cases e : i = 188 + 9 * q
      · exact n (by omega)
      · exact Or.inr (Or.inr (Or.inr (Or.inl ⟨by omega, by omega⟩)))
    · exact Or.inr (Or.inr (Or.inl h))
def gU (q i j : Nat) : Prop := gV q i j ∨ (i = 114 ∧ j < 3)
theorem gU_ord {q i j : Nat} (hq : q < 8) (h : gU q i j) : ordW q i j := by
  rcases h with h | ⟨rfl, h⟩
  · exact gV_ord hq h
  · have f : ∀ j, j < 3 → fixR 114 j = false := by decide +kernel
    exact Or.inl ⟨f j h, Or.inr (Or.inr (Or.inl ⟨rfl, h⟩))⟩
theorem cO_fr {σ σ' : mSt} {q : Nat} {a b M N : Int} {E F : Nat → V4} (hq : q < 8) (h : cO σ q a b M E) (hf : frm (gU q) σ σ') (hA : atC σ' (182 + 9 * q) N F) (hO : Ord a b N F) (he : ∃ t n, enL σ' (181 + 9 * q) t n) : cO σ' q a b N F := by
  obtain ⟨h1, ⟨h2, h3, h4⟩, h5, h6, h7⟩ := h
  obtain ⟨t, n, e1, -, -, -, e2, e3, -, -, e4⟩ := he
  refine ⟨e1, ⟨?_, ?_, hA⟩, hO, ?_, ?_⟩
  · rw [hf _ _ (by unfold gU gV gW eW nW oW; omega)]; exact h2
  · rw [hf _ _ (by unfold gU gV gW eW nW oW; omega)]; exact h3
  · rcases e4 with ⟨rfl, rfl⟩ | ⟨rfl, rfl⟩
    · exact Or.inl ⟨e2, e3⟩
    · exact Or.inr ⟨e2, e3⟩
  · rw [← h7]
    unfold rowV
    rw [hf _ _ (by unfold gU gV gW eW nW oW; omega), hf _ _ (by unfold gU gV gW eW nW oW; omega), hf _ _ (by unfold gU gV gW eW nW oW; omega), hf _ _ (by unfold gU gV gW eW nW oW; omega)]
theorem step_c {σ : mSt} {q : Nat} {a b M p : Int} {E : Nat → V4} (hq : q < 8) (ha : a ≠ 0 ∧ -60 ≤ a ∧ a ≤ 60) (hb : b ≠ 0 ∧ -60 ≤ b ∧ b ≤ 60) (hp : 2 ≤ p ∧ p ≤ 60) (h : cO σ q a b M E) : ∃ v σ', mX2_grow 114 (181 + 9 * q) p σ = some (v, σ') ∧ frm (gU q) σ σ' ∧ ((∃ N F, St a b M p E N F ∧ cO σ' q a b N F ∧ v = ((4 * a * b).natAbs : Int) / lot M E / (((4 * a * b).natAbs : Int) / lot N F)) ∨ (v = 0 ∧ noF a b M p E ∧ cO σ' q a b M E)) := by
  have h' := h
  obtain ⟨h1, ⟨h2, h3, h4⟩, h5, h6, h7⟩ := h
  have gc : gC σ q a b M p E := ⟨hq, ha, hb, hp, h2, h3, h4, h5⟩
  obtain ⟨t, n, t1, t2, t3⟩ : ∃ t n : Nat, σ 114 3 = (t : Int) ∧ σ 114 4 = (n : Int) ∧ ((t = 124 ∧ n = 131) ∨ (t = 131 ∧ n = 124)) := by
    rcases h6 with ⟨z1, z2⟩ | ⟨z1, z2⟩
    · exact ⟨124, 131, z1, z2, Or.inl ⟨rfl, rfl⟩⟩
    · exact ⟨131, 124, z1, z2, Or.inr ⟨rfl, rfl⟩⟩
  obtain ⟨v, σ', g1, g2, g3⟩ := grow_e gc h1 t1 t2 t3 h7
  have f0 : frm (gU q) σ (upS (upS (upS σ 114 0 ((181 + 9 * q : Nat) : Int)) 114 1 p) 114 2 (M * p)) := ((frm.one (Or.inr ⟨rfl, by omega⟩)).put (Or.inr ⟨rfl, by omega⟩)).put (Or.inr ⟨rfl, by omega⟩)
  refine ⟨v, σ', g1, ?_⟩
  rcases g3 with ⟨k, N, F, k1, k2, k3, k4, k5, k6, k7, k8⟩ | ⟨k1, k2, k3⟩
  · have f1 : frm (gU q) σ σ' := f0.tr k6 (fun i j z => Or.inl z)
    have st : St a b M p E N (cut F) := ⟨⟨k, k1, k2, k3, hull_cut k4⟩, by funext r; unfold cut; by_cases hr : r < 4 <;> simp [hr]⟩
    exact ⟨f1, Or.inl ⟨N, cut F, st, cO_fr hq h' f1 ⟨k7.1, fun r hr => by rw [cut_r F hr]; exact k7.2 r hr⟩ (St_ord st) k8, k5⟩⟩
  · have f1 : frm (gU q) σ σ' := f0.tr k2 (fun i j z => Or.inl (Or.inl z))
    refine ⟨f1, Or.inr ⟨k1, k3, cO_fr hq h' f1 ?_ h5 g2⟩⟩
    refine atC_congr h4 ?_ (fun r hr j => ?_)
    · rw [k2 _ _ (gW_O (q := q) (by omega) 2), upS_ne (by omega), upS_ne (by omega), upS_ne (by omega)]
    · rw [k2 _ _ (gW_O (q := q) (by omega) j), upS_ne (by omega), upS_ne (by omega), upS_ne (by omega)]
/-- the reference's order stands -/
def rO (τ : mSt) (q : Nat) (a b M : Int) (E : Nat → V4) : Prop := Lay τ ∧ rowL τ q = E ∧ τ 270 q = M ∧ τ 271 q = M ∧ τ 258 q = a ∧ τ 259 q = b ∧ Ord a b M E
theorem rowL_cut (τ : mSt) (q : Nat) : rowL τ q = cut (rowL τ q) := by
  funext r
  unfold cut rowL
  by_cases h : r < 4
  · rw [if_pos h]
  · rw [if_neg h, if_pos (by omega)]
theorem cut_eq {F G : Nat → V4} (hF : F = cut F) (hG : G = cut G) (h : ∀ r, r < 4 → F r = G r) : F = G := by
  rw [hF, hG]
  funext r
  unfold cut
  by_cases hr : r < 4
  · rw [if_pos hr, if_pos hr, h r hr]
  · rw [if_neg hr, if_neg hr]
theorem cut_cut (F : Nat → V4) : cut F = cut (cut F) := by
  funext r
  unfold cut
  by_cases hr : r < 4
  · rw [if_pos hr, if_pos hr]
  · rw [if_neg hr, if_neg hr]
theorem step_r {τ : mSt} {q : Nat} {a b M p : Int} {E : Nat → V4} (hq : q < 8) (ha : a ≠ 0 ∧ -60 ≤ a ∧ a ≤ 60) (hb : b ≠ 0 ∧ -60 ≤ b ∧ b ≤ 60) (hp : 2 ≤ p ∧ p ≤ 60) (h : rO τ q a b M E) : ∃ v τ', mX12_enlargesAt 253 (q : Int) p τ = some (v, τ') ∧ frm (rW q) τ τ' ∧ ((∃ N F, v = 1 ∧ St a b M p E N F ∧ rO τ' q a b N F) ∨ (v = 0 ∧ noF a b M p E ∧ rO τ' q a b M E)) := by
  obtain ⟨h1, h2, h3, h4, h5, h6, h7⟩ := h
  have M7 := (ord_facts ha hb h7).1
  obtain ⟨v, τ', e1, e2, e3⟩ := enlargesAt_e hq ha hb (ord_ok h7).1 (by omega) hp h1 (fun r hr => by rw [h2]) h3 h4 h5 h6
  refine ⟨v, τ', e1, ?_⟩
  rcases e3 with ⟨k0, k1, k, N, F, k2, k3, k4, k5, k6, k7, k8⟩ | ⟨k0, k1, k2⟩
  · have st : St a b M p E N (cut F) := ⟨⟨k, k2, k3, k4, hull_cut k5⟩, cut_cut F⟩
    refine ⟨k1, Or.inl ⟨N, cut F, k0, st, e2, cut_eq (rowL_cut _ _) (cut_cut F) (fun r hr => by rw [k6 r hr, cut_r F hr]), k7, k8, ?_, ?_, St_ord st⟩⟩
    · rw [k1 _ _ (by unfold rW cW; omega)]; exact h5
    · rw [k1 _ _ (by unfold rW cW; omega)]; exact h6
  · refine ⟨k1.mono (fun i j z => Or.inl z), Or.inr ⟨k0, k2, e2, ?_, ?_, ?_, ?_, ?_, h7⟩⟩
    · rw [← h2]
      refine cut_eq (rowL_cut _ _) (rowL_cut _ _) (fun r hr => vg_ext fun c hc => ?_)
      rw [← rowL_at _ q hr hc, ← rowL_at _ q hr hc, k1 _ _ (by unfold cW; omega)]
    · rw [k1 _ _ (by unfold cW; omega)]; exact h3
    · rw [k1 _ _ (by unfold cW; omega)]; exact h4
    · rw [k1 _ _ (by unfold cW; omega)]; exact h5
    · rw [k1 _ _ (by unfold cW; omega)]; exact h6
theorem rW_ord {q i j : Nat} (hq : q < 8) (h : rW q i j) : ordW q i j := by
  have f := rW_fix h
  rcases h with h | h | h
  · refine Or.inl ⟨f, ?_⟩
    rcases h with rfl | rfl | rfl | rfl | h | h
    · exact Or.inl (by unfold sObj; omega)
    · exact Or.inl (by unfold sObj; omega)
    · exact Or.inl (by unfold sObj; omega)
    · exact Or.inl (by unfold sObj; omega)
    · exact Or.inr (by unfold sSlot; omega)
    · exact Or.inr (by unfold sSlot; omega)
  · exact Or.inr (Or.inr (Or.inr (Or.inr (Or.inl h))))
  · exact Or.inr (Or.inr (Or.inr (Or.inr (Or.inr (Or.inl h)))))

/-! two ELEMENTS of one ALGEBRA -/
def kp (σ : mSt) (k : Int) : Prop := 0 ≤ k ∧ k < 8 ∧ σ (165 + 2 * k.toNat) 2 ≠ -1
def pr2 (σ : mSt) (k o : Int) : Prop := kp σ k ∧ kp σ o ∧ σ 262 k.toNat = σ 262 o.toNat
theorem pair_c {σ : mSt} {n : Nat} (hL : Lay σ) (hE : iEls σ n) (hn : n ≤ 8) {k o : Int} (hk : i32 k) (ho : i32 o) : mX11_isPair 0 k o σ = some (b2 (pr2 σ k o), σ) := by
  have hO := hE.own hn
  unfold mX11_isPair mX11_isPair_B41
  refine mR_eq (mR_G (by decide) (mR_callE (kept_c hL hO hk) (mR_if (fun c => ?_) (fun c => ?_))))
  · have := b2n c
    exact mR_ret ⟨(b2_f (fun z => this z.1)).symm, rfl⟩
  have c1 := b2p c
  refine mR_callE (kept_c hL hO ho) (mR_if (fun c => ?_) (fun c => ?_))
  · have := b2n c
    exact mR_ret ⟨(b2_f (fun z => this z.2.1)).symm, rfl⟩
  have c2 := b2p c
  obtain ⟨x1, x2, x3, x4⟩ := el_lay hL k.toNat (by omega)
  obtain ⟨y1, y2, y3, y4⟩ := el_lay hL o.toNat (by omega)
  obtain ⟨al, a1, a2, a3, a4, -⟩ := el_facts hE hn (k := k.toNat) (by omega) c1.2.2
  obtain ⟨bl, b1, b2', b3, b4, -⟩ := el_facts hE hn (k := o.toNat) (by omega) c2.2.2
  refine mR_ref (r := 112) (hL.get 0 6 (by decide +kernel) (by decide +kernel)) (by omega) (mR_G (ixOK_of (n := 8) (by decide) (by omega) (by omega) (by omega)) ?_)
  rw [wI_id hk]
  refine mR_ref x1 (by omega) (mR_G (isC_of x3) (mR_ref (r := 112) (hL.get 0 6 (by decide +kernel) (by decide +kernel)) (by omega) (mR_G (ixOK_of (n := 8) (by decide) (by omega) (by omega) (by omega)) ?_)))
  rw [wI_id ho]
  refine mR_ref y1 (by omega) (mR_G (isC_of y3) ?_)
  rw [a2, b2', wI_id (by omega), wI_id (by omega)]
  refine mR_if (fun z => ?_) (fun z => ?_)
  · exact mR_ret ⟨(b2_t ⟨c1, c2, by rw [a3, b3, z]⟩).symm, rfl⟩
  · exact mR_ret ⟨(b2_f (fun q => z (by rw [← a3, ← b3]; exact q.2.2))).symm, rfl⟩
theorem i62_V {v : V4} (h : i62 v.1 ∧ i62 v.2.1 ∧ i62 v.2.2.1 ∧ i62 v.2.2.2) (σ : mSt) (r : Nat) : ∀ i, i < 4 → i62 (stV σ r v r i) := by
  obtain ⟨h0, h1, h2, h3⟩ := stV_0 σ r v
  intro i hi
  rcases (show i = 0 ∨ i = 1 ∨ i = 2 ∨ i = 3 by omega) with rfl | rfl | rfl | rfl
  · rw [h0]; exact h.1
  · rw [h1]; exact h.2.1
  · rw [h2]; exact h.2.2.1
  · rw [h3]; exact h.2.2.2
/-- four numbers are kept as an ELEMENT: class, then reference -/
theorem keepV {σ : mSt} (h : Inv σ) {k : Nat} (hk : k < 8) {al : Nat} {d sg : Int} {v : V4} (hal : ∀ n : Nat, σ 255 0 = (n : Int) → n ≤ 8 → al < n ∧ σ 257 al = 0) (hf : i62 v.1 ∧ i62 v.2.1 ∧ i62 v.2.2.1 ∧ i62 v.2.2.2) (hd : 0 < d ∧ d < 4611686018427387904) (hsg : sg = 1 ∨ sg = -1) :
    ∃ cc s, mX11_keep 0 (k : Int) (al : Int) d (stV σ 164 v) = some (cc, s) ∧ (cc = 0 ∨ cc = -3) ∧ Lay s ∧ (∀ i, i ≠ 165 + 2 * k → i ≠ 166 + 2 * k → i ≠ 164 → s i = σ i) ∧ ∀ (τ : mSt) (w : V4) (d' : Int), frm scr s τ → v = vS sg w → d = sg * d' → ∃ τ', mCall (mX12_keeps 253 (k : Int) (al : Int) (upS (stV τ 264 w) 264 4 d')) (fun b s => some (b, s)) = some (cc, τ') ∧ Inv τ' := by
  have hs : frm scr σ (stV σ 164 v) := frm.stV (frm.rf σ) (fun j => scr164 (σ := σ) (v := 0))
  obtain ⟨cc, s, e1, ec, hLs, ef, ek⟩ := keep_pair h hs (k := k) hk (al := (al : Int)) (d := d) (sg := sg) (fun n hn hn8 => by
    obtain ⟨a1, a2⟩ := hal n hn hn8
    exact ⟨by omega, by omega, a2⟩) (i62_V hf σ 164) hd hsg
  refine ⟨cc, s, e1, ec, hLs, fun i p1 p2 p3 => funext fun j => ?_, fun τ w d' hτ hw hd' => ?_⟩
  · rw [ef i j (by omega), stV_ne _ _ _ _ _ p3]
  · obtain ⟨τ', e2, hI⟩ := ek (upS (stV τ 264 w) 264 4 d') (frm.put (frm.stV hτ (fun j => scr264)) scr264) (fun i hi => by
      rw [up_ne _ _ _ _ _ _ (by omega), vg_stV _ _ _ hi, vg_stV _ _ _ hi, hw, vg_vS _ _ hi]) (by rw [upS_same]; exact hd')
    exact ⟨τ', by rw [e2]; rfl, hI⟩

/-! left ideals: the class makes one -/
def iW (al i j : Nat) : Prop := jW al i j ∨ (i = 146 ∧ j = 0)
theorem rws_idR {N : Int} {T : V4 → Prop} : rws T (idR N) ↔ ∀ i, i < 4 → T (vS N (vE i)) := Iff.rfl
theorem makeC {σ : mSt} {al k1 : Nat} {a b M d1 d2 a2 : Int} {E : Nat → V4} {u1 u2 : V4} (h : idC σ al a b M E) (hu : elC σ k1 al M E u1 d1) (h0 : vN a b u1 ≠ 0) (ha2 : i32 a2) (h2 : a2 = -1 ∨ ∃ k2 : Nat, a2 = (k2 : Int) ∧ elC σ k2 al M E u2 d2) : ∃ σ' G, mX11_makeIdeal 0 (k1 : Int) a2 σ = some (0, σ') ∧ frm (iW al) σ σ' ∧ ilC σ' al a b M E (ideN a b u1 d1) G ∧ ∀ T, Sub4 T → (rws T G ↔ (rws T (idR (ideN a b u1 d1)) ∧ gT a b E u1 d1 0 T ∧ (a2 ≠ -1 → gT a b E u2 d2 0 T))) := by
  have rn := ideN_rng h hu h0
  have hL := h.1
  have al8 := h.2.1
  obtain ⟨σ1, b1, b2, b3, b4, b5⟩ := lbegin_e h hu h0
  have hu1 := elC_fr hu (fun i j z1 z2 => b2 i j (by unfold jW oW; omega))
  obtain ⟨σ2, G1, c1, c2, c3, c4, c5, c6, c7, c8⟩ := join_e (by omega) b3 hu1 b4 b5 (rOK_id (by omega))
  obtain ⟨l1, l2, l3, l4⟩ := el_lay hL k1 hu.1
  have k4 := (ord_lay hL al8).2.2.2.1
  have ly := fun (τ : mSt) (z : Lay τ) => lay0 z
  have kk := hu.1
  have head : ∀ o, (if wI a2 = (-1) then (some ((0 : Int), σ2)) else mRef (σ2 0 10) fun r33 => mRef (σ2 0 6) fun r35 => mG (ixOK r35 23 a2) <| mRef (σ2 r35 (wI a2).toNat) fun r38 => mCall (mX4_join r33 r38 σ2) fun b40 s41 => some (0, s41)) = o → mX11_makeIdeal 0 (k1 : Int) a2 σ = o := fun o z => by
    unfold mX11_makeIdeal
    rw [gc0, gr' (ly σ hL).2.2.2.2.2.2.2.1 (by omega), gr' (ly σ hL).2.2.2.2.1 (by omega), gr' (ly σ hL).2.2.2.1 (by omega), gx112 _ (by omega), wI_nat (k := k1) (by omega), gr' l1 (by omega), gc l3, hu.2.2.1, gx113 _ (by omega), wI_nat (k := al) (by omega), gr' k4 (by omega), gr' (ly σ hL).2.2.2.1 (by omega), gx112 _ (by omega), gr' l1 (by omega), b1, mCall_some, gr' (ly σ1 b3.1).2.2.2.2.2.2.2.1 (by omega), gr' (ly σ1 b3.1).2.2.2.1 (by omega), gx112 _ (by omega), gr' (el_lay b3.1 k1 kk).1 (by omega), c1, mCall_some]
    exact z
  have f2 : frm (iW al) σ σ2 := b2.tr c2 (fun i j z => Or.inl z)
  rcases h2 with rfl | ⟨k2, rfl, hv⟩
  · refine ⟨σ2, G1, head _ ?_, f2, ⟨c3, c4, c5, c6, c7, by omega⟩, fun T hT => ?_⟩
    · rw [if_pos (by decide)]
    · rw [c8 T hT]
      exact ⟨fun z => ⟨z.1, z.2, fun y => absurd rfl y⟩, fun z => ⟨z.1, z.2.1⟩⟩
  · have kk2 := hv.1
    have hv2 := elC_fr hv (fun i j z1 z2 => f2 i j (by unfold iW jW oW; omega))
    obtain ⟨σ3, G2, e1, e2, e3, e4, e5, e6, e7, e8⟩ := join_e (by omega) c3 hv2 c4 c5 c6
    refine ⟨σ3, G2, head _ ?_, f2.tr e2 (fun i j z => Or.inl z), ⟨e3, e4, e5, e6, e7, by omega⟩, fun T hT => ?_⟩
    · rw [if_neg (by rw [wI_id (x := (k2 : Int)) (by omega)]; omega), gr' (ly σ2 c3.1).2.2.2.2.2.2.2.1 (by omega), gr' (ly σ2 c3.1).2.2.2.1 (by omega), gx112 _ (by omega), wI_nat (k := k2) (by omega), gr' (el_lay c3.1 k2 kk2).1 (by omega), e1, mCall_some]
    · rw [e8 T hT, c8 T hT]
      exact ⟨fun z => ⟨z.1.1, z.1.2, fun _ => z.2⟩, fun z => ⟨⟨z.1, z.2.1⟩, z.2.2 (by omega)⟩⟩

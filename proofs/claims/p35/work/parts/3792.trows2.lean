/-! NAMES, SUMS: further cells of the law -/
def eZ (E : mE) (z : Nat) : mE := (E.1, fun i => if i = 256 then z else eA E i, E.2.2)
theorem mRf_Z {E : mE} {z : Nat} {x : Int} (h : x ≠ 256) : mRf (eZ E z) x = mRf E x := by
  unfold mRf
  by_cases h0 : x = 0
  · rw [if_pos h0, if_pos h0]
  · rw [if_neg h0, if_neg h0]
    show some (if x.toNat = 256 then z else eA E x.toNat) = _
    rw [if_neg (by omega)]
theorem mV_Z {E : mE} {z t : Nat} {x : Int} (h : x ≠ 256) : mV (eZ E z) t x = mV E t x := by
  unfold mV
  split
  · rfl
  · rfl
  · rw [mRf_Z h]
theorem mFs_Z {E : mE} {z : Nat} {f : Nat → Int} (h : ∀ k, f k ≠ 256) : ∀ (ts : List Nat) (k : Nat), mFs (eZ E z) f ts k = mFs E f ts k
  | [], _ => rfl
  | t :: ts, k => by
    simp only [mFs]
    rw [mV_Z (h k), mFs_Z h ts (k + 1)]
theorem mEnt_Z {E : mE} {z : Nat} {f : Nat → Int} {i : Nat} (h : ∀ k, f k ≠ 256) : mEnt (eZ E z) f i = mEnt E f i := by
  unfold mEnt
  rw [mFs_Z h]
  have e : (fun j => mRf (eZ E z) (f j)) = fun j => mRf E (f j) := funext fun j => mRf_Z (h j)
  rw [e]
  rfl
theorem wl_Z {E : mE} {z : Nat} {σ : mSt} (h : ∀ i k, i < 257 → σ i k ≠ 256) : wl (eZ E z) 257 (upR σ 256) = wl E 256 σ ++ [(z, .inl (eT E 0, 5, .inl (fun _ => 0)))] := by
  apply List.ext_getElem?
  intro j
  by_cases hj : j < 256
  · rw [List.getElem?_append_left (by simpa [wl] using hj), wl_get (by omega), wl_get hj]
    have e1 : eA (eZ E z) j = eA E j := by show (if j = 256 then z else eA E j) = _; rw [if_neg (by omega)]
    have e2 : upR σ 256 j = σ j := by funext k; simp [upR]; omega
    rw [e1, e2, mEnt_Z (fun k => h j k (by omega))]
  · by_cases h2 : j = 256
    · subst h2
      rw [wl_get (by decide), List.getElem?_append_right (by simp [wl])]
      have e1 : eA (eZ E z) 256 = z := by show (if 256 = 256 then z else eA E 256) = _; rw [if_pos rfl]
      have e2 : upR σ 256 256 = fun _ => 0 := by funext k; simp [upR]
      have e3 : (256 - (wl E 256 σ).length) = 0 := by simp [wl]
      rw [e1, e2, e3, mEnt_int (by decide +kernel), show (shp 256).2 = 5 by decide +kernel]
      rfl
    · rw [List.getElem?_eq_none (by simp [wl]; omega), List.getElem?_eq_none (by simp [wl]; omega)]
theorem lS.mk {E : mE} {N : Nat} {σ : mSt} {tl : va_W} {s : State} {H : Heap} {locs : List Loc} (h1 : mWords s) (h2 : va_K (eD E) vwCl (mTys E) s) (h3 : mX (aL s) E s s.heap) (h4 : va_P (eD E) vwCl (wl E N σ ++ tl) H) (h5 : va_D (aL s) (wl E N σ ++ tl)) (h6 : va_S (aL s) s.heap H locs) : lS E N σ tl H.size [] s H locs :=
  ⟨h1, h2, h3, by rw [List.append_nil]; exact h4, by rw [List.append_nil]; exact h5, h6, h6.1, Nat.le_refl _, fun q hq => vaat_lt (vaP_mem.mp h4 q hq), fun q hq => absurd hq (List.not_mem_nil)⟩
theorem lS.conv {E : mE} {σ : mSt} {tl : va_W} {lo z : Nat} {s : State} {H : Heap} {locs : List Loc} (h : lS E 256 σ (tl ++ [(z, .inl (eT E 0, 5, .inl (fun _ => 0)))]) lo [] s H locs) (h256 : ∀ i k, i < 257 → σ i k ≠ 256) : lS (eZ E z) 257 (upR σ 256) tl H.size [] s H locs := by
  obtain ⟨h1, h2, h3, h4, h5, h6, h7, h8, h9, h10⟩ := h
  rw [List.append_nil] at h4 h5
  have hp : List.Perm (wl (eZ E z) 257 (upR σ 256) ++ tl) (wl E 256 σ ++ (tl ++ [(z, .inl (eT E 0, 5, .inl (fun _ => 0)))])) := by
    rw [wl_Z h256, List.append_assoc]
    exact (List.perm_append_comm).append_left _
  have h5' := vaD_pair.mp h5
  refine lS.mk h1 h2 h3 (vaP_mem.mpr (fun q hq => vaP_mem.mp h4 q (hp.subset hq))) (vaD_pair.mpr ⟨?_, fun q hq => h5'.2 q (hp.subset hq)⟩) h6
  exact (hp.pairwise_iff (fun {a b} hab => Ne.symm hab)).mpr h5'.1
theorem lS_tl {E : mE} {N : Nat} {σ : mSt} {tl ws : va_W} {j : Nat} {q : Nat × va_E} (h : tl[j]? = some q) : (wl E N σ ++ tl ++ ws)[N + j]? = some q := by
  have hj := (List.getElem?_eq_some_iff.mp h).1
  rw [List.append_assoc, List.getElem?_append_right (by simp [wl]), show N + j - (wl E N σ).length = j by simp [wl], List.getElem?_append_left hj]
  exact h
section TR2
variable {p : Program} {l : Launch} {e : Env} {R : Room} {s : State} {m : MethodId} {args : Array Value} {below : List Frame} {meth : Method} {c : Code} {H : Heap} {locs : List Loc} {cells slots : Nat} {Q : State → Prop}
variable {cc : ByteArray} {pc np nL : Nat} {ls : Array Slot} {rest st : List Value} {own : String} {E : mE} {N : Nat} {σ : mSt} {tl : va_W} {lo : Nat} {ws : va_W}
theorem l_newI (G : CallFix p m c cc nL s args mTs own) (hS : lS E N σ tl lo [] s H locs) (hcells : cells + 1 ≤ R.cells) (hslots : slots + 5 ≤ R.slots) (d : decode cc pc = .ok (.newarray .int, 2)) (hn : pc + 2 = np)
    (kk : ∀ (z : Nat) (H1 : Heap), lS E N σ (tl ++ [(z, .inl (eT E 0, 5, .inl (fun _ => 0)))]) H1.size [] s H1 locs → W p l e R s m args below meth c H1 locs (cells + 1) (slots + 5) Q (F0 m np ls (.ref z :: rest))) : W p l e R s m args below meth c H locs cells slots Q (F0 m pc ls (vI 5 :: rest)) := by
  subst hn
  obtain ⟨h1, h2, h3, h4, h5, h6, h7, h8, h9, h10⟩ := hS
  rw [List.append_nil] at h4 h5
  refine va_newa (atype := .int) (ty := .int) (a0 := (5, .inl fun _ => 0)) (N' := 5) G.1 G.2.1 (G.2.2.2.2 _ w_ac_int) rfl h2 h4 h5 h6 (fun q h => h) (fun cA => rfl) (by decide) (by decide) (by decide) hcells hslots d (fun q cA H1 hK hP hD hS => ?_)
  have hcA : cA = eT E 0 := by
    have h1 := (h2.2 0 _ (show (mTys E)[0]? = some (eT E 0, .int) from rfl)).2
    have h9 := (hK.2 9 _ (show (mTys E ++ [(cA, .int)])[9]? = some (cA, .int) from rfl)).2
    exact Option.some.inj (h9.symm.trans h1)
  subst hcA
  rw [List.append_assoc] at hP hD
  exact kk q H1 (lS.mk h1 h2 h3 hP hD hS)
theorem l_newS (G : CallFix p m c cc nL s args mTs own) (hS : lS E N σ tl lo [] s H locs) {ix : Nat} (hcl : Cond.classLink own ix "java/lang/String" ∈ mTs) (hw : Cond.arrayOver (.object "java/lang/String") ∈ mTs) (hcells : cells + 1 ≤ R.cells) (hslots : slots + 5 ≤ R.slots) (d : decode cc pc = .ok (.anewarray ix, 3)) (hn : pc + 3 = np)
    (kk : ∀ (z : Nat) (H1 : Heap), lS E N σ (tl ++ [(z, .inl (eT E 8, 5, .inr (.inr (.inr (.inr (fun _ => none))))))]) H1.size [] s H1 locs → W p l e R s m args below meth c H1 locs (cells + 1) (slots + 5) Q (F0 m np ls (.ref z :: rest))) : W p l e R s m args below meth c H locs cells slots Q (F0 m pc ls (vI 5 :: rest)) := by
  subst hn
  obtain ⟨h1, h2, h3, h4, h5, h6, h7, h8, h9, h10⟩ := hS
  rw [List.append_nil] at h4 h5
  have hN : (Int32.ofInt (5 : Int)).toNatClampNeg = 5 := by decide
  refine W.anew G.1 G.2.1 G.2.2.2.1 (G.2.2.2.2 _ hcl) (G.2.2.2.2 _ hw) rfl d rfl (by decide) (by decide) hcells (by rw [hN]; exact hslots) fun cA kA comp f1 f2 f3 f4 => ?_
  rw [hN]
  generalize hH1 : H.push ({ cls := cA, slots := Array.replicate 5 .null, vm := .none } : Cell) = H1
  have z1 : H1.size = H.size + 1 := by rw [← hH1, Array.size_push]
  have e1 : H1[H.size]? = some (arrV cA 5 (fun _ => .null)) := by rw [← hH1, Array.getElem?_push_size, ← arrV_new]
  have o1 : ∀ q : Nat, q < H.size → H1[q]? = H[q]? := fun q hq => by rw [← hH1, Array.getElem?_push, if_neg (Nat.ne_of_lt hq)]
  have hcA : cA = eT E 8 := by
    obtain ⟨kA', comp', g1, g2, g3, g4⟩ := (h2.2 8 _ (show (mTys E)[8]? = some (eT E 8, .object "java/lang/String") from rfl)).2
    exact Option.some.inj (f1.symm.trans g4)
  have h5' := vaD_pair.mp h5
  have hlt : ∀ q ∈ wl E N σ ++ tl, q.1 < H.size := fun q hq => vaat_lt (vaP_mem.mp h4 q hq)
  refine kk H.size H1 (lS.mk h1 h2 h3 ?_ ?_ ⟨Nat.le_trans h6.1 (by omega), fun x g1 g2 => (o1 x (Nat.lt_of_lt_of_le g1 h6.1)).trans (h6.2.1 x g1 g2), h6.2.2⟩)
  · rw [← List.append_assoc]
    refine vaP_mem.mpr (fun q hq => ?_)
    rcases List.mem_append.mp hq with hq | hq
    · exact vaP_mem.mp (h4.kept (fun k x hx => o1 x.1 ((h4 k x hx).lt))) q hq
    · rw [List.mem_singleton.mp hq]
      show H1[H.size]? = some (vp_cell _ _)
      rw [vp_cell_q, ← hcA]
      exact e1
  · rw [← List.append_assoc]
    refine vaD_pair.mpr ⟨List.pairwise_append.mpr ⟨h5'.1, List.pairwise_singleton _ _, fun x hx y hy => ?_⟩, fun q hq => ?_⟩
    · rw [List.mem_singleton.mp hy]
      exact Nat.ne_of_lt (hlt x hx)
    · rcases List.mem_append.mp hq with hq | hq
      · exact h5'.2 q hq
      · rw [List.mem_singleton.mp hq]
        exact h6.1
theorem l_aast (G : CallFix p m c cc nL s args mTs own) (hS : lS E N σ tl lo [] s H locs) (j : Nat) {nm : Nat} {f : Nat → Option Nat} (hj : tl[j]? = some (nm, .inl (eT E 8, 5, .inr (.inr (.inr (.inr f)))))) {i : Nat} (hi : i < 17) {y : Int} (hy : 0 ≤ wI y ∧ wI y < ((5 : Nat) : Int)) (d : decode cc pc = .ok (.aastore, 1)) (hn : pc + 1 = np)
    (kk : ∀ (H1 : Heap) (locs1 : List Loc), lS E N σ (tl.set j (nm, .inl (eT E 8, 5, .inr (.inr (.inr (.inr (va_up f (wI y).toNat (some (eK E i))))))))) H1.size [] s H1 locs1 → W p l e R s m args below meth c H1 locs1 cells slots Q (F0 m np ls rest)) : W p l e R s m args below meth c H locs cells slots Q (F0 m pc ls (.ref (eK E i) :: vI y :: .ref nm :: rest)) := by
  subst hn
  obtain ⟨h1, h2, h3, h4, h5, h6, h7, h8, h9, h10⟩ := hS
  have hat : (wl E N σ ++ tl)[N + j]? = some (nm, .inl (eT E 8, 5, .inr (.inr (.inr (.inr f))))) := by have := lS_tl (E := E) (N := N) (σ := σ) (ws := []) hj; rwa [List.append_nil] at this
  rw [List.append_nil] at h4 h5
  have hany : va_Any "java/lang/String" s H (eK E i) := by
    obtain ⟨cell, g1, g2, g3, -⟩ := (h3.1.1 i hi).1.kept h6.2.1
    obtain ⟨kC, hkC, -⟩ := Vm.findClass_spec g3
    exact ⟨cell, g1, g2, ⟨kC, hkC⟩, fun comp h => by rw [Option.some.inj (h.symm.trans g3)]; exact va_asg _ _⟩
  refine va_astqM G.1 G.2.1 h2 h4 h5 h6 (N + j) 8 hat (show (mTys E)[8]? = some (eT E 8, .object "java/lang/String") from rfl) hany (vp_in_iff.mpr hy) d (fun H1 locs1 hP hD hS => ?_)
  have e1 : (wl E N σ ++ tl).set (N + j) (nm, .inl (eT E 8, 5, .inr (.inr (.inr (.inr (va_up f (Int32.ofInt y).toNatClampNeg (some (eK E i)))))))) = wl E N σ ++ tl.set j (nm, .inl (eT E 8, 5, .inr (.inr (.inr (.inr (va_up f (wI y).toNat (some (eK E i)))))))) := by
    rw [List.set_append_right _ _ (by simp [wl]), show N + j - (wl E N σ).length = j by simp [wl]]
    rfl
  rw [e1] at hP hD
  exact kk H1 locs1 (lS.mk h1 h2 h3 hP hD hS)
theorem l_aald (G : CallFix p m c cc nL s args mTs own) (hS : lS E N σ tl lo ws s H locs) (j : Nat) {nm : Nat} {f : Nat → Option Nat} (hj : tl[j]? = some (nm, .inl (eT E 8, 5, .inr (.inr (.inr (.inr f)))))) {y : Int} (hy : 0 ≤ wI y ∧ wI y < ((5 : Nat) : Int)) {q : Nat} (hq : f (wI y).toNat = some q) (d : decode cc pc = .ok (.aaload, 1)) (hn : pc + 1 = np)
    (kk : W p l e R s m args below meth c H locs cells slots Q (F0 m np ls (.ref q :: rest))) : W p l e R s m args below meth c H locs cells slots Q (F0 m pc ls (vI y :: .ref nm :: rest)) := by
  subst hn
  refine va_aldq G.1 G.2.1 hS.2.1 hS.2.2.2.1 (N + j) 8 (lS_tl hj) (show (mTys E)[8]? = some (eT E 8, .object "java/lang/String") from rfl) (vp_in_iff.mpr hy) d ?_
  rw [show (Int32.ofInt y).toNatClampNeg = (wI y).toNat from rfl, hq]
  exact kk
end TR2

/-! MAKING: objects are made in the order of their numbers, one behind the other in the heap -/
def upR (σ : mSt) (N : Nat) : mSt := fun a b => if a = N then 0 else σ a b
def upM (σ : mSt) (N n : Nat) : mSt := fun a b => if a = N then (if b < n then ((N + 1 + b : Nat) : Int) else 0) else if N < a ∧ a ≤ N + n then 0 else σ a b
theorem upR_old {σ : mSt} {N j : Nat} (h : j ≠ N) : upR σ N j = σ j := by
  funext b; simp [upR, h]
theorem upR_new (σ : mSt) (N : Nat) : upR σ N N = fun _ => 0 := by
  funext b; simp [upR]
theorem wl_ext {E : mE} {N : Nat} {σ σ' : mSt} (h : ∀ j, j < N → σ' j = σ j) : wl E N σ' = wl E N σ := by
  unfold wl
  apply List.map_congr_left
  intro i hi
  rw [h i (List.mem_range.mp hi)]
theorem wl_push {E : mE} {N : Nat} {σ σ' : mSt} (h : ∀ j, j < N → σ' j = σ j) : wl E (N + 1) σ' = wl E N σ ++ [(eA E N, mEnt E (σ' N) N)] := by
  have e : wl E (N + 1) σ' = wl E N σ' ++ [(eA E N, mEnt E (σ' N) N)] := by
    unfold wl
    rw [List.range_succ, List.map_append]
    rfl
  rw [e, wl_ext h]
theorem wl_Dat {E : mE} {N : Nat} {σ : mSt} {A : Nat → Prop} (hE : ∀ i, eA E i = eA E 0 + i) (hA : ∀ i, i < N → A (eA E i)) : va_D A (wl E N σ) := by
  refine ⟨fun i j p q hi hj hpq => ?_, fun k q hk => ?_⟩
  · obtain ⟨-, rfl⟩ := wl_at hi
    obtain ⟨-, rfl⟩ := wl_at hj
    have h : eA E i = eA E j := hpq
    rw [hE i, hE j] at h
    omega
  · obtain ⟨h1, rfl⟩ := wl_at hk
    exact hA k h1
def mNew (ci n : Nat) (C : String) (T : u_T) (ty : Nat → FieldType) : Prop := vwCl[ci]? = some (C, T, n) ∧ (∀ w ∈ u_ws C T n, w ∈ mTs) ∧ (∀ k, k < n → parseFieldDescriptor (T k).2.2.1 = some (ty k)) ∧ ci < 12 ∧ (∀ (E : mE) (j : Nat), j < n → defaultValue (ty j) = vp_V (mFs E (fun _ => 0) (mFt ci) 0) j)
def zarr (t n : Nat) : vp_A := if t = 1 then (n, .inr (.inl fun _ => 0)) else (n, .inl fun _ => 0)
section MI
variable {p : Program} {l : Launch} {e : Env} {R : Room} {s : State} {m : MethodId} {args : Array Value} {below : List Frame} {meth : Method} {c : Code} {H : Heap} {locs : List Loc} {cells slots : Nat} {Q : State → Prop}
variable {cc : ByteArray} {pc np nL : Nat} {ls : Array Slot} {rest st : List Value} {own : String} {A : Nat → Prop} {E : mE} {σ : mSt} {N : Nat}
theorem mM_push (hM : mM A E N σ s H locs) (hz : H.size = eA E N) (hE : ∀ i, eA E i = eA E 0 + i) (hA : ∀ q, s.heap.size ≤ q → A q) {H1 : Heap} {σ2 : mSt} (hσ : ∀ j, j < N → σ2 j = σ j) (z1 : H1.size = H.size + 1) (o1 : ∀ q, q < H.size → H1[q]? = H[q]?) (e1 : va_at (eD E) vwCl (eA E N, mEnt E (σ2 N) N) H1) : mM A E (N + 1) σ2 s H1 locs := by
  obtain ⟨m1, m2, m3, m4, m5, m6⟩ := hM
  refine ⟨m1, m2, m3, ?_, wl_Dat hE (fun i hi => ?_), Nat.le_trans m6.1 (by omega), fun x h1 h2 => (o1 x (Nat.lt_of_lt_of_le h1 m6.1)).trans (m6.2.1 x h1 h2), m6.2.2⟩
  · rw [wl_push hσ]
    refine va_P.app (m4.kept (fun k x hx => o1 x.1 ((m4 k x hx).lt))) (fun k x hx => ?_)
    have hz : k < 1 := (List.getElem?_eq_some_iff.mp hx).1
    rw [show k = 0 by omega] at hx
    cases hx
    exact e1
  · by_cases h : i < N
    · exact m5.2 i _ (wl_get h)
    · refine hA _ (Nat.le_trans m6.1 ?_)
      rw [hz, show i = N by omega]
      exact Nat.le_refl _
theorem r_newO (G : CallFix p m c cc nL s args mTs own) (hM : mM A E N σ s H locs) (hz : H.size = eA E N) (hE : ∀ i, eA E i = eA E 0 + i) (hA : ∀ q, s.heap.size ≤ q → A q) {ci n ix : Nat} {C : String} {T : u_T} {ty : Nat → FieldType} (hF : mNew ci n C T ty) (hsh : shp N = (ci, 0)) (hcl : Cond.classLink own ix C ∈ mTs) (hinst : Cond.instantiable C n ∈ mTs) (hini : Cond.initialized C ∈ mTs) (hcells : cells + 1 ≤ R.cells) (hslots : slots + n ≤ R.slots) (σ2 : mSt) (hσ : σ2 = upR σ N) (d : decode cc pc = .ok (.new ix, 3)) (hn : pc + 3 = np)
    (kk : ∀ H1 : Heap, mM A E (N + 1) σ2 s H1 locs → H1.size = eA E (N + 1) → W p l e R s m args below meth c H1 locs (cells + 1) (slots + n) Q (F0 m np ls (.ref (eA E N) :: rest))) : W p l e R s m args below meth c H locs cells slots Q (F0 m pc ls rest) := by
  subst hn
  obtain ⟨f1, f2, f3, f4, f5⟩ := hF
  have hKn := hM.2.1.1 ci _ f1
  refine W.newcK G.1 G.2.1 G.2.2.2.1 (G.2.2.2.2 _ hcl) (G.2.2.2.2 _ hinst) (G.2.2.2.2 _ hini) rfl d hcells hslots hKn.2.1 hz fun H1 kC hkC e1 z1 o1 => ?_
  refine kk H1 (mM_push hM hz hE hA (fun j hj => by rw [hσ]; exact upR_old (by omega)) (by rw [z1, hz]) (fun q hq => o1 q (by rw [← hz]; exact hq)) ?_) (by rw [z1, hE (N + 1), hE N]; omega)
  rw [hσ, upR_new, mEnt_obj (by rw [hsh]) f4]
  exact ⟨_, f1, (u_born ty G.2.2.2.2 f2 hKn hkC e1 f3).to (fun j hj => f5 E j hj)⟩
theorem r_newP (G : CallFix p m c cc nL s args mTs own) (hM : mM A E N σ s H locs) (hz : H.size = eA E N) (hE : ∀ i, eA E i = eA E 0 + i) (hA : ∀ q, s.heap.size ≤ q → A q) {at0 : ArrayType} {t : Nat} {x : Int} {n : Nat} (hx : x = (n : Int)) (hn31 : n < 2147483648) (ht : t < 3) (hT : (mTys E)[t]? = some (eT E t, newarray.typeOf at0)) (hne : ∀ C, newarray.typeOf at0 ≠ .object C) (hsh : shp N = (20 + t, n)) (hw : Cond.arrayClass (newarray.typeOf at0) ∈ mTs) (hbytes : n * componentBytes (newarray.typeOf at0) ≤ 536870912)
    (hcell : ∀ E : mE, vp_cell (eT E t) (zarr t n) = arrV (eT E t) n (fun _ => defaultValue (newarray.typeOf at0)))
    (hcells : cells + 1 ≤ R.cells) (hslots : slots + n ≤ R.slots) (σ2 : mSt) (hσ : σ2 = upR σ N) (d : decode cc pc = .ok (.newarray at0, 2)) (hn : pc + 2 = np)
    (kk : ∀ H1 : Heap, mM A E (N + 1) σ2 s H1 locs → H1.size = eA E (N + 1) → W p l e R s m args below meth c H1 locs (cells + 1) (slots + n) Q (F0 m np ls (.ref (eA E N) :: rest))) : W p l e R s m args below meth c H locs cells slots Q (F0 m pc ls (vI x :: rest)) := by
  subst hn
  subst hx
  have hw1 : wI (n : Int) = (n : Int) := wI_eq (by omega) (by omega)
  have hnn : ¬ Int32.ofInt (n : Int) < 0 := by
    intro q
    have h2 : wI (n : Int) < 0 := Int32.lt_iff_toInt_lt.mp q
    omega
  have hN : (Int32.ofInt (n : Int)).toNatClampNeg = n := by
    show (wI (n : Int)).toNat = n
    rw [hw1]
    simp
  refine va_newaK G.1 G.2.1 (G.2.2.2.2 _ hw) rfl d rfl hnn hN hbytes hcells hslots hz fun H1 cA e1 z1 o1 hAr hNm => ?_
  have hcA : cA = eT E t := by
    have h1 := (hM.2.1.2 t _ hT).2
    have h2 : s.vm.findClass ("[" ++ (newarray.typeOf at0).toString) = some (eT E t) := by
      revert h1
      generalize newarray.typeOf at0 = ty at hne
      intro h1
      cases ty <;> first | exact h1 | exact absurd rfl (hne _)
    exact Option.some.inj (hNm.symm.trans h2)
  refine kk H1 (mM_push hM hz hE hA (fun j hj => by rw [hσ]; exact upR_old (by omega)) (by rw [z1, hz]) (fun q hq => o1 q (by rw [← hz]; exact hq)) ?_) (by rw [z1, hE (N + 1), hE N]; omega)
  rw [hσ, upR_new]
  have hent : mEnt E (fun _ => 0) N = .inl (eT E t, (zarr t n)) := by
    rcases (by omega : t = 0 ∨ t = 1 ∨ t = 2) with rfl | rfl | rfl
    · rw [mEnt_int (by rw [hsh]), hsh]; rfl
    · rw [mEnt_long (by rw [hsh]), hsh]; rfl
    · rw [mEnt_byte (by rw [hsh]), hsh]; rfl
  rw [hent]
  show H1[eA E N]? = some (vp_cell _ _)
  rw [hcell E, ← hcA]
  exact e1
theorem r_newQ (G : CallFix p m c cc nL s args mTs own) (hM : mM A E N σ s H locs) (hz : H.size = eA E N) (hE : ∀ i, eA E i = eA E 0 + i) (hA : ∀ q, s.heap.size ≤ q → A q) {t n ix : Nat} {x : Int} {C : String} (hx : x = (n : Int)) (hn31 : n < 2147483648) (ht : 3 ≤ t) (hT : (mTys E)[t]? = some (eT E t, .object C)) (hsh : shp N = (20 + t, n)) (hcl : Cond.classLink own ix C ∈ mTs) (hw : Cond.arrayOver (.object C) ∈ mTs) (hbytes : n * 4 ≤ 536870912)
    (hcells : cells + 1 ≤ R.cells) (hslots : slots + n ≤ R.slots) (σ2 : mSt) (hσ : σ2 = upR σ N) (d : decode cc pc = .ok (.anewarray ix, 3)) (hn : pc + 3 = np)
    (kk : ∀ H1 : Heap, mM A E (N + 1) σ2 s H1 locs → H1.size = eA E (N + 1) → W p l e R s m args below meth c H1 locs (cells + 1) (slots + n) Q (F0 m np ls (.ref (eA E N) :: rest))) : W p l e R s m args below meth c H locs cells slots Q (F0 m pc ls (vI x :: rest)) := by
  subst hn
  subst hx
  have hw1 : wI (n : Int) = (n : Int) := wI_eq (by omega) (by omega)
  have hnn : ¬ Int32.ofInt (n : Int) < 0 := by
    intro q
    have h2 : wI (n : Int) < 0 := Int32.lt_iff_toInt_lt.mp q
    omega
  have hN : (Int32.ofInt (n : Int)).toNatClampNeg = n := by
    show (wI (n : Int)).toNat = n
    rw [hw1]
    simp
  refine W.anew G.1 G.2.1 G.2.2.2.1 (G.2.2.2.2 _ hcl) (G.2.2.2.2 _ hw) rfl d rfl hnn (by rw [hN]; exact hbytes) hcells (by rw [hN]; exact hslots) fun cA kA comp f1 f2 f3 f4 => ?_
  rw [hN]
  generalize hH1 : H.push ({ cls := cA, slots := Array.replicate n .null, vm := .none } : Cell) = H1
  have z1 : H1.size = H.size + 1 := by rw [← hH1, Array.size_push]
  have e1 : H1[H.size]? = some (arrV cA n (fun _ => .null)) := by rw [← hH1, Array.getElem?_push_size, ← arrV_new]
  have o1 : ∀ q : Nat, q < H.size → H1[q]? = H[q]? := fun q hq => by rw [← hH1, Array.getElem?_push, if_neg (Nat.ne_of_lt hq)]
  have hcA : cA = eT E t := by
    obtain ⟨kA', comp', g1, g2, g3, g4⟩ := (hM.2.1.2 t _ hT).2
    exact Option.some.inj (f1.symm.trans g4)
  have res := kk H1 (mM_push hM hz hE hA (fun j hj => by rw [hσ]; exact upR_old (by omega)) z1 o1 (by
    rw [hσ, upR_new, mEnt_refs (by rw [hsh]) ht, hsh]
    show H1[eA E N]? = some (vp_cell _ _)
    rw [vp_cell_q, ← hz, ← hcA]
    exact e1)) (by rw [z1, hz, hE (N + 1), hE N]; omega)
  rw [hz]
  exact res
theorem r_newM (G : CallFix p m c cc nL s args mTs own) (hM : mM A E N σ s H locs) (hz : H.size = eA E N) (hE : ∀ i, eA E i = eA E 0 + i) (hA : ∀ q, s.heap.size ≤ q → A q) {t t1 n k ix : Nat} {x y : Int} {ty : FieldType} (hx : x = (n : Int)) (hy : y = (k : Int)) (hn31 : n < 1000) (hk31 : k < 1000) (ht : 5 ≤ t) (ht1 : t1 < 3) (hT : (mTys E)[t]? = some (eT E t, .array ty)) (hT1 : (mTys E)[t1]? = some (eT E t1, ty)) (hne : ∀ C, ty ≠ .object C) (hsh : shp N = (20 + t, n)) (hsh1 : ∀ j, j < n → shp (N + 1 + j) = (20 + t1, k)) (hcl : Cond.classLink own ix ("[" ++ (FieldType.array ty).toString) ∈ mTs) (hw : Cond.arrayOver (.array ty) ∈ mTs) (hw1 : Cond.arrayClass ty ∈ mTs) (hcb : componentBytes ty ≤ 8) (hdf : fits ty (defaultValue ty) = true) (hdd : (defaultValue ty).isDefault = true)
    (hcell : ∀ E : mE, vp_cell (eT E t1) (zarr t1 k) = arrV (eT E t1) k (fun _ => defaultValue ty))
    (hcells : cells + (1 + n) ≤ R.cells) (hslots : slots + (n + n * k) ≤ R.slots) (σ2 : mSt) (hσ : σ2 = upM σ N n) (d : decode cc pc = .ok (.multianewarray ix 2, 4)) (hn : pc + 4 = np)
    (kk : ∀ H1 : Heap, mM A E (N + 1 + n) σ2 s H1 locs → H1.size = eA E (N + 1 + n) → W p l e R s m args below meth c H1 locs (cells + 1 + n) (slots + n + n * k) Q (F0 m np ls (.ref (eA E N) :: rest))) : W p l e R s m args below meth c H locs cells slots Q (F0 m pc ls (vI y :: vI x :: rest)) := by
  subst hn
  subst hx
  subst hy
  have nn : ∀ z : Nat, z < 1000 → ¬ Int32.ofInt (z : Int) < 0 ∧ (Int32.ofInt (z : Int)).toNatClampNeg = z := by
    intro z hz
    have h1 : wI (z : Int) = (z : Int) := wI_eq (by omega) (by omega)
    refine ⟨fun q => ?_, ?_⟩
    · have h2 : wI (z : Int) < 0 := Int32.lt_iff_toInt_lt.mp q
      omega
    · show (wI (z : Int)).toNat = z
      rw [h1]
      simp
  intro T hTh X
  have hb2 : k * componentBytes ty ≤ 536870912 := Nat.le_trans (Nat.mul_le_mul (Nat.le_of_lt hk31) hcb) (by decide)
  obtain ⟨vm₁, cA, comp, -, fA, fC, -, -, X', step⟩ := X.multianewarray2F G.1 G.2.2.2.1 (G.2.2.2.2 _ hcl) (G.2.2.2.2 _ hw) (G.2.2.2.2 _ hw1) (g := F0 m pc ls (vI k :: vI n :: rest)) rfl (by rw [G.2.1]; exact d) rfl (nn n hn31).1 (nn k hk31).1 (by rw [(nn n hn31).2]; omega) (by rw [(nn k hk31).2]; exact hb2) (by rw [(nn k hk31).2]; omega) hdf hdd (by rw [(nn n hn31).2]; exact hcells) (by rw [(nn n hn31).2, (nn k hk31).2]; exact hslots)
  rw [(nn n hn31).2, (nn k hk31).2] at X' step
  generalize hF : Jvm.Free.Multi.fill (T.setVm vm₁) cA comp n k (defaultValue ty) n = F at X' step
  have hTH : (T.setVm vm₁).heap = H := hTh
  obtain ⟨f1, f2, -, -⟩ := Jvm.Free.Multi.fill_facts (T.setVm vm₁) cA comp n k (defaultValue ty) n
  rw [hF, hTH] at f1 f2
  have hold : ∀ x : Nat, x < H.size → F.heap[x]? = H[x]? := fun x hx => by
    have := Jvm.Free.Multi.fill_old (T.setVm vm₁) cA comp n k (defaultValue ty) (a := x) (by rw [hTH]; exact hx) n
    rw [hF, hTH] at this
    exact this
  have hrow : ∀ j : Nat, j < n → F.heap[H.size + 1 + j]? = some (Jvm.Free.Multi.innerC comp k (defaultValue ty)) := fun j hj => by
    have := Jvm.Free.Multi.fill_inner (T.setVm vm₁) cA comp n k (defaultValue ty) n j hj
    rw [hF, hTH] at this
    exact this
  have hcA : cA = eT E t := by
    have h1 : s.vm.findClass ("[" ++ (FieldType.array ty).toString) = some (eT E t) := (hM.2.1.2 t _ hT).2
    exact Option.some.inj (fA.symm.trans h1)
  have hcomp : comp = eT E t1 := by
    have h1 := (hM.2.1.2 t1 _ hT1).2
    have h2 : s.vm.findClass ("[" ++ ty.toString) = some (eT E t1) := by
      revert h1
      cases ty <;> intro h1 <;> first | exact h1 | exact absurd rfl (hne _)
    exact Option.some.inj (fC.symm.trans h2)
  have hent1 : ∀ j, j < n → mEnt E (fun _ => 0) (N + 1 + j) = .inl (eT E t1, (zarr t1 k)) := by
    intro j hj
    rcases (by omega : t1 = 0 ∨ t1 = 1 ∨ t1 = 2) with rfl | rfl | rfl
    · rw [mEnt_int (by rw [hsh1 j hj]), hsh1 j hj]; rfl
    · rw [mEnt_long (by rw [hsh1 j hj]), hsh1 j hj]; rfl
    · rw [mEnt_byte (by rw [hsh1 j hj]), hsh1 j hj]; rfl
  have outer : ∀ i : Nat, Jvm.Free.Multi.outerC cA n H.size i = arrV cA n (fun j => va_rf (if j < i then some (H.size + 1 + j) else none)) := by
    intro i
    induction i with
    | zero =>
      show ({ cls := cA, slots := Array.replicate n .null, vm := .none } : Cell) = _
      rw [arrV_new]
      refine congrArg (arrV cA n) (funext fun j => ?_)
      simp [va_rf]
    | succ i ih =>
      show (Jvm.Free.Multi.outerC cA n H.size i).setSlot i (.ref (H.size + 1 + i)) = _
      rw [ih, arrV_store]
      refine congrArg (arrV cA n) (funext fun j => ?_)
      by_cases e : j = i
      · subst e
        simp [updV, va_rf]
      · by_cases h : j < i
        · simp [updV, e, h, Nat.lt_succ_of_lt h]
        · have h2 : ¬ j < i + 1 := by omega
          simp [updV, e, h, h2]
  obtain ⟨m1, m2, m3, m4, m5, m6⟩ := hM
  have key : mM A E (N + 1 + n) σ2 s F.heap locs := by
    refine ⟨m1, m2, m3, fun i q hq => ?_, wl_Dat hE (fun i hi => ?_), Nat.le_trans m6.1 (by omega), fun x h1 h2 => (hold x (Nat.lt_of_lt_of_le h1 m6.1)).trans (m6.2.1 x h1 h2), m6.2.2⟩
    · obtain ⟨hi, rfl⟩ := wl_at hq
      by_cases h1 : i < N
      · have e : σ2 i = σ i := by
          rw [hσ]
          funext b
          simp only [upM]
          rw [if_neg (by omega), if_neg (by omega)]
        rw [e]
        have ha := m4 i _ (wl_get h1)
        exact ha.kept (hold _ ha.lt)
      · by_cases h2 : i = N
        · subst h2
          have e : σ2 i = fun b => if b < n then ((i + 1 + b : Nat) : Int) else 0 := by
            rw [hσ]
            funext b
            simp [upM]
          rw [e, mEnt_refs (by rw [hsh]) (by omega), hsh]
          show F.heap[eA E i]? = some (vp_cell _ _)
          rw [vp_cell_q, ← hz, f2, outer n, hcA]
          congr 2
          funext j
          by_cases hj : j < n
          · rw [if_pos hj, if_pos hj]
            unfold mRf
            rw [if_neg (by omega), hz]
            have e3 : eA E i + 1 + j = eA E ((i + 1 + j : Nat) : Int).toNat := by
              rw [Int.toNat_natCast, hE (i + 1 + j), hE i]
              omega
            rw [e3]
          · rw [if_neg hj, if_neg hj]
            rfl
        · obtain ⟨j, rfl⟩ : ∃ j, i = N + 1 + j := ⟨i - (N + 1), by omega⟩
          have e : σ2 (N + 1 + j) = fun _ => 0 := by
            rw [hσ]
            funext b
            simp only [upM]
            rw [if_neg (by omega), if_pos (by omega)]
          rw [e, hent1 j (by omega)]
          show F.heap[eA E (N + 1 + j)]? = some (vp_cell _ _)
          rw [hcell E, ← hcomp, show eA E (N + 1 + j) = H.size + 1 + j by rw [hz, hE (N + 1 + j), hE N]; omega, hrow j (by omega)]
          exact congrArg some (arrV_new _ _ _)
    · by_cases h : i < N
      · exact m5.2 i _ (wl_get h)
      · refine hA _ (Nat.le_trans m6.1 ?_)
        rw [hz, hE i, hE N]
        omega
  obtain ⟨tt, a1, b1⟩ := kk F.heap key (by rw [f1, hz, hE (N + 1 + n), hE N]; omega) F rfl X'
  refine ⟨tt, step tt ?_, b1⟩
  rw [show T.heap.size = eA E N by rw [hTh, hz]]
  exact a1
theorem mi_put (G : CallFix p m c cc nL s args mTs own) (hM : mM A E N σ s H locs) {r ci k t n : Nat} {C : String} {T : u_T} {ty0 : Nat → FieldType} {ty : FieldType} (hr : r < N) (hc : isC r ci) (hF : mPut ci k t n C T ty0 ty) (hfin : (T k).2.2.2 = false) {ix : Nat} (hw : Cond.fieldLink own ix (T k).1 (T k).2.1 (T k).2.2.1 ∈ mTs) {x : Int} {v : Value} (hv : v = mV E t x) (h1 : narrow ty v = v) (h2 : fits ty v = true) (σ2 : mSt) (hσ : σ2 = upS σ r k x) (d : decode cc pc = .ok (.putfield ix, 3)) (hn : pc + 3 = np)
    (kk : ∀ (H1 : Heap) (locs1 : List Loc), mM A E N σ2 s H1 locs1 → H1.size = H.size → W p l e R s m args below meth c H1 locs1 cells slots Q (F0 m np ls rest)) : W p l e R s m args below meth c H locs cells slots Q (F0 m pc ls (v :: .ref (eA E r) :: rest)) := by
  subst hn
  obtain ⟨⟨g1, g2, g3, g4, g5⟩, g6, g7, g8, g9⟩ := hF
  obtain ⟨m1, m2, m3, m4, m5, m6⟩ := hM
  have he := (wl_get (σ := σ) (E := E) hr).trans (by rw [mEnt_obj hc g5])
  have hap := va_apart (own := own) G.2.2.2.2 g2 ty0 g6 g7 m2 g1
  obtain ⟨r1, q0, cell, q1, q2, q3, q4⟩ := m4 r _ he
  have hr1 : r1 = (C, T, n) := Option.some.inj (q0.symm.trans g1)
  subst hr1
  obtain ⟨hS, hfc, kC, hkC, hkind⟩ := m2.1 ci _ g1
  obtain ⟨cf, kf, fi, f, hi, hsl⟩ := hS k g3
  have hlay := G.2.2.2.2 _ (g2 _ (u_in_lay g3))
  unfold u_lay at hlay
  rw [if_neg (by rw [hfin]; decide)] at hlay
  have hst := (u_facts hfc hkC (u_lays G.2.2.2.2 g2 g3) hi).1
  have h6 := u_store hfc hkC hkind hlay hi g8 h1 h2
  refine W.putK G.1 G.2.1 (f := f) ⟨G.2.2.2.1, G.2.2.2.2 _ hw, ⟨_, _, _, hi⟩, hst⟩ (by rw [q2]; exact h6) q1 q3 (by rw [hsl]; exact k2_hasslot (q4 k g3)) rfl rfl d fun H' e1 e2 e3 => ?_
  rw [hsl] at e1 ⊢
  have e : (wl E N σ).set r (eA E r, .inr (ci, (mFs E (σ r) (mFt ci) 0).set k v)) = wl E N σ2 := by
    refine wl_set hr ?_ (fun j hj => by rw [hσ]; exact upS_row hj)
    rw [mEnt_obj hc g5, hv]
    have e2 : mV E t x = mV E t (σ2 r (0 + k)) := by rw [Nat.zero_add, hσ, upS_same]
    rw [e2, mFs_set (E := E) (f := σ r) (g := σ2 r) (mFt ci) 0 k t g4 (fun b hb => by rw [hσ]; simp only [upS]; rw [if_neg]; intro z; exact hb (by rw [Nat.zero_add]; exact z.2))]
  have hP := va_P.set (e := .inr (ci, (mFs E (σ r) (mFt ci) 0).set k v)) m4 m5 he ⟨_, g1, t_OB.to (V := updV (vp_V (mFs E (σ r) (mFt ci) 0)) k v) ⟨_, e1, q2, q3, t_set q4 hap g3 v⟩ (fun j _ => vp_updV_set (by rw [mFs_len, g9]; exact g3) v j)⟩ e3
  rw [e] at hP
  exact kk H' _ ⟨m1, m2, m3, hP, wl_D m5 (fun i hi => m5.2 i _ (wl_get hi)), m6.put e2 e3 (m5.2 r _ he)⟩ e2
theorem mi_putF (G : CallFix p m c cc nL s args mTs own) (hM : mM A E N σ s H locs) {r ci k t n : Nat} {C : String} {T : u_T} {ty0 : Nat → FieldType} {ty : FieldType} (hr : r < N) (hc : isC r ci) (hF : mPut ci k t n C T ty0 ty) (hfin : (T k).2.2.2 = true) (hin : meth.name = "<init>") (hdecl : (T k).1 = own) {ix : Nat} (hw : Cond.fieldLink own ix (T k).1 (T k).2.1 (T k).2.2.1 ∈ mTs) {x : Int} {v : Value} (hv : v = mV E t x) (h1 : narrow ty v = v) (h2 : fits ty v = true) (σ2 : mSt) (hσ : σ2 = upS σ r k x) (d : decode cc pc = .ok (.putfield ix, 3)) (hn : pc + 3 = np)
    (kk : ∀ (H1 : Heap) (locs1 : List Loc), mM A E N σ2 s H1 locs1 → H1.size = H.size → W p l e R s m args below meth c H1 locs1 cells slots Q (F0 m np ls rest)) : W p l e R s m args below meth c H locs cells slots Q (F0 m pc ls (v :: .ref (eA E r) :: rest)) := by
  subst hn
  obtain ⟨⟨g1, g2, g3, g4, g5⟩, g6, g7, g8, g9⟩ := hF
  obtain ⟨m1, m2, m3, m4, m5, m6⟩ := hM
  have he := (wl_get (σ := σ) (E := E) hr).trans (by rw [mEnt_obj hc g5])
  have hap := va_apart (own := own) G.2.2.2.2 g2 ty0 g6 g7 m2 g1
  obtain ⟨r1, q0, cell, q1, q2, q3, q4⟩ := m4 r _ he
  have hr1 : r1 = (C, T, n) := Option.some.inj (q0.symm.trans g1)
  subst hr1
  obtain ⟨hS, hfc, kC, hkC, hkind⟩ := m2.1 ci _ g1
  obtain ⟨cf, kf, fi, f, hi, hsl⟩ := hS k g3
  have hlay := G.2.2.2.2 _ (g2 _ (u_in_lay g3))
  unfold u_lay at hlay
  rw [if_pos hfin] at hlay
  have hst := (u_facts hfc hkC (u_lays G.2.2.2.2 g2 g3) hi).1
  have hcf : m.cls = cf := by
    obtain ⟨_, _, c', _, _, _, -, -, hf', -, -, -, hown2, -⟩ := Cond.laysFinal_spec hlay
    have e1 : c' = cf := by have := hi.symm.trans hf'; simp at this; exact this.1.symm
    rw [hdecl] at hown2
    rw [← e1]; exact Option.some.inj (G.2.2.2.1.symm.trans hown2)
  have h6 := u_fits hfc hkC hkind (Or.inr hlay) hi g8 h1 h2
  refine W.putFinK G.1 G.2.1 G.2.2.2.1 (G.2.2.2.2 _ hw) hi hst hcf hin (by rw [q2]; exact h6) q1 q3 (by rw [hsl]; exact k2_hasslot (q4 k g3)) rfl rfl d fun H' e1 e2 e3 => ?_
  rw [hsl] at e1 ⊢
  have e : (wl E N σ).set r (eA E r, .inr (ci, (mFs E (σ r) (mFt ci) 0).set k v)) = wl E N σ2 := by
    refine wl_set hr ?_ (fun j hj => by rw [hσ]; exact upS_row hj)
    rw [mEnt_obj hc g5, hv]
    have e2 : mV E t x = mV E t (σ2 r (0 + k)) := by rw [Nat.zero_add, hσ, upS_same]
    rw [e2, mFs_set (E := E) (f := σ r) (g := σ2 r) (mFt ci) 0 k t g4 (fun b hb => by rw [hσ]; simp only [upS]; rw [if_neg]; intro z; exact hb (by rw [Nat.zero_add]; exact z.2))]
  have hP := va_P.set (e := .inr (ci, (mFs E (σ r) (mFt ci) 0).set k v)) m4 m5 he ⟨_, g1, t_OB.to (V := updV (vp_V (mFs E (σ r) (mFt ci) 0)) k v) ⟨_, e1, q2, q3, t_set q4 hap g3 v⟩ (fun j _ => vp_updV_set (by rw [mFs_len, g9]; exact g3) v j)⟩ e3
  rw [e] at hP
  exact kk H' _ ⟨m1, m2, m3, hP, wl_D m5 (fun i hi => m5.2 i _ (wl_get hi)), m6.put e2 e3 (m5.2 r _ he)⟩ e2
theorem r_aastore (G : CallFix p m c cc nL s args mTs own) (hM : mM A E N σ s H locs) {r r2 t ci k : Nat} {C : String} {T : u_T} {nf : Nat} {j : Int} (hr : r < N) (hr2 : r2 < N) (h0 : r2 ≠ 0) (h : (shp r).1 = 20 + t ∧ 0 ≤ wI j ∧ wI j < ((shp r).2 : Int)) (hk : (wI j).toNat = k) (ht : 3 ≤ t) (hT : (mTys E)[t]? = some (eT E t, .object C)) (hcc : vwCl[ci]? = some (C, T, nf)) (hci : ci < 12) (hc2 : isC r2 ci) (σ2 : mSt) (hσ : σ2 = upS σ r k (r2 : Int)) (d : decode cc pc = .ok (.aastore, 1)) (hn : pc + 1 = np)
    (kk : ∀ (H1 : Heap) (locs1 : List Loc), mM A E N σ2 s H1 locs1 → H1.size = H.size → W p l e R s m args below meth c H1 locs1 cells slots Q (F0 m np ls rest)) : W p l e R s m args below meth c H locs cells slots Q (F0 m pc ls (.ref (eA E r2) :: vI j :: .ref (eA E r) :: rest)) := by
  subst hn
  subst hk
  obtain ⟨m1, m2, m3, m4, m5, m6⟩ := hM
  have hin : vp_in (Int32.ofInt j) (shp r).2 := vp_in_iff.mpr h.2
  have ha := (wl_get (σ := σ) (E := E) hr).trans (by rw [mEnt_refs h.1 ht])
  have hv := (wl_get (σ := σ) (E := E) hr2).trans (by rw [mEnt_obj hc2 hci])
  have hlt : (Int32.ofInt j).toNatClampNeg < (shp r).2 := Nat.not_le.mp fun q => hin (Or.inr q)
  have h00 : ¬ Int32.ofInt j < 0 := fun q => hin (Or.inl q)
  obtain ⟨r', hr', cellV, g1, g2, g3, -⟩ := m4 r2 _ hv
  have hcls := (m2.1 ci _ hcc).2
  obtain ⟨kA, comp, k1, k2, k3, -⟩ := (m2.2 t _ hT).2
  have hcomp : comp = (eD E).1 ci := Option.some.inj (k3.symm.trans hcls.1)
  subst hcomp
  obtain ⟨kC, hkC, -⟩ := hcls.2
  refine W.aast G.1 G.2.1 (m4 r _ ha) (fun q h => by cases h) (fun h => by cases h) k1 k2 rfl hkC ⟨h00, by show _ < (arrV _ _ _).slots.size; rw [arrV_size]; exact hlt⟩ g1 (fun q h => by rw [g3] at h; cases h) (by rw [g2]; exact hkC) (by rw [g2]; exact va_assign hcls) rfl rfl d fun H1 e z oq => ?_
  have hat : va_at (eD E) vwCl (eA E r, mEnt E (σ2 r) r) H1 := by
    rw [mEnt_refs h.1 ht]
    show H1[eA E r]? = some (vp_cell _ _)
    rw [e, vp_cell_q, vp_cell_q, arrV_store]
    congr 2
    funext q
    rw [hσ]
    by_cases hq : q = (Int32.ofInt j).toNatClampNeg
    · subst hq
      have e4 : upS σ r (wI j).toNat (r2 : Int) r (Int32.ofInt j).toNatClampNeg = (r2 : Int) := upS_same σ r _ _
      rw [e4]
      simp [updV, va_rf, mRf, h0]
    · have e4 : upS σ r (wI j).toNat (r2 : Int) r q = σ r q := by
        simp only [upS]
        rw [if_neg (fun z => hq z.2)]
      rw [e4]
      simp [updV, hq]
  have es : (wl E N σ).set r (eA E r, mEnt E (σ2 r) r) = wl E N σ2 := wl_set hr rfl (fun k hk => by rw [hσ]; exact upS_row hk)
  have hP := m4.set m5 ha hat oq
  rw [es] at hP
  refine kk H1 _ ⟨m1, m2, m3, hP, wl_D m5 (fun i hi => m5.2 i _ (wl_get hi)), m6.put z oq (m5.2 r _ ha)⟩ z
end MI
def shpIs (N : Nat) (L : List (Nat × Nat)) : Prop := ∀ j, (h : j < L.length) → shp (N + j) = L[j]
theorem shpIs_sub {N : Nat} {L L2 : List (Nat × Nat)} (h : shpIs N L) (k : Nat) (e : (L.drop k).take L2.length = L2) : shpIs (N + k) L2 := by
  intro j hj
  have h1 : (L.drop k)[j]? = some L2[j] := by
    have h2 : ((L.drop k).take L2.length)[j]? = some L2[j] := by rw [e]; exact List.getElem?_eq_getElem hj
    rwa [List.getElem?_take_of_lt hj] at h2
  rw [List.getElem?_drop] at h1
  obtain ⟨h3, h4⟩ := List.getElem?_eq_some_iff.mp h1
  have h5 := h (k + j) h3
  rw [Nat.add_assoc, h5, h4]
theorem shpIs_at {N : Nat} {L : List (Nat × Nat)} (e : (shpL.drop N).take L.length = L) : shpIs N L := by
  intro j hj
  have h2 : ((shpL.drop N).take L.length)[j]? = some L[j] := by rw [e]; exact List.getElem?_eq_getElem hj
  rw [List.getElem?_take_of_lt hj, List.getElem?_drop] at h2
  unfold shp
  rw [List.getD_eq_getElem?_getD, h2]
  rfl
def mAF (E : mE) (N : Nat) : Nat → Prop := fun a => mA E N a ∨ eA E N ≤ a
def mIPre (E : mE) (N : Nat) (σ : mSt) (U : State) : Prop :=
  mWords U ∧ va_K (eD E) vwCl (mTys E) U ∧ mX (mAF E N) E U U.heap ∧ va_P (eD E) vwCl (wl E N σ) U.heap ∧ va_D (mAF E N) (wl E N σ) ∧ U.heap.size = eA E N ∧ ∀ i, eA E i = eA E 0 + i
def mIQ (E : mE) (N N2 : Nat) (σ : mSt) : Array Value → State → Outcome → State → Prop := fun _ st oc t =>
  oc = .returned none ∧ va_P (eD E) vwCl (wl E N2 σ) t.heap ∧ t.heap.size = eA E N2 ∧ va_F (mAF E N) st t
def mIMet (l : Launch) (y : MethodName) (cc : ByteArray) (maxL : Nat) (fr lo : Nat) (E : mE) (r N : Nat) (σ : mSt) (N2 : Nat) (σ2 : mSt) (mc ms : Nat) : Prop :=
  Met l y [.code y cc maxL none] ({ frames := fr, cells := mc, slots := ms, locals := lo } : Room) (va_Pc [.ref (eA E r)] (mIPre E N σ)) (mIQ E N N2 σ2) mc ms (mAF E N)
theorem mIPre.blind {E : mE} {N : Nat} {σ : mSt} {As : List Value} : FrameBlind (va_Pc As (mIPre E N σ)) := by
  rintro a U g mk ⟨h0, h1, h2, h3, h4, h5, h6, h7⟩
  have hW : U.WarmedH (U.calling g mk a).vm := State.WarmedH.refl U
  exact ⟨h0, mWords.ride hW (mWords.use (args := #[]) h1), va_K.moved (U := U.calling g mk a) hW.alike h2, h3.ride (U := U.calling g mk a) hW (fun _ _ _ => rfl) (fun _ h => h), h4, h5, h6, h7⟩
section MJ
variable {p : Program} {l : Launch} {e : Env} {R : Room} {s : State} {m : MethodId} {args : Array Value} {below : List Frame} {meth : Method} {c : Code} {H : Heap} {locs : List Loc} {cells slots : Nat} {Q : State → Prop}
variable {cc : ByteArray} {pc np nL : Nat} {ls : Array Slot} {rest st : List Value} {own : String} {A : Nat → Prop} {E : mE} {σ σ2 : mSt} {N N2 : Nat}
theorem m_ientry {y : MethodName} {maxL fr lo r mc ms : Nat} (hy : plainName y.cls = true) (hA0 : (lg_sl [Value.ref (eA E r)]).length ≤ maxL)
    (body : ∀ (p : Program) (e : Env) (s : State) (m : MethodId) (args : Array Value) (below : List Frame) (meth : Method) (c : Code) (_ : CallFix p m c cc maxL s args mTs y.cls) (_ : meth.sig.returnType = none) (_ : meth.locks = false) (_ : meth.name = "<init>") (_ : mM (mAF E N) E N σ s s.heap []) (_ : s.heap.size = eA E N) (_ : ∀ i, eA E i = eA E 0 + i) (_ : ∀ q, s.heap.size ≤ q → mAF E N q) (ls : Array Slot) (_ : lv_has ls maxL (lv_args 0 [Value.ref (eA E r)])),
      W p l e ({ frames := fr, cells := mc, slots := ms, locals := lo } : Room) s m args below meth c s.heap [] 0 0 (MQ below (mIQ E N N2 σ2) args s mc ms (mAF E N)) (F0 m 0 ls [])) (hy1 : y.name = "<init>" := by rfl) : mIMet l y cc maxL fr lo E r N σ N2 σ2 mc ms := by
  refine Met.ofW (cc := cc) (maxL := maxL) (ret := none) hy rfl ?_
  intro p e s m args below meth c s₁ B hml hv
  obtain ⟨rfl, w1, w2, w3, w4, w5, w6, w7⟩ := hv
  rw [lg_entry_eq]
  exact body p e s m _ below meth c ⟨B.exec, B.bytes, hml, findClass_of_methodNamed B.named, mWords.use w1⟩ B.returns B.notSynchronized ((name_of_methodNamed B.named B.method).1.trans hy1) ⟨w1, w2, w3, w4, w5, va_S.rf⟩ w6 w7 (fun q h => Or.inr (by rw [← w6]; exact h)) _ (lv_entry _ hA0)
theorem m_igo {mc ms : Nat} {st0 : List Value} {a : Array Value} (hr : va_Run p l e R s m args below meth c H locs cells slots mc ms (F0 m pc ls st0) rest (mIQ E N N2 σ2 a) (mAF E N)) (hM : mM A E N σ s H locs) (hz : H.size = eA E N) (hE : ∀ i, eA E i = eA E 0 + i) (hA : ∀ q, s.heap.size ≤ q → A q)
    (kk : ∀ (H1 : Heap) (locs1 : List Loc), mM A E N2 σ2 s H1 locs1 → H1.size = eA E N2 → W p l e R s m args below meth c H1 locs1 (cells + mc) (slots + ms) Q (F0 m (pc + 3) ls rest)) : W p l e R s m args below meth c H locs cells slots Q (F0 m pc ls st0) := by
  intro T hT X
  obtain ⟨m1, m2, m3, m4, m5, m6⟩ := hM
  have hA2 : ∀ q, mAF E N q → A q := by
    rintro q (h | h)
    · exact wl_A m5 q h
    · exact hA q (Nat.le_trans m6.1 (by rw [hz]; exact h))
  obtain ⟨v', st₀, t, T', L, h0, X', hL, e1, e2, ⟨hv, hP, hzt, hz1, hk⟩, st⟩ := hr T hT X
  cases hv
  rw [h0] at hz1 hk
  have hAN : ∀ i, A (eA E i) := by
    intro i
    by_cases h : i < N
    · exact m5.2 i _ (wl_get h)
    · exact hA2 _ (Or.inr (by rw [hE i, hE N]; omega))
  obtain ⟨t2, a1, b1⟩ := kk T'.heap (locs ++ L) ⟨m1, m2, m3, by rw [e1]; exact hP, wl_Dat hE (fun i _ => hAN i), Nat.le_trans m6.1 (by rw [e1]; exact hz1), fun q h1 h2 => by rw [e1, hk q (Nat.lt_of_lt_of_le h1 m6.1) (fun z => h2 (hA2 q z))]; exact m6.2.1 q h1 h2, fun q hq => by
      rcases List.mem_append.mp hq with h | h
      · exact m6.2.2 q h
      · exact hA2 _ (hL q h)⟩ (by rw [e1]; exact hzt) T' rfl X'
  exact ⟨t2, st t2 a1, b1⟩
theorem mM.ipre {U : State} (h : mM A E N σ s H locs) (hz : H.size = eA E N) (hE : ∀ i, eA E i = eA E 0 + i) (hA : ∀ q, s.heap.size ≤ q → A q) (hU : U.heap = H) (hW : s.WarmedH U.vm) : mIPre E N σ U := by
  obtain ⟨h1, h2, h3, h4, h5, h6⟩ := h
  subst hU
  refine ⟨mWords.ride hW (mWords.use (args := #[]) h1), va_K.moved hW.alike h2, h3.ride hW (fun a ha hn => h6.2.1 a ha hn) ?_, h4, wl_Dat hE (fun i hi => Or.inl ⟨i, hi, rfl⟩), hz, hE⟩
  rintro q (h | h)
  · exact wl_A h5 q h
  · exact hA q (Nat.le_trans h6.1 (by rw [hz]; exact h))
theorem m_icall (G : CallFix p m c cc nL s args mTs own) (hM : mM A E N σ s H locs) (hz : H.size = eA E N) (hE : ∀ i, eA E i = eA E 0 + i) (hA : ∀ q, s.heap.size ≤ q → A q) (hls : ls.size = nL) {y : MethodName} {cc' : ByteArray} {maxL fr lo r mc ms ix : Nat} (hc : mIMet l y cc' maxL fr lo E r N σ N2 σ2 mc ms) (hY : mY y cc' maxL none 0 ∧ Cond.instanceMethod y ∈ mTs) (hw : Cond.methodLink own ix y ∈ mTs) (hroom : fr + 1 ≤ R.frames ∧ 8 + (maxL + 11) + lo ≤ R.locals) (hcs : cells + mc ≤ R.cells ∧ slots + ms ≤ R.slots) (hcat : (rest.map fun v => v.category).sum ≤ 8) (d : decode cc pc = .ok (.invokespecial ix, 3)) (hn : pc + 3 = np)
    (kk : ∀ (H1 : Heap) (locs1 : List Loc), mM A E N2 σ2 s H1 locs1 → H1.size = eA E N2 → W p l e R s m args below meth c H1 locs1 (cells + mc) (slots + ms) Q (F0 m np ls rest)) (hy1 : y.name = "<init>" := by rfl) : W p l e R s m args below meth c H locs cells slots Q (F0 m pc ls (.ref (eA E r) :: rest)) := by
  subst hn
  exact m_igo (va_runI (As := []) (rest := rest) G hc ⟨⟨rfl, rfl, hroom.1, hroom.2, fun w h a' U hW => by rw [List.mem_singleton.mp h]; exact m_rideW G hY.1.1 a' U hW, List.mem_singleton.mpr rfl, G.2.2.2.2 _ hY.1.1, G.2.2.2.2 _ hY.1.2.1, hY.1.2.2.1, hY.1.len, G.2.2.2.2 _ hw⟩, hy1, G.2.2.2.2 _ hY.2⟩ ⟨mIPre.blind, fun U hU hW => ⟨rfl, hM.ipre hz hE hA hU hW⟩⟩ rfl rfl hls rfl (lv_room hcat) d hcs) hM hz hE hA kk
theorem m_icallN (G : CallFix p m c cc nL s args mTs own) (hM : mM A E N σ s H locs) (hz : H.size = eA E N) (hE : ∀ i, eA E i = eA E 0 + i) (hA : ∀ q, s.heap.size ≤ q → A q) (hls : ls.size = nL) {y : MethodName} {host : String} {cc' : ByteArray} {maxL fr lo r mc ms ix : Nat} (hc : mIMet l y cc' maxL fr lo E r N σ N2 σ2 mc ms) (hY : mY y cc' maxL none 0 ∧ Cond.instanceMethod y ∈ mTs) (hw : Cond.methodLinkNest own ix y host ∈ mTs) (hroom : fr + 1 ≤ R.frames ∧ 8 + (maxL + 11) + lo ≤ R.locals) (hcs : cells + mc ≤ R.cells ∧ slots + ms ≤ R.slots) (hcat : (rest.map fun v => v.category).sum ≤ 8) (d : decode cc pc = .ok (.invokespecial ix, 3)) (hn : pc + 3 = np)
    (kk : ∀ (H1 : Heap) (locs1 : List Loc), mM A E N2 σ2 s H1 locs1 → H1.size = eA E N2 → W p l e R s m args below meth c H1 locs1 (cells + mc) (slots + ms) Q (F0 m np ls rest)) (hy1 : y.name = "<init>" := by rfl) : W p l e R s m args below meth c H locs cells slots Q (F0 m pc ls (.ref (eA E r) :: rest)) := by
  subst hn
  exact m_igo (va_runIN (As := []) (rest := rest) G hc ⟨⟨⟨rfl, rfl, hroom.1, hroom.2, fun w h a' U hW => by rw [List.mem_singleton.mp h]; exact m_rideW G hY.1.1 a' U hW, List.mem_singleton.mpr rfl⟩, G.2.2.2.2 _ hY.1.1, G.2.2.2.2 _ hY.1.2.1, hY.1.2.2.1, hY.1.len, G.2.2.2.2 _ hw⟩, hy1, G.2.2.2.2 _ hY.2⟩ ⟨mIPre.blind, fun U hU hW => ⟨rfl, hM.ipre hz hE hA hU hW⟩⟩ rfl rfl hls rfl (lv_room hcat) d hcs) hM hz hE hA kk
theorem r_objInit (G : CallFix p m c cc nL s args mTs own) (hls : ls.size = nL) {ix a : Nat} (hw : Cond.methodLink own ix Lib.objectInit ∈ mTs) (hi : Cond.instanceMethod Lib.objectInit ∈ mTs) (hc : Cond.code Lib.objectInit ⟨#[0xb1]⟩ 1 none ∈ mTs) (hf : 1 ≤ R.frames) (hl : (rest.map fun v => v.category).sum + 12 ≤ R.locals) (d : decode cc pc = .ok (.invokespecial ix, 3)) (hn : pc + 3 = np)
    (kk : W p l e R s m args below meth c H locs cells slots Q (F0 m np ls rest)) : W p l e R s m args below meth c H locs cells slots Q (F0 m pc ls (.ref a :: rest)) := by
  subst hn
  exact W.objInit G.1 G.2.1 G.2.2.2.1 (G.2.2.2.2 _ hw) (G.2.2.2.2 _ hi) (G.2.2.2.2 _ hc) rfl (hls.trans G.2.2.1.symm) rfl d hf (by show 2 * 0 + _ + 12 ≤ _; omega) kk
theorem r_ivret (G : CallFix p m c cc nL s args mTs own) (hr : meth.sig.returnType = none) (hlk : meth.locks = false) (hM : mM (mAF E N) E N2 σ2 s H locs) (hz : H.size = eA E N2) {mc ms : Nat} (hcs : (cells, slots) = (mc, ms)) (d : decode cc pc = .ok (.return_, 1)) : W p l e R s m args below meth c H locs cells slots (MQ below (mIQ E N N2 σ2) args s mc ms (mAF E N)) (F0 m pc ls []) := by
  cases hcs
  exact W.vret G.1 G.2.1 hr (fun t ht _ => ⟨rfl, by rw [ht]; exact hM.2.2.2.1, by rw [ht]; exact hz, hM.2.2.2.2.2.F ht⟩) hM.2.2.2.2.2.2.2 d hlk
end MJ

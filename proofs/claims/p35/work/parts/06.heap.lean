/-! ROWS OF THE HEAP, calls, ends -/
/-- a class's field: class number ci, field k of kind t; its words -/
def mFld (ci k t n : Nat) (C : String) (T : u_T) : Prop := vwCl[ci]? = some (C, T, n) ∧ (∀ w ∈ u_ws C T n, w ∈ mTs) ∧ k < n ∧ (mFt ci)[k]? = some t ∧ ci < 12
/-- .. that is written outside constructors: its type -/
def mPut (ci k t n : Nat) (C : String) (T : u_T) (ty0 : Nat → FieldType) (ty : FieldType) : Prop := mFld ci k t n C T ∧ (∀ j, j < n → parseFieldDescriptor (T j).2.2.1 = some (ty0 j)) ∧ (∀ a, a < n → ∀ b, b < n → a ≠ b → (T a).2.1 ≠ (T b).2.1) ∧ parseFieldDescriptor (T k).2.2.1 = some ty ∧ (mFt ci).length = n
theorem upd_row (σ : mSt) (r k : Nat) (x : Int) : upd (fun j => Int32.ofInt (σ r j)) k (Int32.ofInt x) = fun j => Int32.ofInt (upS σ r k x r j) := by
  funext j
  by_cases hk : j = k <;> simp [upd, upS, hk]
theorem updL_row (σ : mSt) (r k : Nat) (x : Int) : vp_updL (fun j => Int64.ofInt (σ r j)) k (Int64.ofInt x) = fun j => Int64.ofInt (upS σ r k x r j) := by
  funext j
  by_cases hk : j = k <;> simp [vp_updL, upS, hk]
section MH
variable {p : Program} {l : Launch} {e : Env} {R : Room} {s : State} {m : MethodId} {args : Array Value} {below : List Frame} {meth : Method} {c : Code} {H : Heap} {locs : List Loc} {cells slots : Nat} {Q : State → Prop}
variable {cc : ByteArray} {pc np nL : Nat} {ls : Array Slot} {rest : List Value} {own : String} {lv : List (Nat × Value)} {A : Nat → Prop} {E : mE} {σ : mSt} {N : Nat}
theorem m_get (G : CallFix p m c cc nL s args mTs own) (hM : mM A E N σ s H locs) {r ci k t n : Nat} {C : String} {T : u_T} (hr : r < N) (hc : isC r ci) (hF : mFld ci k t n C T) {ix : Nat} (hw : Cond.fieldLink own ix (T k).1 (T k).2.1 (T k).2.2.1 ∈ mTs) (d : decode cc pc = .ok (.getfield ix, 3)) (hn : pc + 3 = np)
    (kk : W p l e R s m args below meth c H locs cells slots Q (F0 m np ls (mV E t (σ r k) :: rest))) : W p l e R s m args below meth c H locs cells slots Q (F0 m pc ls (.ref (eA E r) :: rest)) := by
  subst hn
  obtain ⟨h1, h2, h3, h4, h5⟩ := hF
  refine va_get (C := C) (T := T) (N := n) (ref := (T k).1) G.1 G.2.1 G.2.2.2.2 h2 G.2.2.2.1 hM.2.1 hM.2.2.2.1 r ((wl_get hr).trans (by rw [mEnt_obj hc h5])) h1 k h3 (G.2.2.2.2 _ hw) (fun _ h => h) (v := mV E t (σ r k)) ?_ d kk
  have := mFs_get (E := E) (f := σ r) (mFt ci) 0 k t h4
  rwa [Nat.zero_add] at this
theorem m_getN (G : CallFix p m c cc nL s args mTs own) (hM : mM A E N σ s H locs) {r ci k t n : Nat} {C host : String} {T : u_T} (hr : r < N) (hc : isC r ci) (hF : mFld ci k t n C T) {ix : Nat} (hw : Cond.fieldLinkNest own ix (T k).1 (T k).2.1 (T k).2.2.1 host ∈ mTs) (d : decode cc pc = .ok (.getfield ix, 3)) (hn : pc + 3 = np)
    (kk : W p l e R s m args below meth c H locs cells slots Q (F0 m np ls (mV E t (σ r k) :: rest))) : W p l e R s m args below meth c H locs cells slots Q (F0 m pc ls (.ref (eA E r) :: rest)) := by
  subst hn
  obtain ⟨h1, h2, h3, h4, h5⟩ := hF
  refine va_getN (C := C) (T := T) (N := n) (ref := (T k).1) (host := host) G.1 G.2.1 G.2.2.2.2 h2 G.2.2.2.1 hM.2.1 hM.2.2.2.1 r ((wl_get hr).trans (by rw [mEnt_obj hc h5])) h1 k h3 (G.2.2.2.2 _ hw) (fun _ h => h) (v := mV E t (σ r k)) ?_ d kk
  have := mFs_get (E := E) (f := σ r) (mFt ci) 0 k t h4
  rwa [Nat.zero_add] at this
theorem m_put (G : CallFix p m c cc nL s args mTs own) (hM : mM A E N σ s H locs) {r ci k t n : Nat} {C : String} {T : u_T} {ty0 : Nat → FieldType} {ty : FieldType} (hr : r < N) (hc : isC r ci) (hF : mPut ci k t n C T ty0 ty) (hfin : (T k).2.2.2 = false) {ix : Nat} (hw : Cond.fieldLink own ix (T k).1 (T k).2.1 (T k).2.2.1 ∈ mTs) {x : Int} {v : Value} (hv : v = mV E t x) (h1 : narrow ty v = v) (h2 : fits ty v = true) (σ2 : mSt) (hσ : σ2 = upS σ r k x) (d : decode cc pc = .ok (.putfield ix, 3)) (hn : pc + 3 = np)
    (kk : ∀ (H1 : Heap) (locs1 : List Loc), mM A E N σ2 s H1 locs1 → W p l e R s m args below meth c H1 locs1 cells slots Q (F0 m np ls rest)) : W p l e R s m args below meth c H locs cells slots Q (F0 m pc ls (v :: .ref (eA E r) :: rest)) := by
  subst hn
  obtain ⟨⟨g1, g2, g3, g4, g5⟩, g6, g7, g8, g9⟩ := hF
  obtain ⟨m1, m2, m3, m4, m5, m6⟩ := hM
  refine va_put (C := C) (T := T) (N := n) (ref := (T k).1) G.1 G.2.1 G.2.2.2.2 g2 ty0 g6 g7 G.2.2.2.1 m2 m4 m5 m6 r ((wl_get hr).trans (by rw [mEnt_obj hc g5])) g1 k g3 (G.2.2.2.2 _ hw) (fun _ h => h) hfin g8 h1 h2 (by rw [mFs_len, g9]; exact g3) d (fun H1 locs1 hP hD hS => ?_)
  have e : (wl E N σ).set r (eA E r, .inr (ci, (mFs E (σ r) (mFt ci) 0).set k v)) = wl E N σ2 := by
    refine wl_set hr ?_ (fun j hj => by rw [hσ]; exact upS_row hj)
    rw [mEnt_obj hc g5, hv]
    have e2 : mV E t x = mV E t (σ2 r (0 + k)) := by rw [Nat.zero_add, hσ, upS_same]
    rw [e2, mFs_set (E := E) (f := σ r) (g := σ2 r) (mFt ci) 0 k t g4 (fun b hb => by rw [hσ]; simp only [upS]; rw [if_neg]; intro z; exact hb (by rw [Nat.zero_add]; exact z.2))]
  rw [e] at hP hD
  exact kk H1 locs1 ⟨m1, m2, m3, hP, hD, hS⟩
theorem m_putF (G : CallFix p m c cc nL s args mTs own) (hM : mM A E N σ s H locs) {r ci k t n : Nat} {C : String} {T : u_T} {ty0 : Nat → FieldType} {ty : FieldType} (hr : r < N) (hc : isC r ci) (hF : mPut ci k t n C T ty0 ty) (hfin : (T k).2.2.2 = true) (hin : meth.name = "<init>") (hdecl : (T k).1 = own) {ix : Nat} (hw : Cond.fieldLink own ix (T k).1 (T k).2.1 (T k).2.2.1 ∈ mTs) {x : Int} {v : Value} (hv : v = mV E t x) (h1 : narrow ty v = v) (h2 : fits ty v = true) (σ2 : mSt) (hσ : σ2 = upS σ r k x) (d : decode cc pc = .ok (.putfield ix, 3)) (hn : pc + 3 = np)
    (kk : ∀ (H1 : Heap) (locs1 : List Loc), mM A E N σ2 s H1 locs1 → W p l e R s m args below meth c H1 locs1 cells slots Q (F0 m np ls rest)) : W p l e R s m args below meth c H locs cells slots Q (F0 m pc ls (v :: .ref (eA E r) :: rest)) := by
  subst hn
  obtain ⟨⟨g1, g2, g3, g4, g5⟩, g6, g7, g8, g9⟩ := hF
  obtain ⟨m1, m2, m3, m4, m5, m6⟩ := hM
  refine va_putF (C := C) (T := T) (N := n) (ref := (T k).1) G.1 G.2.1 G.2.2.2.2 g2 ty0 g6 g7 G.2.2.2.1 m2 m4 m5 m6 r ((wl_get hr).trans (by rw [mEnt_obj hc g5])) g1 k g3 (G.2.2.2.2 _ hw) (fun _ h => h) hfin hin hdecl g8 h1 h2 (by rw [mFs_len, g9]; exact g3) d (fun H1 locs1 hP hD hS => ?_)
  have e : (wl E N σ).set r (eA E r, .inr (ci, (mFs E (σ r) (mFt ci) 0).set k v)) = wl E N σ2 := by
    refine wl_set hr ?_ (fun j hj => by rw [hσ]; exact upS_row hj)
    rw [mEnt_obj hc g5, hv]
    have e2 : mV E t x = mV E t (σ2 r (0 + k)) := by rw [Nat.zero_add, hσ, upS_same]
    rw [e2, mFs_set (E := E) (f := σ r) (g := σ2 r) (mFt ci) 0 k t g4 (fun b hb => by rw [hσ]; simp only [upS]; rw [if_neg]; intro z; exact hb (by rw [Nat.zero_add]; exact z.2))]
  rw [e] at hP hD
  exact kk H1 locs1 ⟨m1, m2, m3, hP, hD, hS⟩
theorem rf_ne {E : mE} {x : Int} {r : Nat} (h : x ≠ 0 ∧ r = x.toNat) : va_rf (mRf E x) = .ref (eA E r) := by
  rw [h.2]
  unfold mRf
  rw [if_neg h.1]
  rfl
/-! the walk's own rows: all objects made (N = 257) -/
theorem r_getI (G : CallFix p m c cc nL s args mTs own) (hM : mM A E 257 σ s H locs) {r ci k n : Nat} {C : String} {T : u_T} (hr : r < 257) (hc : isC r ci) (hF : mFld ci k 0 n C T) {ix : Nat} (hw : Cond.fieldLink own ix (T k).1 (T k).2.1 (T k).2.2.1 ∈ mTs) (d : decode cc pc = .ok (.getfield ix, 3)) (hn : pc + 3 = np)
    (kk : W p l e R s m args below meth c H locs cells slots Q (F0 m np ls (vI (σ r k) :: rest))) : W p l e R s m args below meth c H locs cells slots Q (F0 m pc ls (.ref (eA E r) :: rest)) := m_get G hM hr hc hF hw d hn kk
theorem r_getL (G : CallFix p m c cc nL s args mTs own) (hM : mM A E 257 σ s H locs) {r ci k n : Nat} {C : String} {T : u_T} (hr : r < 257) (hc : isC r ci) (hF : mFld ci k 1 n C T) {ix : Nat} (hw : Cond.fieldLink own ix (T k).1 (T k).2.1 (T k).2.2.1 ∈ mTs) (d : decode cc pc = .ok (.getfield ix, 3)) (hn : pc + 3 = np)
    (kk : W p l e R s m args below meth c H locs cells slots Q (F0 m np ls (vL (σ r k) :: rest))) : W p l e R s m args below meth c H locs cells slots Q (F0 m pc ls (.ref (eA E r) :: rest)) := m_get G hM hr hc hF hw d hn kk
theorem r_getR (G : CallFix p m c cc nL s args mTs own) (hM : mM A E 257 σ s H locs) {r r2 ci k n : Nat} {C : String} {T : u_T} (hr : r < 257) (hc : isC r ci) (h2 : σ r k ≠ 0 ∧ r2 = (σ r k).toNat) (hF : mFld ci k 2 n C T) {ix : Nat} (hw : Cond.fieldLink own ix (T k).1 (T k).2.1 (T k).2.2.1 ∈ mTs) (d : decode cc pc = .ok (.getfield ix, 3)) (hn : pc + 3 = np)
    (kk : W p l e R s m args below meth c H locs cells slots Q (F0 m np ls (.ref (eA E r2) :: rest))) : W p l e R s m args below meth c H locs cells slots Q (F0 m pc ls (.ref (eA E r) :: rest)) := m_get G hM hr hc hF hw d hn (by rw [show mV E 2 (σ r k) = va_rf (mRf E (σ r k)) from rfl, rf_ne h2]; exact kk)
theorem r_getIN (G : CallFix p m c cc nL s args mTs own) (hM : mM A E 257 σ s H locs) {r ci k n : Nat} {C host : String} {T : u_T} (hr : r < 257) (hc : isC r ci) (hF : mFld ci k 0 n C T) {ix : Nat} (hw : Cond.fieldLinkNest own ix (T k).1 (T k).2.1 (T k).2.2.1 host ∈ mTs) (d : decode cc pc = .ok (.getfield ix, 3)) (hn : pc + 3 = np)
    (kk : W p l e R s m args below meth c H locs cells slots Q (F0 m np ls (vI (σ r k) :: rest))) : W p l e R s m args below meth c H locs cells slots Q (F0 m pc ls (.ref (eA E r) :: rest)) := m_getN G hM hr hc hF hw d hn kk
theorem r_getLN (G : CallFix p m c cc nL s args mTs own) (hM : mM A E 257 σ s H locs) {r ci k n : Nat} {C host : String} {T : u_T} (hr : r < 257) (hc : isC r ci) (hF : mFld ci k 1 n C T) {ix : Nat} (hw : Cond.fieldLinkNest own ix (T k).1 (T k).2.1 (T k).2.2.1 host ∈ mTs) (d : decode cc pc = .ok (.getfield ix, 3)) (hn : pc + 3 = np)
    (kk : W p l e R s m args below meth c H locs cells slots Q (F0 m np ls (vL (σ r k) :: rest))) : W p l e R s m args below meth c H locs cells slots Q (F0 m pc ls (.ref (eA E r) :: rest)) := m_getN G hM hr hc hF hw d hn kk
theorem r_getRN (G : CallFix p m c cc nL s args mTs own) (hM : mM A E 257 σ s H locs) {r r2 ci k n : Nat} {C host : String} {T : u_T} (hr : r < 257) (hc : isC r ci) (h2 : σ r k ≠ 0 ∧ r2 = (σ r k).toNat) (hF : mFld ci k 2 n C T) {ix : Nat} (hw : Cond.fieldLinkNest own ix (T k).1 (T k).2.1 (T k).2.2.1 host ∈ mTs) (d : decode cc pc = .ok (.getfield ix, 3)) (hn : pc + 3 = np)
    (kk : W p l e R s m args below meth c H locs cells slots Q (F0 m np ls (.ref (eA E r2) :: rest))) : W p l e R s m args below meth c H locs cells slots Q (F0 m pc ls (.ref (eA E r) :: rest)) := m_getN G hM hr hc hF hw d hn (by rw [show mV E 2 (σ r k) = va_rf (mRf E (σ r k)) from rfl, rf_ne h2]; exact kk)
theorem r_putI (G : CallFix p m c cc nL s args mTs own) (hM : mM A E 257 σ s H locs) {r ci k n : Nat} {C : String} {T : u_T} {ty0 : Nat → FieldType} (hr : r < 257) (hc : isC r ci) (hF : mPut ci k 0 n C T ty0 .int) (hfin : (T k).2.2.2 = false) {ix : Nat} (hw : Cond.fieldLink own ix (T k).1 (T k).2.1 (T k).2.2.1 ∈ mTs) {x : Int} (σ2 : mSt) (hσ : σ2 = upS σ r k x) (d : decode cc pc = .ok (.putfield ix, 3)) (hn : pc + 3 = np)
    (kk : ∀ (H1 : Heap) (locs1 : List Loc), mM A E 257 σ2 s H1 locs1 → W p l e R s m args below meth c H1 locs1 cells slots Q (F0 m np ls rest)) : W p l e R s m args below meth c H locs cells slots Q (F0 m pc ls (vI x :: .ref (eA E r) :: rest)) := m_put G hM hr hc hF hfin hw rfl (vp_nar_int _) rfl σ2 hσ d hn kk
theorem r_putZ (G : CallFix p m c cc nL s args mTs own) (hM : mM A E 257 σ s H locs) {r ci k n : Nat} {C : String} {T : u_T} {ty0 : Nat → FieldType} (hr : r < 257) (hc : isC r ci) (hF : mPut ci k 0 n C T ty0 .boolean) (hfin : (T k).2.2.2 = false) {ix : Nat} (hw : Cond.fieldLink own ix (T k).1 (T k).2.1 (T k).2.2.1 ∈ mTs) {x : Int} (h01 : x = 0 ∨ x = 1) (σ2 : mSt) (hσ : σ2 = upS σ r k x) (d : decode cc pc = .ok (.putfield ix, 3)) (hn : pc + 3 = np)
    (kk : ∀ (H1 : Heap) (locs1 : List Loc), mM A E 257 σ2 s H1 locs1 → W p l e R s m args below meth c H1 locs1 cells slots Q (F0 m np ls rest)) : W p l e R s m args below meth c H locs cells slots Q (F0 m pc ls (vI x :: .ref (eA E r) :: rest)) := m_put G hM hr hc hF hfin hw rfl (by rcases h01 with rfl | rfl <;> decide) (by rcases h01 with rfl | rfl <;> decide) σ2 hσ d hn kk
theorem r_putL (G : CallFix p m c cc nL s args mTs own) (hM : mM A E 257 σ s H locs) {r ci k n : Nat} {C : String} {T : u_T} {ty0 : Nat → FieldType} (hr : r < 257) (hc : isC r ci) (hF : mPut ci k 1 n C T ty0 .long) (hfin : (T k).2.2.2 = false) {ix : Nat} (hw : Cond.fieldLink own ix (T k).1 (T k).2.1 (T k).2.2.1 ∈ mTs) {x : Int} (σ2 : mSt) (hσ : σ2 = upS σ r k x) (d : decode cc pc = .ok (.putfield ix, 3)) (hn : pc + 3 = np)
    (kk : ∀ (H1 : Heap) (locs1 : List Loc), mM A E 257 σ2 s H1 locs1 → W p l e R s m args below meth c H1 locs1 cells slots Q (F0 m np ls rest)) : W p l e R s m args below meth c H locs cells slots Q (F0 m pc ls (vL x :: .ref (eA E r) :: rest)) := m_put G hM hr hc hF hfin hw rfl rfl rfl σ2 hσ d hn kk
/-- a reference is written: its object is no null -/
theorem r_putR (G : CallFix p m c cc nL s args mTs own) (hM : mM A E 257 σ s H locs) {r r2 ci k n : Nat} {C : String} {T : u_T} {ty0 : Nat → FieldType} {ty : FieldType} (hr : r < 257) (hc : isC r ci) (hF : mPut ci k 2 n C T ty0 ty) (hfin : (T k).2.2.2 = false) {ix : Nat} (hw : Cond.fieldLink own ix (T k).1 (T k).2.1 (T k).2.2.1 ∈ mTs) (h0 : r2 ≠ 0) (h1 : ∀ a, narrow ty (.ref a) = .ref a) (h2 : ∀ a, fits ty (.ref a) = true) (σ2 : mSt) (hσ : σ2 = upS σ r k (r2 : Int)) (d : decode cc pc = .ok (.putfield ix, 3)) (hn : pc + 3 = np)
    (kk : ∀ (H1 : Heap) (locs1 : List Loc), mM A E 257 σ2 s H1 locs1 → W p l e R s m args below meth c H1 locs1 cells slots Q (F0 m np ls rest)) : W p l e R s m args below meth c H locs cells slots Q (F0 m pc ls (.ref (eA E r2) :: .ref (eA E r) :: rest)) :=
  m_put G hM hr hc hF hfin hw (by rw [show mV E 2 (r2 : Int) = va_rf (mRf E (r2 : Int)) from rfl, rf_ne (r := r2) ⟨by omega, by simp⟩]) (h1 _) (h2 _) σ2 hσ d hn kk
theorem r_iaload (G : CallFix p m c cc nL s args mTs own) (hM : mM A E 257 σ s H locs) {r k : Nat} {j : Int} (h : ixOK r 20 j) (hk : (wI j).toNat = k) (d : decode cc pc = .ok (.iaload, 1)) (hn : pc + 1 = np)
    (kk : W p l e R s m args below meth c H locs cells slots Q (F0 m np ls (vI (σ r k) :: rest))) : W p l e R s m args below meth c H locs cells slots Q (F0 m pc ls (vI j :: .ref (eA E r) :: rest)) := by
  subst hn
  subst hk
  exact va_iald (n := (shp r).2) (f := fun k => Int32.ofInt (σ r k)) G.1 G.2.1 hM.2.1 hM.2.2.2.1 r 0 ((wl_get (shp_lt h.1 (by decide))).trans (by rw [mEnt_int h.1])) rfl (ix_in h rfl) d kk
theorem r_laload (G : CallFix p m c cc nL s args mTs own) (hM : mM A E 257 σ s H locs) {r k : Nat} {j : Int} (h : ixOK r 21 j) (hk : (wI j).toNat = k) (d : decode cc pc = .ok (.laload, 1)) (hn : pc + 1 = np)
    (kk : W p l e R s m args below meth c H locs cells slots Q (F0 m np ls (vL (σ r k) :: rest))) : W p l e R s m args below meth c H locs cells slots Q (F0 m pc ls (vI j :: .ref (eA E r) :: rest)) := by
  subst hn
  subst hk
  exact va_lald (n := (shp r).2) (f := fun k => Int64.ofInt (σ r k)) G.1 G.2.1 hM.2.1 hM.2.2.2.1 r 1 ((wl_get (shp_lt h.1 (by decide))).trans (by rw [mEnt_long h.1])) rfl (ix_in h rfl) d kk
theorem r_baload (G : CallFix p m c cc nL s args mTs own) (hM : mM A E 257 σ s H locs) {r k : Nat} {j : Int} (h : ixOK r 22 j) (hk : (wI j).toNat = k) (d : decode cc pc = .ok (.baload, 1)) (hn : pc + 1 = np)
    (kk : W p l e R s m args below meth c H locs cells slots Q (F0 m np ls (vI (σ r k) :: rest))) : W p l e R s m args below meth c H locs cells slots Q (F0 m pc ls (vI j :: .ref (eA E r) :: rest)) := by
  subst hn
  subst hk
  exact va_bald (n := (shp r).2) (f := fun k => Int32.ofInt (σ r k)) G.1 G.2.1 hM.2.1 hM.2.2.2.1 r 2 ((wl_get (shp_lt h.1 (by decide))).trans (by rw [mEnt_byte h.1])) rfl (ix_in h rfl) d kk
theorem r_aaload (G : CallFix p m c cc nL s args mTs own) (hM : mM A E 257 σ s H locs) {r r2 t k : Nat} {j : Int} {ty : FieldType} (h : ixOK r (20 + t) j) (hk : (wI j).toNat = k) (ht3 : 3 ≤ t ∧ t < 8) (hty : (mTys E)[t]? = some (eT E t, ty)) (hir : ty.isReference = true) (h2 : σ r k ≠ 0 ∧ r2 = (σ r k).toNat) (d : decode cc pc = .ok (.aaload, 1)) (hn : pc + 1 = np)
    (kk : W p l e R s m args below meth c H locs cells slots Q (F0 m np ls (.ref (eA E r2) :: rest))) : W p l e R s m args below meth c H locs cells slots Q (F0 m pc ls (vI j :: .ref (eA E r) :: rest)) := by
  subst hn
  subst hk
  have hr : r < 257 := shp_lt h.1 (by omega)
  have hin := ix_in h rfl
  have hlt : (Int32.ofInt j).toNatClampNeg < (shp r).2 := Nat.not_le.mp fun q => hin (Or.inr q)
  have ha := (wl_get (σ := σ) (E := E) hr).trans (by rw [mEnt_refs h.1 ht3.1])
  refine W.aald (v := .ref (eA E r2)) (ty := ty) G.1 G.2.1 (hM.2.2.2.1 r _ ha) ((hM.2.1.2 t _ hty).1 (shp r).2 (fun j => va_rf (mRf E (σ r j)))) hir (fun q => by cases q) (by show ¬ (_ ∨ (arrV _ _ _).slots.size ≤ _); rw [arrV_size]; exact hin) ?_ rfl rfl d kk
  show (arrV _ _ _).slots[_]? = _
  rw [arrV_read _ _ hlt]
  exact congrArg some (rf_ne h2)
theorem r_iastore (G : CallFix p m c cc nL s args mTs own) (hM : mM A E 257 σ s H locs) {r k : Nat} {j x : Int} (h : ixOK r 20 j) (hk : (wI j).toNat = k) (σ2 : mSt) (hσ : σ2 = upS σ r k x) (d : decode cc pc = .ok (.iastore, 1)) (hn : pc + 1 = np)
    (kk : ∀ (H1 : Heap) (locs1 : List Loc), mM A E 257 σ2 s H1 locs1 → W p l e R s m args below meth c H1 locs1 cells slots Q (F0 m np ls rest)) : W p l e R s m args below meth c H locs cells slots Q (F0 m pc ls (vI x :: vI j :: .ref (eA E r) :: rest)) := by
  subst hn
  subst hk
  obtain ⟨m1, m2, m3, m4, m5, m6⟩ := hM
  have hr := shp_lt h.1 (by decide)
  refine va_iast G.1 G.2.1 m2 m4 m5 m6 r 0 ((wl_get hr).trans (by rw [mEnt_int h.1])) rfl (ix_in h rfl) d (fun H1 locs1 hP hD hS => ?_)
  rw [wl_set (σ' := σ2) hr (by
    rw [mEnt_int h.1, hσ]
    exact congrArg (fun f => (Sum.inl (eT E 0, (shp r).2, Sum.inl f) : va_E)) (upd_row σ r (wI j).toNat x)) (fun k hk => by rw [hσ]; exact upS_row hk)] at hP hD
  exact kk H1 locs1 ⟨m1, m2, m3, hP, hD, hS⟩
theorem r_bastore (G : CallFix p m c cc nL s args mTs own) (hM : mM A E 257 σ s H locs) {r k : Nat} {j x : Int} (h : ixOK r 22 j) (hk : (wI j).toNat = k) (hx : -128 ≤ x ∧ x < 128) (σ2 : mSt) (hσ : σ2 = upS σ r k x) (d : decode cc pc = .ok (.bastore, 1)) (hn : pc + 1 = np)
    (kk : ∀ (H1 : Heap) (locs1 : List Loc), mM A E 257 σ2 s H1 locs1 → W p l e R s m args below meth c H1 locs1 cells slots Q (F0 m np ls rest)) : W p l e R s m args below meth c H locs cells slots Q (F0 m pc ls (vI x :: vI j :: .ref (eA E r) :: rest)) := by
  subst hn
  subst hk
  obtain ⟨m1, m2, m3, m4, m5, m6⟩ := hM
  have hr := shp_lt h.1 (by decide)
  refine va_bast G.1 G.2.1 m2 m4 m5 m6 r 2 ((wl_get hr).trans (by rw [mEnt_byte h.1])) rfl (ix_in h rfl) d (fun H1 locs1 hP hD hS => ?_)
  have hnar : vp_nar .byte (Int32.ofInt x) = Int32.ofInt x := by
    rw [vp_nar_byte]
    apply Int32.toInt_inj.mp
    rw [Int32.toInt8_ofInt, Int8.toInt_toInt32, Int8.toInt_ofInt_of_le (by omega) (by omega), Int32.toInt_ofInt_of_le (by omega) (by omega)]
  rw [wl_set (σ' := σ2) hr (by
    rw [mEnt_byte h.1, hσ, hnar]
    exact congrArg (fun f => (Sum.inl (eT E 2, (shp r).2, Sum.inl f) : va_E)) (upd_row σ r (wI j).toNat x)) (fun k hk => by rw [hσ]; exact upS_row hk)] at hP hD
  exact kk H1 locs1 ⟨m1, m2, m3, hP, hD, hS⟩
theorem r_lastore (G : CallFix p m c cc nL s args mTs own) (hM : mM A E 257 σ s H locs) {r k : Nat} {j x : Int} (h : ixOK r 21 j) (hk : (wI j).toNat = k) (σ2 : mSt) (hσ : σ2 = upS σ r k x) (d : decode cc pc = .ok (.lastore, 1)) (hn : pc + 1 = np)
    (kk : ∀ (H1 : Heap) (locs1 : List Loc), mM A E 257 σ2 s H1 locs1 → W p l e R s m args below meth c H1 locs1 cells slots Q (F0 m np ls rest)) : W p l e R s m args below meth c H locs cells slots Q (F0 m pc ls (vL x :: vI j :: .ref (eA E r) :: rest)) := by
  subst hn
  subst hk
  obtain ⟨m1, m2, m3, m4, m5, m6⟩ := hM
  have hr := shp_lt h.1 (by decide)
  refine va_last G.1 G.2.1 m2 m4 m5 m6 r 1 ((wl_get hr).trans (by rw [mEnt_long h.1])) rfl (ix_in h rfl) d (fun H1 locs1 hP hD hS => ?_)
  rw [wl_set (σ' := σ2) hr (by
    rw [mEnt_long h.1, hσ]
    exact congrArg (fun f => (Sum.inl (eT E 1, (shp r).2, Sum.inr (Sum.inl f)) : va_E)) (updL_row σ r (wI j).toNat x)) (fun k hk => by rw [hσ]; exact upS_row hk)] at hP hD
  exact kk H1 locs1 ⟨m1, m2, m3, hP, hD, hS⟩
theorem r_alen (G : CallFix p m c cc nL s args mTs own) (hM : mM A E 257 σ s H locs) {r : Nat} (h : (shp r).1 = 20 ∨ (shp r).1 = 21 ∨ (shp r).1 = 22) (d : decode cc pc = .ok (.arraylength, 1)) (hn : pc + 1 = np)
    (kk : W p l e R s m args below meth c H locs cells slots Q (F0 m np ls (vI ((shp r).2 : Int) :: rest))) : W p l e R s m args below meth c H locs cells slots Q (F0 m pc ls (.ref (eA E r) :: rest)) := by
  subst hn
  rcases h with h | h | h
  · have ha := (wl_get (σ := σ) (E := E) (shp_lt h (by decide))).trans (by rw [mEnt_int h])
    exact va_alen (v := Int32.ofInt ((shp r).2 : Int)) G.1 G.2.1 hM.2.1 hM.2.2.2.1 r 0 ha rfl Int32.ofInt_eq_ofNat.symm d kk
  · have ha := (wl_get (σ := σ) (E := E) (shp_lt h (by decide))).trans (by rw [mEnt_long h])
    exact va_alen (v := Int32.ofInt ((shp r).2 : Int)) G.1 G.2.1 hM.2.1 hM.2.2.2.1 r 1 ha rfl Int32.ofInt_eq_ofNat.symm d kk
  · have ha := (wl_get (σ := σ) (E := E) (shp_lt h (by decide))).trans (by rw [mEnt_byte h])
    exact va_alen (v := Int32.ofInt ((shp r).2 : Int)) G.1 G.2.1 hM.2.1 hM.2.2.2.1 r 2 ha rfl Int32.ofInt_eq_ofNat.symm d kk
end MH

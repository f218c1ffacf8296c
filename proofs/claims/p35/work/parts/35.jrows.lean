/-! THE JDK'S TEXTS. A session of a builder: all cells that may change come from lo on; texts lie below lo and stay. -/
def jL (lo : Nat) : Nat → Prop := fun q => lo ≤ q
/-- a text: its cell, its bytes' cell, its bytes -/
abbrev sX : Type := Nat × Nat × List Nat
def sT (A : Nat → Prop) (x : sX) (U : State) (H : Heap) : Prop :=
  va_O "java/lang/String" x.1 A U H ∧ va_OF "java/lang/String" "coder" "B" (.int 0) x.1 A U H ∧ va_OF "java/lang/String" "value" "[B" (.ref x.2.1) x.1 A U H ∧ va_T .byte x.2.1 x.2.2.length (fun j => .int (Int32.ofNat (x.2.2.getD j 0))) A U H ∧ x.2.2.length ≤ 300 ∧ ∀ c ∈ x.2.2, c < 128
theorem sT.ride {A B : Nat → Prop} {x : sX} {s U : State} {H H' : Heap} (h : sT A x s H) (hW : s.WarmedH U.vm) (hH : ∀ a : Nat, a < H.size → ¬ A a → H'[a]? = H[a]?) (hAB : ∀ q, B q → A q) : sT B x U H' :=
  ⟨va_O.moved hW.alike ((h.1.kept hH).narrow hAB), va_OF.moved hW.alike ((h.2.1.kept hH).narrow hAB), va_OF.moved hW.alike ((h.2.2.1.kept hH).narrow hAB), va_T.moved hW.alike ((h.2.2.2.1.kept hH).narrow hAB), h.2.2.2.2⟩
def jPre (E : mE) (lo : Nat) (ws : va_W) (xs : List sX) (U : State) : Prop :=
  mWords U ∧ va_K (eD E) vwCl (mTys E) U ∧ mX (jL lo) E U U.heap ∧ va_P (eD E) vwCl ws U.heap ∧ va_D (jL lo) ws ∧ lo ≤ U.heap.size ∧ ∀ x ∈ xs, sT (jL lo) x U U.heap
def jQ (E : mE) (lo : Nat) (Post : Option Value → va_W → Prop) : Array Value → State → Outcome → State → Prop := fun _ st oc t =>
  (∃ v ws, oc = .returned v ∧ Post v ws ∧ va_P (eD E) vwCl ws t.heap ∧ va_D (jL lo) ws) ∧ va_F (jL lo) st t
def jMet (l : Launch) (y : MethodName) (cc : ByteArray) (maxL : Nat) (ret : Option FieldType) (fr lc mc ms : Nat) (E : mE) (lo : Nat) (As : List Value) (ws : va_W) (xs : List sX) (Post : Option Value → va_W → Prop) : Prop :=
  Met l y [.code y cc maxL ret] ({ frames := fr, cells := mc, slots := ms, locals := lc } : Room) (va_Pc As (jPre E lo ws xs)) (jQ E lo Post) mc ms (jL lo)
def jM (E : mE) (lo : Nat) (ws : va_W) (xs : List sX) (s : State) (H : Heap) (locs : List Loc) : Prop :=
  mWords s ∧ va_K (eD E) vwCl (mTys E) s ∧ mX (jL lo) E s s.heap ∧ va_P (eD E) vwCl ws H ∧ va_D (jL lo) ws ∧ lo ≤ s.heap.size ∧ (∀ x ∈ xs, sT (jL lo) x s s.heap) ∧ va_S (jL lo) s.heap H locs
theorem jPre.blind {E : mE} {lo : Nat} {ws : va_W} {xs : List sX} {As : List Value} : FrameBlind (va_Pc As (jPre E lo ws xs)) := by
  rintro a U g mk ⟨h0, h1, h2, h3, h4, h5, h6, h7⟩
  have hW : U.WarmedH (U.calling g mk a).vm := State.WarmedH.refl U
  exact ⟨h0, mWords.ride hW (mWords.use (args := #[]) h1), va_K.moved (U := U.calling g mk a) hW.alike h2, h3.ride (U := U.calling g mk a) hW (fun _ _ _ => rfl) (fun _ h => h), h4, h5, h6, fun x hx => (h7 x hx).ride (U := U.calling g mk a) hW (fun _ _ _ => rfl) (fun _ h => h)⟩
theorem jM.pre {E : mE} {lo : Nat} {ws : va_W} {xs ys : List sX} {s U : State} {H : Heap} {locs : List Loc} (h : jM E lo ws xs s H locs) (hy : ∀ x ∈ ys, x ∈ xs) (hU : U.heap = H) (hW : s.WarmedH U.vm) : jPre E lo ws ys U := by
  obtain ⟨h1, h2, h3, h4, h5, h6, h7, h8⟩ := h
  subst hU
  exact ⟨mWords.ride hW (mWords.use (args := #[]) h1), va_K.moved hW.alike h2, h3.ride hW (fun a ha hn => h8.2.1 a ha hn) (fun _ h => h), h4, h5, Nat.le_trans h6 h8.1, fun x hx => (h7 x (hy x hx)).ride hW (fun a ha hn => h8.2.1 a ha hn) (fun _ h => h)⟩
/-- how a method of y is chosen for objects of the class C -/
def jYV (C : String) (y : MethodName) (cc : ByteArray) (maxL : Nat) (ret : Option FieldType) (n : Nat) : Prop := mY y cc maxL ret n ∧ Cond.instanceMethod y ∈ mTs ∧ (Cond.selects C y y ∈ mTs ∨ (Cond.instantiable C 4 ∈ mTs ∧ Cond.privateMethod y ∈ mTs))
theorem j_selP {C : String} {y : MethodName} {s : State} {args : Array Value} {n : Nat} (hy : y.cls ≠ "java/lang/invoke/MethodHandle" ∧ y.cls ≠ "java/lang/invoke/VarHandle")
    (hins : (Cond.instantiable C n).before args s = true) (hpriv : (Cond.privateMethod y).before args s = true) (hinst : (Cond.instanceMethod y).before args s = true) (hni : ∀ c k, s.vm.findClass y.cls = some c → s.vm.classes[c]? = some k → k.isInterface = false) :
    (Cond.selects C y y).before args s = true := by
  obtain ⟨c, k, hc, hk, -, -, -, -⟩ := Cond.instantiable_spec hins
  obtain ⟨mk, methM, hnamed, hmethM, -, -⟩ := Cond.instanceMethod_spec hinst
  have hfound : s.methodFound? y.cls y.name y.desc = some mk := State.methodFound?_of_named hnamed hy
  have hsel : selectMethod {} s.vm c mk = .method mk := selectMethod_private hmethM (Cond.privateMethod_at hpriv mk methM hnamed hmethM)
  obtain ⟨kc, hkc, -⟩ := className_of_methodNamed hnamed
  have h9 := hni _ kc (findClass_of_methodNamed hnamed) hkc
  simp only [Cond.before, Cond.holds, Cond.value, hc, hfound, hnamed, hsel, hkc]
  simp [h9]
section JR
variable {p : Program} {l : Launch} {e : Env} {R : Room} {s : State} {m : MethodId} {args : Array Value} {below : List Frame} {meth : Method} {c : Code} {H : Heap} {locs : List Loc} {cells slots : Nat} {Q : State → Prop}
variable {cc : ByteArray} {pc np nL : Nat} {ls : Array Slot} {rest st : List Value} {own : String} {E : mE} {lo : Nat} {ws : va_W} {xs ys : List sX} {Post : Option Value → va_W → Prop}
theorem j_entry {y : MethodName} {maxL fr lc mc ms : Nat} {ret : Option FieldType} {As : List Value} (hy : plainFor y = true) (hA : (lg_sl As).length ≤ maxL)
    (body : ∀ (p : Program) (e : Env) (s : State) (m : MethodId) (args : Array Value) (below : List Frame) (meth : Method) (c : Code) (_ : CallFix p m c cc maxL s args mTs y.cls) (_ : meth.sig.returnType = ret) (_ : meth.locks = false) (_ : meth.name = y.name) (_ : jM E lo ws xs s s.heap []) (ls : Array Slot) (_ : lv_has ls maxL (lv_args 0 As)),
      W p l e ({ frames := fr, cells := mc, slots := ms, locals := lc } : Room) s m args below meth c s.heap [] 0 0 (MQ below (jQ E lo Post) args s mc ms (jL lo)) (F0 m 0 ls [])) : jMet l y cc maxL ret fr lc mc ms E lo As ws xs Post := by
  refine va_MetF (cc := cc) (maxL := maxL) (ret := ret) hy rfl ?_
  intro p e s m args below meth c s₁ B hml hv
  obtain ⟨rfl, w1, w2, w3, w4, w5, w6, w7⟩ := hv
  rw [lg_entry_eq]
  exact body p e s m _ below meth c ⟨B.exec, B.bytes, hml, findClass_of_methodNamed B.named, mWords.use w1⟩ B.returns B.notSynchronized (name_of_methodNamed B.named B.method).1 ⟨w1, w2, w3, w4, w5, w6, w7, va_S.rf⟩ _ (lv_entry As hA)
theorem j_go {mc ms : Nat} {st0 : List Value} {a : Array Value} (hr : va_Run p l e R s m args below meth c H locs cells slots mc ms (F0 m pc ls st0) rest (jQ E lo Post a) (jL lo)) (hJ : jM E lo ws xs s H locs)
    (kk : ∀ (v : Option Value) (ws2 : va_W) (H1 : Heap) (locs1 : List Loc), Post v ws2 → jM E lo ws2 xs s H1 locs1 → W p l e R s m args below meth c H1 locs1 (cells + mc) (slots + ms) Q (F0 m (pc + 3) ls (v.toList ++ rest))) : W p l e R s m args below meth c H locs cells slots Q (F0 m pc ls st0) := by
  intro T hT X
  obtain ⟨m1, m2, m3, m4, m5, m6, m7, m8⟩ := hJ
  obtain ⟨v', st₀, t, T', L, h0, X', hL, e1, e2, ⟨⟨v, ws2, hv, hp, hP, hD⟩, hz, hk⟩, st⟩ := hr T hT X
  cases hv
  rw [h0] at hz hk
  obtain ⟨t2, a1, b1⟩ := kk _ ws2 T'.heap (locs ++ L) hp ⟨m1, m2, m3, by rw [e1]; exact hP, hD, m6, m7, Nat.le_trans m8.1 (by rw [e1]; exact hz), fun q h1 h2 => by rw [e1, hk q (Nat.lt_of_lt_of_le h1 m8.1) h2]; exact m8.2.1 q h1 h2, fun q hq => by
      rcases List.mem_append.mp hq with h | h
      · exact m8.2.2 q h
      · exact hL q h⟩ T' rfl X'
  exact ⟨t2, st t2 a1, b1⟩
theorem j_cb (G : CallFix p m c cc nL s args mTs own) {y : MethodName} {cc' : ByteArray} {maxL fr lc mc ms n ix : Nat} {ret : Option FieldType} (hY : mY y cc' maxL ret n) (hw : Cond.methodLink own ix y ∈ mTs) (hroom : fr + 1 ≤ R.frames ∧ 8 + (maxL + 11) + lc ≤ R.locals) :
    CallB R s args own ix y cc' maxL ret [.code y cc' maxL ret] ({ frames := fr, cells := mc, slots := ms, locals := lc } : Room) mc ms n :=
  ⟨rfl, rfl, hroom.1, hroom.2, fun w h a' U hW => by rw [List.mem_singleton.mp h]; exact m_rideW G hY.1 a' U hW, List.mem_singleton.mpr rfl, G.2.2.2.2 _ hY.1, G.2.2.2.2 _ hY.2.1, hY.2.2.1, hY.len, G.2.2.2.2 _ hw⟩
theorem j_sel (G : CallFix p m c cc nL s args mTs own) {C : String} {y : MethodName} {cc' : ByteArray} {maxL n : Nat} {ret : Option FieldType} (hY : jYV C y cc' maxL ret n) (hni : Cond.instantiable C 4 ∈ mTs ∧ Cond.privateMethod y ∈ mTs → ∀ c k, s.vm.findClass y.cls = some c → s.vm.classes[c]? = some k → k.isInterface = false) : (Cond.selects C y y).before args s = true := by
  rcases hY.2.2 with h | h
  · exact G.2.2.2.2 _ h
  · exact j_selP hY.1.2.2.1 (G.2.2.2.2 _ h.1) (G.2.2.2.2 _ h.2) (G.2.2.2.2 _ hY.2.1) (hni h)
/-- a call of a method of an object, its class C -/
theorem j_callV (G : CallFix p m c cc nL s args mTs own) (hJ : jM E lo ws xs s H locs) (hls : ls.size = nL) {C : String} {y : MethodName} {cc' : ByteArray} {maxL fr lc mc ms b ix : Nat} {ret : Option FieldType} (As : List Value) (hc : jMet l y cc' maxL ret fr lc mc ms E lo (.ref b :: As) ws ys Post) (hy : ∀ x ∈ ys, x ∈ xs) (hY : jYV C y cc' maxL ret As.length) (hw : Cond.methodLink own ix y ∈ mTs)
    (hni : Cond.instantiable C 4 ∈ mTs ∧ Cond.privateMethod y ∈ mTs → ∀ c k, s.vm.findClass y.cls = some c → s.vm.classes[c]? = some k → k.isInterface = false)
    (hrec : ∃ cell : Cell, H[b]? = some cell ∧ cell.vm.isStatics = false ∧ s.vm.findClass C = some cell.cls) (hroom : fr + 1 ≤ R.frames ∧ 8 + (maxL + 11) + lc ≤ R.locals) (hcs : cells + mc ≤ R.cells ∧ slots + ms ≤ R.slots) (rest : List Value)
    (hst : st = As.reverse ++ .ref b :: rest) (hcat : (rest.map fun v => v.category).sum ≤ 8) (d : decode cc pc = .ok (.invokevirtual ix, 3)) (hn : pc + 3 = np)
    (kk : ∀ (v : Option Value) (ws2 : va_W) (H1 : Heap) (locs1 : List Loc), Post v ws2 → jM E lo ws2 xs s H1 locs1 → W p l e R s m args below meth c H1 locs1 (cells + mc) (slots + ms) Q (F0 m np ls (v.toList ++ rest))) : W p l e R s m args below meth c H locs cells slots Q (F0 m pc ls st) := by
  subst hn
  subst hst
  exact j_go (va_runV (C := C) (As := As) (rest := rest) G hc ⟨j_cb G hY.1 hw hroom, G.2.2.2.2 _ hY.2.1, j_sel G hY hni⟩ ⟨jPre.blind, hrec, fun U hU hW => ⟨rfl, hJ.pre hy hU hW⟩⟩ rfl rfl hls rfl (lv_room hcat) d hcs) hJ kk
theorem j_callS (G : CallFix p m c cc nL s args mTs own) (hJ : jM E lo ws xs s H locs) (hls : ls.size = nL) {y : MethodName} {cc' : ByteArray} {maxL fr lc mc ms ix : Nat} {ret : Option FieldType} (As : List Value) (hc : jMet l y cc' maxL ret fr lc mc ms E lo As ws ys Post) (hy : ∀ x ∈ ys, x ∈ xs) (hY : mYS y cc' maxL ret As.length) (hw : Cond.methodLink own ix y ∈ mTs)
    (hroom : fr + 1 ≤ R.frames ∧ 8 + (maxL + 11) + lc ≤ R.locals) (hcs : cells + mc ≤ R.cells ∧ slots + ms ≤ R.slots) (rest : List Value)
    (hst : st = As.reverse ++ rest) (hcat : (rest.map fun v => v.category).sum ≤ 8) (d : decode cc pc = .ok (.invokestatic ix, 3)) (hn : pc + 3 = np)
    (kk : ∀ (v : Option Value) (ws2 : va_W) (H1 : Heap) (locs1 : List Loc), Post v ws2 → jM E lo ws2 xs s H1 locs1 → W p l e R s m args below meth c H1 locs1 (cells + mc) (slots + ms) Q (F0 m np ls (v.toList ++ rest))) : W p l e R s m args below meth c H locs cells slots Q (F0 m pc ls st) := by
  subst hn
  subst hst
  exact j_go (va_runS (As := As) (rest := rest) G hc ⟨j_cb G hY.1 hw hroom, G.2.2.2.2 _ hY.2⟩ ⟨jPre.blind, fun U hU hW => ⟨rfl, hJ.pre hy hU hW⟩⟩ rfl rfl hls rfl (lv_room hcat) d hcs) hJ kk
theorem j_callI (G : CallFix p m c cc nL s args mTs own) (hJ : jM E lo ws xs s H locs) (hls : ls.size = nL) {y : MethodName} {cc' : ByteArray} {maxL fr lc mc ms b ix : Nat} (As : List Value) (hc : jMet l y cc' maxL none fr lc mc ms E lo (.ref b :: As) ws ys Post) (hy : ∀ x ∈ ys, x ∈ xs) (hY : mY y cc' maxL none As.length ∧ Cond.instanceMethod y ∈ mTs) (hw : Cond.methodLink own ix y ∈ mTs)
    (hroom : fr + 1 ≤ R.frames ∧ 8 + (maxL + 11) + lc ≤ R.locals) (hcs : cells + mc ≤ R.cells ∧ slots + ms ≤ R.slots) (rest : List Value)
    (hst : st = As.reverse ++ .ref b :: rest) (hcat : (rest.map fun v => v.category).sum ≤ 8) (d : decode cc pc = .ok (.invokespecial ix, 3)) (hn : pc + 3 = np)
    (kk : ∀ (v : Option Value) (ws2 : va_W) (H1 : Heap) (locs1 : List Loc), Post v ws2 → jM E lo ws2 xs s H1 locs1 → W p l e R s m args below meth c H1 locs1 (cells + mc) (slots + ms) Q (F0 m np ls (v.toList ++ rest))) (hy1 : y.name = "<init>" := by rfl) : W p l e R s m args below meth c H locs cells slots Q (F0 m pc ls st) := by
  subst hn
  subst hst
  exact j_go (va_runI (As := As) (rest := rest) G hc ⟨j_cb G hY.1 hw hroom, hy1, G.2.2.2.2 _ hY.2⟩ ⟨jPre.blind, fun U hU hW => ⟨rfl, hJ.pre hy hU hW⟩⟩ rfl rfl hls rfl (lv_room hcat) d hcs) hJ kk
/-- what the receiver is: the builder's class; a text's class -/
theorem j_recB (hJ : jM E lo ws xs s H locs) (k : Nat) {b : Nat} {fs : List Value} (hk : ws[k]? = some (b, .inr (12, fs))) : ∃ cell : Cell, H[b]? = some cell ∧ cell.vm.isStatics = false ∧ s.vm.findClass "java/lang/StringBuilder" = some cell.cls :=
  va_recv hJ.2.1 hJ.2.2.2.1 (show vwCl[12]? = some (RJ4, TJ4, 4) from rfl) hk
theorem j_recX (hJ : jM E lo ws xs s H locs) {x : sX} (hx : x ∈ xs) : ∃ cell : Cell, H[x.1]? = some cell ∧ cell.vm.isStatics = false ∧ s.vm.findClass "java/lang/String" = some cell.cls := by
  obtain ⟨cell, h1, h2, h3, -⟩ := (hJ.2.2.2.2.2.2.1 x hx).1.kept hJ.2.2.2.2.2.2.2.2.1
  exact ⟨cell, h1, h2, h3⟩
/-- fields of the objects of a session: class ci (11 String, 12 StringBuilder) -/
def jFld (ci k : Nat) (C : String) (T : u_T) : Prop := vwCl[ci]? = some (C, T, 4) ∧ (∀ w ∈ u_ws C T 4, w ∈ mTs) ∧ k < 4
theorem j_get (G : CallFix p m c cc nL s args mTs own) (hJ : jM E lo ws xs s H locs) (i : Nat) {ci k b : Nat} {C : String} {T : u_T} {fs : List Value} (hi : ws[i]? = some (b, .inr (ci, fs))) (hF : jFld ci k C T) {v : Value} (hv : fs[k]? = some v) {ix : Nat} (hw : Cond.fieldLink own ix (T k).1 (T k).2.1 (T k).2.2.1 ∈ mTs) (d : decode cc pc = .ok (.getfield ix, 3)) (hn : pc + 3 = np)
    (kk : W p l e R s m args below meth c H locs cells slots Q (F0 m np ls (v :: rest))) : W p l e R s m args below meth c H locs cells slots Q (F0 m pc ls (.ref b :: rest)) := by
  subst hn
  exact va_get (C := C) (T := T) (N := 4) (ref := (T k).1) G.1 G.2.1 G.2.2.2.2 hF.2.1 G.2.2.2.1 hJ.2.1 hJ.2.2.2.1 i hi hF.1 k hF.2.2 (G.2.2.2.2 _ hw) (fun _ h => h) hv d kk
theorem j_put (G : CallFix p m c cc nL s args mTs own) (hJ : jM E lo ws xs s H locs) (i : Nat) {ci k b : Nat} {C : String} {T : u_T} {ty0 : Nat → FieldType} {ty : FieldType} {fs : List Value} (hi : ws[i]? = some (b, .inr (ci, fs))) (hF : jFld ci k C T) (h6 : ∀ j, j < 4 → parseFieldDescriptor (T j).2.2.1 = some (ty0 j)) (h7 : ∀ a, a < 4 → ∀ b, b < 4 → a ≠ b → (T a).2.1 ≠ (T b).2.1) (hfin : (T k).2.2.2 = false) (h8 : parseFieldDescriptor (T k).2.2.1 = some ty) {v : Value} (h1 : narrow ty v = v) (h2 : fits ty v = true) (hl : k < fs.length) {ix : Nat} (hw : Cond.fieldLink own ix (T k).1 (T k).2.1 (T k).2.2.1 ∈ mTs) (d : decode cc pc = .ok (.putfield ix, 3)) (hn : pc + 3 = np)
    (kk : ∀ (H1 : Heap) (locs1 : List Loc), jM E lo (ws.set i (b, .inr (ci, fs.set k v))) xs s H1 locs1 → W p l e R s m args below meth c H1 locs1 cells slots Q (F0 m np ls rest)) : W p l e R s m args below meth c H locs cells slots Q (F0 m pc ls (v :: .ref b :: rest)) := by
  subst hn
  obtain ⟨m1, m2, m3, m4, m5, m6, m7, m8⟩ := hJ
  exact va_put (C := C) (T := T) (N := 4) (ref := (T k).1) G.1 G.2.1 G.2.2.2.2 hF.2.1 ty0 h6 h7 G.2.2.2.1 m2 m4 m5 m8 i hi hF.1 k hF.2.2 (G.2.2.2.2 _ hw) (fun _ h => h) hfin h8 h1 h2 hl d (fun H1 locs1 hP hD hS => kk H1 locs1 ⟨m1, m2, m3, hP, hD, m6, m7, hS⟩)
theorem j_putF (G : CallFix p m c cc nL s args mTs own) (hJ : jM E lo ws xs s H locs) (i : Nat) {ci k b : Nat} {C : String} {T : u_T} {ty0 : Nat → FieldType} {ty : FieldType} {fs : List Value} (hi : ws[i]? = some (b, .inr (ci, fs))) (hF : jFld ci k C T) (h6 : ∀ j, j < 4 → parseFieldDescriptor (T j).2.2.1 = some (ty0 j)) (h7 : ∀ a, a < 4 → ∀ b, b < 4 → a ≠ b → (T a).2.1 ≠ (T b).2.1) (hfin : (T k).2.2.2 = true) (hin : meth.name = "<init>") (hdecl : (T k).1 = own) (h8 : parseFieldDescriptor (T k).2.2.1 = some ty) {v : Value} (h1 : narrow ty v = v) (h2 : fits ty v = true) (hl : k < fs.length) {ix : Nat} (hw : Cond.fieldLink own ix (T k).1 (T k).2.1 (T k).2.2.1 ∈ mTs) (d : decode cc pc = .ok (.putfield ix, 3)) (hn : pc + 3 = np)
    (kk : ∀ (H1 : Heap) (locs1 : List Loc), jM E lo (ws.set i (b, .inr (ci, fs.set k v))) xs s H1 locs1 → W p l e R s m args below meth c H1 locs1 cells slots Q (F0 m np ls rest)) : W p l e R s m args below meth c H locs cells slots Q (F0 m pc ls (v :: .ref b :: rest)) := by
  subst hn
  obtain ⟨m1, m2, m3, m4, m5, m6, m7, m8⟩ := hJ
  exact va_putF (C := C) (T := T) (N := 4) (ref := (T k).1) G.1 G.2.1 G.2.2.2.2 hF.2.1 ty0 h6 h7 G.2.2.2.1 m2 m4 m5 m8 i hi hF.1 k hF.2.2 (G.2.2.2.2 _ hw) (fun _ h => h) hfin hin hdecl h8 h1 h2 hl d (fun H1 locs1 hP hD hS => kk H1 locs1 ⟨m1, m2, m3, hP, hD, m6, m7, hS⟩)
/-- the bytes of a session -/
theorem j_alen (G : CallFix p m c cc nL s args mTs own) (hJ : jM E lo ws xs s H locs) (i : Nat) {d0 n : Nat} {f : Nat → Int32} (hi : ws[i]? = some (d0, .inl (eT E 2, n, .inl f))) (d : decode cc pc = .ok (.arraylength, 1)) (hn : pc + 1 = np)
    (kk : W p l e R s m args below meth c H locs cells slots Q (F0 m np ls (vI (n : Int) :: rest))) : W p l e R s m args below meth c H locs cells slots Q (F0 m pc ls (.ref d0 :: rest)) := by
  subst hn
  exact va_alen G.1 G.2.1 hJ.2.1 hJ.2.2.2.1 i 2 hi (show (mTys E)[2]? = some (eT E 2, .byte) from rfl) (show Int32.ofNat n = Int32.ofInt (n : Int) from Int32.ofInt_eq_ofNat.symm) d kk
theorem j_bast (G : CallFix p m c cc nL s args mTs own) (hJ : jM E lo ws xs s H locs) (i : Nat) {d0 n : Nat} {f : Nat → Int32} (hi : ws[i]? = some (d0, .inl (eT E 2, n, .inl f))) {j x : Int} (hj : 0 ≤ wI j ∧ wI j < (n : Int)) (hx : -128 ≤ x ∧ x < 128) (d : decode cc pc = .ok (.bastore, 1)) (hn : pc + 1 = np)
    (kk : ∀ (H1 : Heap) (locs1 : List Loc), jM E lo (ws.set i (d0, .inl (eT E 2, n, .inl (upd f (wI j).toNat (Int32.ofInt x))))) xs s H1 locs1 → W p l e R s m args below meth c H1 locs1 cells slots Q (F0 m np ls rest)) : W p l e R s m args below meth c H locs cells slots Q (F0 m pc ls (vI x :: vI j :: .ref d0 :: rest)) := by
  subst hn
  obtain ⟨m1, m2, m3, m4, m5, m6, m7, m8⟩ := hJ
  have hin : vp_in (Int32.ofInt j) n := vp_in_iff.mpr hj
  have hnx : vp_nar .byte (Int32.ofInt x) = Int32.ofInt x := by
    have e : Int32.ofInt x = (Int32.ofInt x).toInt8.toInt32 := by
      apply Int32.toInt_inj.mp
      rw [Int32.toInt8_ofInt, Int8.toInt_toInt32, Int8.toInt_ofInt_of_le (by omega) (by omega), Int32.toInt_ofInt_of_le (by omega) (by omega)]
    exact e.symm
  refine va_bast G.1 G.2.1 m2 m4 m5 m8 i 2 hi (show (mTys E)[2]? = some (eT E 2, .byte) from rfl) hin d (fun H1 locs1 hP hD hS => kk H1 locs1 ⟨m1, m2, m3, ?_, ?_, m6, m7, hS⟩)
  · rw [hnx] at hP; exact hP
  · rw [hnx] at hD; exact hD
/-- constants of the start -/
theorem j_gets1 (G : CallFix p m c cc nL s args mTs own) (hJ : jM E lo ws xs s H locs) {ix : Nat} (hw : Cond.fieldLink own ix "java/lang/String" "COMPACT_STRINGS" "Z" ∈ mTs) (d : decode cc pc = .ok (.getstatic ix, 3)) (hn : pc + 3 = np)
    (kk : W p l e R s m args below meth c H locs cells slots Q (F0 m np ls (vI 1 :: rest))) : W p l e R s m args below meth c H locs cells slots Q (F0 m pc ls rest) := by
  subst hn
  exact va_gets G.1 G.2.1 hJ.2.2.1.2.2.1 hJ.2.2.2.2.2.2.2 G.2.2.2.1 (G.2.2.2.2 _ hw) (fun _ h => h) d kk
/-- reading a text -/
theorem j_xval (G : CallFix p m c cc nL s args mTs own) (hJ : jM E lo ws xs s H locs) {x : sX} (hx : x ∈ xs) {ix : Nat} (hw : Cond.fieldLink own ix "java/lang/String" "value" "[B" ∈ mTs) (d : decode cc pc = .ok (.getfield ix, 3)) (hn : pc + 3 = np)
    (kk : W p l e R s m args below meth c H locs cells slots Q (F0 m np ls (.ref x.2.1 :: rest))) : W p l e R s m args below meth c H locs cells slots Q (F0 m pc ls (.ref x.1 :: rest)) := by
  subst hn
  exact vk_getf G.1 G.2.1 (hJ.2.2.2.2.2.2.1 x hx).2.2.1 hJ.2.2.2.2.2.2.2 G.2.2.2.1 (G.2.2.2.2 _ hw) (fun _ h => h) d kk
theorem j_xcod (G : CallFix p m c cc nL s args mTs own) (hJ : jM E lo ws xs s H locs) {x : sX} (hx : x ∈ xs) {ix : Nat} (hw : Cond.fieldLink own ix "java/lang/String" "coder" "B" ∈ mTs) (d : decode cc pc = .ok (.getfield ix, 3)) (hn : pc + 3 = np)
    (kk : W p l e R s m args below meth c H locs cells slots Q (F0 m np ls (vI 0 :: rest))) : W p l e R s m args below meth c H locs cells slots Q (F0 m pc ls (.ref x.1 :: rest)) := by
  subst hn
  exact vk_getf G.1 G.2.1 (hJ.2.2.2.2.2.2.1 x hx).2.1 hJ.2.2.2.2.2.2.2 G.2.2.2.1 (G.2.2.2.2 _ hw) (fun _ h => h) d kk
theorem j_xlen (G : CallFix p m c cc nL s args mTs own) (hJ : jM E lo ws xs s H locs) {x : sX} (hx : x ∈ xs) (d : decode cc pc = .ok (.arraylength, 1)) (hn : pc + 1 = np)
    (kk : W p l e R s m args below meth c H locs cells slots Q (F0 m np ls (vI (x.2.2.length : Int) :: rest))) : W p l e R s m args below meth c H locs cells slots Q (F0 m pc ls (.ref x.2.1 :: rest)) := by
  subst hn
  obtain ⟨cell, h1, h2, h3, h4, h5, h6, h7⟩ := (hJ.2.2.2.2.2.2.1 x hx).2.2.2.1.kept hJ.2.2.2.2.2.2.2.2.1
  exact W.alen (n := Int32.ofInt (x.2.2.length : Int)) G.1 G.2.1 h1 h2 (h5.trans Int32.ofInt_eq_ofNat.symm) rfl rfl d kk
theorem j_xbal (G : CallFix p m c cc nL s args mTs own) (hJ : jM E lo ws xs s H locs) {x : sX} (hx : x ∈ xs) {i : Int} (hi : 0 ≤ wI i ∧ wI i < (x.2.2.length : Int)) (d : decode cc pc = .ok (.baload, 1)) (hn : pc + 1 = np)
    (kk : W p l e R s m args below meth c H locs cells slots Q (F0 m np ls (.int (Int32.ofNat (x.2.2.getD (wI i).toNat 0)) :: rest))) : W p l e R s m args below meth c H locs cells slots Q (F0 m pc ls (vI i :: .ref x.2.1 :: rest)) := by
  subst hn
  obtain ⟨cell, h1, h2, h3, h4, h5, h6, h7⟩ := (hJ.2.2.2.2.2.2.1 x hx).2.2.2.1.kept hJ.2.2.2.2.2.2.2.2.1
  have hlt : (wI i).toNat < x.2.2.length := by omega
  refine W.bald (v := .int (Int32.ofNat (x.2.2.getD (wI i).toNat 0))) G.1 G.2.1 h1 h2 h3 ?_ (h6 _ hlt) rfl rfl d kk
  rintro (q | q)
  · have : wI i < 0 := Int32.lt_iff_toInt_lt.mp q
    omega
  · have : (Int32.ofInt i).toNatClampNeg = (wI i).toNat := rfl
    rw [this] at q
    omega
/-! ends -/
theorem j_iret {mc ms : Nat} (G : CallFix p m c cc nL s args mTs own) (hr : meth.sig.returnType = some .int) (hlk : meth.locks = false) (hJ : jM E lo ws xs s H locs) {x : Int} (hp : Post (some (vI x)) ws) (h1 : cells ≤ mc) (h2 : slots ≤ ms) (d : decode cc pc = .ok (.ireturn, 1)) : W p l e R s m args below meth c H locs cells slots (MQ below (jQ E lo Post) args s mc ms (jL lo)) (F0 m pc ls [vI x]) :=
  W.widen h1 h2 (W.iret G.1 G.2.1 hr (fun t ht _ => ⟨⟨_, ws, rfl, hp, by rw [ht]; exact hJ.2.2.2.1, hJ.2.2.2.2.1⟩, hJ.2.2.2.2.2.2.2.F ht⟩) hJ.2.2.2.2.2.2.2.2.2 d hlk)
theorem j_zret {mc ms : Nat} (G : CallFix p m c cc nL s args mTs own) (hr : meth.sig.returnType = some .boolean) (hlk : meth.locks = false) (hJ : jM E lo ws xs s H locs) {x : Int} (h01 : x = 0 ∨ x = 1) (hp : Post (some (vI x)) ws) (h1 : cells ≤ mc) (h2 : slots ≤ ms) (d : decode cc pc = .ok (.ireturn, 1)) : W p l e R s m args below meth c H locs cells slots (MQ below (jQ E lo Post) args s mc ms (jL lo)) (F0 m pc ls [vI x]) :=
  W.widen h1 h2 (W.zret G.1 G.2.1 hr (by rcases h01 with rfl | rfl <;> decide) (fun t ht _ => ⟨⟨_, ws, rfl, hp, by rw [ht]; exact hJ.2.2.2.1, hJ.2.2.2.2.1⟩, hJ.2.2.2.2.2.2.2.F ht⟩) hJ.2.2.2.2.2.2.2.2.2 d hlk)
theorem j_bret0 {mc ms : Nat} (G : CallFix p m c cc nL s args mTs own) (hr : meth.sig.returnType = some .byte) (hlk : meth.locks = false) (hJ : jM E lo ws xs s H locs) (hp : Post (some (vI 0)) ws) (h1 : cells ≤ mc) (h2 : slots ≤ ms) (d : decode cc pc = .ok (.ireturn, 1)) : W p l e R s m args below meth c H locs cells slots (MQ below (jQ E lo Post) args s mc ms (jL lo)) (F0 m pc ls [vI 0]) :=
  W.widen h1 h2 (W.zret G.1 G.2.1 hr (by decide) (fun t ht _ => ⟨⟨_, ws, rfl, hp, by rw [ht]; exact hJ.2.2.2.1, hJ.2.2.2.2.1⟩, hJ.2.2.2.2.2.2.2.F ht⟩) hJ.2.2.2.2.2.2.2.2.2 d hlk)
theorem j_vret {mc ms : Nat} (G : CallFix p m c cc nL s args mTs own) (hr : meth.sig.returnType = none) (hlk : meth.locks = false) (hJ : jM E lo ws xs s H locs) (hp : Post none ws) (h1 : cells ≤ mc) (h2 : slots ≤ ms) (d : decode cc pc = .ok (.return_, 1)) : W p l e R s m args below meth c H locs cells slots (MQ below (jQ E lo Post) args s mc ms (jL lo)) (F0 m pc ls []) :=
  W.widen h1 h2 (W.vret G.1 G.2.1 hr (fun t ht _ => ⟨⟨_, ws, rfl, hp, by rw [ht]; exact hJ.2.2.2.1, hJ.2.2.2.2.1⟩, hJ.2.2.2.2.2.2.2.F ht⟩) hJ.2.2.2.2.2.2.2.2.2 d hlk)
theorem j_aret {mc ms : Nat} (G : CallFix p m c cc nL s args mTs own) {rt : FieldType} (hr : meth.sig.returnType = some rt) (hrt : (∃ n, rt = .object n) ∨ ∃ t, rt = .array t) (hlk : meth.locks = false) (hJ : jM E lo ws xs s H locs) {b : Nat} (hp : Post (some (.ref b)) ws) (h1 : cells ≤ mc) (h2 : slots ≤ ms) (d : decode cc pc = .ok (.areturn, 1)) : W p l e R s m args below meth c H locs cells slots (MQ below (jQ E lo Post) args s mc ms (jL lo)) (F0 m pc ls [.ref b]) :=
  W.widen h1 h2 (W.aret G.1 G.2.1 hr hrt (Or.inr ⟨_, rfl⟩) (fun t ht _ => ⟨⟨_, ws, rfl, hp, by rw [ht]; exact hJ.2.2.2.1, hJ.2.2.2.2.1⟩, hJ.2.2.2.2.2.2.2.F ht⟩) hJ.2.2.2.2.2.2.2.2.2 d hlk)
end JR

/-! ENTRY, CALLS, ENDS -/
abbrev mGo (l : Launch) (p : Program) (e : Env) (fr lo : Nat) (s : State) (m : MethodId) (args : Array Value) (below : List Frame) (meth : Method) (c : Code) (E : mE) (v : Option Value) (σ2 : mSt) (H : Heap) (locs : List Loc) (g : JFrame) : Prop := W p l e ({ frames := fr, cells := 0, slots := 0, locals := lo } : Room) s m args below meth c H locs 0 0 (MQ below (mQ E 257 v σ2) args s 0 0 (mA E 257)) g
def mY (y : MethodName) (cc : ByteArray) (maxL : Nat) (ret : Option FieldType) (n : Nat) : Prop := Cond.code y cc maxL ret ∈ mTs ∧ Cond.initialized y.cls ∈ mTs ∧ (y.cls ≠ "java/lang/invoke/MethodHandle" ∧ y.cls ≠ "java/lang/invoke/VarHandle") ∧ (parseMethodDescriptor y.desc).map (fun d => d.parameters.length) = some n
def mYV (y : MethodName) (cc : ByteArray) (maxL : Nat) (ret : Option FieldType) (n : Nat) : Prop := mY y cc maxL ret n ∧ Cond.instanceMethod y ∈ mTs ∧ Cond.selects y.cls y y ∈ mTs
def mYS (y : MethodName) (cc : ByteArray) (maxL : Nat) (ret : Option FieldType) (n : Nat) : Prop := mY y cc maxL ret n ∧ Cond.static y ∈ mTs
theorem mY.len {y : MethodName} {cc : ByteArray} {maxL n : Nat} {ret : Option FieldType} (h : mY y cc maxL ret n) : ∀ sig, parseMethodDescriptor y.desc = some sig → n = sig.parameters.length := by
  intro sig hs
  have h2 := h.2.2.2
  rw [hs] at h2
  exact (Option.some.inj h2).symm
section MC
variable {p : Program} {l : Launch} {e : Env} {R : Room} {s : State} {m : MethodId} {args : Array Value} {below : List Frame} {meth : Method} {c : Code} {H : Heap} {locs : List Loc} {cells slots : Nat} {Q : State → Prop}
variable {cc : ByteArray} {pc np nL : Nat} {ls : Array Slot} {rest st : List Value} {own : String} {A : Nat → Prop} {E : mE} {σ σ2 : mSt}
theorem m_entry {y : MethodName} {maxL fr lo : Nat} {ret : Option FieldType} {As : List Value} {v : Option Value} (hy : plainName y.cls = true) (hA : (lg_sl As).length ≤ maxL)
    (body : ∀ (p : Program) (e : Env) (s : State) (m : MethodId) (args : Array Value) (below : List Frame) (meth : Method) (c : Code) (_ : CallFix p m c cc maxL s args mTs y.cls) (_ : meth.sig.returnType = ret) (_ : meth.locks = false) (_ : mM (mA E 257) E 257 σ s s.heap []) (ls : Array Slot) (_ : lv_has ls maxL (lv_args 0 As)),
      W p l e ({ frames := fr, cells := 0, slots := 0, locals := lo } : Room) s m args below meth c s.heap [] 0 0 (MQ below (mQ E 257 v σ2) args s 0 0 (mA E 257)) (F0 m 0 ls [])) : mMet l y cc maxL ret fr lo E 257 As σ v σ2 := by
  refine Met.ofW (cc := cc) (maxL := maxL) (ret := ret) hy rfl ?_
  intro p e s m args below meth c s₁ B hml hv
  obtain ⟨rfl, w1, w2, w3, w4, w5⟩ := hv
  rw [lg_entry_eq]
  exact body p e s m _ below meth c ⟨B.exec, B.bytes, hml, findClass_of_methodNamed B.named, mWords.use w1⟩ B.returns B.notSynchronized ⟨w1, w2, w3, w4, w5, va_S.rf⟩ _ (lv_entry As hA)
theorem m_entryF {y : MethodName} {maxL fr lo : Nat} {ret : Option FieldType} {As : List Value} {v : Option Value} (hy : plainFor y = true) (hA : (lg_sl As).length ≤ maxL)
    (body : ∀ (p : Program) (e : Env) (s : State) (m : MethodId) (args : Array Value) (below : List Frame) (meth : Method) (c : Code) (_ : CallFix p m c cc maxL s args mTs y.cls) (_ : meth.sig.returnType = ret) (_ : meth.locks = false) (_ : mM (mA E 257) E 257 σ s s.heap []) (ls : Array Slot) (_ : lv_has ls maxL (lv_args 0 As)),
      W p l e ({ frames := fr, cells := 0, slots := 0, locals := lo } : Room) s m args below meth c s.heap [] 0 0 (MQ below (mQ E 257 v σ2) args s 0 0 (mA E 257)) (F0 m 0 ls [])) : mMet l y cc maxL ret fr lo E 257 As σ v σ2 := by
  refine va_MetF (cc := cc) (maxL := maxL) (ret := ret) hy rfl ?_
  intro p e s m args below meth c s₁ B hml hv
  obtain ⟨rfl, w1, w2, w3, w4, w5⟩ := hv
  rw [lg_entry_eq]
  exact body p e s m _ below meth c ⟨B.exec, B.bytes, hml, findClass_of_methodNamed B.named, mWords.use w1⟩ B.returns B.notSynchronized ⟨w1, w2, w3, w4, w5, va_S.rf⟩ _ (lv_entry As hA)
theorem m_go {v : Option Value} {st0 : List Value} {a : Array Value} (hr : va_Run p l e R s m args below meth c H locs cells slots 0 0 (F0 m pc ls st0) rest (mQ E 257 v σ2 a) (mA E 257)) (hM : mM A E 257 σ s H locs)
    (kk : ∀ (H1 : Heap) (locs1 : List Loc), mM A E 257 σ2 s H1 locs1 → W p l e R s m args below meth c H1 locs1 cells slots Q (F0 m (pc + 3) ls (v.toList ++ rest))) : W p l e R s m args below meth c H locs cells slots Q (F0 m pc ls st0) := by
  intro T hT X
  obtain ⟨m1, m2, m3, m4, m5, m6⟩ := hM
  have hA : ∀ q, mA E 257 q → A q := wl_A m5
  obtain ⟨v', st₀, t, T', L, h0, X', hL, e1, e2, ⟨hv, hP, hz, hk⟩, st⟩ := hr T hT X
  cases hv
  rw [h0] at hz hk
  obtain ⟨t2, a1, b1⟩ := kk T'.heap (locs ++ L) ⟨m1, m2, m3, by rw [e1]; exact hP, wl_D m5 (fun i hi => hA _ ⟨i, hi, rfl⟩), Nat.le_trans m6.1 (by rw [e1]; exact hz), fun q h1 h2 => by rw [e1, hk q (Nat.lt_of_lt_of_le h1 m6.1) (fun z => h2 (hA q z))]; exact m6.2.1 q h1 h2, fun q hq => by
      rcases List.mem_append.mp hq with h | h
      · exact m6.2.2 q h
      · exact hA _ (hL q h)⟩ T' rfl X'
  exact ⟨t2, st t2 a1, b1⟩
theorem m_recv (hM : mM A E 257 σ s H locs) {r ci n : Nat} {C : String} {T : u_T} (hr : r < 257) (hcl : isC r ci) (hcc : vwCl[ci]? = some (C, T, n)) (hci : ci < 12) : ∃ cell : Cell, H[eA E r]? = some cell ∧ cell.vm.isStatics = false ∧ s.vm.findClass C = some cell.cls :=
  va_recv hM.2.1 hM.2.2.2.1 hcc ((wl_get hr).trans (by rw [mEnt_obj hcl hci]))
theorem m_rideW (G : CallFix p m c cc nL s args mTs own) {w : Cond} (hw : w ∈ mTs) : ∀ (a' : Array Value) (U : State), s.WarmedH U.vm → w.before a' U = true :=
  fun _ _ hW => mOK_ride (List.mem_filter.mp hw).2 hW (G.2.2.2.2 w hw)
theorem m_cb (G : CallFix p m c cc nL s args mTs own) {y : MethodName} {cc' : ByteArray} {maxL fr lo n ix : Nat} {ret : Option FieldType} (hY : mY y cc' maxL ret n) (hw : Cond.methodLink own ix y ∈ mTs) (hroom : fr + 1 ≤ R.frames ∧ 8 + (maxL + 11) + lo ≤ R.locals) :
    CallB R s args own ix y cc' maxL ret [.code y cc' maxL ret] ({ frames := fr, cells := 0, slots := 0, locals := lo } : Room) 0 0 n :=
  ⟨rfl, rfl, hroom.1, hroom.2, fun w h a' U hW => by rw [List.mem_singleton.mp h]; exact m_rideW G hY.1 a' U hW, List.mem_singleton.mpr rfl, G.2.2.2.2 _ hY.1, G.2.2.2.2 _ hY.2.1, hY.2.2.1, hY.len, G.2.2.2.2 _ hw⟩
theorem m_cn (G : CallFix p m c cc nL s args mTs own) {y : MethodName} {host : String} {cc' : ByteArray} {maxL fr lo n ix : Nat} {ret : Option FieldType} (hY : mY y cc' maxL ret n) (hw : Cond.methodLinkNest own ix y host ∈ mTs) (hroom : fr + 1 ≤ R.frames ∧ 8 + (maxL + 11) + lo ≤ R.locals) :
    va_CN R s args own ix y host cc' maxL ret [.code y cc' maxL ret] ({ frames := fr, cells := 0, slots := 0, locals := lo } : Room) 0 0 n :=
  ⟨⟨rfl, rfl, hroom.1, hroom.2, fun w h a' U hW => by rw [List.mem_singleton.mp h]; exact m_rideW G hY.1 a' U hW, List.mem_singleton.mpr rfl⟩, G.2.2.2.2 _ hY.1, G.2.2.2.2 _ hY.2.1, hY.2.2.1, hY.len, G.2.2.2.2 _ hw⟩
theorem m_callV (G : CallFix p m c cc nL s args mTs own) (hM : mM A E 257 σ s H locs) (hls : ls.size = nL) {y : MethodName} {cc' : ByteArray} {maxL fr lo r ci n ix : Nat} {ret : Option FieldType} {As : List Value} {v : Option Value} {T : u_T} (hc : mMet l y cc' maxL ret fr lo E 257 (.ref (eA E r) :: As) σ v σ2) (hY : mYV y cc' maxL ret As.length) (hr : r < 257) (hcl : isC r ci) (hcc : vwCl[ci]? = some (y.cls, T, n)) (hci : ci < 12) (hw : Cond.methodLink own ix y ∈ mTs) (hroom : fr + 1 ≤ R.frames ∧ 8 + (maxL + 11) + lo ≤ R.locals) (hcs : cells ≤ R.cells ∧ slots ≤ R.slots)
    (hst : st = As.reverse ++ .ref (eA E r) :: rest) (hcat : (rest.map fun v => v.category).sum ≤ 8) (d : decode cc pc = .ok (.invokevirtual ix, 3)) (hn : pc + 3 = np)
    (kk : ∀ (H1 : Heap) (locs1 : List Loc), mM A E 257 σ2 s H1 locs1 → W p l e R s m args below meth c H1 locs1 cells slots Q (F0 m np ls (v.toList ++ rest))) : W p l e R s m args below meth c H locs cells slots Q (F0 m pc ls st) := by
  subst hn
  subst hst
  exact m_go (va_runV (As := As) (rest := rest) G hc ⟨m_cb G hY.1 hw hroom, G.2.2.2.2 _ hY.2.1, G.2.2.2.2 _ hY.2.2⟩ ⟨mPre.blind, m_recv hM hr hcl hcc hci, fun U hU hW => ⟨rfl, hM.pre hU hW⟩⟩ rfl rfl hls rfl (lv_room hcat) d hcs) hM kk
theorem m_callS (G : CallFix p m c cc nL s args mTs own) (hM : mM A E 257 σ s H locs) (hls : ls.size = nL) {y : MethodName} {cc' : ByteArray} {maxL fr lo ix : Nat} {ret : Option FieldType} {As : List Value} {v : Option Value} (hc : mMet l y cc' maxL ret fr lo E 257 As σ v σ2) (hY : mYS y cc' maxL ret As.length) (hw : Cond.methodLink own ix y ∈ mTs) (hroom : fr + 1 ≤ R.frames ∧ 8 + (maxL + 11) + lo ≤ R.locals) (hcs : cells ≤ R.cells ∧ slots ≤ R.slots)
    (hst : st = As.reverse ++ rest) (hcat : (rest.map fun v => v.category).sum ≤ 8) (d : decode cc pc = .ok (.invokestatic ix, 3)) (hn : pc + 3 = np)
    (kk : ∀ (H1 : Heap) (locs1 : List Loc), mM A E 257 σ2 s H1 locs1 → W p l e R s m args below meth c H1 locs1 cells slots Q (F0 m np ls (v.toList ++ rest))) : W p l e R s m args below meth c H locs cells slots Q (F0 m pc ls st) := by
  subst hn
  subst hst
  exact m_go (va_runS (As := As) (rest := rest) G hc ⟨m_cb G hY.1 hw hroom, G.2.2.2.2 _ hY.2⟩ ⟨mPre.blind, fun U hU hW => ⟨rfl, hM.pre hU hW⟩⟩ rfl rfl hls rfl (lv_room hcat) d hcs) hM kk
theorem m_callVI (G : CallFix p m c cc nL s args mTs own) (hM : mM A E 257 σ s H locs) (hls : ls.size = nL) {y : MethodName} {cc' : ByteArray} {maxL fr lo r ci n ix : Nat} {ret : Option FieldType} (As : List Value) {x : Int} {T : u_T} (hc : mMet l y cc' maxL ret fr lo E 257 (.ref (eA E r) :: As) σ (some (vI x)) σ2) (hY : mYV y cc' maxL ret As.length) (hr : r < 257) (hcl : isC r ci) (hcc : vwCl[ci]? = some (y.cls, T, n)) (hci : ci < 12) (hw : Cond.methodLink own ix y ∈ mTs) (hroom : fr + 1 ≤ R.frames ∧ 8 + (maxL + 11) + lo ≤ R.locals) (hcs : cells ≤ R.cells ∧ slots ≤ R.slots) (rest : List Value)
    (hst : st = As.reverse ++ .ref (eA E r) :: rest) (hcat : (rest.map fun v => v.category).sum ≤ 8) (d : decode cc pc = .ok (.invokevirtual ix, 3)) (hn : pc + 3 = np)
    (kk : ∀ (H1 : Heap) (locs1 : List Loc), mM A E 257 σ2 s H1 locs1 → W p l e R s m args below meth c H1 locs1 cells slots Q (F0 m np ls (vI x :: rest))) : W p l e R s m args below meth c H locs cells slots Q (F0 m pc ls st) := m_callV G hM hls hc hY hr hcl hcc hci hw hroom hcs hst hcat d hn kk
theorem m_callSI (G : CallFix p m c cc nL s args mTs own) (hM : mM A E 257 σ s H locs) (hls : ls.size = nL) {y : MethodName} {cc' : ByteArray} {maxL fr lo ix : Nat} {ret : Option FieldType} (As : List Value) {x : Int} (hc : mMet l y cc' maxL ret fr lo E 257 As σ (some (vI x)) σ2) (hY : mYS y cc' maxL ret As.length) (hw : Cond.methodLink own ix y ∈ mTs) (hroom : fr + 1 ≤ R.frames ∧ 8 + (maxL + 11) + lo ≤ R.locals) (hcs : cells ≤ R.cells ∧ slots ≤ R.slots) (rest : List Value)
    (hst : st = As.reverse ++ rest) (hcat : (rest.map fun v => v.category).sum ≤ 8) (d : decode cc pc = .ok (.invokestatic ix, 3)) (hn : pc + 3 = np)
    (kk : ∀ (H1 : Heap) (locs1 : List Loc), mM A E 257 σ2 s H1 locs1 → W p l e R s m args below meth c H1 locs1 cells slots Q (F0 m np ls (vI x :: rest))) : W p l e R s m args below meth c H locs cells slots Q (F0 m pc ls st) := m_callS G hM hls hc hY hw hroom hcs hst hcat d hn kk
theorem m_callVL (G : CallFix p m c cc nL s args mTs own) (hM : mM A E 257 σ s H locs) (hls : ls.size = nL) {y : MethodName} {cc' : ByteArray} {maxL fr lo r ci n ix : Nat} {ret : Option FieldType} (As : List Value) {x : Int} {T : u_T} (hc : mMet l y cc' maxL ret fr lo E 257 (.ref (eA E r) :: As) σ (some (vL x)) σ2) (hY : mYV y cc' maxL ret As.length) (hr : r < 257) (hcl : isC r ci) (hcc : vwCl[ci]? = some (y.cls, T, n)) (hci : ci < 12) (hw : Cond.methodLink own ix y ∈ mTs) (hroom : fr + 1 ≤ R.frames ∧ 8 + (maxL + 11) + lo ≤ R.locals) (hcs : cells ≤ R.cells ∧ slots ≤ R.slots) (rest : List Value)
    (hst : st = As.reverse ++ .ref (eA E r) :: rest) (hcat : (rest.map fun v => v.category).sum ≤ 8) (d : decode cc pc = .ok (.invokevirtual ix, 3)) (hn : pc + 3 = np)
    (kk : ∀ (H1 : Heap) (locs1 : List Loc), mM A E 257 σ2 s H1 locs1 → W p l e R s m args below meth c H1 locs1 cells slots Q (F0 m np ls (vL x :: rest))) : W p l e R s m args below meth c H locs cells slots Q (F0 m pc ls st) := m_callV G hM hls hc hY hr hcl hcc hci hw hroom hcs hst hcat d hn kk
theorem m_callSL (G : CallFix p m c cc nL s args mTs own) (hM : mM A E 257 σ s H locs) (hls : ls.size = nL) {y : MethodName} {cc' : ByteArray} {maxL fr lo ix : Nat} {ret : Option FieldType} (As : List Value) {x : Int} (hc : mMet l y cc' maxL ret fr lo E 257 As σ (some (vL x)) σ2) (hY : mYS y cc' maxL ret As.length) (hw : Cond.methodLink own ix y ∈ mTs) (hroom : fr + 1 ≤ R.frames ∧ 8 + (maxL + 11) + lo ≤ R.locals) (hcs : cells ≤ R.cells ∧ slots ≤ R.slots) (rest : List Value)
    (hst : st = As.reverse ++ rest) (hcat : (rest.map fun v => v.category).sum ≤ 8) (d : decode cc pc = .ok (.invokestatic ix, 3)) (hn : pc + 3 = np)
    (kk : ∀ (H1 : Heap) (locs1 : List Loc), mM A E 257 σ2 s H1 locs1 → W p l e R s m args below meth c H1 locs1 cells slots Q (F0 m np ls (vL x :: rest))) : W p l e R s m args below meth c H locs cells slots Q (F0 m pc ls st) := m_callS G hM hls hc hY hw hroom hcs hst hcat d hn kk
theorem m_callVR (G : CallFix p m c cc nL s args mTs own) (hM : mM A E 257 σ s H locs) (hls : ls.size = nL) {y : MethodName} {cc' : ByteArray} {maxL fr lo r ci n ix : Nat} {ret : Option FieldType} (As : List Value) {x : Nat} {T : u_T} (hc : mMet l y cc' maxL ret fr lo E 257 (.ref (eA E r) :: As) σ (some (.ref (eA E x))) σ2) (hY : mYV y cc' maxL ret As.length) (hr : r < 257) (hcl : isC r ci) (hcc : vwCl[ci]? = some (y.cls, T, n)) (hci : ci < 12) (hw : Cond.methodLink own ix y ∈ mTs) (hroom : fr + 1 ≤ R.frames ∧ 8 + (maxL + 11) + lo ≤ R.locals) (hcs : cells ≤ R.cells ∧ slots ≤ R.slots) (rest : List Value)
    (hst : st = As.reverse ++ .ref (eA E r) :: rest) (hcat : (rest.map fun v => v.category).sum ≤ 8) (d : decode cc pc = .ok (.invokevirtual ix, 3)) (hn : pc + 3 = np)
    (kk : ∀ (H1 : Heap) (locs1 : List Loc), mM A E 257 σ2 s H1 locs1 → W p l e R s m args below meth c H1 locs1 cells slots Q (F0 m np ls (.ref (eA E x) :: rest))) : W p l e R s m args below meth c H locs cells slots Q (F0 m pc ls st) := m_callV G hM hls hc hY hr hcl hcc hci hw hroom hcs hst hcat d hn kk
theorem m_callSR (G : CallFix p m c cc nL s args mTs own) (hM : mM A E 257 σ s H locs) (hls : ls.size = nL) {y : MethodName} {cc' : ByteArray} {maxL fr lo ix : Nat} {ret : Option FieldType} (As : List Value) {x : Nat} (hc : mMet l y cc' maxL ret fr lo E 257 As σ (some (.ref (eA E x))) σ2) (hY : mYS y cc' maxL ret As.length) (hw : Cond.methodLink own ix y ∈ mTs) (hroom : fr + 1 ≤ R.frames ∧ 8 + (maxL + 11) + lo ≤ R.locals) (hcs : cells ≤ R.cells ∧ slots ≤ R.slots) (rest : List Value)
    (hst : st = As.reverse ++ rest) (hcat : (rest.map fun v => v.category).sum ≤ 8) (d : decode cc pc = .ok (.invokestatic ix, 3)) (hn : pc + 3 = np)
    (kk : ∀ (H1 : Heap) (locs1 : List Loc), mM A E 257 σ2 s H1 locs1 → W p l e R s m args below meth c H1 locs1 cells slots Q (F0 m np ls (.ref (eA E x) :: rest))) : W p l e R s m args below meth c H locs cells slots Q (F0 m pc ls st) := m_callS G hM hls hc hY hw hroom hcs hst hcat d hn kk
theorem m_callVV (G : CallFix p m c cc nL s args mTs own) (hM : mM A E 257 σ s H locs) (hls : ls.size = nL) {y : MethodName} {cc' : ByteArray} {maxL fr lo r ci n ix : Nat} {ret : Option FieldType} (As : List Value) {T : u_T} (hc : mMet l y cc' maxL ret fr lo E 257 (.ref (eA E r) :: As) σ none σ2) (hY : mYV y cc' maxL ret As.length) (hr : r < 257) (hcl : isC r ci) (hcc : vwCl[ci]? = some (y.cls, T, n)) (hci : ci < 12) (hw : Cond.methodLink own ix y ∈ mTs) (hroom : fr + 1 ≤ R.frames ∧ 8 + (maxL + 11) + lo ≤ R.locals) (hcs : cells ≤ R.cells ∧ slots ≤ R.slots) (rest : List Value)
    (hst : st = As.reverse ++ .ref (eA E r) :: rest) (hcat : (rest.map fun v => v.category).sum ≤ 8) (d : decode cc pc = .ok (.invokevirtual ix, 3)) (hn : pc + 3 = np)
    (kk : ∀ (H1 : Heap) (locs1 : List Loc), mM A E 257 σ2 s H1 locs1 → W p l e R s m args below meth c H1 locs1 cells slots Q (F0 m np ls rest)) : W p l e R s m args below meth c H locs cells slots Q (F0 m pc ls st) := m_callV G hM hls hc hY hr hcl hcc hci hw hroom hcs hst hcat d hn kk
theorem m_callSV (G : CallFix p m c cc nL s args mTs own) (hM : mM A E 257 σ s H locs) (hls : ls.size = nL) {y : MethodName} {cc' : ByteArray} {maxL fr lo ix : Nat} {ret : Option FieldType} (As : List Value) (hc : mMet l y cc' maxL ret fr lo E 257 As σ none σ2) (hY : mYS y cc' maxL ret As.length) (hw : Cond.methodLink own ix y ∈ mTs) (hroom : fr + 1 ≤ R.frames ∧ 8 + (maxL + 11) + lo ≤ R.locals) (hcs : cells ≤ R.cells ∧ slots ≤ R.slots) (rest : List Value)
    (hst : st = As.reverse ++ rest) (hcat : (rest.map fun v => v.category).sum ≤ 8) (d : decode cc pc = .ok (.invokestatic ix, 3)) (hn : pc + 3 = np)
    (kk : ∀ (H1 : Heap) (locs1 : List Loc), mM A E 257 σ2 s H1 locs1 → W p l e R s m args below meth c H1 locs1 cells slots Q (F0 m np ls rest)) : W p l e R s m args below meth c H locs cells slots Q (F0 m pc ls st) := m_callS G hM hls hc hY hw hroom hcs hst hcat d hn kk
/-! ends -/
theorem r_iret (G : CallFix p m c cc nL s args mTs own) (hr : meth.sig.returnType = some .int) (hlk : meth.locks = false) (hM : mM (mA E 257) E 257 σ s H locs) {x : Int} {out : Int × mSt} (h : some (x, σ) = some out) (d : decode cc pc = .ok (.ireturn, 1)) : W p l e R s m args below meth c H locs cells slots (MQ below (mQ E 257 (some (vI out.1)) out.2) args s cells slots (mA E 257)) (F0 m pc ls [vI x]) := by
  cases h
  exact W.iret G.1 G.2.1 hr (fun t ht _ => ⟨rfl, by rw [ht]; exact hM.2.2.2.1, hM.2.2.2.2.2.F ht⟩) hM.2.2.2.2.2.2.2 d hlk
theorem r_zret (G : CallFix p m c cc nL s args mTs own) (hr : meth.sig.returnType = some .boolean) (hlk : meth.locks = false) (hM : mM (mA E 257) E 257 σ s H locs) {x : Int} {out : Int × mSt} (h01 : x = 0 ∨ x = 1) (h : some (x, σ) = some out) (d : decode cc pc = .ok (.ireturn, 1)) : W p l e R s m args below meth c H locs cells slots (MQ below (mQ E 257 (some (vI out.1)) out.2) args s cells slots (mA E 257)) (F0 m pc ls [vI x]) := by
  cases h
  exact W.zret G.1 G.2.1 hr (by rcases h01 with rfl | rfl <;> decide) (fun t ht _ => ⟨rfl, by rw [ht]; exact hM.2.2.2.1, hM.2.2.2.2.2.F ht⟩) hM.2.2.2.2.2.2.2 d hlk
theorem r_bret (G : CallFix p m c cc nL s args mTs own) (hr : meth.sig.returnType = some .byte) (hlk : meth.locks = false) (hM : mM (mA E 257) E 257 σ s H locs) {x : Int} {out : Int × mSt} (hx : -128 ≤ x ∧ x < 128) (h : some (x, σ) = some out) (d : decode cc pc = .ok (.ireturn, 1)) : W p l e R s m args below meth c H locs cells slots (MQ below (mQ E 257 (some (vI out.1)) out.2) args s cells slots (mA E 257)) (F0 m pc ls [vI x]) := by
  cases h
  refine W.zret G.1 G.2.1 hr ?_ (fun t ht _ => ⟨rfl, by rw [ht]; exact hM.2.2.2.1, hM.2.2.2.2.2.F ht⟩) hM.2.2.2.2.2.2.2 d hlk
  have e : Int32.ofInt x = (Int32.ofInt x).toInt8.toInt32 := by
    apply Int32.toInt_inj.mp
    rw [Int32.toInt8_ofInt, Int8.toInt_toInt32, Int8.toInt_ofInt_of_le (by omega) (by omega), Int32.toInt_ofInt_of_le (by omega) (by omega)]
  rw [e]
  exact pk_nb _
theorem r_lret (G : CallFix p m c cc nL s args mTs own) (hr : meth.sig.returnType = some .long) (hlk : meth.locks = false) (hM : mM (mA E 257) E 257 σ s H locs) {x : Int} {out : Int × mSt} (h : some (x, σ) = some out) (d : decode cc pc = .ok (.lreturn, 1)) : W p l e R s m args below meth c H locs cells slots (MQ below (mQ E 257 (some (vL out.1)) out.2) args s cells slots (mA E 257)) (F0 m pc ls [vL x]) := by
  cases h
  exact W.lret G.1 G.2.1 hr (fun t ht _ => ⟨rfl, by rw [ht]; exact hM.2.2.2.1, hM.2.2.2.2.2.F ht⟩) hM.2.2.2.2.2.2.2 d hlk
theorem r_vret (G : CallFix p m c cc nL s args mTs own) (hr : meth.sig.returnType = none) (hlk : meth.locks = false) (hM : mM (mA E 257) E 257 σ s H locs) {out : Int × mSt} (h : some ((0 : Int), σ) = some out) (d : decode cc pc = .ok (.return_, 1)) : W p l e R s m args below meth c H locs cells slots (MQ below (mQ E 257 none out.2) args s cells slots (mA E 257)) (F0 m pc ls []) := by
  cases h
  exact W.vret G.1 G.2.1 hr (fun t ht _ => ⟨rfl, by rw [ht]; exact hM.2.2.2.1, hM.2.2.2.2.2.F ht⟩) hM.2.2.2.2.2.2.2 d hlk
theorem r_aret (G : CallFix p m c cc nL s args mTs own) {rt : FieldType} (hr : meth.sig.returnType = some rt) (hrt : (∃ n, rt = .object n) ∨ ∃ t, rt = .array t) (hlk : meth.locks = false) (hM : mM (mA E 257) E 257 σ s H locs) {r : Nat} {out : Int × mSt} (h : some ((r : Int), σ) = some out) (d : decode cc pc = .ok (.areturn, 1)) : W p l e R s m args below meth c H locs cells slots (MQ below (mQ E 257 (some (.ref (eA E out.1.toNat))) out.2) args s cells slots (mA E 257)) (F0 m pc ls [.ref (eA E r)]) := by
  cases h
  exact W.aret G.1 G.2.1 hr hrt (Or.inr ⟨_, rfl⟩) (fun t ht _ => ⟨by simp, by rw [ht]; exact hM.2.2.2.1, hM.2.2.2.2.2.F ht⟩) hM.2.2.2.2.2.2.2 d hlk
end MC

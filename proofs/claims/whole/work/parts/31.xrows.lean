/-! THROWS: a method that returns or throws NoSuchElementException; its answer mThrow in the model says that it throws -/
def mThrow : Int := 1000000000000000000000000000000
theorem mTs_all (L : List Cond) (h : L.all (fun w => decide (w ∈ lw_tbl) && mOK w) = true) : ∀ w ∈ L, w ∈ mTs := by
  intro w hw
  have h1 := List.all_eq_true.mp h w hw
  simp only [Bool.and_eq_true, decide_eq_true_eq] at h1
  exact List.mem_filter.mpr h1
def nse : String := "java/util/NoSuchElementException"
def mQx (E : mE) (v : Option Value) (out : Int × mSt) : Array Value → State → Outcome → State → Prop := fun a st oc t => out.1 ≠ mThrow ∧ mQ E 276 v out.2 a st oc t
def mXx (E : mE) (out : Int × mSt) : String → State → State → Prop := fun Ec st t => out.1 = mThrow ∧ Ec = nse ∧ va_P (eD E) vwCl (wl E 276 out.2) t.heap ∧ va_F (mA E 276) st t
def mXMet (l : Launch) (y : MethodName) (cc : ByteArray) (maxL : Nat) (ret : Option FieldType) (fr lo : Nat) (E : mE) (As : List Value) (σ : mSt) (v : Option Value) (out : Int × mSt) : Prop :=
  vx_Met l y [.code y cc maxL ret] ({ frames := fr, cells := 1, slots := 6, locals := lo } : Room) (va_Pc As (mPre E 276 σ)) (mQx E v out) (mXx E out) 1 6 (mA E 276)
abbrev mGoX (l : Launch) (p : Program) (e : Env) (fr lo : Nat) (s : State) (m : MethodId) (args : Array Value) (below : List Frame) (meth : Method) (c : Code) (E : mE) (v : Option Value) (out : Int × mSt) (H : Heap) (locs : List Loc) (g : JFrame) : Prop := W p l e ({ frames := fr, cells := 1, slots := 6, locals := lo } : Room) s m args below meth c H locs 0 0 (vx_MQ below (mQx E v out) (mXx E out) args s 1 6 (mA E 276)) g
theorem wI_ne_throw (x : Int) : wI x ≠ mThrow := by
  have h1 : wI x < 2147483648 := by have := Int32.toInt_lt (Int32.ofInt x); unfold wI; omega
  unfold mThrow
  omega
theorem wL_ne_throw (x : Int) : wL x ≠ mThrow := by
  have h1 : wL x < 9223372036854775808 := by have := Int64.toInt_lt (Int64.ofInt x); unfold wL; omega
  unfold mThrow
  omega
theorem vI_wI (x : Int) : vI (wI x) = vI x := by
  unfold vI
  rw [ofI_w]
theorem vL_wL (x : Int) : vL (wL x) = vL x := by
  unfold vL
  rw [ofL_w]
section MX
variable {p : Program} {l : Launch} {e : Env} {R : Room} {s : State} {m : MethodId} {args : Array Value} {below : List Frame} {meth : Method} {c : Code} {H : Heap} {locs : List Loc} {cells slots : Nat} {Q : State → Prop}
variable {cc : ByteArray} {pc np nL : Nat} {ls : Array Slot} {rest st : List Value} {own : String} {A : Nat → Prop} {E : mE} {σ σ2 : mSt} {N N2 : Nat} {out : Int × mSt}
theorem m_xentry {y : MethodName} {maxL fr lo : Nat} {ret : Option FieldType} {As : List Value} {v : Option Value} (hy : plainName y.cls = true) (hA : (lg_sl As).length ≤ maxL)
    (body : ∀ (p : Program) (e : Env) (s : State) (m : MethodId) (args : Array Value) (below : List Frame) (meth : Method) (c : Code) (_ : CallFix p m c cc maxL s args mTs y.cls) (_ : meth.sig.returnType = ret) (_ : meth.locks = false) (_ : ∀ x ∈ c.exceptionTable.toList, False) (_ : mM (mA E 276) E 276 σ s s.heap []) (ls : Array Slot) (_ : lv_has ls maxL (lv_args 0 As)),
      W p l e ({ frames := fr, cells := 1, slots := 6, locals := lo } : Room) s m args below meth c s.heap [] 0 0 (vx_MQ below (mQx E v out) (mXx E out) args s 1 6 (mA E 276)) (F0 m 0 ls [])) : mXMet l y cc maxL ret fr lo E As σ v out := by
  refine vx_ofW (cc := cc) (maxL := maxL) (ret := ret) hy rfl ?_
  intro p e s m args below meth c s₁ B hml hex hv
  obtain ⟨rfl, w1, w2, w3, w4, w5⟩ := hv
  rw [lg_entry_eq]
  exact body p e s m _ below meth c ⟨B.exec, B.bytes, hml, findClass_of_methodNamed B.named, mWords.use w1⟩ B.returns B.notSynchronized hex ⟨w1, w2, w3, w4, w5, va_S.rf⟩ _ (lv_entry As hA)
theorem r_xiret (G : CallFix p m c cc nL s args mTs own) (hr : meth.sig.returnType = some .int) (hlk : meth.locks = false) (hM : mM (mA E 276) E 276 σ s H locs) {x : Int} (h : some (wI x, σ) = some out) (d : decode cc pc = .ok (.ireturn, 1)) (h1 : cells ≤ 1) (h2 : slots ≤ 6) : W p l e R s m args below meth c H locs cells slots (vx_MQ below (mQx E (some (vI out.1)) out) (mXx E out) args s 1 6 (mA E 276)) (F0 m pc ls [vI x]) := by
  cases h
  refine W.widen h1 h2 (vx_ret (W.iret G.1 G.2.1 hr (fun t ht _ => ⟨wI_ne_throw x, ?_, by rw [ht]; exact hM.2.2.2.1, hM.2.2.2.2.2.F ht⟩) hM.2.2.2.2.2.2.2 d hlk))
  show _ = Outcome.returned (some (vI (wI x)))
  rw [vI_wI]
  rfl
theorem r_xlret (G : CallFix p m c cc nL s args mTs own) (hr : meth.sig.returnType = some .long) (hlk : meth.locks = false) (hM : mM (mA E 276) E 276 σ s H locs) {x : Int} (h : some (wL x, σ) = some out) (d : decode cc pc = .ok (.lreturn, 1)) (h1 : cells ≤ 1) (h2 : slots ≤ 6) : W p l e R s m args below meth c H locs cells slots (vx_MQ below (mQx E (some (vL out.1)) out) (mXx E out) args s 1 6 (mA E 276)) (F0 m pc ls [vL x]) := by
  cases h
  refine W.widen h1 h2 (vx_ret (W.lret G.1 G.2.1 hr (fun t ht _ => ⟨wL_ne_throw x, ?_, by rw [ht]; exact hM.2.2.2.1, hM.2.2.2.2.2.F ht⟩) hM.2.2.2.2.2.2.2 d hlk))
  show _ = Outcome.returned (some (vL (wL x)))
  rw [vL_wL]
  rfl
theorem r_throw {Qc : Array Value → State → Outcome → State → Prop} (G : CallFix p m c cc nL s args mTs RX11) (hst : l.stackTraces = false) (hlk : meth.locks = false) (hex : ∀ x ∈ c.exceptionTable.toList, False) (hM : mM (mA E 276) E 276 σ s H locs) (hls : ls.size = nL) (h : some (mThrow, σ) = some out) {ik ic : Nat} (hk : Cond.classLink RX11 ik nse ∈ mTs) (hin : ∀ w ∈ vx_at0 RX11 ic nse ["java/lang/RuntimeException", "java/lang/Exception"], w ∈ mTs) (hi : Cond.initialized nse ∈ mTs) (hgood : ∀ w ∈ Cond.classLink RX11 ik nse :: Cond.initialized nse :: vx_at0 RX11 ic nse ["java/lang/RuntimeException", "java/lang/Exception"], vx_ot w = true)
    (d0 : decode cc pc = .ok (.new ik, 3)) (d3 : decode cc (pc + 3) = .ok (.dup, 1)) (d4 : decode cc (pc + 4) = .ok (.invokespecial ic, 3)) (d7 : decode cc (pc + 7) = .ok (.athrow, 1))
    (hRf : 5 < R.frames) (hRl : (rest.map fun v => v.category).sum + 81 ≤ R.locals) (hRc : cells + 1 ≤ R.cells) (hRs : slots + 6 ≤ R.slots) (hc : cells + 1 ≤ 1) (hs : slots + 6 ≤ 6) :
    W p l e R s m args below meth c H locs cells slots (vx_MQ below Qc (mXx E out) args s 1 6 (mA E 276)) (F0 m pc ls rest) := by
  cases h
  have hX := hM.2.2.1
  refine vx_throw0 (names := ["java/lang/RuntimeException", "java/lang/Exception"]) (A := mA E 276) G.1 G.2.1 hst G.2.2.2.1 (by decide +kernel) (by decide +kernel) (G.2.2.2.2 _ hk) (G.2.2.2.2 _ hi) (fun w hw => G.2.2.2.2 w (hin w hw)) hgood hX.2.2.2.2.1 hX.2.2.2.2.2 hM.2.2.2.2.2 (hls.trans G.2.2.1.symm) d0 d3 d4 d7 (fun x hx => (hex x hx).elim) (by simpa using hRf) (by simpa using hRl) hRc hRs hlk (fun t hvm hz hq => ⟨rfl, rfl, ?_, ?_⟩) hM.2.2.2.2.2.2.2 hc hs
  · exact hM.2.2.2.1.kept (fun k q hk => hq q.1 ((hM.2.2.2.1 k q hk).lt))
  · exact ⟨Nat.le_trans hM.2.2.2.2.2.1 hz, fun q h1 h2 => (hq q (Nat.lt_of_lt_of_le h1 hM.2.2.2.2.2.1)).trans (hM.2.2.2.2.2.2.1 q h1 h2)⟩
/-- a call of a method that returns or throws, in a method that catches -/
theorem m_xgo {v : Option Value} {st0 : List Value} {a : Array Value} (hr : vx_Run p l e R s m args below meth c H locs cells slots 1 6 (F0 m pc ls st0) rest (mQx E v out a) (mXx E out) (mA E 276)) (hM : mM A E 276 σ s H locs)
    (kx : ∀ (ce : Cell) (q : Addr) (H1 : Heap) (locs1 : List Loc), out.1 = mThrow → mM A E 276 out.2 s H1 locs1 → H1[q]? = some ce → ce.vm = .none → s.vm.findClass nse = some ce.cls → vx_W p l e R s m args below meth c H1 locs1 (cells + 1) (slots + 6) Q (F0 m pc ls rest) q)
    (kk : ∀ (H1 : Heap) (locs1 : List Loc), out.1 ≠ mThrow → mM A E 276 out.2 s H1 locs1 → W p l e R s m args below meth c H1 locs1 (cells + 1) (slots + 6) Q (F0 m (pc + 3) ls (v.toList ++ rest))) : W p l e R s m args below meth c H locs cells slots Q (F0 m pc ls st0) := by
  intro T hT X
  obtain ⟨m1, m2, m3, m4, m5, m6⟩ := hM
  have hA : ∀ q, mA E 276 q → A q := wl_A m5
  have joins : ∀ (st₀ t T' : State) (L : List Loc), st₀.heap = H → T'.heap = t.heap → (∀ q ∈ L, mA E 276 q.base) → va_P (eD E) vwCl (wl E 276 out.2) t.heap → va_F (mA E 276) st₀ t → mM A E 276 out.2 s T'.heap (locs ++ L) := by
    intro st₀ t T' L h0 e1 hL hP hF
    obtain ⟨hz, hk⟩ := hF
    rw [h0] at hz hk
    exact ⟨m1, m2, m3, by rw [e1]; exact hP, wl_D m5 (fun i hi => hA _ ⟨i, hi, rfl⟩), Nat.le_trans m6.1 (by rw [e1]; exact hz), fun q h1 h2 => by rw [e1, hk q (Nat.lt_of_lt_of_le h1 m6.1) (fun z => h2 (hA q z))]; exact m6.2.1 q h1 h2, fun q hq => by
      rcases List.mem_append.mp hq with h | h
      · exact m6.2.2 q h
      · exact hA _ (hL q h)⟩
  rcases hr T hT X with ⟨v', st₀, t, T', L, h0, X', hL, e1, e2, ⟨hne, hv, hP, hF⟩, st⟩ | ⟨q, st₀, t, T', L, Ec, ce, h0, X', hL, e1, e2, ⟨hth, hEc, hP, hF⟩, hq, hce, hcl, st⟩
  · cases hv
    obtain ⟨t2, a1, b1⟩ := kk T'.heap (locs ++ L) hne (joins st₀ t T' L h0 e1 hL hP hF) T' rfl X'
    exact ⟨t2, st t2 a1, b1⟩
  · subst hEc
    obtain ⟨t2, a1, b1⟩ := kx ce q T'.heap (locs ++ L) hth (joins st₀ t T' L h0 e1 hL hP hF) (by rw [e1]; exact hq) hce hcl T' rfl X'
    exact ⟨t2, st.trans a1, b1⟩
theorem m_xcall (G : CallFix p m c cc nL s args mTs own) (hM : mM A E 276 σ s H locs) (hls : ls.size = nL) {y : MethodName} {cc' : ByteArray} {maxL fr lo r ci n ix : Nat} {ret : Option FieldType} (As : List Value) {v : Value} {T : u_T} (hc : mXMet l y cc' maxL ret fr lo E (.ref (eA E r) :: As) σ (some v) out) (hY : mYV y cc' maxL ret As.length) (hr : r < 276) (hcl : isC r ci) (hcc : vwCl[ci]? = some (y.cls, T, n)) (hci : ci < 12) (hw : Cond.methodLink own ix y ∈ mTs) (hroom : fr + 1 ≤ R.frames ∧ 8 + (maxL + 11) + lo ≤ R.locals) (hcs : cells + 1 ≤ R.cells ∧ slots + 6 ≤ R.slots) (rest : List Value)
    (hst : st = As.reverse ++ .ref (eA E r) :: rest) (hcat : (rest.map fun v => v.category).sum ≤ 8) (d : decode cc pc = .ok (.invokevirtual ix, 3)) (hn : pc + 3 = np)
    (kx : ∀ (ce : Cell) (q : Addr) (H1 : Heap) (locs1 : List Loc), out.1 = mThrow → mM A E 276 out.2 s H1 locs1 → H1[q]? = some ce → ce.vm = .none → s.vm.findClass nse = some ce.cls → vx_W p l e R s m args below meth c H1 locs1 (cells + 1) (slots + 6) Q (F0 m pc ls rest) q)
    (kk : ∀ (H1 : Heap) (locs1 : List Loc), out.1 ≠ mThrow → mM A E 276 out.2 s H1 locs1 → W p l e R s m args below meth c H1 locs1 (cells + 1) (slots + 6) Q (F0 m np ls (v :: rest))) : W p l e R s m args below meth c H locs cells slots Q (F0 m pc ls st) := by
  subst hn
  subst hst
  have hcb : CallB R s args own ix y cc' maxL ret [.code y cc' maxL ret] ({ frames := fr, cells := 1, slots := 6, locals := lo } : Room) 1 6 As.length :=
    ⟨rfl, rfl, hroom.1, hroom.2, fun w h a' U hW => by rw [List.mem_singleton.mp h]; exact m_rideW G hY.1.1 a' U hW, List.mem_singleton.mpr rfl, G.2.2.2.2 _ hY.1.1, G.2.2.2.2 _ hY.1.2.1, hY.1.2.2.1, hY.1.len, G.2.2.2.2 _ hw⟩
  exact m_xgo (vx_runV (As := As) (rest := rest) G hc ⟨hcb, G.2.2.2.2 _ hY.2.1, G.2.2.2.2 _ hY.2.2⟩ ⟨mPre.blind, m_recv hM hr hcl hcc hci, fun U hU hW => ⟨rfl, hM.pre hU hW⟩⟩ rfl rfl hls rfl (lv_room hcat) d hcs) hM kx kk
/-! the law's wrappers: static methods with one handler -/
def mWMet (l : Launch) (y : MethodName) (cc : ByteArray) (maxL : Nat) (hh : List (Nat × Nat × Nat × Nat)) (fr lo : Nat) (E : mE) (As : List Value) (σ : mSt) (v : Option Value) (σ2 : mSt) : Prop :=
  Met l y [.codeWith y cc maxL (some .int) hh] ({ frames := fr, cells := 1, slots := 6, locals := lo } : Room) (va_Pc As (mPre E 276 σ)) (mQ E 276 v σ2) 1 6 (mA E 276)
theorem m_wentry {y : MethodName} {maxL fr lo : Nat} {hh : List (Nat × Nat × Nat × Nat)} {As : List Value} {v : Option Value} (hy : plainName y.cls = true) (hA : (lg_sl As).length ≤ maxL) (hcw : Cond.codeWith y cc maxL (some .int) hh ∈ mTs)
    (body : ∀ (p : Program) (e : Env) (s : State) (m : MethodId) (args : Array Value) (below : List Frame) (meth : Method) (c : Code) (_ : CallFix p m c cc maxL s args mTs y.cls) (_ : meth.sig.returnType = some .int) (_ : meth.locks = false) (_ : c.exceptionTable.toList = tableOf hh) (_ : mM (mA E 276) E 276 σ s s.heap []) (ls : Array Slot) (_ : lv_has ls maxL (lv_args 0 As)),
      W p l e ({ frames := fr, cells := 1, slots := 6, locals := lo } : Room) s m args below meth c s.heap [] 0 0 (MQ below (mQ E 276 v σ2) args s 1 6 (mA E 276)) (F0 m 0 ls [])) : mWMet l y cc maxL hh fr lo E As σ v σ2 := by
  refine va_MetW (cc := cc) (maxL := maxL) (ret := some .int) (hh := hh) hy rfl ?_
  intro p e s m args below meth c s₁ B hml hv
  obtain ⟨rfl, w1, w2, w3, w4, w5⟩ := hv
  rw [lg_entry_eq]
  exact body p e s m _ below meth c ⟨B.exec, B.bytes, hml, findClass_of_methodNamed B.named, mWords.use w1⟩ B.returns B.notSynchronized (vx_table (x := y) B (mWords.use w1 _ hcw)) ⟨w1, w2, w3, w4, w5, va_S.rf⟩ _ (lv_entry As hA)
theorem r_wret (G : CallFix p m c cc nL s args mTs own) (hr : meth.sig.returnType = some .int) (hlk : meth.locks = false) (hM : mM (mA E 276) E 276 σ s H locs) {x y : Int} (hx : x = y) (hσ : σ = σ2) (d : decode cc pc = .ok (.ireturn, 1)) (h1 : cells ≤ 1) (h2 : slots ≤ 6) : W p l e R s m args below meth c H locs cells slots (MQ below (mQ E 276 (some (vI y)) σ2) args s 1 6 (mA E 276)) (F0 m pc ls [vI x]) := by
  subst hx
  subst hσ
  exact W.widen h1 h2 (W.iret G.1 G.2.1 hr (fun t ht _ => ⟨rfl, by rw [ht]; exact hM.2.2.2.1, hM.2.2.2.2.2.F ht⟩) hM.2.2.2.2.2.2.2 d hlk)
end MX

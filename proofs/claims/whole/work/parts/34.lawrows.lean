/-! THE CLAIM OUT OF ONE WALK OF THE LAW'S BODY. Your part is whole_start (and what it stands on); all else here is the same for every law, but numbers. -/
def R_law : String := "MiddleAlgebrasLaw"
def lw_P (b : Addr) (xs : List Int32) (args : Array Value) (s : State) : Prop := args = #[.ref b] ∧ s.IntsAt b xs ∧ xs.length ≤ 3584 ∧ (Jvm.Cond.and given_1 narrow_1).before args s = true
def lw_Q (_ : Array Value) (s : State) (o : Outcome) (t : State) : Prop := o = .returned (some (.int 1)) ∧ Framed s o t [] 602319 7289146
def lw_Z (below : List Frame) (a : Array Value) (s : State) : State → Prop := fun t => ∃ o, t.status = .running ∧ Ended t below o ∧ lw_Q a s o t
/-- the law's own end, with 1 on the stack, nothing written that was there before, its room as the claim has it -/
theorem lw_ret {p : Program} {l : Launch} {e : Env} {s : State} {m : MethodId} {below : List Frame} {meth : Method} {c : Code} {b : Nat} (hx : p.tables.exec = Jvm.exec) (hb : c.code = code) (hr : meth.sig.returnType = ret) (hlocks : meth.locks = false) {pc : Nat} {H : Heap} {ls : Array Slot} (hdg : decode code pc = .ok (.ireturn, 1)) : W p l e room_1 s m #[Value.ref b] below meth c H [] 602319 7289146 (lw_Z below #[Value.ref b] s) (F0 m pc ls [.int 1]) := by
  intro T hT X
  obtain ⟨fs, hret, hrun, hended, hW, hframe⟩ := X.leave (v := some (.int 1)) (hlocks := hlocks) (fun h => by rw [hr] at h; cases h)
  have hmeth' : T.vm.method? m = some meth := X.method'
  refine ⟨T.setFrames fs, ?_, .returned (some (.int 1)), hrun, hended, rfl, ⟨_, rfl⟩, hW, hframe⟩
  jvm_step X.here [X.here.top, hx, hb, hdg, hmeth', hr, ret, narrow_b1]
  (try refine ⟨rfl, ?_⟩); (try refine ⟨rfl, ?_⟩)
  first | (intro acts; rw [hret _ acts rfl rfl rfl]) | rw [hret _ _ rfl rfl rfl]
  exact Steps.refl _
/-- what holds at the law's entry: the machine, the code, the tables' words (any of lw_tbl by 'hts w (by decide +kernel)'), the script of L ints xs at the cell b, what the Statement gives of the start (any of its parts by flat_of_before) -/
def lw_At (p : Program) (s : State) (m : MethodId) (meth : Method) (c : Code) (b L : Nat) (xs : Nat → Int32) : Prop :=
  p.tables.exec = Jvm.exec ∧ c.code = code ∧ meth.sig.returnType = ret ∧ c.maxLocals = 8 ∧ s.vm.findClass R_law = some m.cls ∧ (∀ w ∈ lw_tbl, w.before #[Value.ref b] s = true) ∧ va_X b L xs s s.heap ∧ b < s.heap.size ∧ meth.locks = false ∧ (Jvm.Cond.and given_1 narrow_1).before #[Value.ref b] s = true
/-! THE LAW: rows for its own loop -/
abbrev mGoL (l : Launch) (p : Program) (e : Env) (s : State) (m : MethodId) (b : Nat) (below : List Frame) (meth : Method) (c : Code) (cells slots : Nat) (H : Heap) (locs : List Loc) (g : JFrame) : Prop := W p l e room_1 s m #[Value.ref b] below meth c H locs cells slots (lw_Z below #[Value.ref b] s) g
theorem law_k {v4 : Int} {k L : Nat} (hk7 : v4 = 7 * (k : Int)) (hk5 : k ≤ 512) (hL : L ≤ 3584) (hc : ¬ wI ((L : Int) - 7) < wI v4) : k ≤ 511 := by
  rw [wI_eq (x := (L : Int) - 7) (by omega) (by omega), wI_eq (x := v4) (by omega) (by omega)] at hc
  omega
section ML
variable {p : Program} {l : Launch} {e : Env} {R : Room} {s : State} {m : MethodId} {args : Array Value} {below : List Frame} {meth : Method} {c : Code} {H : Heap} {locs : List Loc} {cells slots : Nat} {Q : State → Prop}
variable {cc : ByteArray} {pc np nL : Nat} {ls : Array Slot} {rest st : List Value} {own : String} {A : Nat → Prop} {E : mE} {σ σ2 : mSt} {N N2 : Nat} {out : Int × mSt}
theorem r_sld (G : CallFix p m c cc nL s args mTs own) {b L : Nat} {xs : Nat → Int32} (hX : va_X b L xs s s.heap) (hbl : b < s.heap.size) (hM : mM (fun q => s.heap.size ≤ q) E 276 σ s H locs) {i : Int} (hi : 0 ≤ wI i ∧ wI i < (L : Int)) (d : decode cc pc = .ok (.iaload, 1)) (hn : pc + 1 = np)
    (kk : W p l e R s m args below meth c H locs cells slots Q (F0 m np ls (vI (xs (wI i).toNat).toInt :: rest))) : W p l e R s m args below meth c H locs cells slots Q (F0 m pc ls (vI i :: .ref b :: rest)) := by
  subst hn
  refine va_sld G.1 G.2.1 hX hbl (Nat.not_le.mpr hbl) hM.2.2.2.2.2 (vp_in_iff.mpr hi) d ?_
  have e1 : vI (xs (wI i).toNat).toInt = .int (xs (Int32.ofInt i).toNatClampNeg) := by
    unfold vI
    rw [Int32.ofInt_toInt]
    rfl
  rw [← e1]
  exact kk
theorem r_slenL (G : CallFix p m c cc nL s args mTs own) {b L : Nat} {xs : Nat → Int32} (hX : va_X b L xs s s.heap) (hbl : b < s.heap.size) (hM : mM (fun q => s.heap.size ≤ q) E 276 σ s H locs) (d : decode cc pc = .ok (.arraylength, 1)) (hn : pc + 1 = np)
    (kk : W p l e R s m args below meth c H locs cells slots Q (F0 m np ls (vI (L : Int) :: rest))) : W p l e R s m args below meth c H locs cells slots Q (F0 m pc ls (.ref b :: rest)) := by
  subst hn
  refine va_slen G.1 G.2.1 hX hbl (Nat.not_le.mpr hbl) hM.2.2.2.2.2 d ?_
  rw [← Int32.ofInt_eq_ofNat]
  exact kk
theorem m_goC {v : Option Value} {st0 : List Value} {a : Array Value} {mc ms : Nat} (hr : va_Run p l e R s m args below meth c H locs cells slots mc ms (F0 m pc ls st0) rest (mQ E 276 v σ2 a) (mA E 276)) (hM : mM A E 276 σ s H locs)
    (kk : ∀ (H1 : Heap) (locs1 : List Loc), mM A E 276 σ2 s H1 locs1 → W p l e R s m args below meth c H1 locs1 (cells + mc) (slots + ms) Q (F0 m (pc + 3) ls (v.toList ++ rest))) : W p l e R s m args below meth c H locs cells slots Q (F0 m pc ls st0) := by
  intro T hT X
  obtain ⟨m1, m2, m3, m4, m5, m6⟩ := hM
  have hA : ∀ q, mA E 276 q → A q := wl_A m5
  obtain ⟨v', st₀, t, T', L, h0, X', hL, e1, e2, ⟨hv, hP, hz, hk⟩, st⟩ := hr T hT X
  cases hv
  rw [h0] at hz hk
  obtain ⟨t2, a1, b1⟩ := kk T'.heap (locs ++ L) ⟨m1, m2, m3, by rw [e1]; exact hP, wl_D m5 (fun i hi => hA _ ⟨i, hi, rfl⟩), Nat.le_trans m6.1 (by rw [e1]; exact hz), fun q h1 h2 => by rw [e1, hk q (Nat.lt_of_lt_of_le h1 m6.1) (fun z => h2 (hA q z))]; exact m6.2.1 q h1 h2, fun q hq => by
      rcases List.mem_append.mp hq with h | h
      · exact m6.2.2 q h
      · exact hA _ (hL q h)⟩ T' rfl X'
  exact ⟨t2, st t2 a1, b1⟩
def mYW (y : MethodName) (cc : ByteArray) (maxL : Nat) (hh : List (Nat × Nat × Nat × Nat)) (n : Nat) : Prop := Cond.codeWith y cc maxL (some .int) hh ∈ mTs ∧ Cond.initialized y.cls ∈ mTs ∧ (y.cls ≠ "java/lang/invoke/MethodHandle" ∧ y.cls ≠ "java/lang/invoke/VarHandle") ∧ (parseMethodDescriptor y.desc).map (fun d => d.parameters.length) = some n ∧ Cond.static y ∈ mTs
theorem m_wcall (G : CallFix p m c cc nL s args mTs own) (hM : mM A E 276 σ s H locs) (hls : ls.size = nL) {y : MethodName} {cc' : ByteArray} {maxL fr lo ix : Nat} {hh : List (Nat × Nat × Nat × Nat)} (As : List Value) {x : Int} (hc : mWMet l y cc' maxL hh fr lo E As σ (some (vI x)) σ2) (hY : mYW y cc' maxL hh As.length) (hw : Cond.methodLink own ix y ∈ mTs) (hroom : fr + 1 ≤ R.frames ∧ 8 + (maxL + 11) + lo ≤ R.locals) (hcs : cells + 1 ≤ R.cells ∧ slots + 6 ≤ R.slots) (rest : List Value)
    (hst : st = As.reverse ++ rest) (hcat : (rest.map fun v => v.category).sum ≤ 8) (d : decode cc pc = .ok (.invokestatic ix, 3)) (hn : pc + 3 = np)
    (kk : ∀ (H1 : Heap) (locs1 : List Loc), mM A E 276 σ2 s H1 locs1 → W p l e R s m args below meth c H1 locs1 (cells + 1) (slots + 6) Q (F0 m np ls (vI x :: rest))) : W p l e R s m args below meth c H locs cells slots Q (F0 m pc ls st) := by
  subst hn
  subst hst
  refine m_goC (vx_runSW (As := As) (rest := rest) (n := As.length) G hc ⟨⟨rfl, rfl, hroom.1, hroom.2, fun w h a' U hW => by rw [List.mem_singleton.mp h]; exact m_rideW G hY.1 a' U hW, List.mem_singleton.mpr rfl⟩, G.2.2.2.2 _ hY.1, G.2.2.2.2 _ hY.2.1, hY.2.2.1, fun sig h => ?_, G.2.2.2.2 _ hw, G.2.2.2.2 _ hY.2.2.2.2⟩ ⟨mPre.blind, fun U hU hW => ⟨rfl, hM.pre hU hW⟩⟩ rfl rfl hls rfl (lv_room hcat) d hcs) hM kk
  have h2 := hY.2.2.2.1
  rw [h] at h2
  exact (Option.some.inj h2).symm
/-- the law's end with 1 -/
theorem r_lawEnd {b : Nat} (G : CallFix p m c code nL s #[Value.ref b] mTs own) (hr : meth.sig.returnType = ret) (hlk : meth.locks = false) (hM : mM (fun q => s.heap.size ≤ q) E N σ s H locs) {pc : Nat} {x : Int} (hx : x = 1) (d : decode code pc = .ok (.ireturn, 1)) (h1 : cells ≤ 602319) (h2 : slots ≤ 7289146) : W p l e room_1 s m #[Value.ref b] below meth c H locs cells slots (lw_Z below #[Value.ref b] s) (F0 m pc ls [vI x]) := by
  subst hx
  exact va_forget hM.2.2.2.2.2.2.2 (W.widen h1 h2 (lw_ret G.1 G.2.1 hr hlk d))
end ML


theorem w_same_asb : Cond.sameMethod "java/lang/AbstractStringBuilder" "java/lang/AbstractStringBuilder" "isLatin1" "()Z" ∈ mTs := mTs_in 864 (by decide +kernel) (by decide +kernel)
theorem w_super_sb : Cond.superclass "java/lang/StringBuilder" "java/lang/AbstractStringBuilder" ∈ mTs := mTs_in 815 (by decide +kernel) (by decide +kernel)
theorem w_ac_byte : Cond.arrayClass .byte ∈ mTs := mTs_in 90 (by decide +kernel) (by decide +kernel)
theorem w_cp_native : Cond.native arraycopyName ∈ mTs := mTs_in 861 (by decide +kernel) (by decide +kernel)
theorem w_cp_static : Cond.static arraycopyName ∈ mTs := mTs_in 860 (by decide +kernel) (by decide +kernel)
theorem w_cp_init : Cond.initialized "java/lang/System" ∈ mTs := mTs_in 48 (by decide +kernel) (by decide +kernel)
theorem w_cl_same : Cond.sameMethod "[B" "java/lang/Object" "clone" "()Ljava/lang/Object;" ∈ mTs := mTs_in 850 (by decide +kernel) (by decide +kernel)
theorem w_cl_nat : Cond.native ⟨"java/lang/Object", "clone", "()Ljava/lang/Object;"⟩ ∈ mTs := mTs_in 851 (by decide +kernel) (by decide +kernel)
theorem w_cl_inst : Cond.instanceMethod ⟨"java/lang/Object", "clone", "()Ljava/lang/Object;"⟩ ∈ mTs := mTs_in 852 (by decide +kernel) (by decide +kernel)
theorem w_cl_sel : Cond.selects "[B" ⟨"[B", "clone", "()Ljava/lang/Object;"⟩ ⟨"java/lang/Object", "clone", "()Ljava/lang/Object;"⟩ ∈ mTs := mTs_in 853 (by decide +kernel) (by decide +kernel)
theorem w_cl_cast : Cond.castable "[B" "java/lang/Cloneable" ∈ mTs := mTs_in 854 (by decide +kernel) (by decide +kernel)
theorem oShr0 (x : Int) : vI (oShr x 0) = vI x := by
  unfold vI oShr
  have e : (Int32.ofInt x >>> (Int32.ofInt 0 &&& 31)) = Int32.ofInt x := by
    rw [show (Int32.ofInt 0 &&& 31) = 0 by decide]
    exact sb_shr0 _
  rw [e, Int32.ofInt_toInt]
theorem oShl0 (x : Int) : vI (oShl x 0) = vI x := by
  unfold vI oShl
  have e : (Int32.ofInt x <<< (Int32.ofInt 0 &&& 31)) = Int32.ofInt x := by
    rw [show (Int32.ofInt 0 &&& 31) = 0 by decide]
    exact sb_shl0 _
  rw [e, Int32.ofInt_toInt]
/-- what the bytes of a builder say -/
def jT (bs : List Nat) (f : Nat → Int32) : Prop := ∀ j, j < bs.length → f j = Int32.ofNat (bs.getD j 0)
def jB (E : mE) (b d : Nat) (n : Int) (m : Nat) (f : Nat → Int32) : va_W := [(b, .inr (12, [.ref d, vI 0, vI 0, vI n])), (d, .inl (eT E 2, m, .inl f))]
theorem jByte {c : Nat} (h : c < 128) : fits .byte (.int (Int32.ofNat c)) = true := by
  have e : Int32.ofNat c = Int32.ofInt (c : Int) := Int32.ofInt_eq_ofNat.symm
  have h1 : (Int32.ofNat c).toInt = (c : Int) := by rw [e]; exact Int32.toInt_ofInt_of_le (by omega) (by omega)
  simp only [fits, Bool.and_eq_true, decide_eq_true_eq]
  exact ⟨Int32.le_iff_toInt_le.mpr (by rw [h1]; show (-128 : Int) ≤ _; omega), Int32.le_iff_toInt_le.mpr (by rw [h1]; show _ ≤ (127 : Int); omega)⟩
section JR2
variable {p : Program} {l : Launch} {e : Env} {R : Room} {s : State} {m : MethodId} {args : Array Value} {below : List Frame} {meth : Method} {c : Code} {H : Heap} {locs : List Loc} {cells slots : Nat} {Q : State → Prop}
variable {cc : ByteArray} {pc np nL : Nat} {ls : Array Slot} {rest st : List Value} {own : String} {E : mE} {lo : Nat} {ws : va_W} {xs ys : List sX} {Post : Option Value → va_W → Prop}
theorem j_asb (G : CallFix p m c cc nL s args mTs own) : ∀ c k, s.vm.findClass "java/lang/AbstractStringBuilder" = some c → s.vm.classes[c]? = some k → k.isInterface = false := by
  intro c k h1 h2
  obtain ⟨c', k', h3, h4, h5⟩ := Cond.sameMethod_class (G.2.2.2.2 _ w_same_asb)
  cases h1.symm.trans h3
  cases h2.symm.trans h4
  exact h5
/-- a call of the builder's own or its father's method -/
theorem j_callB (G : CallFix p m c cc nL s args mTs own) (hJ : jM E lo ws xs s H locs) (hls : ls.size = nL) {y : MethodName} {cc' : ByteArray} {maxL fr lc mc ms b ix : Nat} {ret : Option FieldType} {fs : List Value} (i : Nat) (hb : ws[i]? = some (b, .inr (12, fs))) (As : List Value) (hc : jMet l y cc' maxL ret fr lc mc ms E lo (.ref b :: As) ws ys Post) (hy : ∀ x ∈ ys, x ∈ xs) (hY : jYV "java/lang/StringBuilder" y cc' maxL ret As.length) (hyc : y.cls = "java/lang/AbstractStringBuilder" ∨ Cond.selects "java/lang/StringBuilder" y y ∈ mTs) (hw : Cond.methodLink own ix y ∈ mTs)
    (hroom : fr + 1 ≤ R.frames ∧ 8 + (maxL + 11) + lc ≤ R.locals) (hcs : cells + mc ≤ R.cells ∧ slots + ms ≤ R.slots) (rest : List Value)
    (hst : st = As.reverse ++ .ref b :: rest) (hcat : (rest.map fun v => v.category).sum ≤ 8) (d : decode cc pc = .ok (.invokevirtual ix, 3)) (hn : pc + 3 = np)
    (kk : ∀ (v : Option Value) (ws2 : va_W) (H1 : Heap) (locs1 : List Loc), Post v ws2 → jM E lo ws2 xs s H1 locs1 → W p l e R s m args below meth c H1 locs1 (cells + mc) (slots + ms) Q (F0 m np ls (v.toList ++ rest))) : W p l e R s m args below meth c H locs cells slots Q (F0 m pc ls st) := by
  rcases hyc with h | h
  · exact j_callV G hJ hls As hc hy hY hw (fun _ => by rw [h]; exact j_asb G) (j_recB hJ i hb) hroom hcs rest hst hcat d hn kk
  · exact j_callV G hJ hls As hc hy ⟨hY.1, hY.2.1, Or.inl h⟩ hw (fun _ => by
      by_cases h9 : y.cls = "java/lang/AbstractStringBuilder"
      · rw [h9]; exact j_asb G
      · intro c k h1 h2
        obtain ⟨r0, r, hn0, hrm, -, -⟩ := Cond.instanceMethod_spec (G.2.2.2.2 _ hY.2.1)
        have hs := G.2.2.2.2 _ h
        have hf : s.methodFound? y.cls y.name y.desc = some r0 := State.methodFound?_of_named hn0 hY.1.2.2.1
        simp only [Cond.before, Cond.holds, Cond.value, hf, hn0] at hs
        cases hq : s.vm.findClass "java/lang/StringBuilder" with
        | none => simp [hq] at hs
        | some c9 =>
          simp only [hq] at hs
          cases hm9 : selectMethod {} s.vm c9 r0 with
          | method m' =>
            simp only [hm9] at hs
            have h0 := findClass_of_methodNamed hn0
            cases h1.symm.trans h0
            simp [h2] at hs
            exact hs.2
          | _ => simp [hm9] at hs) (j_recB hJ i hb) hroom hcs rest hst hcat d hn kk
/-- a call of the father's method by super -/
theorem j_callU (G : CallFix p m c cc nL s args mTs own) (hJ : jM E lo ws xs s H locs) (hls : ls.size = nL) {y : MethodName} {cc' : ByteArray} {maxL fr lc mc ms b ix : Nat} {ret : Option FieldType} {fs : List Value} (i : Nat) (hb : ws[i]? = some (b, .inr (12, fs))) (As : List Value) (hc : jMet l y cc' maxL ret fr lc mc ms E lo (.ref b :: As) ws ys Post) (hy : ∀ x ∈ ys, x ∈ xs) (hY : mY y cc' maxL ret As.length ∧ Cond.instanceMethod y ∈ mTs) (hyc : y.cls = "java/lang/AbstractStringBuilder") (hown : own = "java/lang/StringBuilder") (hni : y.name ≠ "<init>") (hw : Cond.methodLink own ix y ∈ mTs)
    (hroom : fr + 1 ≤ R.frames ∧ 8 + (maxL + 11) + lc ≤ R.locals) (hcs : cells + mc ≤ R.cells ∧ slots + ms ≤ R.slots) (rest : List Value)
    (hst : st = As.reverse ++ .ref b :: rest) (hcat : (rest.map fun v => v.category).sum ≤ 8) (d : decode cc pc = .ok (.invokespecial ix, 3)) (hn : pc + 3 = np)
    (kk : ∀ (v : Option Value) (ws2 : va_W) (H1 : Heap) (locs1 : List Loc), Post v ws2 → jM E lo ws2 xs s H1 locs1 → W p l e R s m args below meth c H1 locs1 (cells + mc) (slots + ms) Q (F0 m np ls (v.toList ++ rest))) : W p l e R s m args below meth c H locs cells slots Q (F0 m pc ls st) := by
  subst hn
  subst hst
  have hcb := j_cb (R := R) (mc := mc) (ms := ms) G hY.1 hw hroom
  obtain ⟨r0, r, hn0, hrm, -, -⟩ := Cond.instanceMethod_spec (G.2.2.2.2 _ hY.2)
  have hf : s.methodFound? y.cls y.name y.desc = some r0 := State.methodFound?_of_named hn0 hY.1.2.2.1
  obtain ⟨kc, hkc, -⟩ := className_of_methodNamed hn0
  have hfc := findClass_of_methodNamed hn0
  have h9 : kc.isInterface = false := j_asb G _ kc (by rw [← hyc]; exact hfc) hkc
  have hsm : (Cond.sameMethod y.cls y.cls y.name y.desc).before args s = true := by
    have hn1 : s.methodNamed? ⟨y.cls, y.name, y.desc⟩ = some r0 := hn0
    simp only [Cond.before, Cond.holds, Cond.value, hf, hn1, hfc]
    simp [hkc, h9]
  exact j_go (va_runSU (C := "java/lang/StringBuilder") (As := As) (rest := rest) (hJ.2.1.1 12 _ (show vwCl[12]? = some (RJ4, TJ4, 4) from rfl)).2 G hc ⟨⟨hcb.1, hcb.2.1, hcb.2.2.1, hcb.2.2.2.1, hcb.2.2.2.2.1, hcb.2.2.2.2.2.1⟩, G.2.2.2.2 _ hw, hsm, by rw [hown, hyc]; exact G.2.2.2.2 _ w_super_sb, G.2.2.2.2 _ hY.2, G.2.2.2.2 _ hY.1.2.1, G.2.2.2.2 _ hY.1.1, hni, hY.1.len⟩ ⟨jPre.blind, j_recB hJ i hb, fun U hU hW => ⟨rfl, hJ.pre hy hU hW⟩⟩ rfl rfl hls rfl (lv_room hcat) d hcs) hJ kk
/-- new bytes -/
theorem j_newB (G : CallFix p m c cc nL s args mTs own) (hJ : jM E lo ws xs s H locs) {x : Int} {n : Nat} (hx : x = (n : Int)) (hn9 : n ≤ 1000) (hcells : cells + 1 ≤ R.cells) (hslots : slots + n ≤ R.slots) (d : decode cc pc = .ok (.newarray .byte, 2)) (hn : pc + 2 = np)
    (kk : ∀ (q : Nat) (H1 : Heap), jM E lo (ws ++ [(q, .inl (eT E 2, n, .inl (fun _ => 0)))]) xs s H1 locs → W p l e R s m args below meth c H1 locs (cells + 1) (slots + n) Q (F0 m np ls (.ref q :: rest))) : W p l e R s m args below meth c H locs cells slots Q (F0 m pc ls (vI x :: rest)) := by
  subst hn
  subst hx
  have hw1 : wI (n : Int) = (n : Int) := wI_eq (by omega) (by omega)
  have hnn : ¬ Int32.ofInt (n : Int) < 0 := by
    intro q
    have h2 : wI (n : Int) < 0 := Int32.lt_iff_toInt_lt.mp q
    omega
  have hN : (Int32.ofInt (n : Int)).toNatClampNeg = n := by
    show (wI (n : Int)).toNat = n
    rw [hw1]
    simp
  obtain ⟨m1, m2, m3, m4, m5, m6, m7, m8⟩ := hJ
  refine va_newa (atype := .byte) (ty := .byte) (a0 := (n, .inl fun _ => 0)) G.1 G.2.1 (G.2.2.2.2 _ w_ac_byte) rfl m2 m4 m5 m8 (fun q h => Nat.le_trans m6 h) (fun cA => rfl) hnn hN (by show n * 1 ≤ _; omega) hcells hslots d (fun q cA H1 hK hP hD hS => ?_)
  have hcA : cA = eT E 2 := by
    have h1 := (m2.2 2 _ (show (mTys E)[2]? = some (eT E 2, .byte) from rfl)).2
    have h2 := (hK.2 9 _ (show (mTys E ++ [(cA, .byte)])[9]? = some (cA, .byte) from rfl)).2
    exact Option.some.inj (h2.symm.trans h1)
  subst hcA
  exact kk q H1 ⟨m1, m2, m3, hP, hD, m6, m7, hS⟩
theorem clampNat {n : Nat} (h : n ≤ 100000) : (Int32.ofInt (n : Int)).toNatClampNeg = n ∧ ¬ Int32.ofInt (n : Int) < 0 := by
  have hw1 : wI (n : Int) = (n : Int) := wI_eq (by omega) (by omega)
  refine ⟨?_, fun q => ?_⟩
  · show (wI (n : Int)).toNat = n
    rw [hw1]
    simp
  · have h2 : wI (n : Int) < 0 := Int32.lt_iff_toInt_lt.mp q
    omega
/-- System.arraycopy among bytes of a session -/
theorem j_copy (G : CallFix p m c cc nL s args mTs own) (hJ : jM E lo ws xs s H locs) (hls : ls.size = nL) (q0 q1 : Nat) {a0 a1 n0 n1 sp dp n ix : Nat} {f g : Nat → Int32} (h0 : ws[q0]? = some (a0, .inl (eT E 2, n0, .inl f))) (h1 : ws[q1]? = some (a1, .inl (eT E 2, n1, .inl g))) (hsz : n0 ≤ 1000 ∧ n1 ≤ 1000) (h4 : sp + n ≤ n0) (h5 : dp + n ≤ n1) (hf : sb_Fit f) {x y z : Int} (hx : x = (sp : Int)) (hy : y = (dp : Int)) (hz : z = (n : Int)) (hw : Cond.methodLink own ix arraycopyName ∈ mTs) (hframes : 1 ≤ R.frames) (hlocals : (rest.map fun v => v.category).sum + (nativeFrameWords "java/lang/System" "arraycopy" 5 + 11) ≤ R.locals) (d : decode cc pc = .ok (.invokestatic ix, 3)) (hn : pc + 3 = np)
    (kk : ∀ (H1 : Heap) (locs1 : List Loc), jM E lo (ws.set q1 (a1, .inl (eT E 2, n1, .inl (va_cpy f g sp dp n)))) xs s H1 locs1 → W p l e R s m args below meth c H1 locs1 cells slots Q (F0 m np ls rest)) : W p l e R s m args below meth c H locs cells slots Q (F0 m pc ls (vI z :: vI y :: .ref a1 :: vI x :: .ref a0 :: rest)) := by
  subst hn hx hy hz
  obtain ⟨m1, m2, m3, m4, m5, m6, m7, m8⟩ := hJ
  obtain ⟨e1, g1⟩ := clampNat (n := sp) (by omega)
  obtain ⟨e2, g2⟩ := clampNat (n := dp) (by omega)
  obtain ⟨e3, g3⟩ := clampNat (n := n) (by omega)
  refine va_copyi G.1 G.2.1 (G.2.2.1.trans hls.symm) G.2.2.2.1 (G.2.2.2.2 _ hw) (G.2.2.2.2 _ w_cp_native) (G.2.2.2.2 _ w_cp_static) (G.2.2.2.2 _ w_cp_init) m2 m4 m5 m8 q0 q1 2 2 h0 h1 (show (mTys E)[2]? = some (eT E 2, .byte) from rfl) (show (mTys E)[2]? = some (eT E 2, .byte) from rfl) rfl g1 g2 g3 (by rw [e1, e3]; exact h4) (by rw [e2, e3]; exact h5) (fun i _ => hf _) hframes hlocals d (fun H1 locs1 hP hD hS => ?_)
  rw [e1, e2, e3] at hP hD
  exact kk H1 locs1 ⟨m1, m2, m3, hP, hD, m6, m7, hS⟩
/-- .. from a text -/
theorem j_copyX (G : CallFix p m c cc nL s args mTs own) (hJ : jM E lo ws xs s H locs) (hls : ls.size = nL) {x : sX} (hx : x ∈ xs) (q1 : Nat) {a1 n1 dp ix : Nat} {g : Nat → Int32} (h1 : ws[q1]? = some (a1, .inl (eT E 2, n1, .inl g))) (hsz : n1 ≤ 1000) (h5 : dp + x.2.2.length ≤ n1) {y z w : Int} (hw0 : w = 0) (hy : y = (dp : Int)) (hz : z = (x.2.2.length : Int)) (hw : Cond.methodLink own ix arraycopyName ∈ mTs) (hframes : 1 ≤ R.frames) (hlocals : (rest.map fun v => v.category).sum + (nativeFrameWords "java/lang/System" "arraycopy" 5 + 11) ≤ R.locals) (d : decode cc pc = .ok (.invokestatic ix, 3)) (hn : pc + 3 = np)
    (kk : ∀ (H1 : Heap) (locs1 : List Loc), jM E lo (ws.set q1 (a1, .inl (eT E 2, n1, .inl (va_cpy (fun j => Int32.ofNat (x.2.2.getD j 0)) g 0 dp x.2.2.length)))) xs s H1 locs1 → W p l e R s m args below meth c H1 locs1 cells slots Q (F0 m np ls rest)) : W p l e R s m args below meth c H locs cells slots Q (F0 m pc ls (vI z :: vI y :: .ref a1 :: vI w :: .ref x.2.1 :: rest)) := by
  subst hn hy hz hw0
  obtain ⟨m1, m2, m3, m4, m5, m6, m7, m8⟩ := hJ
  obtain ⟨e2, g2⟩ := clampNat (n := dp) (by omega)
  have hX := m7 x hx
  obtain ⟨e3, g3⟩ := clampNat (n := x.2.2.length) (by omega)
  refine vk_copyt G.1 G.2.1 (G.2.2.1.trans hls.symm) G.2.2.2.1 (G.2.2.2.2 _ hw) (G.2.2.2.2 _ w_cp_native) (G.2.2.2.2 _ w_cp_static) (G.2.2.2.2 _ w_cp_init) m2 m4 m5 m8 hX.2.2.2.1 q1 2 h1 (show (mTys E)[2]? = some (eT E 2, .byte) from rfl) (sp := 0) (by decide) g2 g3 (by rw [e3]; show 0 + _ ≤ _; omega) (by rw [e2, e3]; exact h5) (fun i hi => ?_) hframes hlocals d (fun H1 locs1 hP hD hS => ?_)
  · rw [e3] at hi
    have h0 : (0 : Int32).toNatClampNeg = 0 := rfl
    rw [h0, Nat.zero_add]
    have hc := hX.2.2.2.2.2 (x.2.2.getD i 0) (by rw [List.getD_eq_getElem?_getD, List.getElem?_eq_getElem hi]; exact List.getElem_mem hi)
    exact jByte hc
  · rw [e2, e3, show (0 : Int32).toNatClampNeg = 0 from rfl] at hP hD
    exact kk H1 locs1 ⟨m1, m2, m3, hP, hD, m6, m7, hS⟩
/-- a copy of all bytes -/
theorem j_clone (G : CallFix p m c cc nL s args mTs own) (hJ : jM E lo ws xs s H locs) (hls : ls.size = nL) (q0 : Nat) {a0 n0 ix : Nat} {f : Nat → Int32} (h0 : ws[q0]? = some (a0, .inl (eT E 2, n0, .inl f))) (hf : sb_Fit f) (hw : Cond.methodLink own ix ⟨"[B", "clone", "()Ljava/lang/Object;"⟩ ∈ mTs) (hframes : 1 ≤ R.frames) (hlocals : (rest.map fun v => v.category).sum + 14 ≤ R.locals) (hcells : cells + 1 ≤ R.cells) (hslots : slots + n0 ≤ R.slots) (d : decode cc pc = .ok (.invokevirtual ix, 3)) (hn : pc + 3 = np)
    (kk : ∀ (q : Nat) (H1 : Heap), jM E lo (ws ++ [(q, .inl (eT E 2, n0, .inl f))]) xs s H1 locs → W p l e R s m args below meth c H1 locs (cells + 1) (slots + n0) Q (F0 m np ls (.ref q :: rest))) : W p l e R s m args below meth c H locs cells slots Q (F0 m pc ls (.ref a0 :: rest)) := by
  subst hn
  obtain ⟨m1, m2, m3, m4, m5, m6, m7, m8⟩ := hJ
  refine va_clone G.1 G.2.1 (G.2.2.1.trans hls.symm) G.2.2.2.1 (G.2.2.2.2 _ hw) (G.2.2.2.2 _ w_cl_same) (G.2.2.2.2 _ w_cl_nat) (G.2.2.2.2 _ w_cl_inst) (G.2.2.2.2 _ w_cl_sel) (va_Nw.of rfl (G.2.2.2.2 _ w_cl_cast)) m2 m4 m5 m8 (fun q h => Nat.le_trans m6 h) q0 2 h0 (show (mTys E)[2]? = some (eT E 2, .byte) from rfl) (m2.2 2 _ (show (mTys E)[2]? = some (eT E 2, .byte) from rfl)).2 (fun i v hv => ?_) hframes hlocals hcells hslots d (fun q H1 hK hP hD hS => kk q H1 ⟨m1, m2, m3, hP, hD, m6, m7, hS⟩)
  have hsz : (vp_cell (eT E 2) (n0, .inl f)).slots.size = n0 := arrV_size _ _ _
  have hi : i < n0 := by rw [← hsz]; exact (Array.getElem?_eq_some_iff.mp hv).1
  have hv2 : (vp_cell (eT E 2) (n0, .inl f)).slots[i]? = some (.int (f i)) := arrV_read _ _ hi
  rw [hv2] at hv
  cases hv
  exact hf i
end JR2
